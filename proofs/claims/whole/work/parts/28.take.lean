/-! ===== what is refused; what comes ===== -/
/-- 0, or the refusal of a number -/
def outN (x lo hi : Int32) : Int32 := if x < lo then -4 else if hi < x then -6 else 0
def othN (x last : Int32) : Int32 := if x < 0 ∨ last < x then -2 else 0
theorem s_P_outside (h : PH) (x lo hi : Int32) (k : PH → Int32 → Prop) : ccI m_P_outside h [.int x, .int lo, .int hi] k = k h (outN x lo hi) := by
  rw [c_P_outside]
  simp only [e_P_outside_19, outN]
  by_cases c : x < lo
  · rw [if_neg (Int32.not_le.mpr c), if_pos c]
  · rw [if_pos (Int32.not_lt.mp c), if_neg c]
    by_cases d : hi < x
    · rw [if_neg (Int32.not_le.mpr d), if_pos d]
    · rw [if_pos (Int32.not_lt.mp d), if_neg d]
theorem s_P_otherThan (h : PH) (x last : Int32) (k : PH → Int32 → Prop) : ccI m_P_otherThan h [.int x, .int last] k = k h (othN x last) := by
  rw [c_P_otherThan]
  simp only [e_P_otherThan_9, e_P_otherThan_15, othN]
  by_cases c : x < 0
  · rw [if_pos c, if_pos (Or.inl c)]
  · rw [if_neg c]
    by_cases d : last < x
    · rw [if_neg (Int32.not_le.mpr d), if_pos (Or.inr d)]
    · rw [if_pos (Int32.not_lt.mp d), if_neg (fun z => z.elim c d)]
theorem s_P_notAhead (h : PH) (x : Int32) (k : PH → Int32 → Prop) : ccI m_P_notAhead h [.int x] k = k h (outN x 0 100) := by
  rw [c_P_notAhead, s_P_outside]
theorem outN_0 {x : Int32} {lo hi : Nat} (hl : lo < 2 ^ 31) (e : outN x (nI lo) (nI hi) = 0) : ∃ n, n < 2 ^ 31 ∧ x = nI n ∧ lo ≤ n ∧ n ≤ hi := by
  unfold outN at e
  by_cases c : x < nI lo
  · rw [if_pos c] at e; exact absurd e (by decide)
  · rw [if_neg c] at e
    by_cases d : nI hi < x
    · rw [if_pos d] at e; exact absurd e (by decide)
    · have h1 : ¬ x < 0 := fun z => c (Int32.lt_of_lt_of_le z (nI_pos' hl))
      obtain ⟨j, hj, rfl⟩ := nI_of h1
      exact ⟨j, hj, rfl, Nat.le_of_not_lt fun z => c (nI_lt z hl), Nat.le_of_not_lt fun z => d (nI_lt z hj)⟩
section Take
variable {h : PH} {a : Nat} {c : Core} {bo : List Nat}
theorem t_Ledger_takeRate (L : Led h a c) (x : Int32) {k : PH → Int32 → Prop} (hno : ∀ v, v = outN x 0 20 → v ≠ 0 → k h v)
    (hk : ∀ h', Fr (fun y => y = a) (fun _ => False) h h' → Led h' a (cR c x) → (∀ j, j ≠ 3 → gI h' a j = gI h a j) → outN x 0 20 = 0 → k h' (Cr c)) : ccI m_Ledger_takeRate h [.ref a, .int x] k := by
  rw [c_Ledger_takeRate, s_P_outside]
  by_cases e : outN x 0 20 = 0
  · rw [if_pos e, L.2.2.1.2.2.2]
    refine ⟨L.1.1, L.1.1, hk _ (Fr_sI _ _ _ _ rfl) (Led_rt L x) (fun j hj => ?_) e⟩
    rw [sI_wR, gI_wR, rs_ne _ _ hj]
  · rw [if_neg e]; exact hno _ rfl e
theorem t_Ledger_takeYears (L : Led h a c) (x : Int32) {k : PH → Int32 → Prop} (hno : ∀ v, v = (if outN x 1 60 = 0 then (if Cy c + x ≤ 999 then 0 else -6) else outN x 1 60) → v ≠ 0 → k h v)
    (hk : ∀ n h', x = nI n → 1 ≤ n → n ≤ 60 → Cy c + x ≤ 999 → Fr (fun y => a ≤ y ∧ y ≤ a + 6) (fun _ => False) h h' → Led h' a (goC n c) → (∀ i, i ≠ 2 → gI h' a i = gI h a i) → k h' (debtsC (goC n c))) : ccI m_Ledger_takeYears h [.ref a, .int x] k := by
  rw [c_Ledger_takeYears, s_P_outside, L.2.2.1.2.2.1]
  by_cases e : outN x 1 60 = 0
  · rw [if_pos e]
    refine ⟨L.1.1, ?_⟩
    by_cases e2 : Cy c + x ≤ 999
    · obtain ⟨n, _, rfl, h1, h2⟩ := outN_0 (lo := 1) (hi := 60) (by decide) e
      rw [if_pos e2]
      refine ⟨L.1.1, t_Ledger_passYears L (by omega) fun h' fr L' ke => ⟨L'.1.1, ?_⟩⟩
      rw [u_Ledger_allDebts L']
      exact hk n h' rfl h1 h2 e2 fr L' ke
    · rw [if_neg e2]
      exact hno _ (by rw [if_pos e, if_neg e2]) (by decide)
  · rw [if_neg e]
    exact hno _ (by rw [if_neg e]) e
theorem t_Ledger_takeDebt (L : Led h a c) (x y : Int32) {k : PH → Int32 → Prop} (hno : ∀ v, v = (if offN x (Cf c) then -1 else outN y 0 99999) → v ≠ 0 → k h v)
    (hk : ∀ f h', x = nI f → f < Cf c → outN y 0 99999 = 0 → Fr (fun z => a + 2 ≤ z ∧ z ≤ a + 6) (fun _ => False) h h' → Led h' a (cM c (setM (Cm c) f (rs (Cm c f) 1 y))) → k h' (Cm c f 1)) : ccI m_Ledger_takeDebt h [.ref a, .int x, .int y] k := by
  have h5 := L.2.1.1
  rw [c_Ledger_takeDebt]
  refine ⟨L.1.1, ?_⟩
  rw [s_Ledger_lacksFamily L.1 L.2.2.1.1]
  by_cases e : offN x (Cf c)
  · rw [if_pos e, if_pos (by decide), e_Ledger_takeDebt_18, if_neg (by decide)]
    exact hno _ (by rw [if_pos e]) (by decide)
  · rw [if_neg e, if_neg (by decide), s_P_outside, e_Ledger_takeDebt_18]
    by_cases e2 : outN y 0 99999 = 0
    · obtain ⟨f, hf, rfl⟩ := on_nI (by omega) e
      rw [if_pos e2]
      refine ⟨L.1.1, ?_⟩
      rw [Led_at L (by omega)]
      refine ⟨Led_tgf L (by omega), L.1.1, ?_⟩
      rw [Led_at L (by omega)]
      refine ⟨Led_tgf L (by omega), ?_⟩
      rw [L.2.2.2.1 f hf 1 (by decide), sI_wR]
      exact hk f _ rfl hf e2 (Fr_wR _ _ _ ⟨by omega, by omega⟩) (Led_wR L (by omega) (Ew_rs (L.2.2.2.1 f hf) 1 rfl))
    · rw [if_neg e2]
      exact hno _ (by rw [if_neg e]) e2
end Take
