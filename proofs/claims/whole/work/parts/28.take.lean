/-! ===== what is refused; what comes ===== -/
/-- 0, or the refusal of a number -/
def outN (x lo hi : Int32) : Int32 := if x < lo then -4 else if hi < x then -6 else 0
def othN (x last : Int32) : Int32 := if x < 0 ∨ last < x then -2 else 0
theorem s_P_outside (h : PH) (x lo hi : Int32) (k : PH → Int32 → Prop) : ccI m_P_outside h [.int x, .int lo, .int hi] k = k h (outN x lo hi) := by
  rw [c_P_outside]
  simp only [e_P_outside_19, outN]
  by_cases c : x < lo
  · rw [if_neg (Int32.not_le.mpr c), if_pos c]
  · rw [if_pos (Int32.not_lt.mp c), if_neg c]
    by_cases d : hi < x
    · rw [if_neg (Int32.not_le.mpr d), if_pos d]
    · rw [if_pos (Int32.not_lt.mp d), if_neg d]
theorem s_P_otherThan (h : PH) (x last : Int32) (k : PH → Int32 → Prop) : ccI m_P_otherThan h [.int x, .int last] k = k h (othN x last) := by
  rw [c_P_otherThan]
  simp only [e_P_otherThan_9, e_P_otherThan_15, othN]
  by_cases c : x < 0
  · rw [if_pos c, if_pos (Or.inl c)]
  · rw [if_neg c]
    by_cases d : last < x
    · rw [if_neg (Int32.not_le.mpr d), if_pos (Or.inr d)]
    · rw [if_pos (Int32.not_lt.mp d), if_neg (fun z => z.elim c d)]
theorem s_P_notAhead (h : PH) (x : Int32) (k : PH → Int32 → Prop) : ccI m_P_notAhead h [.int x] k = k h (outN x 0 100) := by
  rw [c_P_notAhead, s_P_outside]
theorem outN_0 {x : Int32} {lo hi : Nat} (hl : lo < 2 ^ 31) (e : outN x (nI lo) (nI hi) = 0) : ∃ n, n < 2 ^ 31 ∧ x = nI n ∧ lo ≤ n ∧ n ≤ hi := by
  unfold outN at e
  by_cases c : x < nI lo
  · rw [if_pos c] at e; exact absurd e (by decide)
  · rw [if_neg c] at e
    by_cases d : nI hi < x
    · rw [if_pos d] at e; exact absurd e (by decide)
    · have h1 : ¬ x < 0 := fun z => c (Int32.lt_of_lt_of_le z (nI_pos' hl))
      obtain ⟨j, hj, rfl⟩ := nI_of h1
      exact ⟨j, hj, rfl, Nat.le_of_not_lt fun z => c (nI_lt z hl), Nat.le_of_not_lt fun z => d (nI_lt z hj)⟩
section Take
variable {h : PH} {a : Nat} {c : Core} {bo : List Nat}
theorem t_Ledger_takeRate (L : Led h a c) (x : Int32) {k : PH → Int32 → Prop} (hno : ∀ v, v = outN x 0 20 → v ≠ 0 → k h v)
    (hk : ∀ h', Fr (fun y => y = a) (fun _ => False) h h' → Led h' a (cR c x) → (∀ j, j ≠ 3 → gI h' a j = gI h a j) → outN x 0 20 = 0 → k h' (Cr c)) : ccI m_Ledger_takeRate h [.ref a, .int x] k := by
  rw [c_Ledger_takeRate, s_P_outside]
  by_cases e : outN x 0 20 = 0
  · rw [if_pos e, L.2.2.1.2.2.2]
    refine ⟨L.1.1, L.1.1, hk _ (Fr_sI _ _ _ _ rfl) (Led_rt L x) (fun j hj => ?_) e⟩
    rw [sI_wR, gI_wR, rs_ne _ _ hj]
  · rw [if_neg e]; exact hno _ rfl e
end Take
