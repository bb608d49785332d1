/-! ===== what a ledger does: years, copies ===== -/
section Ops
variable {h : PH} {a b : Nat} {c : Core}
theorem t_Ledger_passYears (L : Led h a c) {n : Nat} (hn : n < 2 ^ 30) {k : PH → Prop} (hk : ∀ h', Fr (fun x => a ≤ x ∧ x ≤ a + 6) (fun _ => False) h h' → Led h' a (goC n c) → (∀ i, i ≠ 2 → gI h' a i = gI h a i) → k h') : ccV m_Ledger_passYears h [.ref a, .int (nI n)] k := by
  rw [c_Ledger_passYears]
  refine hp (A := fun j h' => Fr (fun x => a ≤ x ∧ x ≤ a + 6) (fun _ => False) h h' ∧ Led h' a (goC j c) ∧ (∀ i, i ≠ 2 → gI h' a i = gI h a i)) (X := fun j h' => ∀ q, wp m_Ledger_passYears h' 2 [some (.ref a), some (.int (nI n)), some (.int (nI j)), q] [] (tyV k)) n ?_ ?_ 0 (Nat.zero_le _) h ⟨Fr_refl _ _ _, ?_, fun _ _ => rfl⟩ none
  · intro h' ⟨fr, L', ke⟩ q
    rw [e_Ledger_passYears_2, if_pos (Int32.le_refl _)]
    exact hk h' fr L' ke
  · intro j hj h' ⟨fr, L', ke⟩ ih q
    rw [e_Ledger_passYears_2, if_neg (nI_ge hj (by omega))]
    have t := L'.1.1
    simp only [t, true_and]
    have hyr : gI h' a 2 + 1 = Cy c + nI (j + 1) := by rw [L'.2.2.1.2.2.1, ← nI_1, ← Int32.add_assoc]; rfl
    rw [hyr]
    refine hp (A := fun i h2 => Fr (fun x => a ≤ x ∧ x ≤ a + 6) (fun _ => False) h h2 ∧ Led h2 a (cM (cY c (Cy c + nI (j + 1))) (fun f => if f < i then rYears (Cr c) (Cy c) (j + 1) (Cm c f) else rYears (Cr c) (Cy c) j (Cm c f))) ∧ (∀ v, v ≠ 2 → gI h2 a v = gI h a v))
      (X := fun i h2 => wp m_Ledger_passYears h2 19 [some (.ref a), some (.int (nI n)), some (.int (nI j)), some (.int (nI i))] [] (tyV k)) (Cf c) ?_ ?_ 0 (Nat.zero_le _) _ ⟨Fr_trans fr (Fr_sI _ _ _ _ ⟨Nat.le_refl _, by omega⟩), ?_, fun v hv => by rw [sI_wR, gI_wR, rs_ne _ _ hv]; exact ke v hv⟩
    · intro h2 ⟨fr2, L2, ke2⟩
      have q0 : gI h2 a 0 = nI (Cf c) := L2.2.2.1.1
      rw [e_Ledger_passYears_19, q0, if_pos (Int32.le_refl _), nI_1]
      refine ⟨L2.1.1, ih h2 ⟨fr2, Led_ext L2 rfl rfl rfl rfl (fun f hf => ?_) (fun _ _ => rfl), ke2⟩ _⟩
      show Ew 4 (if f < Cf c then _ else _) _
      rw [if_pos (show f < Cf c from hf)]
      exact Ew_refl _ _
    · intro i hi h2 ⟨fr2, L2, ke2⟩ ih2
      have q0 : gI h2 a 0 = nI (Cf c) := L2.2.2.1.1
      have q2 : gI h2 a 2 = Cy c + nI (j + 1) := L2.2.2.1.2.2.1
      have q3 : gI h2 a 3 = Cr c := L2.2.2.1.2.2.2
      have h5' : Cf c ≤ 5 := L.2.1.1
      have h5 : i < 5 := by omega
      have e := L2.2.2.2.1 i hi
      rw [e_Ledger_passYears_19, q0, if_neg (nI_ge hi (by omega)), Led_at L2 h5]
      simp only [q2, q3]
      simp only [L2.1.1, Led_tgf L2 h5, true_and, nI_1]
      rw [s_Family_passYear (Led_tgf L2 h5)]
      refine ih2 _ ⟨Fr_trans fr2 (Fr_wR _ _ _ ⟨by omega, by omega⟩), ?_, fun v hv => by rw [gI_wR_ne _ _ (show a ≠ a + 2 + i by omega)]; exact ke2 v hv⟩
      have e3 : Ew 4 (rYear (Cr c) (Cy c + nI (j + 1)) (gI h2 (a + 2 + i))) (rYears (Cr c) (Cy c) (j + 1) (Cm c i)) := by
        have : Cm (cM (cY c (Cy c + nI (j + 1))) (fun f => if f < i then rYears (Cr c) (Cy c) (j + 1) (Cm c f) else rYears (Cr c) (Cy c) j (Cm c f))) i = rYears (Cr c) (Cy c) j (Cm c i) := if_neg (Nat.lt_irrefl _)
        rw [this] at e
        exact rYear_e e _ _ (Or.inl rfl)
      refine Led_ext (Led_wR L2 h5 e3) rfl rfl rfl rfl (fun f _ => ?_) (fun _ _ => rfl)
      show Ew 4 (setM _ i _ f) (if f < i + 1 then _ else _)
      unfold setM
      by_cases c1 : f = i
      · subst c1; rw [if_pos rfl, if_pos (Nat.lt_succ_self _)]; exact Ew_refl _ _
      · rw [if_neg c1]
        show Ew 4 (if f < i then _ else _) _
        by_cases c2 : f < i
        · rw [if_pos c2, if_pos (by omega)]; exact Ew_refl _ _
        · rw [if_neg c2, if_neg (by omega)]; exact Ew_refl _ _
    · refine Led_ext (Led_yr L' _) rfl rfl rfl rfl (fun f _ => ?_) (fun _ _ => rfl)
      show Ew 4 (rYears (Cr c) (Cy c) j (Cm c f)) (if f < 0 then rYears (Cr c) (Cy c) (j + 1) (Cm c f) else rYears (Cr c) (Cy c) j (Cm c f))
      rw [if_neg (by omega)]
      exact Ew_refl _ _
  · refine Led_ext L rfl rfl ?_ rfl (fun f _ => Ew_refl _ _) (fun _ _ => rfl)
    show Cy c + nI 0 = Cy c
    rw [nI_0, Int32.add_zero]
theorem t_Ledger_passYear (L : Led h a c) {k : PH → Prop} (hk : ∀ h', Fr (fun x => a ≤ x ∧ x ≤ a + 6) (fun _ => False) h h' → Led h' a (goC 1 c) → (∀ i, i ≠ 2 → gI h' a i = gI h a i) → k h') : ccV m_Ledger_passYear h [.ref a] k := by
  rw [c_Ledger_passYear]
  exact ⟨L.1.1, t_Ledger_passYears L (n := 1) (by decide) hk⟩
/-- the debts of all -/
def debtsC (c : Core) : Int32 := sumN (fun f => Cm c f 1) (Cf c)
theorem u_Ledger_allDebts (L : Led h a c) (k : PH → Int32 → Prop) : ccI m_Ledger_allDebts h [.ref a] k = k h (debtsC c) := by
  rw [s_Ledger_allDebts L.1 L.2.2.1.1 L.2.1.1]
  unfold debtsC
  rw [sumN_c fun f hf => L.2.2.2.1 f hf 1 (by decide)]
theorem t_Ledger_allDebtsBehind (L : Led h a c) {n : Nat} (hn : n < 2 ^ 30) {k : PH → Int32 → Prop} (hk : ∀ h', Fr (fun x => a ≤ x ∧ x ≤ a + 6) (fun _ => False) h h' → Led h' a (goC n c) → (∀ i, i ≠ 2 → gI h' a i = gI h a i) → k h' (debtsC (goC n c))) : ccI m_Ledger_allDebtsBehind h [.ref a, .int (nI n)] k := by
  rw [c_Ledger_allDebtsBehind]
  refine ⟨L.1.1, t_Ledger_passYears L hn fun h' fr L' ke => ⟨L'.1.1, ?_⟩⟩
  rw [u_Ledger_allDebts L']
  exact hk h' fr L' ke
/-- which works are built, in what order -/
def LedB (h : PH) (a : Nat) (bo : List Nat) : Prop := bo.length ≤ 6 ∧ gI h a 4 = bm (fun w => decide (w ∈ bo)) 6 ∧ gI h a 5 = nI bo.length ∧ ∀ i, i < bo.length → gI h (a + 8) i = nI (bo.getD i 0)
theorem LedB_fr {S R : Nat → Prop} {h' : PH} {bo : List Nat} (B : LedB h a bo) (f : Fr S R h h') (h1 : ¬ S a) (h2 : ¬ S (a + 8)) : LedB h' a bo := by
  unfold LedB
  simp only [f.2.2.2 a h1, f.2.2.2 _ h2]
  exact B
theorem u_Ledger_builtAs (L : isLed h a) {bo : List Nat} (B : LedB h a bo) (x : Int32) (k : PH → Int32 → Prop) : ccI m_Ledger_builtAs h [.ref a, .int x] k = k h (if offN x bo.length then -9 else nI (bo.getD (ix x) 0)) := by
  obtain ⟨t, ⟨_, _, r8, _⟩, _, _, _, ⟨t8, l8⟩, _⟩ := L
  obtain ⟨hl, _, h5, hb⟩ := B
  rw [c_Ledger_builtAs]
  simp only [t, true_and, r8, t8, l8, h5, e_Ledger_builtAs_30, e_Ledger_builtAs_32]
  by_cases e : offN x bo.length
  · rw [if_pos e]
    by_cases e2 : x < 0
    · rw [if_pos e2]
    · rw [if_neg e2, if_pos (e.resolve_left e2)]
  · rw [if_neg e]
    obtain ⟨i, hi, rfl⟩ := on_nI (by omega) e
    rw [if_neg (nI_pos (by omega)), if_neg (nI_ge hi (by omega)), show Int32.ofNat 6 = nI 6 from rfl, if_neg (nI_ge (by omega) (by decide)), ix_nI (by omega), hb i hi]
    simp [inb_nI (show i < 6 by omega)]
end Ops
