/-! ===== a family comes, a work comes ===== -/
section Comes
variable {h : PH} {a : Nat} {c : Core} {bo : List Nat}
/-- the refusal of a family -/
def noFam (c : Core) (x y z : Int32) : Int32 := if x < 1 ∨ y < 0 ∨ z < 0 then -4 else if 20 < x ∨ 9 < y ∨ 9 < z ∨ Cf c = 5 then -6 else 0
def famRow (x y z : Int32) : Row := fun j => if j = 0 then x else if j = 1 then 0 else if j = 2 then y else z
def addFam (c : Core) (x y z : Int32) : Core := (Cf c + 1, Cw c, Cy c, Cr c, setM (Cm c) (Cf c) (famRow x y z), Ck c)
theorem t_Ledger_takeFamily (L : Led h a c) (x y z : Int32) {k : PH → Int32 → Prop} (hno : ∀ v, v = noFam c x y z → v ≠ 0 → k h v)
    (hk : ∀ h', noFam c x y z = 0 → Fr (fun u => a ≤ u ∧ u ≤ a + 6) (fun _ => False) h h' → Led h' a (addFam c x y z) → (∀ i, i ≠ 0 → gI h' a i = gI h a i) → k h' (nI (Cf c))) : ccI m_Ledger_takeFamily h [.ref a, .int x, .int y, .int z] k := by
  have h5 := L.2.1.1
  have hla := L.1.2.2.2.2.2.2.2.1
  rw [c_Ledger_takeFamily]
  simp only [e_Ledger_takeFamily_13, e_Ledger_takeFamily_34]
  by_cases c1 : x < 1
  · rw [if_pos c1]; exact hno _ (by unfold noFam; rw [if_pos (Or.inl c1)]) (by decide)
  rw [if_neg c1]
  by_cases c2 : y < 0
  · rw [if_pos c2]; exact hno _ (by unfold noFam; rw [if_pos (Or.inr (Or.inl c2))]) (by decide)
  rw [if_neg c2]
  by_cases c3 : z < 0
  · rw [if_neg (Int32.not_le.mpr c3)]; exact hno _ (by unfold noFam; rw [if_pos (Or.inr (Or.inr c3))]) (by decide)
  rw [if_pos (Int32.not_lt.mp c3)]
  have n1 : ¬ (x < 1 ∨ y < 0 ∨ z < 0) := fun q => q.elim c1 (fun q => q.elim c2 c3)
  by_cases c4 : 20 < x
  · rw [if_pos c4]; exact hno _ (by unfold noFam; rw [if_neg n1, if_pos (Or.inl c4)]) (by decide)
  rw [if_neg c4]
  by_cases c5 : 9 < y
  · rw [if_pos c5]; exact hno _ (by unfold noFam; rw [if_neg n1, if_pos (Or.inr (Or.inl c5))]) (by decide)
  rw [if_neg c5]
  by_cases c6 : 9 < z
  · rw [if_neg (Int32.not_le.mpr c6)]; exact hno _ (by unfold noFam; rw [if_neg n1, if_pos (Or.inr (Or.inr (Or.inl c6)))]) (by decide)
  rw [if_pos (Int32.not_lt.mp c6)]
  have c0 : gI h a 0 = nI (Cf c) := L.2.2.1.1
  have q1 := L.1.2.2.1
  simp only [L.1.1, true_and, L.1.2.1.1, q1.1, q1.2, c0]
  refine ⟨by decide, ?_⟩
  rw [show Int32.ofNat 5 = nI 5 from rfl]
  by_cases c7 : Cf c = 5
  · rw [c7, if_neg (nI_nlt (Nat.le_refl _) (by decide))]
    exact hno _ (by unfold noFam; rw [if_neg n1, if_pos (Or.inr (Or.inr (Or.inr c7)))]) (by decide)
  · have c8 : Cf c < 5 := by omega
    have hz : noFam c x y z = 0 := by
      unfold noFam
      rw [if_neg n1, if_neg (fun q => q.elim c4 (fun q => q.elim c5 (fun q => q.elim c6 c7)))]
    rw [if_pos (nI_lt c8 (by decide)), Led_at L c8]
    refine ⟨Led_tgf L c8, ?_⟩
    rw [s_Family_become (Led_tgf L c8)]
    simp only [sI_wR, tg_wR, L.1.1, true_and]
    have e1 : gI (wR h (a + 2 + Cf c) (rBecome x y z (gI h (a + 2 + Cf c)))) a = gI h a := gI_wR_ne _ _ (by omega)
    rw [e1, gI_wR, rs_eq, c0, nI_1, nI_pred]
    have fr : Fr (fun u => a ≤ u ∧ u ≤ a + 6) (fun _ => False) h (wR (wR h (a + 2 + Cf c) (rBecome x y z (gI h (a + 2 + Cf c)))) a (rs (gI h a) 0 (nI (Cf c + 1)))) := Fr_trans (Fr_wR _ _ _ ⟨by omega, by omega⟩) (Fr_wR _ _ _ ⟨Nat.le_refl _, by omega⟩)
    refine hk _ hz fr ⟨isLed_fr L.1 fr (fun u => u) (fun u => u), ⟨by show Cf c + 1 ≤ 5; omega, L.2.1.2⟩, ?_, fun g hg => ?_, fun w hw => ?_⟩ (fun i hi => ?_)
    · rw [gI_wR, rs_eq, rs_ne _ _ (by decide), rs_ne _ _ (by decide), rs_ne _ _ (by decide)]
      exact ⟨rfl, L.2.2.1.2.1, L.2.2.1.2.2.1, L.2.2.1.2.2.2⟩
    · have hg' : g < Cf c + 1 := hg
      show Ew 4 _ (setM (Cm c) (Cf c) (famRow x y z) g)
      rw [gI_wR_ne _ _ (show a + 2 + g ≠ a by omega)]
      unfold setM
      by_cases e : g = Cf c
      · subst e
        rw [gI_wR, if_pos rfl]
        intro j hj
        have : j = 0 ∨ j = 1 ∨ j = 2 ∨ j = 3 := by omega
        rcases this with rfl | rfl | rfl | rfl <;> rfl
      · rw [gI_wR_ne _ _ (by omega), if_neg e]
        exact L.2.2.2.1 g (by omega)
    · rw [fr.2.2.1 _ (fun u => u)]
      have w0 := L.2.2.2.2 w hw
      exact isWk_fr w0 fr (by have := w0.1.1; omega)
    · rw [gI_wR, rs_ne _ _ hi]
end Comes
