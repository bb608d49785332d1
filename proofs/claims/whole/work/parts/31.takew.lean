/-! ===== a work is taken ===== -/
theorem tg_sI (h : PH) (a j : Nat) (x : Int32) (b : Nat) : tg (sI h a j x) b = tg h b := rfl
theorem ln_sI (h : PH) (a j : Nat) (x : Int32) (b : Nat) : ln (sI h a j x) b = ln h b := rfl
theorem gR_sI (h : PH) (a j : Nat) (x : Int32) (b : Nat) : gR (sI h a j x) b = gR h b := rfl
theorem tg_sR (h : PH) (a j x : Nat) (b : Nat) : tg (sR h a j x) b = tg h b := rfl
theorem ln_sR (h : PH) (a j x : Nat) (b : Nat) : ln (sR h a j x) b = ln h b := rfl
theorem gI_sR (h : PH) (a j x : Nat) (b : Nat) : gI (sR h a j x) b = gI h b := rfl
theorem gI_sI_eq (h : PH) (a j : Nat) (x : Int32) : gI (sI h a j x) a j = x := if_pos ⟨rfl, rfl⟩
theorem gI_sI_ne (h : PH) (a j : Nat) (x : Int32) {b i : Nat} (e : ¬ (b = a ∧ i = j)) : gI (sI h a j x) b i = gI h b i := if_neg e
theorem gI_sI_nc (h : PH) (a j : Nat) (x : Int32) {b : Nat} (e : b ≠ a) : gI (sI h a j x) b = gI h b := funext fun _ => if_neg (fun z => e z.1)
theorem gR_sR_eq (h : PH) (a j x : Nat) : gR (sR h a j x) a j = x := if_pos ⟨rfl, rfl⟩
theorem gR_sR_ne (h : PH) (a j x : Nat) {b i : Nat} (e : ¬ (b = a ∧ i = j)) : gR (sR h a j x) b i = gR h b i := if_neg e
section TakeW
variable {h : PH} {a : Nat} {c : Core} {bo : List Nat}
def noWork (c : Core) (x y z : Int32) : Int32 := if othN x 5 ≠ 0 then -2 else if y < 0 ∨ z < 1 then -4 else if 9 < y ∨ 999 < z ∨ Cw c = 6 then -6 else 0
def addWork (c : Core) (r : Row) : Core := (Cf c, Cw c + 1, Cy c, Cr c, Cm c, setM (Ck c) (Cw c) r)
theorem t_Ledger_takeWork (L : Led h a c) (hn : 147 ≤ nx h) (x y z : Int32) {k : PH → Int32 → Prop} (hno : ∀ v, v = noWork c x y z → v ≠ 0 → k h v)
    (hk : ∀ h', noWork c x y z = 0 → Og (fun u => u = a) (fun u => u = a + 7) h h' → nx h' = nx h + 1 → sl h' = sl h + 2 → Led h' a (addWork c (wkRow x y z)) → (∀ i, i ≠ 1 → gI h' a i = gI h a i) → (∀ i, i < Cw c → gR h' (a + 7) i = gR h (a + 7) i) → k h' (nI (Cw c))) : ccI m_Ledger_takeWork h [.ref a, .int x, .int y, .int z] k := by
  have h6 := L.2.1.2
  have hla := L.1.2.2.2.2.2.2.2.1
  rw [c_Ledger_takeWork, s_P_otherThan]
  simp only [e_Ledger_takeWork_20, e_Ledger_takeWork_36]
  by_cases c0 : othN x 5 = 0
  · rw [if_pos c0]
    have n0 : ¬ othN x 5 ≠ 0 := fun q => q c0
    by_cases c2 : y < 0
    · rw [if_pos c2]; exact hno _ (by unfold noWork; rw [if_neg n0, if_pos (Or.inl c2)]) (by decide)
    rw [if_neg c2]
    by_cases c3 : z < 1
    · rw [if_neg (Int32.not_le.mpr c3)]; exact hno _ (by unfold noWork; rw [if_neg n0, if_pos (Or.inr c3)]) (by decide)
    rw [if_pos (Int32.not_lt.mp c3)]
    have n1 : ¬ (y < 0 ∨ z < 1) := fun q => q.elim c2 c3
    by_cases c5 : 9 < y
    · rw [if_pos c5]; exact hno _ (by unfold noWork; rw [if_neg n0, if_neg n1, if_pos (Or.inl c5)]) (by decide)
    rw [if_neg c5]
    by_cases c6 : 999 < z
    · rw [if_neg (Int32.not_le.mpr c6)]; exact hno _ (by unfold noWork; rw [if_neg n0, if_neg n1, if_pos (Or.inr (Or.inl c6))]) (by decide)
    rw [if_pos (Int32.not_lt.mp c6)]
    have q1 : gI h a 1 = nI (Cw c) := L.2.2.1.2.1
    have q7 := L.1.2.2.2.2.1
    simp only [L.1.1, true_and, L.1.2.1.2.1, q7.1, q7.2, q1]
    refine ⟨by decide, ?_⟩
    rw [show Int32.ofNat 6 = nI 6 from rfl]
    by_cases c7 : Cw c = 6
    · rw [c7, if_neg (nI_nlt (Nat.le_refl _) (by decide))]
      exact hno _ (by unfold noWork; rw [if_neg n0, if_neg n1, if_pos (Or.inr (Or.inr c7))]) (by decide)
    · have c8 : Cw c < 6 := by omega
      have hz : noWork c x y z = 0 := by
        unfold noWork
        rw [if_neg n0, if_neg n1, if_neg (fun q => q.elim c5 (fun q => q.elim c6 c7))]
      rw [if_pos (nI_lt c8 (by decide)), ix_nI (by omega)]
      refine t_newWork hn c0 fun h1 og1 nx1 sl1 wk1 => ?_
      have L1 : Led h1 a c := Og_Led L og1 hn (fun b q => q.elim) (fun b q => q.elim)
      have s7 := L1.1.2.2.2.2.1
      have g1 : gI h1 a 1 = nI (Cw c) := L1.2.2.1.2.1
      simp only [tg_sR, tg_sI, gI_sR, s7.1, s7.2, L1.1.1, g1, nI_1, true_and, gI_sI_eq, nI_pred]
      refine ⟨⟨by decide, inb_nI c8 (by decide), Or.inr (by rw [wk1.2.1]; exact wtag_in _)⟩, ?_⟩
      have fr2 : Fr (fun u => u = a) (fun u => u = a + 7) h1 (sI (sR h1 (a + 7) (Cw c) (nx h)) a 1 (nI (Cw c + 1))) := Fr_trans (Fr_sR _ _ _ _ rfl) (Fr_sI _ _ _ _ rfl)
      have og2 := Og_trans (Og_mono og1 (S' := fun u => u = a) (R' := fun u => u = a + 7) (fun _ _ q => q.elim) (fun _ _ q => q.elim)) (Og_fr fr2)
      refine hk _ hz og2 nx1 sl1 ⟨isLed_fr L1.1 fr2 (by omega) (by omega), ⟨L1.2.1.1, by show Cw c + 1 ≤ 6; omega⟩, ?_, fun g hg => ?_, fun w hw => ?_⟩ (fun i hi => ?_) (fun i hi => ?_)
      · rw [sI_wR, gI_wR, rs_eq, rs_ne _ _ (by decide), rs_ne _ _ (by decide), rs_ne _ _ (by decide)]
        exact ⟨L1.2.2.1.1, rfl, L1.2.2.1.2.2.1, L1.2.2.1.2.2.2⟩
      · rw [gI_sI_nc _ _ _ _ (by omega)]
        exact L1.2.2.2.1 g hg
      · show isWk _ (if a + 7 = a + 7 ∧ w = Cw c then nx h else gR h1 (a + 7) w) (setM (Ck c) (Cw c) (wkRow x y z) w)
        unfold setM
        by_cases e : w = Cw c
        · rw [if_pos ⟨rfl, e⟩, if_pos e]
          exact isWk_fr wk1 fr2 (by have := wk1.1.1; omega)
        · rw [if_neg (fun q => e q.2), if_neg e]
          have hw' : w < Cw c + 1 := hw
          have w0 := L1.2.2.2.2 w (by omega)
          exact isWk_fr w0 fr2 (by have := w0.1.1; omega)
      · rw [gI_sI_ne _ _ _ _ (fun q => hi q.2), gI_sR]
        exact (og1.2 a (by omega)).2.2.2 (fun q => q) i
      · rw [gR_sI, gR_sR_ne _ _ _ _ (by omega)]
        exact (og1.2 (a + 7) (by omega)).2.2.1 (fun q => q) i
  · rw [if_neg c0]
    exact hno _ (by unfold noWork; rw [if_pos c0]) (by decide)
end TakeW
