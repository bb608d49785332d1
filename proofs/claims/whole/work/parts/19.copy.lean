/-! ===== a ledger is copied ===== -/
def fz (r : Row) : Row := rs (rs (rs r 4 0) 5 0) 6 0
theorem rCopy_e (r t : Row) : Ew 7 (rCopy r t) (fz r) := by
  intro j hj
  have : j = 0 ∨ j = 1 ∨ j = 2 ∨ j = 3 ∨ j = 4 ∨ j = 5 ∨ j = 6 := by omega
  rcases this with rfl | rfl | rfl | rfl | rfl | rfl | rfl <;> rfl
theorem fz_e (r : Row) : Ew 4 (fz r) r := by
  intro j hj
  have : j = 0 ∨ j = 1 ∨ j = 2 ∨ j = 3 := by omega
  rcases this with rfl | rfl | rfl | rfl <;> rfl
theorem fz_c {r r' : Row} (e : Ew 4 r r') : Ew 7 (fz r) (fz r') := by
  intro j hj
  have : j = 0 ∨ j = 1 ∨ j = 2 ∨ j = 3 ∨ j = 4 ∨ j = 5 ∨ j = 6 := by omega
  rcases this with rfl | rfl | rfl | rfl | rfl | rfl | rfl
  · exact e 0 (by decide)
  · exact e 1 (by decide)
  · exact e 2 (by decide)
  · exact e 3 (by decide)
  · rfl
  · rfl
  · rfl
section Copy
variable {h : PH} {a b : Nat} {c : Core} {bo : List Nat}
theorem t_Ledger_copy (L : Led h b c) (B : LedB h b bo) (La : isLed h a) (far : a + 9 < b ∨ b + 9 < a) {k : PH → Prop} (hk : ∀ h', Fr (fun x => a ≤ x ∧ x ≤ a + 8) (fun x => x = a + 7) h h' → Led h' a c → LedB h' a bo → k h') : ccV m_Ledger_copy h [.ref a, .ref b] k := by
  have hba : b ≠ a := by omega
  have tb := L.1.1
  have ta := La.1
  have hn := L.2.1.1
  have hw := L.2.1.2
  have hbl := B.1
  have hla := La.2.2.2.2.2.2.2.1
  have hlb := L.1.2.2.2.2.2.2.2.1
  rw [c_Ledger_copy]
  simp only [sI_wR, tg_wR, gI_wR, gI_wR_ne _ _ hba, wR_wR, ta, tb, true_and, e_Ledger_copy_32]
  rw [L.2.2.1.1, L.2.2.1.2.1, L.2.2.1.2.2.1, L.2.2.1.2.2.2, B.2.1, B.2.2.1]
  refine hp (A := fun i h' => Fr (fun x => a ≤ x ∧ x ≤ a + 6) (fun _ => False) h h' ∧ (gI h' a 0 = nI (Cf c) ∧ gI h' a 1 = nI (Cw c) ∧ gI h' a 2 = Cy c ∧ gI h' a 3 = Cr c ∧ gI h' a 4 = bm (fun w => decide (w ∈ bo)) 6 ∧ gI h' a 5 = nI bo.length) ∧ ∀ f, f < i → Ew 4 (gI h' (a + 2 + f)) (Cm c f))
    (X := fun i h' => wp m_Ledger_copy h' 50 [some (.ref a), some (.ref b), some (.int (nI i))] [] (tyV k)) (Cf c) ?_ ?_ 0 (Nat.zero_le _) _ ⟨Fr_wR _ _ _ ⟨Nat.le_refl _, by omega⟩, ?_, fun f hf => absurd hf (by omega)⟩
  · intro h1 ⟨fr1, fd1, fm1⟩
    rw [e_Ledger_copy_50, fd1.1, if_pos (Int32.le_refl _)]
    refine ⟨(Fr_tg fr1 _).trans ta, ?_⟩
    refine hp (A := fun i h' => Fr (fun x => a ≤ x ∧ x ≤ a + 8) (fun x => x = a + 7) h h' ∧ (gI h' a 0 = nI (Cf c) ∧ gI h' a 1 = nI (Cw c) ∧ gI h' a 2 = Cy c ∧ gI h' a 3 = Cr c ∧ gI h' a 4 = bm (fun w => decide (w ∈ bo)) 6 ∧ gI h' a 5 = nI bo.length) ∧ (∀ f, f < Cf c → Ew 4 (gI h' (a + 2 + f)) (Cm c f)) ∧
        ∀ v, v < i → (v < Cw c → gR h' (a + 7) v = gR h (b + 7) v) ∧ (v < bo.length → gI h' (a + 8) v = nI (bo.getD v 0)))
      (X := fun i h' => wp m_Ledger_copy h' 79 [some (.ref a), some (.ref b), some (.int (nI i))] [] (tyV k)) 6 ?_ ?_ 0 (Nat.zero_le _) _ ⟨Fr_mono fr1 (fun x hx => ⟨hx.1, by omega⟩) (fun x hx => hx.elim), fd1, fm1, fun v hv => absurd hv (by omega)⟩
    · intro h2 ⟨fr2, fd2, fm2, wk2⟩
      have La2 := isLed_fr La fr2 (by omega) (by omega)
      rw [e_Ledger_copy_79]
      simp only [La2.1, La2.2.1.2.1, La2.2.2.2.2.1.1, La2.2.2.2.2.1.2, true_and]
      rw [show Int32.ofNat 6 = nI 6 from rfl, if_pos (Int32.le_refl _), e_Ledger_copy_125]
      refine ⟨by decide, hk h2 fr2 ⟨La2, L.2.1, ⟨fd2.1, fd2.2.1, fd2.2.2.1, fd2.2.2.2.1⟩, fm2, fun w hw' => ?_⟩ ⟨B.1, fd2.2.2.2.2.1, fd2.2.2.2.2.2, fun i hi => (wk2 i (by have := B.1; omega)).2 hi⟩⟩
      rw [(wk2 w (by omega)).1 hw']
      have w0 := L.2.2.2.2 w hw'
      exact isWk_fr w0 fr2 (by have := w0.1.1; omega)
    · intro v hv h2 ⟨fr2, fd2, fm2, wk2⟩ ih
      have La2 := isLed_fr La fr2 (by omega) (by omega)
      have Lb2 : Led h2 b c := Led_fr L (Fr_mono fr2 (S' := fun x => a ≤ x ∧ x ≤ a + 8) (R' := fun x => x = a + 7) (fun _ x => x) (fun _ x => x)) (fun x hx => ⟨by omega, by omega⟩) (fun x hx => by omega)
      have B2 : LedB h2 b bo := LedB_fr B fr2 (by omega) (by omega)
      have hx : ∃ x1, (∀ k, ccA m_Ledger_workAt h2 [.ref b, .int (nI v)] k = k h2 x1) ∧ (v < Cw c → x1 = gR h (b + 7) v) ∧ (x1 = 0 ∨ asg 210 (tg h2 x1) = true) := by
        by_cases e : v < Cw c
        · refine ⟨gR h2 (b + 7) v, fun k => s_Ledger_workAt Lb2.1 Lb2.2.2.1.2.1 hw e k, fun _ => fr2.2.2.1 _ (by omega) _, Or.inr ?_⟩
          rw [(Lb2.2.2.2.2 v e).2.1]
          exact wtag_in _
        · exact ⟨0, fun k => s_Ledger_workAt_off Lb2.1 Lb2.2.2.1.2.1 (Or.inr (nI_le (by omega) (by omega))) k, fun e' => absurd e' e, Or.inl rfl⟩
      obtain ⟨x1, hx1, hx2, hx3⟩ := hx
      have fr3 : Fr (fun x => a ≤ x ∧ x ≤ a + 8) (fun x => x = a + 7) h2 (sR h2 (a + 7) v x1) := Fr_sR _ _ _ _ rfl
      have La3 := isLed_fr La2 fr3 (by omega) (by omega)
      have Lb3 : isLed (sR h2 (a + 7) v x1) b := isLed_fr Lb2.1 fr3 (by omega) (by omega)
      have B3 : LedB (sR h2 (a + 7) v x1) b bo := LedB_fr B2 fr3 (by omega) (by omega)
      rw [e_Ledger_copy_79]
      simp only [La2.1, Lb2.1.1, La2.2.1.2.1, La2.2.1.2.2.1, La2.2.2.2.2.1.1, La2.2.2.2.2.1.2, La2.2.2.2.2.2.1.1, La2.2.2.2.2.2.1.2, true_and, hx1]
      rw [show Int32.ofNat 6 = nI 6 from rfl, if_neg (nI_ge hv (by decide)), if_neg (nI_ge hv (by decide)), ix_nI (by omega)]
      refine ⟨by decide, by decide, ⟨by decide, inb_nI hv (by decide), hx3⟩, La3.1, Lb3.1, ?_⟩
      rw [u_Ledger_builtAs Lb3 B3, La3.2.1.2.2.1]
      refine ⟨⟨La3.2.2.2.2.2.1.1, by rw [La3.2.2.2.2.2.1.2]; exact inb_nI hv (by decide)⟩, ?_⟩
      rw [nI_1]
      have fr4 : Fr (fun x => a ≤ x ∧ x ≤ a + 8) (fun x => x = a + 7) (sR h2 (a + 7) v x1) (sI (sR h2 (a + 7) v x1) (a + 8) v (if offN (nI v) bo.length then -9 else nI (bo.getD (ix (nI v)) 0))) := Fr_sI _ _ _ _ ⟨by omega, Nat.le_refl _⟩
      refine ih _ ⟨Fr_trans fr2 (Fr_trans fr3 fr4), ?_, fun f hf => ?_, fun u hu => ⟨fun hu2 => ?_, fun hu2 => ?_⟩⟩
      · rw [sI_wR, gI_wR_ne _ _ (show a ≠ a + 8 by omega)]
        exact fd2
      · rw [sI_wR, gI_wR_ne _ _ (show a + 2 + f ≠ a + 8 by omega)]
        exact fm2 f hf
      · by_cases e : u = v
        · subst e
          rw [← hx2 hu2]
          show (if a + 7 = a + 7 ∧ u = u then x1 else _) = x1
          rw [if_pos ⟨rfl, rfl⟩]
        · rw [← (wk2 u (by omega)).1 hu2]
          show (if a + 7 = a + 7 ∧ u = v then x1 else _) = _
          rw [if_neg (fun q => e q.2)]
          rfl
      · by_cases e : u = v
        · subst e
          rw [sI_wR, gI_wR, rs_eq, if_neg (nI_on (by omega) hu2), ix_nI (by omega)]
        · rw [sI_wR, gI_wR, rs_ne _ _ e]
          exact (wk2 u (by omega)).2 hu2
  · intro i hi h1 ⟨fr1, fd1, fm1⟩ ih
    have La1 := isLed_fr La fr1 (fun x => x) (fun x => x)
    have Lb1 : Led h1 b c := Led_fr L fr1 (fun x hx => ⟨by omega, by omega⟩) (fun x hx => hx.elim)
    rw [e_Ledger_copy_50, fd1.1, if_neg (nI_ge hi (by omega)), s_Ledger_at La1 (by omega)]
    simp only [La1.1, Lb1.1.1, true_and]
    rw [Led_at Lb1 (by omega)]
    refine ⟨(La1.2.2.2.1 i (by omega)).2, ?_⟩
    rw [s_Family_copy (La1.2.2.2.1 i (by omega)).2 (Led_tgf Lb1 (by omega)) (by omega), nI_1]
    refine ih _ ⟨Fr_trans fr1 (Fr_wR _ _ _ ⟨by omega, by omega⟩), ?_, fun f hf => ?_⟩
    · rw [gI_wR_ne _ _ (show a ≠ a + 2 + i by omega)]
      exact fd1
    · by_cases e : f = i
      · subst e
        rw [gI_wR]
        exact Ew_trans (Ew_trans (Ew_le (by decide) (rCopy_e _ _)) (fz_e _)) (Lb1.2.2.2.1 f (by omega))
      · rw [gI_wR_ne _ _ (by omega)]
        exact fm1 f (by omega)
  · rw [gI_wR]
    exact ⟨rfl, rfl, rfl, rfl, rfl, rfl⟩
end Copy
