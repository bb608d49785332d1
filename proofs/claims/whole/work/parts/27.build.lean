/-! ===== building ===== -/
theorem bm_or (p : Nat → Bool) {w : Nat} (hw : w < 6) : bm p 6 ||| (1 <<< (nI w &&& 31)) = bm (fun v => p v || decide (v = w)) 6 := by
  have h1 := nm_lt p 6
  rw [bm_nm _ _ (by omega), bm_nm _ _ (by omega), or_dec ⟨nm p 6, h1⟩ ⟨w, hw⟩]
  congr 1
  apply Nat.eq_of_testBit_eq
  intro i
  show (nm p 6 ||| 2 ^ w).testBit i = _
  rw [Nat.testBit_or, nm_bit, nm_bit, Nat.testBit_two_pow]
  by_cases e : i < 6
  · by_cases e2 : i = w
    · subst e2; simp [e]
    · have : ¬ w = i := fun z => e2 z.symm
      simp [e, e2, this]
  · have : ¬ w = i := by omega
    simp [e, this]
theorem nodup_len : ∀ (n : Nat) (l : List Nat), l.Nodup → (∀ x, x ∈ l → x < n) → l.length ≤ n
  | 0, l, _, h => by
    cases l with
    | nil => exact Nat.le_refl _
    | cons x l => exact absurd (h x (List.mem_cons_self)) (Nat.not_lt_zero _)
  | n + 1, l, hd, h => by
    by_cases e : n ∈ l
    · have h1 := nodup_len n (l.erase n) (hd.erase n) (fun x hx => by
        have h2 := (hd.mem_erase_iff).mp hx
        have := h x h2.2
        have := h2.1
        omega)
      rw [List.length_erase_of_mem e] at h1
      omega
    · have h1 := nodup_len n l hd (fun x hx => by
        have := h x hx
        have : x ≠ n := fun z => e (z ▸ hx)
        omega)
      omega
/-- an order of building -/
def okB (bo : List Nat) (n : Nat) : Prop := bo.Nodup ∧ ∀ w, w ∈ bo → w < n
theorem okB_len {bo : List Nat} {n : Nat} (o : okB bo n) : bo.length ≤ n := nodup_len n bo o.1 o.2
theorem okB_add {bo : List Nat} {n w : Nat} (o : okB bo n) (hw : w < n) (hn : w ∉ bo) : okB (bo ++ [w]) n := by
  refine ⟨?_, fun v hv => ?_⟩
  · rw [List.nodup_append]
    exact ⟨o.1, by simp, fun x hx y hy => by
      have : y = w := by simpa using hy
      subst this
      exact fun z => hn (z ▸ hx)⟩
  · rcases List.mem_append.mp hv with q | q
    · exact o.2 v q
    · have : v = w := by simpa using q
      subst this; exact hw
section Build
variable {h : PH} {a : Nat} {c : Core} {bo : List Nat}
theorem s_Ledger_isBuilt (L : isLed h a) (B : LedB h a bo) {w : Nat} (hw : w < 6) (k : PH → Int32 → Prop) : ccI m_Ledger_isBuilt h [.ref a, .int (nI w)] k = k h (if w ∈ bo then 1 else 0) := by
  have t := L.1
  rw [c_Ledger_isBuilt]
  simp only [t, true_and, e_Ledger_isBuilt_17, B.2.1]
  have hb := bt_bm (fun w => decide (w ∈ bo)) (n := 6) (Nat.le_refl _) hw
  simp only [hw, decide_true, Bool.true_and] at hb
  unfold bt at hb
  by_cases e : w ∈ bo
  · rw [if_pos e]
    rw [decide_eq_true e] at hb
    rw [if_neg (fun z => z (of_decide_eq_true hb))]
    simp
  · rw [if_neg e]
    rw [decide_eq_false e] at hb
    rw [if_pos (of_decide_eq_false hb)]
    simp
theorem t_Ledger_build (L : Led h a c) (o : okC c) (B : LedB h a bo) (ob : okB bo (Cw c)) {w : Nat} (hw : w < Cw c) (hn : w ∉ bo) {k : PH → Int32 → Prop}
    (hk : ∀ h', Fr (fun x => a ≤ x ∧ x ≤ a + 9) (fun _ => False) h h' → Led h' a (chargeC c (Ck c w)) → LedB h' a (bo ++ [w]) → k h' (debtsC (chargeC c (Ck c w)))) : ccI m_Ledger_build h [.ref a, .int (nI w)] k := by
  have c1 : gI h a 1 = nI (Cw c) := L.2.2.1.2.1
  have h6 := o.1.2
  have hp0 : ¬ gR h (a + 7) w = 0 := by have := (L.2.2.2.2 w hw).1.1; omega
  have hla := L.1.2.2.2.2.2.2.2.1
  have hlen := okB_len (okB_add ob hw hn)
  rw [List.length_append, List.length_singleton] at hlen
  obtain ⟨M, hM, hsh⟩ := t_shareOut L o hw
  rw [c_Ledger_build]
  refine ⟨L.1.1, ?_⟩
  rw [s_Ledger_workAt L.1 c1 L.2.1.2 hw, if_pos hp0]
  refine ⟨L.1.1, ?_⟩
  rw [s_Ledger_isBuilt L.1 B (by omega), if_neg hn, if_pos rfl]
  refine ⟨M, hM, hsh _ fun h1 fr1 e1 => ?_⟩
  have L1 : Led h1 a c := Led_fr L fr1 (fun x hx => ⟨by omega, by omega⟩) (fun x hx => hx.elim)
  refine ⟨L1.1.1, t_Ledger_oweShares L1 e1 fun h2 fr2 L2 => ?_⟩
  have frA : Fr (fun x => a ≤ x ∧ x ≤ a + 9) (fun _ => False) h h2 := Fr_trans (Fr_mono fr1 (fun x hx => ⟨by omega, by omega⟩) (fun _ x => x)) (Fr_mono fr2 (fun x hx => ⟨by omega, by omega⟩) (fun _ x => x))
  have B2 : LedB h2 a bo := LedB_fr (LedB_fr B fr1 (by omega) (by omega)) fr2 (by omega) (by omega)
  have q8 := L2.1.2.2.2.2.2.1
  simp only [sI_wR, tg_wR, ln_wR, gR_wR, gI_wR, L2.1.1, true_and, L2.1.2.1.2.2.1, q8.1, q8.2]
  have r5 : rs (gI h2 a) 4 (gI h2 a 4 ||| 1 <<< (nI w &&& 31)) 5 = nI bo.length := by rw [rs_ne _ _ (by decide)]; exact B2.2.2.1
  rw [r5, show Int32.ofNat 6 = nI 6 from rfl, if_neg (nI_ge (by omega) (by decide)), ix_nI (by omega)]
  refine ⟨by decide, inb_nI (show bo.length < 6 by omega) (by decide), ?_⟩
  rw [e_Ledger_build_66]
  simp only [sI_wR, tg_wR, ln_wR, gR_wR, gI_wR, L2.1.1, true_and]
  rw [gI_wR_ne _ _ (show a ≠ a + 8 by omega), gI_wR, r5, gI_wR_ne _ _ (show a + 8 ≠ a by omega), nI_1, ← wR_comm _ _ _ (show a ≠ a + 8 by omega), wR_wR]
  generalize hF : wR (wR h2 a (rs (rs (gI h2 a) 4 (gI h2 a 4 ||| 1 <<< (nI w &&& 31))) 5 (nI (bo.length + 1)))) (a + 8) (rs (gI h2 (a + 8)) bo.length (nI w)) = h3
  have frB : Fr (fun x => x = a ∨ x = a + 8) (fun _ => False) h2 h3 := by
    rw [← hF]
    exact Fr_trans (Fr_wR _ _ _ (Or.inl rfl)) (Fr_wR _ _ _ (Or.inr rfl))
  have ra : gI h3 a = rs (rs (gI h2 a) 4 (gI h2 a 4 ||| 1 <<< (nI w &&& 31))) 5 (nI (bo.length + 1)) := by
    rw [← hF, gI_wR_ne _ _ (show a ≠ a + 8 by omega), gI_wR]
  have r8 : gI h3 (a + 8) = rs (gI h2 (a + 8)) bo.length (nI w) := by rw [← hF, gI_wR]
  have L3 : Led h3 a (chargeC c (Ck c w)) := by
    refine ⟨isLed_fr L2.1 frB (fun x => x) (fun x => x), L2.2.1, ?_, fun g hg => ?_, fun v hv => ?_⟩
    · rw [ra]; exact L2.2.2.1
    · intro j hj
      rw [frB.2.2.2 _ (by have q1 : Cf c ≤ 5 := o.1.1; have q2 : g < Cf c := hg; omega)]
      exact L2.2.2.2.1 g hg j hj
    · rw [frB.2.2.1 _ (fun x => x)]
      have w0 := L2.2.2.2.2 v hv
      exact isWk_fr w0 frB (by have := w0.1.1; omega)
  have B3 : LedB h3 a (bo ++ [w]) := by
    refine ⟨by rw [List.length_append, List.length_singleton]; omega, ?_, ?_, fun i hi => ?_⟩
    · rw [ra]
      show gI h2 a 4 ||| 1 <<< (nI w &&& 31) = _
      rw [B2.2.1, bm_or _ (by omega)]
      exact bm_c fun v _ => by simp [List.mem_append]
    · rw [ra, List.length_append, List.length_singleton]
      rfl
    · rw [List.length_append, List.length_singleton] at hi
      rw [r8]
      by_cases e : i = bo.length
      · subst e
        rw [rs_eq]
        simp [List.getD]
      · rw [rs_ne _ _ e, B2.2.2.2 i (by omega)]
        simp only [List.getD]
        rw [List.getElem?_append_left (by omega)]
  rw [u_Ledger_allDebts L3]
  exact hk h3 (Fr_trans frA (Fr_mono frB (fun x hx => by omega) (fun _ x => x))) L3 B3
end Build
