/-! ===== the class: highest, peak, interest, doubled, births, half, crosses ===== -/
section P3
variable {h h0 : PH} {s : Sta} {c : Core} {f n : Nat}
theorem t_P_highestRate (I : IP h0 s) (F : FT h0 h) (hf : f < Cf (zC s)) (hn : n < 2 ^ 30) {k : PH → Int32 → Prop} (hk : ∀ h', FT h0 h' → k h' (v_rate (zC s) f n)) : ccI m_P_highestRate h [.ref 2, .int (nI f), .int (nI n)] k := by
  rw [c_P_highestRate]
  generalize hp' : (fun x => decide (rYears (nI x) (Cy (zC s)) n (Cm (zC s) f) 1 = 0)) = p
  have hv : v_rate (zC s) f n = lstF p 21 := by rw [← hp']; rfl
  have key : ∀ j, j ≤ 21 → ∀ h', FT h0 h' → v_rate (zC s) f n = lstF p j → wp m_P_highestRate h' 3 [some (.ref 2), some (.int (nI f)), some (.int (nI n)), some (.int (nI j - 1))] [] (tyI k) := by
    intro j
    induction j with
    | zero =>
      intro _ h' F' hv'
      rw [e_P_highestRate_3, if_pos (by decide)]
      have := hk h' F'
      rw [hv'] at this
      exact this
    | succ j ih =>
      intro hj h' F' hv'
      have I' := IP_FT I F'
      have w' := pw I'.1
      have L' := PL I'
      have h5 := L'.2.1.1
      rw [e_P_highestRate_3, nI_pred, if_neg (nI_pos (by omega))]
      simp only [w', true_and]
      rw [Led_at L' (by omega)]
      simp only [w', true_and]
      refine t_im_copy I F' hf fun h2 F2 e2 _ => ?_
      have I2 := IP_FT I F2
      have w2 := pw I2.1
      simp only [w2, true_and]
      rw [(PL I2).2.2.1.2.2.1]
      refine t_im_years I F2 e2 hn fun h3 F3 e3 _ => ?_
      have w3 := pw (IP_FT I F3).1
      have hd : gI h3 119 1 = rYears (nI j) (Cy (zC s)) n (Cm (zC s) f) 1 := (e3 1 (by decide)).trans (rYears_e (fz_e _) _ _ (Or.inl rfl) n 1 (by decide))
      simp only [w3, true_and]
      rw [hd]
      have hpj : p j = decide (rYears (nI j) (Cy (zC s)) n (Cm (zC s) f) 1 = 0) := by rw [← hp']
      unfold lstF at hv'
      rw [hpj] at hv'
      by_cases d : rYears (nI j) (Cy (zC s)) n (Cm (zC s) f) 1 = 0
      · rw [if_neg (fun z => z d)]
        rw [decide_eq_true d, if_pos rfl] at hv'
        have := hk h3 F3
        rw [hv'] at this
        exact this
      · rw [if_pos d]
        rw [decide_eq_false d, if_neg (by decide)] at hv'
        rw [← Int32.sub_eq_add_neg]
        exact ih (by omega) h3 F3 hv'
  exact key 21 (Nat.le_refl _) h F hv
theorem t_P_leastPay (I : IP h0 s) (F : FT h0 h) (hf : f < Cf (zC s)) (hn : n < 2 ^ 30) {k : PH → Int32 → Prop} (hk : ∀ h', FT h0 h' → k h' (v_pay (zC s) f n)) : ccI m_P_leastPay h [.ref 2, .int (nI f), .int (nI n)] k := by
  rw [c_P_leastPay]
  generalize hp' : (fun x => decide (rYears (Cr (zC s)) (Cy (zC s)) n (rs (Cm (zC s) f) 2 (nI x)) 1 = 0)) = p
  have hv : v_pay (zC s) f n = fstF p 0 10 := by rw [← hp']; rfl
  refine hp (A := fun j h' => FT h0 h' ∧ v_pay (zC s) f n = fstF p j (10 - j)) (X := fun j h' => wp m_P_leastPay h' 2 [some (.ref 2), some (.int (nI f)), some (.int (nI n)), some (.int (nI j))] [] (tyI k)) 10 ?_ ?_ 0 (Nat.zero_le _) h ⟨F, hv⟩
  · intro h' ⟨F', hv'⟩
    rw [e_P_leastPay_2, if_pos (show (9 : Int32) < nI 10 by decide)]
    have := hk h' F'
    rw [hv'] at this
    exact this
  · intro j hj h' ⟨F', hv'⟩ ih
    have I' := IP_FT I F'
    have w' := pw I'.1
    have L' := PL I'
    have h5 := L'.2.1.1
    rw [e_P_leastPay_2, if_neg (show ¬ (9 : Int32) < nI j from nI_nlt (a := 9) (by omega) (by decide))]
    simp only [w', true_and]
    rw [Led_at L' (by omega)]
    simp only [w', true_and]
    refine t_im_copy I F' hf fun h2 F2 e2 _ => ?_
    have q2 := im_set F2 e2 2 (nI j)
    have w2 := pw (IP_FT I F2).1
    have I3 := IP_FT I q2.1
    have w3 := pw I3.1
    simp only [w2, w3, true_and]
    rw [(PL I3).2.2.1.2.2.1, (PL I3).2.2.1.2.2.2]
    refine t_im_years I q2.1 q2.2 hn fun h4 F4 e4 _ => ?_
    have w4 := pw (IP_FT I F4).1
    have hd : gI h4 119 1 = rYears (Cr (zC s)) (Cy (zC s)) n (rs (Cm (zC s) f) 2 (nI j)) 1 := (e4 1 (by decide)).trans (rYears_e (Ew_rs (fz_e _) 2 rfl) _ _ (Or.inl rfl) n 1 (by decide))
    simp only [w4, true_and]
    rw [hd, nI_1]
    have hpj : p j = decide (rYears (Cr (zC s)) (Cy (zC s)) n (rs (Cm (zC s) f) 2 (nI j)) 1 = 0) := by rw [← hp']
    rw [fstF_step p hj, hpj] at hv'
    by_cases d : rYears (Cr (zC s)) (Cy (zC s)) n (rs (Cm (zC s) f) 2 (nI j)) 1 = 0
    · rw [if_neg (fun z => z d)]
      rw [decide_eq_true d, if_pos rfl] at hv'
      have := hk h4 F4
      rw [hv'] at this
      exact this
    · rw [if_pos d]
      rw [decide_eq_false d, if_neg (by decide)] at hv'
      exact ih h4 ⟨F4, hv'⟩
def v_highest (c : Core) (x y z : Int32) : Int32 := if z = 0 then v_rate c (ix x) (ix y) else v_pay c (ix x) (ix y)
theorem t_P_highest (o : okS s) (x y z : Int32) : PQ m_P_highest [.int x, .int y, .int z] s (th (th (nF (zC s) x) (outN y 0 100)) (othN z 1)) (v_highest (zC s) x y z) := by
  intro h k I hr hv
  have w := pw I.1
  rw [c_P_highest]
  refine ⟨w.1, ?_⟩
  rw [s_P_noFamilyAhead I]
  simp only [s_P_otherThan]
  refine th_if (X := fun t => wp m_P_highest h 20 [some (.ref 2), some (.int x), some (.int y), some (.int z), some (.int t)] [] (tyI k)) ?_
  rw [e_P_highest_20]
  simp only [e_P_highest_51]
  by_cases c : th (th (nF (zC s) x) (outN y 0 100)) (othN z 1) = 0
  · have c1 := th_0.mp (th_0.mp c).1
    obtain ⟨f, hf, rfl⟩ := nF_0 (okf o) c1.1
    obtain ⟨n, hn, rfl, _, hn2⟩ := outN_0 (lo := 0) (hi := 100) (by decide) c1.2
    have h5 := okf o
    have hv' := hv c
    unfold v_highest at hv'
    rw [ix_nI (show f < 2 ^ 31 by omega), ix_nI hn] at hv'
    rw [if_pos c]
    by_cases d : z = 0
    · rw [if_neg (fun q => q d)]
      rw [if_pos d] at hv'
      exact ⟨w.1, t_P_highestRate I (FT_refl h) hf (by omega) hv'⟩
    · rw [if_pos d]
      rw [if_neg d] at hv'
      exact ⟨w.1, t_P_leastPay I (FT_refl h) hf (by omega) hv'⟩
  · rw [if_neg c]
    exact ⟨w.1, hr c h (FT_refl h)⟩
def v_peak (c : Core) (x y z : Int32) : Int32 := if z = 0 then (pkN c (ix x) (ix y)).1 else (pkN c (ix x) (ix y)).2
theorem t_P_peak (o : okS s) (x y z : Int32) : PQ m_P_peak [.int x, .int y, .int z] s (th (th (nF (zC s) x) (outN y 0 100)) (othN z 1)) (v_peak (zC s) x y z) := by
  intro h k I hr hv
  have w := pw I.1
  rw [c_P_peak]
  refine ⟨w.1, ?_⟩
  rw [s_P_noFamilyAhead I]
  simp only [s_P_otherThan]
  refine th_if (X := fun t => wp m_P_peak h 20 [some (.ref 2), some (.int x), some (.int y), some (.int z), some (.int t), none, none, none] [] (tyI k)) ?_
  rw [e_P_peak_20]
  by_cases c : th (th (nF (zC s) x) (outN y 0 100)) (othN z 1) = 0
  · have c1 := th_0.mp (th_0.mp c).1
    obtain ⟨f, hf, rfl⟩ := nF_0 (okf o) c1.1
    obtain ⟨n, hn, rfl, _, hn2⟩ := outN_0 (lo := 0) (hi := 100) (by decide) c1.2
    have h5 := okf o
    have hv' := hv c
    unfold v_peak at hv'
    rw [ix_nI (show f < 2 ^ 31 by omega), ix_nI hn] at hv'
    rw [if_pos c]
    generalize th (th (nF (zC s) (nI f)) (outN (nI n) 0 100)) (othN z 1) = t
    simp only [w, true_and]
    rw [Led_at (PL I) (by omega)]
    simp only [w, true_and]
    refine t_im_copy I (FT_refl h) hf fun h2 F2 e2 _ => ?_
    have w2 := pw (IP_FT I F2).1
    simp only [w2, true_and]
    rw [(e2 1 (by decide)).trans (fz_e _ 1 (by decide))]
    refine hp (A := fun j h' => FT h h' ∧ Ew 7 (gI h' 119) (rYears (Cr (zC s)) (Cy (zC s)) j (fz (Cm (zC s) f)))) (X := fun j h' => wp m_P_peak h' 62 [some (.ref 2), some (.int (nI f)), some (.int (nI n)), some (.int z), some (.int t), some (.int (pkN (zC s) f j).1), some (.int (pkN (zC s) f j).2), some (.int (nI (j + 1)))] [] (tyI k)) n ?_ ?_ 0 (Nat.zero_le _) h2 ⟨F2, e2⟩
    · intro h' ⟨F', e'⟩
      rw [e_P_peak_62, if_pos (nI_lt (by omega) (by omega)), e_P_peak_134, e_P_peak_134]
      by_cases d : z = 0
      · rw [if_neg (fun q => q d)]
        rw [if_pos d] at hv'
        exact hv' h' F'
      · rw [if_pos d]
        rw [if_neg d] at hv'
        exact hv' h' F'
    · intro j hj h' ⟨F', e'⟩ ih
      have I' := IP_FT I F'
      have w' := pw I'.1
      rw [e_P_peak_62, if_neg (nI_nlt (by omega) (by omega))]
      simp only [w', true_and]
      rw [(PL I').2.2.1.2.2.1, (PL I').2.2.1.2.2.2]
      refine t_im_year I F' e' fun h3 F3 e3 => ?_
      have w3 := pw (IP_FT I F3).1
      have e3' : Ew 7 (gI h3 119) (rYears (Cr (zC s)) (Cy (zC s)) (j + 1) (fz (Cm (zC s) f))) := e3
      have hd : gI h3 119 1 = Cm (goC (j + 1) (zC s)) f 1 := e4_go e3' 1 (by decide)
      have ih' := ih h3 ⟨F3, e3'⟩
      simp only [w3, true_and]
      rw [hd]
      simp only [e_P_peak_117, nI_1]
      simp only [pkN] at ih'
      by_cases d : Cm (goC (j + 1) (zC s)) f 1 ≤ (pkN (zC s) f j).1
      · rw [if_pos d]; rw [if_pos d] at ih'; exact ih'
      · rw [if_neg d]; rw [if_neg d] at ih'; exact ih'
  · rw [if_neg c]
    exact ⟨w.1, hr c h (FT_refl h)⟩
theorem t_P_interest (o : okS s) (x y : Int32) : PQ m_P_interest [.int x, .int y] s (th (nF (zC s) x) (outN y 0 100)) (rYears (Cr (zC s)) (Cy (zC s)) (ix y) (fz (Cm (zC s) (ix x))) 4) := by
  intro h k I hr hv
  have w := pw I.1
  rw [c_P_interest]
  refine ⟨w.1, ?_⟩
  rw [s_P_noFamilyAhead I]
  by_cases c : th (nF (zC s) x) (outN y 0 100) = 0
  · have c1 := th_0.mp c
    obtain ⟨f, hf, rfl⟩ := nF_0 (okf o) c1.1
    obtain ⟨n, hn, rfl, _, hn2⟩ := outN_0 (lo := 0) (hi := 100) (by decide) c1.2
    have h5 := okf o
    have hv' := hv c
    rw [ix_nI (show f < 2 ^ 31 by omega), ix_nI hn] at hv'
    rw [if_pos c]
    refine ⟨w.1, t_P_ahead I (FT_refl h) hf (by omega) fun h' F' e' _ => ?_⟩
    have w' := pw (IP_FT I F').1
    simp only [w', true_and]
    rw [e' 4 (by decide)]
    exact hv' h' F'
  · rw [if_neg c]
    exact ⟨w.1, hr c h (FT_refl h)⟩
theorem dbl_pos {x : Int32} (b : bd x 0 99999) : (2 * x ≤ 0) ↔ (x ≤ 0) := by
  obtain ⟨d, rfl, _, h2⟩ := bd_of b
  rw [show (2 : Int32) = nI 2 from rfl, nI_mul, show (0 : Int32) = nI 0 from rfl, nI_leI (by omega) (by decide), nI_leI (by omega) (by decide)]
  omega
theorem t_P_doubled (o : okS s) (x : Int32) : PQ m_P_doubled [.int x] s (nF (zC s) x) (v_doubled (zC s) (ix x)) := by
  intro h k I hr hv
  have w := pw I.1
  have L := PL I
  rw [c_P_doubled]
  simp only [w, true_and]
  rw [s_Ledger_lacksFamily L.1 L.2.2.1.1]
  simp only [w, true_and]
  show if nF (zC s) x = 0 then _ else ccI m_P_refused h [.ref 2, .int (nF (zC s) x)] k
  by_cases c : nF (zC s) x = 0
  · obtain ⟨f, hf, rfl⟩ := nF_0 (okf o) c
    have h5 := okf o
    have hv' := hv c
    rw [ix_nI (show f < 2 ^ 31 by omega)] at hv'
    rw [if_pos c, Led_at L (by omega)]
    simp only [w, true_and]
    refine t_im_copy I (FT_refl h) hf fun h2 F2 e2 _ => ?_
    have w2 := pw (IP_FT I F2).1
    simp only [w2, true_and]
    rw [(e2 1 (by decide)).trans (fz_e _ 1 (by decide))]
    have b := (o.1.1.2.2.1 f hf).2.1
    show wp m_P_doubled h2 47 [some (.ref 2), some (.int (nI f)), some (.int (nF (zC s) (nI f))), some (.int (2 * Cm (zC s) f 1)), some (.int 1)] [] (tyI k)
    generalize nF (zC s) (nI f) = t
    unfold v_doubled at hv'
    by_cases d0 : Cm (zC s) f 1 ≤ 0
    · rw [if_pos d0] at hv'
      rw [e_P_doubled_47, if_pos ((dbl_pos b).mpr d0), e_P_doubled_102]
      exact hv' h2 F2
    · rw [if_neg d0] at hv'
      have d0' : ¬ 2 * Cm (zC s) f 1 ≤ 0 := fun z => d0 ((dbl_pos b).mp z)
      generalize hp' : (fun n => decide (¬ Cm (goC n (zC s)) f 1 < 2 * Cm (zC s) f 1)) = p at hv'
      generalize hV : fstF p 1 100 = V at hv'
      refine hp (A := fun j h' => FT h h' ∧ Ew 7 (gI h' 119) (rYears (Cr (zC s)) (Cy (zC s)) j (fz (Cm (zC s) f))) ∧ fstF p (j + 1) (101 - (j + 1)) = V) (X := fun j h' => wp m_P_doubled h' 47 [some (.ref 2), some (.int (nI f)), some (.int t), some (.int (2 * Cm (zC s) f 1)), some (.int (nI (j + 1)))] [] (tyI k)) 100 ?_ ?_ 0 (Nat.zero_le _) h2 ⟨F2, e2, hV⟩
      · intro h' ⟨F', e', hV'⟩
        rw [e_P_doubled_47, if_neg d0', if_pos (show (100 : Int32) < nI (100 + 1) by decide), e_P_doubled_102]
        have := hv' h' F'
        rw [← hV'] at this
        exact this
      · intro j hj h' ⟨F', e', hV'⟩ ih
        have I' := IP_FT I F'
        have w' := pw I'.1
        rw [e_P_doubled_47, if_neg d0', if_neg (show ¬ (100 : Int32) < nI (j + 1) from nI_nlt (a := 100) (by omega) (by decide))]
        simp only [w', true_and]
        rw [(PL I').2.2.1.2.2.1, (PL I').2.2.1.2.2.2]
        refine t_im_year I F' e' fun h3 F3 e3 => ?_
        have w3 := pw (IP_FT I F3).1
        have e3' : Ew 7 (gI h3 119) (rYears (Cr (zC s)) (Cy (zC s)) (j + 1) (fz (Cm (zC s) f))) := e3
        have hd : gI h3 119 1 = Cm (goC (j + 1) (zC s)) f 1 := e4_go e3' 1 (by decide)
        simp only [w3, true_and]
        rw [hd, nI_1]
        have hpj : p (j + 1) = decide (¬ Cm (goC (j + 1) (zC s)) f 1 < 2 * Cm (zC s) f 1) := by rw [← hp']
        rw [fstF_step p (show j + 1 < 101 by omega), hpj] at hV'
        by_cases d : Cm (goC (j + 1) (zC s)) f 1 < 2 * Cm (zC s) f 1
        · rw [if_pos d]
          rw [decide_eq_false (fun z => z d), if_neg (by decide)] at hV'
          exact ih h3 ⟨F3, e3', hV'⟩
        · rw [if_neg d]
          rw [decide_eq_true d, if_pos rfl] at hV'
          have := hv' h3 F3
          rw [← hV'] at this
          exact this
  · rw [if_neg c]
    exact hr c h (FT_refl h)
theorem t_P_bestBirths (o : okS s) (x y : Int32) : PQ m_P_bestBirths [.int x, .int y] s (th (nF (zC s) x) (outN y 0 100)) (v_births (zC s) (ix x) (ix y)) := by
  intro h k I hr hv
  have w := pw I.1
  rw [c_P_bestBirths]
  refine ⟨w.1, ?_⟩
  rw [s_P_noFamilyAhead I]
  by_cases c : th (nF (zC s) x) (outN y 0 100) = 0
  · have c1 := th_0.mp c
    obtain ⟨f, hf, rfl⟩ := nF_0 (okf o) c1.1
    obtain ⟨n, hn, rfl, _, hn2⟩ := outN_0 (lo := 0) (hi := 100) (by decide) c1.2
    have h5 := okf o
    have hv' := hv c
    rw [ix_nI (show f < 2 ^ 31 by omega), ix_nI hn] at hv'
    rw [if_pos c]
    generalize th (nF (zC s) (nI f)) (outN (nI n) 0 100) = t
    unfold v_births at hv'
    generalize hg : (fun b => hoR (rYears (Cr (zC s)) (Cy (zC s)) n (rs (Cm (zC s) f) 3 (nI b)))) = g at hv'
    refine hp (A := fun j h' => FT h h') (X := fun j h' => wp m_P_bestBirths h' 27 [some (.ref 2), some (.int (nI f)), some (.int (nI n)), some (.int t), some (.int (mnF 0 2147483647 (fun _ => true) g j).1), some (.int (mnF 0 2147483647 (fun _ => true) g j).2), some (.int (nI j))] [] (tyI k)) 10 ?_ ?_ 0 (Nat.zero_le _) h (FT_refl h)
    · intro h' F'
      rw [e_P_bestBirths_27, if_pos (show (9 : Int32) < nI 10 by decide)]
      exact hv' h' F'
    · intro j hj h' F' ih
      have I' := IP_FT I F'
      have w' := pw I'.1
      have L' := PL I'
      rw [e_P_bestBirths_27, if_neg (show ¬ (9 : Int32) < nI j from nI_nlt (a := 9) (by omega) (by decide))]
      simp only [w', true_and]
      rw [Led_at L' (by omega)]
      simp only [w', true_and]
      refine t_im_copy I F' hf fun h2 F2 e2 _ => ?_
      have q2 := im_set F2 e2 3 (nI j)
      have w2 := pw (IP_FT I F2).1
      have I3 := IP_FT I q2.1
      have w3 := pw I3.1
      simp only [w2, w3, true_and]
      rw [(PL I3).2.2.1.2.2.1, (PL I3).2.2.1.2.2.2]
      refine t_im_years I q2.1 q2.2 (by omega) fun h4 F4 e4 _ => ?_
      have I4 := IP_FT I F4
      have w4 := pw I4.1
      have hgj : hoR (rYears (Cr (zC s)) (Cy (zC s)) n (rs (fz (Cm (zC s) f)) 3 (nI j))) = g j := by
        rw [← hg]
        exact hoR_e (rYears_e (Ew_rs (fz_e _) 3 rfl) _ _ (Or.inl rfl) n)
      simp only [w4, true_and]
      rw [s_im_head I4 e4]
      simp only [w4, true_and]
      rw [s_im_head I4 e4, hgj]
      have ih' := ih h4 F4
      simp only [mnF, mnU, true_and] at ih'
      simp only [e_P_bestBirths_105, nI_1]
      by_cases d : g j < (mnF 0 2147483647 (fun _ => true) g j).2
      · rw [if_neg (Int32.not_le.mpr d)]
        rw [if_pos d] at ih'
        exact ih'
      · rw [if_pos (Int32.not_lt.mp d)]
        rw [if_neg d] at ih'
        exact ih'
  · rw [if_neg c]
    exact ⟨w.1, hr c h (FT_refl h)⟩
theorem t_P_half (o : okS s) : PQ m_P_half [] s 0 (v_half (zC s)) := by
  intro h k I _ hv
  have hv' := hv rfl
  have w := pw I.1
  rw [c_P_half]
  simp only [w, true_and]
  refine t_mind_copy I (FT_refl h) fun h1 F1 L1 _ => ?_
  have w1 := pw (IP_FT I F1).1
  simp only [w1, true_and]
  rw [u_Ledger_allDebts L1]
  unfold v_half at hv'
  generalize hp' : (fun n => decide (¬ debtsC (zC s) < 2 * debtsC (goC n (zC s)))) = p at hv'
  generalize hV : fstF p 0 101 = V at hv'
  refine hp (A := fun j h' => FT h h' ∧ Led h' 13 (goC j (zC s)) ∧ fstF p j (101 - j) = V) (X := fun j h' => wp m_P_half h' 21 [some (.ref 2), some (.int (debtsC (zC s))), some (.int (nI j))] [] (tyI k)) 101 ?_ ?_ 0 (Nat.zero_le _) h1 ⟨F1, by rw [goC_0]; exact L1, hV⟩
  · intro h' ⟨F', _, hV'⟩
    rw [e_P_half_21, if_pos (show (100 : Int32) < nI 101 by decide)]
    have := hv' h' F'
    rw [← hV'] at this
    exact this
  · intro j hj h' ⟨F', L', hV'⟩ ih
    have w' := pw (IP_FT I F').1
    rw [e_P_half_21, if_neg (show ¬ (100 : Int32) < nI j from nI_nlt (a := 100) (by omega) (by decide))]
    simp only [w', true_and]
    rw [u_Ledger_allDebts L']
    simp only [w', true_and]
    have hpj : p j = decide (¬ debtsC (zC s) < 2 * debtsC (goC j (zC s))) := by rw [← hp']
    rw [fstF_step p hj, hpj] at hV'
    by_cases d : debtsC (zC s) < 2 * debtsC (goC j (zC s))
    · rw [if_pos d]
      rw [decide_eq_false (fun z => z d), if_neg (by decide)] at hV'
      refine t_mind_year F' L' fun h2 F2 L2 => ?_
      rw [nI_1]
      rw [goC_1] at L2
      exact ih h2 ⟨F2, L2, hV'⟩
    · rw [if_neg d]
      rw [decide_eq_true d, if_pos rfl] at hV'
      have := hv' h' F'
      rw [← hV'] at this
      exact this
theorem t_P_crosses (o : okS s) (x y : Int32) : PQ m_P_crosses [.int x, .int y] s (nTwo (zC s) x y) (v_crosses (zC s) (ix x) (ix y)) := by
  intro h k I hr hv
  have w := pw I.1
  have L := PL I
  rw [c_P_crosses]
  simp only [w, true_and]
  rw [s_Ledger_lacksTwo L.1 L.2.2.1.1]
  simp only [w, true_and]
  show if nTwo (zC s) x y = 0 then _ else ccI m_P_refused h [.ref 2, .int (nTwo (zC s) x y)] k
  by_cases c : nTwo (zC s) x y = 0
  · obtain ⟨f, g, hf, hg, _, rfl, rfl⟩ := nTwo_0 (okf o) c
    have h5 := okf o
    have hv' := hv c
    rw [ix_nI (show f < 2 ^ 31 by omega), ix_nI (show g < 2 ^ 31 by omega)] at hv'
    rw [if_pos c]
    refine t_mind_copy I (FT_refl h) fun h1 F1 L1 _ => ?_
    show wp m_P_crosses h1 34 [some (.ref 2), some (.int (nI f)), some (.int (nI g)), some (.int (nTwo (zC s) (nI f) (nI g))), some (.int 0)] [] (tyI k)
    generalize nTwo (zC s) (nI f) (nI g) = t
    unfold v_crosses at hv'
    generalize hp' : (fun n => decide (¬ hoR (Cm (goC n (zC s)) g) ≤ hoR (Cm (goC n (zC s)) f))) = p at hv'
    generalize hV : fstF p 0 101 = V at hv'
    refine hp (A := fun j h' => FT h h' ∧ Led h' 13 (goC j (zC s)) ∧ fstF p j (101 - j) = V) (X := fun j h' => wp m_P_crosses h' 34 [some (.ref 2), some (.int (nI f)), some (.int (nI g)), some (.int t), some (.int (nI j))] [] (tyI k)) 101 ?_ ?_ 0 (Nat.zero_le _) h1 ⟨F1, by rw [goC_0]; exact L1, hV⟩
    · intro h' ⟨F', _, hV'⟩
      rw [e_P_crosses_34, if_pos (show (100 : Int32) < nI 101 by decide)]
      have := hv' h' F'
      rw [← hV'] at this
      exact this
    · intro j hj h' ⟨F', L', hV'⟩ ih
      have w' := pw (IP_FT I F').1
      rw [e_P_crosses_34, if_neg (show ¬ (100 : Int32) < nI j from nI_nlt (a := 100) (by omega) (by decide))]
      simp only [w', true_and]
      rw [Led_at L' (by omega)]
      simp only [Led_tgf L' (show f < 5 by omega), true_and]
      rw [s_mind_head L' hf]
      simp only [w', true_and]
      rw [Led_at L' (by omega)]
      simp only [Led_tgf L' (show g < 5 by omega), true_and]
      rw [s_mind_head L' hg]
      simp only [w', true_and]
      have hpj : p j = decide (¬ hoR (Cm (goC j (zC s)) g) ≤ hoR (Cm (goC j (zC s)) f)) := by rw [← hp']
      rw [fstF_step p hj, hpj] at hV'
      by_cases d : hoR (Cm (goC j (zC s)) g) ≤ hoR (Cm (goC j (zC s)) f)
      · rw [if_pos d]
        rw [decide_eq_false (fun z => z d), if_neg (by decide)] at hV'
        refine t_mind_year F' L' fun h2 F2 L2 => ?_
        rw [nI_1]
        rw [goC_1] at L2
        exact ih h2 ⟨F2, L2, hV'⟩
      · rw [if_neg d]
        rw [decide_eq_true d, if_pos rfl] at hV'
        have := hv' h' F'
        rw [← hV'] at this
        exact this
  · rw [if_neg c]
    exact hr c h (FT_refl h)
end P3
