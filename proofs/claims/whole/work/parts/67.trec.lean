/-! ===== the reference: a statement comes; treasuries ===== -/
theorem ge1 {x : Int32} (h : 1 ≤ x) : ¬ x < 1 := Int32.not_lt.mpr h
theorem fam_no {c : Core} {a b d : Int32} (hb : bd b 0 9) (hd : bd d 0 9) (e : noFam c a b d ≠ 0) : ¬ (1 ≤ a ∧ a ≤ 20) ∨ Cf c = 5 := by
  by_cases q : 1 ≤ a ∧ a ≤ 20
  · by_cases y : Cf c = 5
    · exact Or.inr y
    · exfalso
      apply e
      obtain ⟨m, rfl, _, m2⟩ := bd_of hb
      obtain ⟨n, rfl, _, n2⟩ := bd_of hd
      unfold noFam
      rw [if_neg (fun z => z.elim (ge1 q.1) (fun z => z.elim (nI_pos (by omega)) (nI_pos (by omega)))), if_neg (fun z => z.elim (Int32.not_lt.mpr q.2) (fun z => z.elim (nI_nlt (a := 9) (by omega) (by decide)) (fun z => z.elim (nI_nlt (a := 9) (by omega) (by decide)) y)))]
  · exact Or.inl q
theorem wk_no {c : Core} {a b d : Int32} (ha : bd a 0 9) (hb : bd b 0 9) (hd : bd d 0 999) (e : noWork c a b d ≠ 0) : (6 ≤ a ∨ d ≤ 0) ∨ Cw c = 6 := by
  by_cases q : 6 ≤ a ∨ d ≤ 0
  · exact Or.inl q
  · by_cases y : Cw c = 6
    · exact Or.inr y
    · exfalso
      apply e
      obtain ⟨l, rfl, _, l2⟩ := bd_of ha
      obtain ⟨m, rfl, _, m2⟩ := bd_of hb
      obtain ⟨n, rfl, _, n2⟩ := bd_of hd
      have l6 : l < 6 := Nat.lt_of_not_le fun z => q (Or.inl (nI_le (a := 6) z (by omega)))
      have n1 : 1 ≤ n := Nat.one_le_iff_ne_zero.mpr fun z => q (Or.inr (by rw [z]; exact Int32.le_refl _))
      unfold noWork othN
      rw [if_neg (show ¬ (nI l < 0 ∨ 5 < nI l) from fun z => z.elim (nI_pos (by omega)) (nI_nlt (a := 5) (by omega) (by decide))), if_neg (fun z => z rfl), if_neg (fun z => z.elim (nI_pos (by omega)) (show ¬ nI n < 1 from nI_nlt (b := 1) n1 (by omega))), if_neg (fun z => z.elim (nI_nlt (a := 9) (by omega) (by decide)) (fun z => z.elim (nI_nlt (a := 999) (by omega) (by decide)) y))]
section TreC
variable {h h' h0 h1 h2 h3 : PH} {s : Sta} {t : Nat × Row} {p : Nat} {z : Zl}
theorem t_comes (o : okS s) (t' : TK s h0 h z.1) (B : ∀ w, w < Cw z.1 → gI h 131 w = bF z.2 w) (oz : okZ z) {j : Nat} (hj : j ≤ 33) (r138 : gI h 138 j = ltA t p) (ar : argsT (ltA t) (ltA t p) (p + 1) (gI h 139) (3 * j)) (g : gdS (ltA t) p = true) {k : PH → Int32 → Prop}
    (hk0 : noSt (ltA t) z p ≠ 0 → ∀ h' c', TK s h0 h' c' → Gk h h' → k h' 0)
    (hk1 : noSt (ltA t) z p = 0 → ∀ h', TK s h0 h' (nxZ (ltA t) z p).1 → (∀ w, w < Cw (nxZ (ltA t) z p).1 → gI h' 131 w = bF (nxZ (ltA t) z p).2 w) → Gk h h' → k h' 1) : ccI m_Q_comesTold h [.ref 123, .int (nI j)] k := by
  have w := qw t'.2.1.1
  have L := t'.2.1
  have h5 := oz.1.1.1
  have h6 := oz.1.1.2
  have n3 : 3 * nI j = nI (3 * j) := nI_mul 3 j
  have n31 : nI (3 * j) + 1 = nI (3 * j + 1) := nI_1 _
  have n32 : nI (3 * j) + 2 = nI (3 * j + 2) := by rw [show (2 : Int32) = nI 2 from rfl, nI_add]
  have gd := of_decide_eq_true g
  have Dq : ∀ d o, o + d ≤ dgN (ltA t p) → d ≤ 6 → bd (nuI (ltA t) d (p + 1 + o) 0) 0 (10 ^ d - 1) := fun d o h hd => nuI_0 (fun i hi => by rw [Nat.add_assoc (p + 1)]; exact dgE_all gd.2.1 (o + i) (by omega)) hd
  have gk0 : Gk h h := ⟨rfl, rfl, rfl, rfl⟩
  have no0 : noSt (ltA t) z p ≠ 0 → k h 0 := fun e => hk0 e h z.1 t' gk0
  rw [c_Q_comesTold]
  simp only [w, true_and, true_or, n3, n31, n32, b147 (show 3 * j < 147 by omega), b147 (show 3 * j + 1 < 147 by omega), b147 (show 3 * j + 2 < 147 by omega), b49 (show j < 49 by omega), ix_nI (show 3 * j < 2 ^ 31 by omega), ix_nI (show 3 * j + 1 < 2 ^ 31 by omega), ix_nI (show 3 * j + 2 < 2 ^ 31 by omega), ix_nI (show j < 2 ^ 31 by omega), r138]
  rw [e_Q_comesTold_41]
  simp only [e_Q_comesTold_116, e_Q_comesTold_117, e_Q_comesTold_132, e_Q_comesTold_159, e_Q_comesTold_160, e_Q_comesTold_175, e_Q_comesTold_199, e_Q_comesTold_200, e_Q_comesTold_212, e_Q_comesTold_231, e_Q_comesTold_260, e_Q_comesTold_261, e_Q_comesTold_273, e_Q_comesTold_295]
  have n10 : ¬ (1 : Int32) = 0 := by decide
  simp only [n10, if_true, if_false, true_or, or_true, true_and]
  unfold argsT at ar
  by_cases c1 : ltA t p = 98
  · have e1 : noSt (ltA t) z p = noB z (nuI (ltA t) 1 (p + 1) 0) := by unfold noSt; rw [if_pos c1]
    have e2 : nxZ (ltA t) z p = (chargeC z.1 (Ck z.1 (ix (nuI (ltA t) 1 (p + 1) 0))), z.2 ++ [ix (nuI (ltA t) 1 (p + 1) 0)]) := by unfold nxZ; rw [if_pos c1]
    rw [e1] at no0 hk1
    rw [e2] at hk1
    rw [if_pos c1] at ar
    rw [if_pos c1, ar, s_Q_isWork L]
    generalize nuI (ltA t) 1 (p + 1) 0 = a at no0 hk1 ⊢
    by_cases d : offN a (Cw z.1)
    · rw [if_pos d, if_pos rfl]
      exact ⟨L.1.1, no0 (by unfold noB; rw [if_pos d]; decide)⟩
    · obtain ⟨v, hv, rfl⟩ := on_nI (by omega) d
      rw [if_neg d, if_neg (by decide)]
      rw [ix_nI (by omega)] at hk1
      simp only [w, true_and, true_or, b6 (show v < 6 by omega), ix_nI (show v < 2 ^ 31 by omega), B v hv]
      have hlB : z.2.length ≤ 6 := Nat.le_trans (okB_len oz.2) h6
      by_cases e : v ∈ z.2
      · rw [if_pos (fun q => (bF_0 hlB v).mp q e)]
        exact no0 (by unfold noB; rw [if_neg d, ix_nI (by omega), if_pos e]; decide)
      · rw [if_neg (fun q => q ((bF_0 hlB v).mpr e))]
        refine t_Q_build L oz.1 hv fun h2 fr L2 e3 => ?_
        refine hk1 (by unfold noB; rw [if_neg d, ix_nI (by omega), if_neg e]) h2 ⟨Fs_trans t'.1 (Fs_mono fr (fun b j x => by unfold Tq; omega)), L2, Kp_fs t'.2.2 fr (fun j x => by omega)⟩ (fun v' hv' => ?_) (gk_fs fr (fun b j x => by omega))
        show gI h2 131 v' = bF (z.2 ++ [v]) v'
        have hv' : v' < Cw z.1 := hv'
        rw [bF_app e]
        by_cases y : v' = v
        · subst y
          rw [if_pos rfl, e3, lastN_c (fun i hi => B i hi), lastN_bF oz.2 h6, nI_1]
        · rw [if_neg y, fr.2.2.2 131 v' (by omega)]
          exact B v' hv'
  rw [if_neg c1] at ar ⊢
  by_cases c3 : ltA t p = 102
  · have c2 : ¬ ltA t p = 100 := by rw [c3]; decide
    have hd4 : dgN (ltA t p) = 4 := by unfold dgN; rw [if_neg c1, if_neg c2, if_pos c3]
    have e1 : noSt (ltA t) z p = noFam z.1 (nuI (ltA t) 2 (p + 1) 0) (nuI (ltA t) 1 (p + 3) 0) (nuI (ltA t) 1 (p + 4) 0) := by unfold noSt; rw [if_neg c1, if_neg c2, if_pos c3]
    have e2 : nxZ (ltA t) z p = (addFam z.1 (nuI (ltA t) 2 (p + 1) 0) (nuI (ltA t) 1 (p + 3) 0) (nuI (ltA t) 1 (p + 4) 0), z.2) := by unfold nxZ; rw [if_neg c1, if_neg c2, if_pos c3]
    rw [e1] at no0 hk1
    rw [e2] at hk1
    rw [if_neg c2, if_pos c3] at ar
    have hb : bd (nuI (ltA t) 1 (p + 3) 0) 0 9 := Dq 1 2 (by omega) (by omega)
    have hd : bd (nuI (ltA t) 1 (p + 4) 0) 0 9 := Dq 1 3 (by omega) (by omega)
    have ar2 : gI h 139 (3 * j + 1) = nuI (ltA t) 1 (p + 3) 0 := ar.2.1
    have ar3 : gI h 139 (3 * j + 2) = nuI (ltA t) 1 (p + 4) 0 := ar.2.2
    rw [if_pos c3, ar.1, ar2, ar3, s_Q_inI h (lo := 1) (hi := 20) (by decide) (by decide), L.2.2.1.1]
    generalize nuI (ltA t) 2 (p + 1) 0 = a at no0 hk1 ⊢
    by_cases e : noFam z.1 a (nuI (ltA t) 1 (p + 3) 0) (nuI (ltA t) 1 (p + 4) 0) = 0
    · obtain ⟨q1, _, _, q4⟩ := noFam_0 e
      obtain ⟨n, rfl, n1, n2⟩ := bd_of q1
      rw [if_pos (show (1 : Int32) ≤ nI n ∧ nI n ≤ 20 from ⟨nI_le (a := 1) n1 (by omega), nI_le (b := 20) n2 (by decide)⟩), if_neg (by decide), if_neg (show ¬ (5 : Int32) ≤ nI (Cf z.1) from nI_ge (b := 5) (by omega) (by decide))]
      refine ⟨L.1.1, L.1.1, t_Q_familyComes L (by omega) _ _ _ fun h2 fr L2 => ?_⟩
      refine hk1 e h2 ⟨Fs_trans t'.1 (Fs_mono fr (fun b j x => by unfold Tq; omega)), L2, Kp_fs t'.2.2 fr (fun j x => by omega)⟩ (fun v hv => ?_) (gk_fs fr (fun b j x => by omega))
      rw [fr.2.2.2 131 v (by omega)]; exact B v hv
    · rcases fam_no hb hd e with q | q
      · rw [if_neg q, if_pos rfl]
        exact no0 e
      · by_cases q2 : 1 ≤ a ∧ a ≤ 20
        · rw [if_pos q2, if_neg (by decide), q, if_pos (by decide)]
          exact ⟨L.1.1, no0 e⟩
        · rw [if_neg q2, if_pos rfl]
          exact no0 e
  rw [if_neg c3]
  by_cases c4 : ltA t p = 114
  · have c2 : ¬ ltA t p = 100 := by rw [c4]; decide
    have c5 : ¬ ltA t p = 119 := by rw [c4]; decide
    have hd2 : dgN (ltA t p) = 2 := by unfold dgN; rw [if_neg c1, if_neg c2, if_neg c3, if_pos c4]
    have e1 : noSt (ltA t) z p = outN (nuI (ltA t) 2 (p + 1) 0) 0 20 := by unfold noSt; rw [if_neg c1, if_neg c2, if_neg c3, if_pos c4]
    have e2 : nxZ (ltA t) z p = (cR z.1 (nuI (ltA t) 2 (p + 1) 0), z.2) := by unfold nxZ; rw [if_neg c1, if_neg c2, if_neg c3, if_pos c4]
    rw [e1] at hk0 hk1
    rw [e2] at hk1
    rw [if_neg c2, if_neg c3, if_neg c5] at ar
    have ha : bd (nuI (ltA t) 2 (p + 1) 0) 0 99 := Dq 2 0 (by omega) (by omega)
    rw [if_pos c4, ar]
    generalize nuI (ltA t) 2 (p + 1) 0 = a at ha hk0 hk1 ⊢
    obtain ⟨n, rfl, _, n2⟩ := bd_of ha
    have gk1 : Gk h (sI h 123 5 (nI n)) := gk_fs (S := fun b j => b = 123 ∧ j = 5) (Fs_sI _ _ _ _ ⟨rfl, rfl⟩) (fun b j x => by omega)
    have T1 := TK_rate t' (nI n)
    refine ⟨L.1.1, ?_⟩
    unfold outN at hk0 hk1
    rw [if_neg (nI_pos (by omega))] at hk0 hk1
    by_cases y : 20 < nI n
    · rw [if_pos y] at hk0 ⊢
      exact hk0 (by decide) _ _ T1 gk1
    · rw [if_neg y] at hk1 ⊢
      exact hk1 rfl _ T1 (fun v hv => by rw [gI_sI_ne _ _ _ _ (by omega)]; exact B v hv) gk1
  rw [if_neg c4]
  by_cases c5 : ltA t p = 119
  · have c2 : ¬ ltA t p = 100 := by rw [c5]; decide
    have hd5 : dgN (ltA t p) = 5 := by unfold dgN; rw [if_neg c1, if_neg c2, if_neg c3, if_neg c4, if_pos c5]
    have e1 : noSt (ltA t) z p = noWork z.1 (nuI (ltA t) 1 (p + 1) 0) (nuI (ltA t) 1 (p + 2) 0) (nuI (ltA t) 3 (p + 3) 0) := by unfold noSt; rw [if_neg c1, if_neg c2, if_neg c3, if_neg c4, if_pos c5]
    have e2 : nxZ (ltA t) z p = (addWork z.1 (wkRow (nuI (ltA t) 1 (p + 1) 0) (nuI (ltA t) 1 (p + 2) 0) (nuI (ltA t) 3 (p + 3) 0)), z.2) := by unfold nxZ; rw [if_neg c1, if_neg c2, if_neg c3, if_neg c4, if_pos c5]
    rw [e1] at no0 hk1
    rw [e2] at hk1
    rw [if_neg c2, if_neg c3, if_pos c5] at ar
    have ha : bd (nuI (ltA t) 1 (p + 1) 0) 0 9 := Dq 1 0 (by omega) (by omega)
    have hb : bd (nuI (ltA t) 1 (p + 2) 0) 0 9 := Dq 1 1 (by omega) (by omega)
    have hd : bd (nuI (ltA t) 3 (p + 3) 0) 0 999 := Dq 3 2 (by omega) (by omega)
    have ar2 : gI h 139 (3 * j + 1) = nuI (ltA t) 1 (p + 2) 0 := ar.2.1
    have ar3 : gI h 139 (3 * j + 2) = nuI (ltA t) 3 (p + 3) 0 := ar.2.2
    rw [if_pos c5, ar.1, ar2, ar3, L.2.2.1.2.1]
    generalize nuI (ltA t) 1 (p + 1) 0 = a at ha no0 hk1 ⊢
    generalize nuI (ltA t) 1 (p + 2) 0 = b at hb no0 hk1 ⊢
    generalize nuI (ltA t) 3 (p + 3) 0 = d at hd no0 hk1 ⊢
    by_cases e : noWork z.1 a b d = 0
    · obtain ⟨q1, _, q3, q4⟩ := noWork_0 e
      obtain ⟨l, rfl, _, l2⟩ := bd_of q1
      obtain ⟨n, rfl, n1, n2⟩ := bd_of q3
      rw [if_neg (show ¬ (6 : Int32) ≤ nI l from nI_ge (b := 6) (by omega) (by decide)), if_neg (nI_nle (by omega) (by omega)), if_neg (show ¬ (6 : Int32) ≤ nI (Cw z.1) from nI_ge (b := 6) (by omega) (by decide))]
      refine ⟨L.1.1, L.1.1, t_Q_workComes L (by omega) _ _ _ fun h2 fr L2 B2 => ?_⟩
      refine hk1 e h2 ⟨Fs_trans t'.1 (Fs_mono fr (fun b j x => by unfold Tq; omega)), L2, Kp_fs t'.2.2 fr (fun j x => by omega)⟩ (fun v hv => ?_) (gk_fs fr (fun b j x => by omega))
      have hv : v < Cw z.1 + 1 := hv
      show gI h2 131 v = bF z.2 v
      rw [B2 v]
      by_cases y : v = Cw z.1
      · rw [if_pos y]
        unfold bF
        rw [if_neg (fun m => by have := oz.2.2 v m; omega)]
      · rw [if_neg y]; exact B v (by omega)
    · have fin := no0 e
      rcases wk_no ha hb hd e with (q | q) | q
      · rw [if_pos q]; exact fin
      · by_cases q2 : 6 ≤ a
        · rw [if_pos q2]; exact fin
        · rw [if_neg q2, if_pos q]; exact fin
      · by_cases q2 : 6 ≤ a
        · rw [if_pos q2]; exact fin
        · rw [if_neg q2]
          by_cases q3 : d ≤ 0
          · rw [if_pos q3]; exact fin
          · rw [if_neg q3, q, if_pos (by decide)]
            exact ⟨L.1.1, fin⟩
  rw [if_neg c5]
  by_cases c6 : ltA t p = 121
  · have c2 : ¬ ltA t p = 100 := by rw [c6]; decide
    have hd2 : dgN (ltA t p) = 2 := by unfold dgN; rw [if_neg c1, if_neg c2, if_neg c3, if_neg c4, if_neg c5, if_pos c6]
    have e1 : noSt (ltA t) z p = noY z.1 (nuI (ltA t) 2 (p + 1) 0) := by unfold noSt; rw [if_neg c1, if_neg c2, if_neg c3, if_neg c4, if_neg c5]
    have e2 : nxZ (ltA t) z p = (goC (ix (nuI (ltA t) 2 (p + 1) 0)) z.1, z.2) := by unfold nxZ; rw [if_neg c1, if_neg c2, if_neg c3, if_neg c4, if_neg c5]
    rw [e1] at no0 hk1
    rw [e2] at hk1
    rw [if_neg c2, if_neg c3, if_neg c5] at ar
    rw [if_pos c6, ar, s_Q_inI h (lo := 1) (hi := 60) (by decide) (by decide), L.2.2.1.2.2.1]
    generalize nuI (ltA t) 2 (p + 1) 0 = a at no0 hk1 ⊢
    unfold noY outN at no0 hk1
    by_cases y1 : a < 1
    · rw [if_pos y1] at no0
      rw [if_neg (show ¬ (1 ≤ a ∧ a ≤ 60) from fun q => ge1 q.1 y1), if_pos rfl]
      exact no0 (by rw [if_neg (by decide)]; decide)
    rw [if_neg y1] at no0 hk1
    by_cases y2 : 60 < a
    · rw [if_pos y2] at no0
      rw [if_neg (show ¬ (1 ≤ a ∧ a ≤ 60) from fun q => Int32.not_lt.mpr q.2 y2), if_pos rfl]
      exact no0 (by rw [if_neg (by decide)]; decide)
    rw [if_neg y2] at no0 hk1
    rw [if_pos rfl] at no0 hk1
    rw [if_pos (show 1 ≤ a ∧ a ≤ 60 from ⟨Int32.not_lt.mp y1, Int32.not_lt.mp y2⟩), if_neg (by decide)]
    by_cases y3 : Cy z.1 + a ≤ 999
    · rw [if_pos y3] at hk1
      rw [if_neg (Int32.not_lt.mpr y3)]
      obtain ⟨n, hn, rfl⟩ := nI_of (x := a) (fun q => y1 (Int32.lt_of_lt_of_le q (by decide)))
      have n60 : n ≤ 60 := Nat.le_of_not_lt fun q => y2 (nI_lt (a := 60) q hn)
      rw [ix_nI hn] at hk1
      refine ⟨L.1.1, L.1.1, t_go t' oz.1 (by omega) fun h2 T2 fr _ _ => ?_⟩
      exact hk1 rfl h2 T2 (fun v hv => by rw [fr.2.2.2 131 v (by unfold SY; omega)]; exact B v hv) (gk_fs fr (fun b j x => by unfold SY at x; omega))
    · rw [if_neg y3] at no0
      rw [if_pos (Int32.not_le.mp y3)]
      exact ⟨L.1.1, no0 (by decide)⟩
  rw [if_neg c6]
  have c2 : ltA t p = 100 := by
    by_cases c2 : ltA t p = 100
    · exact c2
    · exfalso
      have := gd.1
      unfold dgN at this
      rw [if_neg c1, if_neg c2, if_neg c3, if_neg c4, if_neg c5, if_neg c6] at this
      exact this rfl
  have hd6 : dgN (ltA t p) = 6 := by unfold dgN; rw [if_neg c1, if_pos c2]
  have e1 : noSt (ltA t) z p = noD z.1 (nuI (ltA t) 1 (p + 1) 0) (nuI (ltA t) 5 (p + 2) 0) := by unfold noSt; rw [if_neg c1, if_pos c2]
  have e2 : nxZ (ltA t) z p = (cM z.1 (setM (Cm z.1) (ix (nuI (ltA t) 1 (p + 1) 0)) (rs (Cm z.1 (ix (nuI (ltA t) 1 (p + 1) 0))) 1 (nuI (ltA t) 5 (p + 2) 0))), z.2) := by unfold nxZ; rw [if_neg c1, if_pos c2]
  rw [e1] at no0 hk1
  rw [e2] at hk1
  rw [if_pos c2] at ar
  have hb : bd (nuI (ltA t) 5 (p + 2) 0) 0 99999 := Dq 5 1 (by omega) (by omega)
  have ar2 : gI h 139 (3 * j + 1) = nuI (ltA t) 5 (p + 2) 0 := ar.2
  rw [ar.1, ar2, s_Q_isFamily L]
  generalize nuI (ltA t) 1 (p + 1) 0 = a at no0 hk1 ⊢
  generalize nuI (ltA t) 5 (p + 2) 0 = b at hb no0 hk1 ⊢
  refine ⟨L.1.1, ?_⟩
  by_cases d : offN a (Cf z.1)
  · rw [if_pos d, if_pos rfl]
    exact ⟨Or.inl rfl, no0 (by unfold noD; rw [if_pos d]; decide)⟩
  · obtain ⟨f, hf, rfl⟩ := on_nI (by omega) d
    rw [if_neg d, if_neg (by decide)]
    rw [ix_nI (by omega)] at hk1
    simp only [w, true_and, b5 (show f < 5 by omega), ix_nI (show f < 2 ^ 31 by omega)]
    obtain ⟨m, rfl, _, m2⟩ := bd_of hb
    have e0 : noD z.1 (nI f) (nI m) = 0 := by
      unfold noD outN
      rw [if_neg d, if_neg (nI_pos (by omega)), if_neg (show ¬ (99999 : Int32) < nI m from nI_nlt (a := 99999) (by omega) (by decide))]
    refine ⟨Or.inr trivial, hk1 e0 _ (TK_debt t' hf (rs_ne _ _ (by decide)) (rs_eq _ _ _) (rs_ne _ _ (by decide)) (rs_ne _ _ (by decide))) (fun v hv => ?_) (gk_fs (S := fun b j => b = 125) (Fs_sI _ _ _ _ rfl) (fun b j x => by omega))⟩
    rw [gI_sI_ne _ _ _ _ (by omega)]; exact B v hv
theorem t_Q_treasury (o : okS s) : QO m_Q_treasury [] s (r_treasury s) := by
  intro h k I hk
  rw [c_Q_treasury]
  have I1 := IQ_12 I
  have P1 := KP_12 h
  refine ⟨I.1.1.1, ?_⟩
  generalize sI h 123 12 0 = h1 at I1 P1 ⊢
  have hm := o.2.2.2.2.1
  have X1 : Qx h1 (zL s) := ⟨I1.1.1, I1.2.2.2.2.2.1.1, I1.2.2.2.2.2.1.2, hm⟩
  have fr0 : Fs PF h1 (sI (sI (sI h1 123 20 0) 123 21 0) 123 22 0) := Fs_trans (Fs_sI _ _ _ _ (by unfold PF; omega)) (Fs_trans (Fs_sI _ _ _ _ (by unfold PF; omega)) (Fs_sI _ _ _ _ (by unfold PF; omega)))
  have e20 : gI (sI (sI (sI h1 123 20 0) 123 21 0) 123 22 0) 123 20 = nI 0 := by rw [gI_sI_ne _ _ _ _ (by omega), gI_sI_ne _ _ _ _ (by omega), gI_sI_eq]; rfl
  have e21 : gI (sI (sI (sI h1 123 20 0) 123 21 0) 123 22 0) 123 21 = bdI false := by rw [gI_sI_ne _ _ _ _ (by omega), gI_sI_eq]; rfl
  have e22 : gI (sI (sI (sI h1 123 20 0) 123 21 0) 123 22 0) 123 22 = nI 0 := gI_sI_eq _ _ _ _
  refine ⟨I1.1.1.1, ⟨I1.1.1.1, Or.inl rfl⟩, I1.1.1.1, ?_⟩
  refine t_parse (h0 := h1) hm 97 0 _ (by omega) (Nat.le_refl 0) (Or.inl rfl) fr0 (Qx_fs X1 fr0 (fun b j z => z)) e20 e21 e22 (fun j hj => absurd hj (Nat.not_lt_zero _)) fun h2 fr2 pr => ?_
  have frq : Fs Tq h1 h2 := Fs_mono fr2 (fun b j x => by unfold PF at x; unfold Tq; omega)
  have I2 : IQ h2 s := IQ_Tq I1 frq (fun b j hb => fr2.2.2.2 b j (by unfold LRg at hb; unfold PF; omega))
  have P2 : KP h h2 := KP_trans P1 (KP_Tq frq)
  have o3 := okS_noL o
  have fr3 : Fs (fun b j => b = 136 ∨ (b = 123 ∧ j = 19)) h2 (sI h2 123 19 0) := Fs_sI _ _ _ _ (Or.inr ⟨rfl, rfl⟩)
  have I3 : IQ (sI h2 123 19 0) (noL s) := IQ_ltr I2 fr3 (gI_sI_eq _ _ _ _) (fun i hi => absurd hi (Nat.not_lt_zero _))
  have P3 : KP h (sI h2 123 19 0) := KP_trans P2 (KP_cell 123 19 0 (by omega))
  have m3 : ∀ m, m ≠ 19 → gI (sI h2 123 19 0) 123 m = gI h2 123 m := fun m hm => gI_sI_ne _ _ _ _ (fun z => hm z.2)
  have gk3 : Gk h2 (sI h2 123 19 0) := gk_fs fr3 (fun b j x => by omega)
  unfold r_treasury at hk
  rw [e_Q_treasury_52]
  refine ⟨I2.1.1.1, ?_⟩
  generalize sI h2 123 19 0 = h3 at I3 P3 m3 gk3 ⊢
  refine ⟨I3.1.1.1, ?_⟩
  rw [m3 21 (by decide), m3 20 (by decide)]
  cases hf : frmN (ltA (zL s)) (zL s).1 97 0 with
  | mk b n =>
    rw [hf] at hk pr
    cases b with
    | false =>
      obtain ⟨p1, p2⟩ := pr
      rw [p1, if_neg (by decide), p2]
      exact ⟨I3.1.1.1, hk h3 I3 P3⟩
    | true =>
      obtain ⟨p1, p2, p3⟩ := pr
      obtain ⟨f1, f2, f3, f4⟩ := frm_ok hm 97 0 (by omega) (Nat.le_refl 0) (Or.inl rfl) n hf
      have hk : ∀ h', IQ h' (treB s n (enN (ltA (zL s)) s.1 n 0)).2 → KP h h' → k h' (treB s n (enN (ltA (zL s)) s.1 n 0)).1 := hk
      have F3 := Fx_gk p3 gk3
      have n3 : gI h3 123 22 = nI n := by rw [m3 22 (by decide)]; exact p2
      rw [p1, if_pos rfl]
      refine ⟨I3.1.1.1, t_think3 I3 fun h4 fr4 t4 B4 => ?_⟩
      have gk4 : Gk h3 h4 := gk_fs fr4 (fun b j x => by unfold SC at x; omega)
      refine hp (A := fun j h' => TK (noL s) h3 h' (zzN (ltA (zL s)) s.1 j).1 ∧ (∀ w, w < Cw (zzN (ltA (zL s)) s.1 j).1 → gI h' 131 w = bF (zzN (ltA (zL s)) s.1 j).2 w) ∧ Gk h3 h' ∧ okZ (zzN (ltA (zL s)) s.1 j) ∧ enN (ltA (zL s)) s.1 n 0 = enN (ltA (zL s)) s.1 (n - j) j) (X := fun j h' => wp m_Q_treasury h' 79 [some (.ref 123), some (.int (nI j))] [] (tyI k)) n ?_ ?_ 0 (Nat.zero_le _) h4 ⟨t4, B4, gk4, o.1, rfl⟩
      · intro h' ⟨t', B', gk', oz, en⟩
        rw [Nat.sub_self] at en
        rw [en] at hk
        have hk : ∀ h', IQ h' (pastS (nowS (noL s) (zzN (ltA (zL s)) s.1 n)) []) → KP h h' → k h' (nI n) := hk
        have n' : gI h' 123 22 = nI n := gk'.2.2.2.trans n3
        rw [e_Q_treasury_79, n', if_pos (Int32.le_refl _), gI_sI_ne _ _ _ _ (by omega), n']
        have I' : IQ h' (nowS (noL s) (zzN (ltA (zL s)) s.1 n)) := IQ_now I3 t'.1 (fun b j x => by unfold Tq at x; omega) t'.2.1 B'
        have tg' : tg h' 123 = 12 := TK_tg t'
        exact ⟨tg', tg', tg', hk _ (IQ_forget I') (KP_trans P3 (KP_trans (KP_Tq t'.1) (KP_cell 123 34 0 (by omega))))⟩
      · intro j hj h' ⟨t', B', gk', oz, en⟩ ih
        obtain ⟨d, hd⟩ : ∃ d, n - j = d + 1 := ⟨n - j - 1, by omega⟩
        rw [hd] at en
        have en : enN (ltA (zL s)) s.1 n 0 = if noSt (ltA (zL s)) (zzN (ltA (zL s)) s.1 j) (plN (ltA (zL s)) j) = 0 then enN (ltA (zL s)) s.1 d (j + 1) else some j := en
        have n' : gI h' 123 22 = nI n := gk'.2.2.2.trans n3
        have F' := Fx_gk F3 gk'
        obtain ⟨a1, a2, a3, a4⟩ := F' j hj
        rw [e_Q_treasury_79, n', if_neg (nI_ge hj (by omega))]
        refine ⟨TK_tg t', TK_tg t', t_comes (p := plN (ltA (zL s)) j) o3 t' B' oz (by omega) a2 a3 a4 (fun e0 h5 c' t5 gk5 => ?_) (fun e0 h5 t5 B5 gk5 => ?_)⟩
        · rw [if_neg e0] at en
          rw [en] at hk
          have hk : ∀ h', IQ h' (noL s) → KP h h' → k h' (-2000 - nI (plN (ltA (zL s)) j)) := hk
          rw [if_neg (fun z => z rfl)]
          refine ⟨TK_tg t5, t_again3 t5 o3 fun h6 t6 B6 gk6 => ?_⟩
          have w6 := qw t6.2.1.1
          have a6 : gI h6 137 j = nI (plN (ltA (zL s)) j) := by rw [gk6.1, gk5.1]; exact a1
          simp only [w6, true_and, true_or, b49 (show j < 49 by omega), ix_nI (show j < 2 ^ 31 by omega), a6]
          exact hk h6 (IQ_back I3 t6 B6) (KP_trans P3 (KP_Tq t6.1))
        · rw [if_pos e0] at en
          rw [if_pos (by decide), nI_1]
          exact ih h5 ⟨t5, B5, gk_tr gk' gk5, okZ_nx oz e0, by rw [show n - (j + 1) = d by omega]; exact en⟩
end TreC
