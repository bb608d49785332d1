/-! ===== the reference: peak, interest, doubled, lump, half, crosses ===== -/
section Q3
variable {h h0 h1 h2 h3 : PH} {s : Sta} {c c' : Core} {f n : Nat} {no v : Int32}
theorem t_Q_peak (o : okS s) (x y z : Int32) : QQ m_Q_peak [.int x, .int y, .int z] s (th (th (nF (zC s) x) (outN y 0 100)) (othN z 1)) (v_peak (zC s) x y z) := by
  intro h k I hr hv
  rw [c_Q_peak]
  have I1 := IQ_12 I
  have P1 := KP_12 h
  refine ⟨I.1.1.1, ?_⟩
  generalize sI h 123 12 0 = h1 at I1 P1 ⊢
  refine ⟨I1.1.1.1, ?_⟩
  rw [s_Q_isFamily I1.1, s_Q_wrongNumber]
  refine isF_th (X := fun v => wp m_Q_peak h1 24 [some (.ref 123), some (.int x), some (.int y), some (.int z), none, none, none, none] [.int v] (tyI k)) ?_
  show wp m_Q_peak h1 24 _ _ _
  rw [e_Q_peak_24, s_Q_wb]
  by_cases c : th (th (nF (zC s) x) (outN y 0 100)) (othN z 1) = 0
  · rw [if_pos (by rw [c]; decide)]
    have hv' := hv c
    obtain ⟨c12, c3⟩ := th_0.mp c
    obtain ⟨c1, c2⟩ := th_0.mp c12
    obtain ⟨f, hf, rfl⟩ := nF_0 (okf o) c1
    obtain ⟨n, hn, rfl, _, hn2⟩ := outN_0 (lo := 0) (hi := 100) (by decide) c2
    have h5 := okf o
    unfold v_peak at hv'
    rw [ix_nI (show f < 2 ^ 31 by omega), ix_nI hn] at hv'
    refine ⟨I1.1.1.1, t_think I1 fun h2 t2 _ => ?_⟩
    have q := qw t2.2.1.1
    have r := t2.2.1.2.2.2.1 f hf
    simp only [q, true_and, true_or, b5 (show f < 5 by omega), ix_nI (show f < 2 ^ 31 by omega), r.2.1]
    generalize th (th (nF (zC s) (nI f)) (outN (nI n) 0 100)) (othN z 1) = t
    refine hp (A := fun j h' => TK s h1 h' (goC j (zC s))) (X := fun j h' => wp m_Q_peak h' 61 [some (.ref 123), some (.int (nI f)), some (.int (nI n)), some (.int z), some (.int t), some (.int (pkN (zC s) f j).1), some (.int (pkN (zC s) f j).2), some (.int (nI (j + 1)))] [] (tyI k)) n ?_ ?_ 0 (Nat.zero_le _) h2 (by rw [goC_0]; exact t2)
    · intro h' t'
      rw [e_Q_peak_61, if_pos (nI_lt (by omega) (by omega))]
      simp only [e_Q_peak_136]
      by_cases d : z = 0
      · rw [if_pos d] at hv'
        simp only [if_neg (fun w : ¬ z = 0 => w d)]
        exact q_end o I1 P1 t' hv'
      · rw [if_neg d] at hv'
        simp only [if_pos d]
        exact q_end o I1 P1 t' hv'
    · intro j hj h' t' ih
      rw [e_Q_peak_61, if_neg (nI_nlt (by omega) (by omega))]
      refine ⟨TK_tg t', t_yearOn t' (okC_go o.1.1 j) fun h3 t3 _ => ?_⟩
      rw [goC_1] at t3
      have q3 := qw t3.2.1.1
      have r3 := t3.2.1.2.2.2.1 f hf
      have ih' := ih h3 t3
      simp only [q3, true_and, true_or, b5 (show f < 5 by omega), ix_nI (show f < 2 ^ 31 by omega), r3.2.1, e_Q_peak_89, e_Q_peak_113, nI_1]
      simp only [pkN] at ih'
      by_cases d : Cm (goC (j + 1) (zC s)) f 1 ≤ (pkN (zC s) f j).1
      · rw [if_pos d] at ih'
        rw [if_pos d, if_pos d]
        exact ih'
      · rw [if_neg d] at ih'
        rw [if_neg d, if_neg d]
        exact ih'
  · rw [if_neg (ng (nK_th (nK_th (nK_F _ _) (nK_out _ _ _)) (nK_oth _ _) c))]
    exact q_no I1 P1 (hr c)
theorem rYear_4 (x y : Int32) (r : Row) : rYear x y r 4 = r 4 + (rOwe (r 1 * x / 100) r 1 - r 1) := by
  have e : rSettle x r 4 = r 4 + (rOwe (r 1 * x / 100) r 1 - r 1) := by
    unfold rSettle rPay
    try dsimp only
    rw [rs_ne _ _ (show (4 : Nat) ≠ 5 by decide), rs_ne _ _ (show (4 : Nat) ≠ 1 by decide), rs_eq]
    unfold rOwe
    rw [rs_ne _ _ (show (4 : Nat) ≠ 1 by decide)]
  unfold rYear rBear
  try dsimp only
  split
  · exact e
  · split
    · split
      · split
        · rw [rs_ne _ _ (show (4 : Nat) ≠ 6 by decide), rs_ne _ _ (show (4 : Nat) ≠ 0 by decide)]; exact e
        · rw [rs_ne _ _ (show (4 : Nat) ≠ 0 by decide)]; exact e
      · exact e
    · exact e
theorem held_owe {r : Row} (R : RgF r) {x : Int32} {m : Nat} (b : bd x 0 m) (hm : m < 2 ^ 29) : heldN (r 1 + x) 0 99999 = rOwe x r 1 := by
  obtain ⟨a, ea, _, ha⟩ := bd_of R.2.1
  obtain ⟨d, ed, _, hd⟩ := bd_of b
  unfold rOwe
  rw [rs_eq]
  exact held_le (n := a + d) (m := 99999) (by rw [ea, ed, nI_add]) (by omega) (by decide)
theorem held_pay {r : Row} (R : RgF r) {x : Int32} {m : Nat} (b : bd x 0 m) (hm : m < 2 ^ 29) : heldN (r 1 - x) 0 99999 = rPay x r 1 := by
  obtain ⟨a, ea, _, ha⟩ := bd_of R.2.1
  obtain ⟨d, ed, _, hd⟩ := bd_of b
  unfold rPay
  rw [rs_ne _ _ (show (1 : Nat) ≠ 5 by decide), rs_eq, ea, ed]
  unfold heldN
  by_cases e : d ≤ a
  · rw [if_pos (nI_le e (by omega)), nI_subI e, if_neg (nI_pos (by omega)), if_neg (show ¬ (99999 : Int32) < nI (a - d) from nI_nlt (a := 99999) (by omega) (by decide))]
  · rw [if_neg (nI_ge (by omega) (by omega)), Int32.sub_self]
    rw [if_pos]
    rw [Int32.lt_iff_toInt_lt]
    have e1 : (nI a - nI d).toInt = (a : Int) - d := by
      rw [Int32.toInt_sub, nI_toInt (by omega), nI_toInt (by omega)]
      rw [Int.bmod_eq_of_le (by omega) (by omega)]
    rw [e1]
    show _ < (0 : Int32).toInt
    rw [show (0 : Int32).toInt = 0 from rfl]
    omega
theorem t_Q_interest (o : okS s) (x y : Int32) : QQ m_Q_interest [.int x, .int y] s (th (nF (zC s) x) (outN y 0 100)) (rYears (Cr (zC s)) (Cy (zC s)) (ix y) (fz (Cm (zC s) (ix x))) 4) := by
  intro h k I hr hv
  rw [c_Q_interest]
  have I1 := IQ_12 I
  have P1 := KP_12 h
  refine ⟨I.1.1.1, ?_⟩
  generalize sI h 123 12 0 = h1 at I1 P1 ⊢
  refine ⟨I1.1.1.1, ?_⟩
  rw [s_Q_isFamily I1.1, s_Q_wrongNumber]
  refine isF_th (X := fun v => wp m_Q_interest h1 24 [some (.ref 123), some (.int x), some (.int y), none, none, none] [.int v] (tyI k)) ?_
  show wp m_Q_interest h1 24 _ _ _
  rw [e_Q_interest_24]
  by_cases c : th (nF (zC s) x) (outN y 0 100) = 0
  · rw [if_pos (by rw [c]; decide)]
    have hv' := hv c
    obtain ⟨c1, c2⟩ := th_0.mp c
    obtain ⟨f, hf, rfl⟩ := nF_0 (okf o) c1
    obtain ⟨n, hn, rfl, _, hn2⟩ := outN_0 (lo := 0) (hi := 100) (by decide) c2
    have h5 := okf o
    rw [ix_nI (show f < 2 ^ 31 by omega), ix_nI hn] at hv'
    refine ⟨I1.1.1.1, t_think I1 fun h2 t2 _ => ?_⟩
    generalize th (nF (zC s) (nI f)) (outN (nI n) 0 100) = t
    refine hp (A := fun j h' => TK s h1 h' (goC j (zC s))) (X := fun j h' => wp m_Q_interest h' 45 [some (.ref 123), some (.int (nI f)), some (.int (nI n)), some (.int t), some (.int (rYears (Cr (zC s)) (Cy (zC s)) j (fz (Cm (zC s) f)) 4)), some (.int (nI j))] [] (tyI k)) n ?_ ?_ 0 (Nat.zero_le _) h2 (by rw [goC_0]; exact t2)
    · intro h' t'
      rw [e_Q_interest_45, if_pos (Int32.le_refl _)]
      exact q_end o I1 P1 t' hv'
    · intro j hj h' t' ih
      have q := qw t'.2.1.1
      have r := t'.2.1.2.2.2.1 f hf
      have R := (okC_go o.1.1 j).2.2.1 f hf
      have b20 : bd (Cr (goC j (zC s))) 0 20 := o.1.1.2.1
      have e4 : Ew 4 (rYears (Cr (zC s)) (Cy (zC s)) j (fz (Cm (zC s) f))) (Cm (goC j (zC s)) f) := rYears_e (fz_e _) _ _ (Or.inl rfl) j
      rw [e_Q_interest_45, if_neg (nI_ge hj (by omega))]
      simp only [q, true_and, true_or, b5 (show f < 5 by omega), ix_nI (show f < 2 ^ 31 by omega), r.2.1, t'.2.1.2.2.1.2.2.2]
      refine ⟨by decide, ?_⟩
      rw [s_Q_held, held_owe R (bd_interest R.2.1 b20) (by decide)]
      simp only [q, true_and, true_or, b5 (show f < 5 by omega), ix_nI (show f < 2 ^ 31 by omega), r.2.1]
      refine t_yearOn t' (okC_go o.1.1 j) fun h3 t3 _ => ?_
      rw [goC_1] at t3
      rw [nI_1]
      have ih' := ih h3 t3
      rw [show rYears (Cr (zC s)) (Cy (zC s)) (j + 1) (fz (Cm (zC s) f)) = rYear (Cr (zC s)) (Cy (zC s) + nI (j + 1)) (rYears (Cr (zC s)) (Cy (zC s)) j (fz (Cm (zC s) f))) from rfl, rYear_4] at ih'
      have e1 := e4 1 (by decide)
      have e2 := rOwe_e (by decide) e4 (Cm (goC j (zC s)) f 1 * Cr (zC s) / 100) 1 (by decide)
      rw [e1, e2] at ih'
      exact ih'
  · rw [if_neg (ng (nK_th (nK_F _ _) (nK_out _ _ _) c))]
    exact q_no I1 P1 (hr c)
theorem t_Q_doubled (o : okS s) (x : Int32) : QQ m_Q_doubled [.int x] s (nF (zC s) x) (v_doubled (zC s) (ix x)) := by
  intro h k I hr hv
  rw [c_Q_doubled]
  have I1 := IQ_12 I
  have P1 := KP_12 h
  refine ⟨I.1.1.1, ?_⟩
  generalize sI h 123 12 0 = h1 at I1 P1 ⊢
  refine ⟨I1.1.1.1, ?_⟩
  rw [s_Q_isFamily I1.1]
  by_cases c : nF (zC s) x = 0
  · have hv' := hv c
    have n : ¬ offN x (Cf (zC s)) := fun z => by unfold nF at c; rw [if_pos z] at c; exact absurd c (by decide)
    obtain ⟨f, hf, rfl⟩ := nF_0 (okf o) c
    have h5 := okf o
    rw [ix_nI (by omega)] at hv'
    rw [if_neg n, if_pos (by decide)]
    have q := qw I1.1.1
    have r := I1.1.2.2.2.1 f hf
    simp only [q, true_and, true_or, b5 (show f < 5 by omega), ix_nI (show f < 2 ^ 31 by omega), r.2.1]
    refine t_think I1 fun h2 t2 _ => ?_
    have fin : ∀ (h' : PH) (c : Core) (x y : Int32), TK s h1 h' c → v_doubled (zC s) f = x → wp m_Q_doubled h' 81 [some (.ref 123), some (.int (nI f)), some (.int (Cm (zC s) f 1)), some (.int x), some (.int y)] [] (tyI k) := by
      intro h' c x y t' e
      rw [e_Q_doubled_81]
      rw [e] at hv'
      exact q_end o I1 P1 t' hv'
    unfold v_doubled at fin
    by_cases d0 : Cm (zC s) f 1 ≤ 0
    · rw [e_Q_doubled_36, if_neg (by decide), if_neg (by decide), if_pos d0]
      exact fin _ _ _ _ t2 (if_pos d0)
    · rw [if_neg d0] at fin
      generalize hp0 : (fun n => decide (¬ Cm (goC n (zC s)) f 1 < 2 * Cm (zC s) f 1)) = p at fin
      refine hp (A := fun i h' => TK s h1 h' (goC i (zC s)) ∧ fstF p 1 100 = fstF p (i + 1) (100 - i)) (X := fun i h' => wp m_Q_doubled h' 36 [some (.ref 123), some (.int (nI f)), some (.int (Cm (zC s) f 1)), some (.int (-9)), some (.int (nI (i + 1)))] [] (tyI k)) 100 ?_ ?_ 0 (Nat.zero_le _) h2 ⟨by rw [goC_0]; exact t2, rfl⟩
      · intro h' ⟨t', e⟩
        rw [e_Q_doubled_36, if_pos (show (100 : Int32) < nI 101 by decide)]
        exact fin h' _ _ _ t' (by rw [e]; rfl)
      · intro i hi h' ⟨t', e⟩ ih
        rw [e_Q_doubled_36, if_neg (show ¬ (100 : Int32) < nI (i + 1) from nI_nlt (a := 100) (by omega) (by omega)), if_neg (by decide), if_neg d0]
        refine ⟨TK_tg t', t_yearOn t' (okC_go o.1.1 i) fun h3 t3 _ => ?_⟩
        rw [goC_1] at t3
        have q3 := qw t3.2.1.1
        have r3 := t3.2.1.2.2.2.1 f hf
        have pe : p (i + 1) = decide (¬ Cm (goC (i + 1) (zC s)) f 1 < 2 * Cm (zC s) f 1) := by rw [← hp0]
        have e' := e.trans ((by rw [show 101 - (i + 1) = 100 - i by omega] : fstF p (i + 1) (100 - i) = fstF p (i + 1) (101 - (i + 1))).trans (fstF_step p (show i + 1 < 101 by omega)))
        simp only [q3, true_and, true_or, b5 (show f < 5 by omega), ix_nI (show f < 2 ^ 31 by omega), r3.2.1, e_Q_doubled_74, nI_1]
        rw [pe] at e'
        by_cases d : Cm (goC (i + 1) (zC s)) f 1 < 2 * Cm (zC s) f 1
        · rw [if_pos d]
          rw [if_neg (by simp [d])] at e'
          exact ih h3 ⟨t3, by rw [e']; congr 1; omega⟩
        · rw [if_neg d]
          rw [if_pos (by simp [d])] at e'
          have := fin h3 _ (nI (i + 1)) (nI (i + 1 + 1)) t3 e'
          rw [e_Q_doubled_36]
          split
          · exact this
          · rw [if_pos (nI_pos' (by omega))]; exact this
  · have n : offN x (Cf (zC s)) := by
      by_cases z : offN x (Cf (zC s))
      · exact z
      · unfold nF at c; rw [if_neg z] at c; exact absurd rfl c
    rw [if_pos n, if_neg (by decide)]
    have := q_no I1 P1 (hr c)
    unfold nF at this
    rw [if_pos n] at this
    exact this
theorem lmpC_k (v : Int32) (f : Nat) (c : Core) : ∀ n, Cf (lmpC v f c n) = Cf c ∧ Cw (lmpC v f c n) = Cw c ∧ Cr (lmpC v f c n) = Cr c ∧ Cy (lmpC v f c n) = Cy c + nI n ∧ Ck (lmpC v f c n) = Ck c ∧ Cm (lmpC v f c n) f = lumpR (Cr c) (Cy c) v n (Cm c f)
  | 0 => ⟨rfl, rfl, rfl, (Int32.add_zero _).symm, rfl, rfl⟩
  | n + 1 => by
    obtain ⟨a, b, c', d, e, g⟩ := lmpC_k v f c n
    refine ⟨a, b, c', ?_, e, ?_⟩
    · show Cy (lmpC v f c n) + nI 1 = _
      rw [d, Int32.add_assoc, nI_add]
    · show setM _ f _ f = _
      unfold setM
      rw [if_pos rfl]
      show rPay v (rYears (Cr (lmpC v f c n)) (Cy (lmpC v f c n)) 1 (Cm (lmpC v f c n) f)) = _
      rw [rYears_1, c', d, g]
      rfl
theorem okC_lmp {c : Core} (o : okC c) {m : Nat} {v : Int32} (b : bd v 0 m) (hm : m < 2 ^ 30) (f : Nat) : ∀ n, okC (lmpC v f c n)
  | 0 => o
  | n + 1 => by
    have oo := okC_go (okC_lmp o b hm f n) 1
    refine ⟨oo.1, oo.2.1, fun g hg => ?_, oo.2.2.2⟩
    show RgF (setM _ f _ g)
    unfold setM
    split
    · next e => subst e; exact RgF_pay (oo.2.2.1 _ hg) b (by omega)
    · exact oo.2.2.1 g hg
theorem t_Q_lump (o : okS s) (x y : Int32) : QQ m_Q_lump [.int x, .int y] s (th (nF (zC s) x) (outN y 0 9999)) (v_free (zC s) (ix x) y) := by
  intro h k I hr hv
  rw [c_Q_lump]
  have I1 := IQ_12 I
  have P1 := KP_12 h
  refine ⟨I.1.1.1, ?_⟩
  generalize sI h 123 12 0 = h1 at I1 P1 ⊢
  refine ⟨I1.1.1.1, ?_⟩
  rw [s_Q_isFamily I1.1, s_Q_wrongNumber]
  refine isF_th (X := fun v => wp m_Q_lump h1 25 [some (.ref 123), some (.int x), some (.int y), none, none] [.int v] (tyI k)) ?_
  show wp m_Q_lump h1 25 _ _ _
  rw [e_Q_lump_25]
  by_cases c : th (nF (zC s) x) (outN y 0 9999) = 0
  · rw [if_pos (by rw [c]; decide)]
    have hv' := hv c
    obtain ⟨c1, c2⟩ := th_0.mp c
    obtain ⟨f, hf, rfl⟩ := nF_0 (okf o) c1
    obtain ⟨w, hw, rfl, _, hw2⟩ := outN_0 (lo := 0) (hi := 9999) (by decide) c2
    have h5 := okf o
    rw [ix_nI (by omega)] at hv'
    have bw : bd (nI w) 0 9999 := bd_nI (by omega) hw2 (by decide)
    generalize nI w = v at hv' bw ⊢
    generalize th (nF (zC s) (nI f)) (outN v 0 9999) = t
    refine ⟨I1.1.1.1, t_think I1 fun h2 t2 _ => ?_⟩
    have fin : ∀ (h' : PH) (i : Nat) (c : Core), TK s h1 h' c → i ≤ 101 → v_free (zC s) f v = (if nI i ≤ 100 then nI i else -9) → wp m_Q_lump h' 89 [some (.ref 123), some (.int (nI f)), some (.int v), some (.int t), some (.int (nI i))] [] (tyI k) := by
      intro h' i c t' hi e
      rw [e_Q_lump_89]
      refine ⟨TK_tg t', t_again t' o fun h4 t4 B4 _ _ _ => ?_⟩
      have := hv' h4 (KP_trans P1 (KP_Tq t4.1)) (IQ_back I1 t4 B4)
      rw [e] at this
      simp only [e_Q_lump_107]
      split <;> simp_all
    unfold v_free at fin
    generalize hp0 : (fun n => decide (lumpR (Cr (zC s)) (Cy (zC s)) v n (Cm (zC s) f) 1 = 0)) = p at fin
    refine hp (A := fun i h' => TK s h1 h' (lmpC v f (zC s) i) ∧ fstF p 0 101 = fstF p i (101 - i)) (X := fun i h' => wp m_Q_lump h' 43 [some (.ref 123), some (.int (nI f)), some (.int v), some (.int t), some (.int (nI i))] [] (tyI k)) 101 ?_ ?_ 0 (Nat.zero_le _) h2 ⟨t2, rfl⟩
    · intro h' ⟨t', e⟩
      rw [e_Q_lump_43, if_pos (show (100 : Int32) < nI 101 by decide)]
      exact fin h' 101 _ t' (Nat.le_refl _) (by rw [e]; rfl)
    · intro i hi h' ⟨t', e⟩ ih
      have K := lmpC_k v f (zC s) i
      have oi := okC_lmp o.1.1 bw (by decide) f i
      have hfi : f < Cf (lmpC v f (zC s) i) := by rw [K.1]; exact hf
      rw [e_Q_lump_43, if_neg (show ¬ (100 : Int32) < nI i from nI_nlt (a := 100) (by omega) (by omega)), ix_nI (by omega)]
      have q := qw t'.2.1.1
      have r := t'.2.1.2.2.2.1 f hfi
      simp only [q, true_and, true_or, b5 (show f < 5 by omega), r.2.1]
      have R := oi.2.2.1 f hfi
      have pe : p i = decide (Cm (lmpC v f (zC s) i) f 1 = 0) := by rw [← hp0, K.2.2.2.2.2]
      rw [fstF_step p hi] at e
      by_cases d : Cm (lmpC v f (zC s) i) f 1 = 0
      · rw [if_pos ((le0_0 R.2.1 (by decide)).mpr d)]
        refine fin h' i _ t' (by omega) ?_
        rw [e, if_pos (by rw [pe]; exact decide_eq_true d), if_pos (show nI i ≤ 100 from nI_le (b := 100) (by omega) (by decide))]
      · rw [if_neg (fun z => d ((le0_0 R.2.1 (by decide)).mp z))]
        refine t_yearOn t' oi fun h3 t3 _ => ?_
        have q3 := qw t3.2.1.1
        have r3 := t3.2.1.2.2.2.1 f hfi
        simp only [q3, true_and, true_or, b5 (show f < 5 by omega), r3.2.1, s_Q_held]
        rw [held_pay ((okC_go oi 1).2.2.1 f hfi) bw (by decide), nI_1]
        have t4 := TK_debt t3 (x := rPay v (Cm (goC 1 (lmpC v f (zC s) i)) f) 1) (r := rPay v (Cm (goC 1 (lmpC v f (zC s) i)) f)) hfi (by unfold rPay; rw [rs_ne _ _ (by decide), rs_ne _ _ (by decide)]) rfl (by unfold rPay; rw [rs_ne _ _ (by decide), rs_ne _ _ (by decide)]) (by unfold rPay; rw [rs_ne _ _ (by decide), rs_ne _ _ (by decide)])
        refine ih _ ⟨t4, ?_⟩
        rw [e, if_neg (by rw [pe]; simp [d])]
  · rw [if_neg (ng (nK_th (nK_F _ _) (nK_out _ _ _) c))]
    exact q_no I1 P1 (hr c)
theorem t_Q_half (o : okS s) : QQ m_Q_half [] s 0 (v_half (zC s)) := by
  intro h k I _ hv
  have hv' := hv rfl
  rw [c_Q_half]
  have I1 := IQ_12 I
  have P1 := KP_12 h
  refine ⟨I.1.1.1, ?_⟩
  generalize sI h 123 12 0 = h1 at I1 P1 ⊢
  rw [s_Q_allDebts I1.1]
  refine ⟨I1.1.1.1, I1.1.1.1, t_think I1 fun h2 t2 _ => ?_⟩
  have fin : ∀ (h' : PH) (c : Core) (x y : Int32), TK s h1 h' c → v_half (zC s) = x → wp m_Q_half h' 56 [some (.ref 123), some (.int (debtsC (zC s))), some (.int x), some (.int y)] [] (tyI k) := by
    intro h' c x y t' e
    rw [e_Q_half_56]
    rw [e] at hv'
    exact q_end o I1 P1 t' hv'
  unfold v_half at fin
  generalize hp0 : (fun n => decide (¬ debtsC (zC s) < 2 * debtsC (goC n (zC s)))) = p at fin
  refine hp (A := fun i h' => TK s h1 h' (goC i (zC s)) ∧ fstF p 0 101 = fstF p i (101 - i)) (X := fun i h' => wp m_Q_half h' 19 [some (.ref 123), some (.int (debtsC (zC s))), some (.int (-9)), some (.int (nI i))] [] (tyI k)) 101 ?_ ?_ 0 (Nat.zero_le _) h2 ⟨by rw [goC_0]; exact t2, rfl⟩
  · intro h' ⟨t', e⟩
    rw [e_Q_half_19, if_pos (show (100 : Int32) < nI 101 by decide)]
    exact fin h' _ _ _ t' (by rw [e]; rfl)
  · intro i hi h' ⟨t', e⟩ ih
    rw [e_Q_half_19, if_neg (show ¬ (100 : Int32) < nI i from nI_nlt (a := 100) (by omega) (by omega)), if_neg (by decide), s_Q_allDebts t'.2.1]
    refine ⟨TK_tg t', ?_⟩
    have pe : p i = decide (¬ debtsC (zC s) < 2 * debtsC (goC i (zC s))) := by rw [← hp0]
    rw [fstF_step p hi, pe] at e
    simp only [e_Q_half_45]
    by_cases d : debtsC (zC s) < 2 * debtsC (goC i (zC s))
    · rw [if_pos d]
      rw [if_neg (by simp [d])] at e
      refine ⟨TK_tg t', t_yearOn t' (okC_go o.1.1 i) fun h3 t3 _ => ?_⟩
      rw [goC_1] at t3
      rw [nI_1]
      exact ih h3 ⟨t3, e⟩
    · rw [if_neg d]
      rw [if_pos (by simp [d])] at e
      refine ⟨TK_tg t', t_yearOn t' (okC_go o.1.1 i) fun h3 t3 _ => ?_⟩
      rw [nI_1]
      have := fin h3 _ (nI i) (nI (i + 1)) t3 e
      rw [e_Q_half_19]
      split
      · exact this
      · rw [if_pos (nI_pos' (by omega))]; exact this
theorem t_Q_crosses (o : okS s) (x y : Int32) : QQ m_Q_crosses [.int x, .int y] s (nTwo (zC s) x y) (v_crosses (zC s) (ix x) (ix y)) := by
  intro h k I hr hv
  rw [c_Q_crosses]
  have I1 := IQ_12 I
  have P1 := KP_12 h
  refine ⟨I.1.1.1, ?_⟩
  generalize sI h 123 12 0 = h1 at I1 P1 ⊢
  refine ⟨I1.1.1.1, ?_⟩
  rw [s_Q_isFamily I1.1, s_Q_isFamily I1.1]
  simp only [e_Q_crosses_26]
  by_cases c : nTwo (zC s) x y = 0
  · have hv' := hv c
    have n : ¬ (x = y ∨ offN x (Cf (zC s)) ∨ offN y (Cf (zC s))) := fun z => by unfold nTwo at c; rw [if_pos z] at c; exact absurd c (by decide)
    obtain ⟨f, g, hf, hg, hfg, rfl, rfl⟩ := nTwo_0 (okf o) c
    have h5 := okf o
    rw [ix_nI (show f < 2 ^ 31 by omega), ix_nI (show g < 2 ^ 31 by omega)] at hv'
    rw [if_neg (fun z => n (Or.inr (Or.inl z))), if_neg (fun z => n (Or.inr (Or.inr z))), if_neg (by decide), if_neg (by decide), if_pos (fun z => n (Or.inl z))]
    refine ⟨I1.1.1.1, I1.1.1.1, t_think I1 fun h2 t2 _ => ?_⟩
    have fin : ∀ (h' : PH) (c : Core) (x y : Int32), TK s h1 h' c → v_crosses (zC s) f g = x → wp m_Q_crosses h' 84 [some (.ref 123), some (.int (nI f)), some (.int (nI g)), some (.int x), some (.int y)] [] (tyI k) := by
      intro h' c x y t' e
      rw [e_Q_crosses_84]
      rw [e] at hv'
      exact q_end o I1 P1 t' hv'
    unfold v_crosses at fin
    generalize hp0 : (fun n => decide (¬ hoR (Cm (goC n (zC s)) g) ≤ hoR (Cm (goC n (zC s)) f))) = p at fin
    refine hp (A := fun i h' => TK s h1 h' (goC i (zC s)) ∧ fstF p 0 101 = fstF p i (101 - i)) (X := fun i h' => wp m_Q_crosses h' 42 [some (.ref 123), some (.int (nI f)), some (.int (nI g)), some (.int (-9)), some (.int (nI i))] [] (tyI k)) 101 ?_ ?_ 0 (Nat.zero_le _) h2 ⟨by rw [goC_0]; exact t2, rfl⟩
    · intro h' ⟨t', e⟩
      rw [e_Q_crosses_42, if_pos (show (100 : Int32) < nI 101 by decide)]
      exact fin h' _ _ _ t' (by rw [e]; rfl)
    · intro i hi h' ⟨t', e⟩ ih
      have oi := okC_go o.1.1 i
      rw [e_Q_crosses_42, if_neg (show ¬ (100 : Int32) < nI i from nI_nlt (a := 100) (by omega) (by omega)), if_neg (by decide), s_Q_headOwes t'.2.1 oi hf, s_Q_headOwes t'.2.1 oi hg]
      refine ⟨TK_tg t', TK_tg t', ?_⟩
      have pe : p i = decide (¬ hoR (Cm (goC i (zC s)) g) ≤ hoR (Cm (goC i (zC s)) f)) := by rw [← hp0]
      rw [fstF_step p hi, pe] at e
      simp only [e_Q_crosses_73]
      by_cases d : hoR (Cm (goC i (zC s)) g) ≤ hoR (Cm (goC i (zC s)) f)
      · rw [if_pos d]
        rw [if_neg (by simp [d])] at e
        refine ⟨TK_tg t', t_yearOn t' oi fun h3 t3 _ => ?_⟩
        rw [goC_1] at t3
        rw [nI_1]
        exact ih h3 ⟨t3, e⟩
      · rw [if_neg d]
        rw [if_pos (by simp [d])] at e
        refine ⟨TK_tg t', t_yearOn t' oi fun h3 t3 _ => ?_⟩
        rw [nI_1]
        have := fin h3 _ (nI i) (nI (i + 1)) t3 e
        rw [e_Q_crosses_42]
        split
        · exact this
        · rw [if_pos (nI_pos' (by omega))]; exact this
  · have e1 : nTwo (zC s) x y = -1 := by
      unfold nTwo at c ⊢
      by_cases z : x = y ∨ offN x (Cf (zC s)) ∨ offN y (Cf (zC s))
      · rw [if_pos z]
      · rw [if_neg z] at c; exact absurd rfl c
    have n : x = y ∨ offN x (Cf (zC s)) ∨ offN y (Cf (zC s)) := by
      by_cases z : x = y ∨ offN x (Cf (zC s)) ∨ offN y (Cf (zC s))
      · exact z
      · unfold nTwo at e1; rw [if_neg z] at e1; exact absurd e1 (by decide)
    have fin := q_no I1 P1 (hr c)
    rw [e1] at fin
    by_cases a : offN x (Cf (zC s))
    · rw [if_pos a, if_pos rfl]; exact fin
    · rw [if_neg a, if_neg (by decide)]
      refine ⟨I1.1.1.1, ?_⟩
      by_cases b : offN y (Cf (zC s))
      · rw [if_pos b, if_pos rfl]; exact fin
      · rw [if_neg b, if_neg (by decide), if_neg (fun z => z (n.elim id (fun w => w.elim (fun u => absurd u a) (fun u => absurd u b))))]
        exact fin
end Q3
