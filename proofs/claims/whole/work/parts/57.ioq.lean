/-! ===== the reference: feed, row, clear, judge, image, restore, count ===== -/
section IoQ
variable {h h' h0 h1 h2 h3 : PH} {s : Sta} {c : Core} {f n : Nat} {S : Nat → Nat → Prop}
theorem IQ_ltr (I : IQ h s) {x : Nat × Row} (f : Fs (fun b j => b = 136 ∨ (b = 123 ∧ j = 19)) h h') (e : gI h' 123 19 = nI x.1) (r : ∀ i, i < x.1 → gI h' 136 i = x.2 i) : IQ h' (ltrS s x) := by
  have st := I.2.2
  have g : ∀ b j, ¬ (b = 136 ∨ (b = 123 ∧ j = 19)) → gI h' b j = gI h b j := f.2.2.2
  refine ⟨Liv_fs I.1 f (fun b j x => by unfold LRg; omega), fun w hw => by rw [g 131 w (by omega)]; exact I.2.1 w hw, ?_, fun x hx => ?_, ⟨?_, fun j x hx => ?_⟩, ⟨e, r⟩, ⟨?_, fun i hi => ?_⟩, fun i hi => ?_⟩
  · rw [g 123 28 (by omega)]; exact st.1
  · have : gI h' 141 = gI h 141 := funext fun j => g 141 j (by omega)
    unfold Kp; rw [this]; exact st.2.1 x hx
  · rw [g 123 34 (by omega)]; exact st.2.2.1.1
  · have : gI h' 142 = gI h 142 := funext fun j => g 142 j (by omega)
    rw [this]; exact st.2.2.1.2 j x hx
  · rw [g 123 36 (by omega)]; exact st.2.2.2.2.1.1
  · rw [g 144 i (by omega)]; exact st.2.2.2.2.1.2 i hi
  · rw [g 132 i (by omega)]; exact st.2.2.2.2.2 i hi
theorem IQ_tld (I : IQ h s) {x : Nat × Row} (f : Fs (fun b j => b = 144 ∨ (b = 123 ∧ j = 36)) h h') (e : gI h' 123 36 = nI x.1) (r : ∀ i, i < x.1 → gI h' 144 i = x.2 i) : IQ h' (tldS s x) := by
  have st := I.2.2
  have g : ∀ b j, ¬ (b = 144 ∨ (b = 123 ∧ j = 36)) → gI h' b j = gI h b j := f.2.2.2
  refine ⟨Liv_fs I.1 f (fun b j x => by unfold LRg; omega), fun w hw => by rw [g 131 w (by omega)]; exact I.2.1 w hw, ?_, fun x hx => ?_, ⟨?_, fun j x hx => ?_⟩, ⟨?_, fun i hi => ?_⟩, ⟨e, r⟩, fun i hi => ?_⟩
  · rw [g 123 28 (by omega)]; exact st.1
  · have : gI h' 141 = gI h 141 := funext fun j => g 141 j (by omega)
    unfold Kp; rw [this]; exact st.2.1 x hx
  · rw [g 123 34 (by omega)]; exact st.2.2.1.1
  · have : gI h' 142 = gI h 142 := funext fun j => g 142 j (by omega)
    rw [this]; exact st.2.2.1.2 j x hx
  · rw [g 123 19 (by omega)]; exact st.2.2.2.1.1
  · rw [g 136 i (by omega)]; exact st.2.2.2.1.2 i hi
  · rw [g 132 i (by omega)]; exact st.2.2.2.2.2 i hi
theorem t_Q_no (I : IQ h1 s) (P : KP h h1) {no : Int32} (hn : noK no) {k : PH → Int32 → Prop} (hk : ∀ h', IQ h' (refS s no) → KP h h' → k h' no) : tg h1 123 = 12 ∧ ccI m_Q_refuse h1 [.ref 123, .int no] fun h5 x5 => k h5 x5 :=
  ⟨I.1.1.1, t_Q_refuse I hn fun h2 I2 P2 => hk h2 I2 (KP_trans P P2)⟩
theorem t_Q_feed (o : okS s) (x : Int32) : QO m_Q_feed [.int x] s (r_feed s x) := by
  intro h k I hk
  rw [c_Q_feed]
  have I1 := IQ_12 I
  have P1 := KP_12 h
  refine ⟨I.1.1.1, ?_⟩
  generalize sI h 123 12 0 = h1 at I1 P1 ⊢
  have w := qw I1.1.1
  have st := I1.2.2.2.2.2.1
  have h96 := o.2.2.2.2.1
  unfold r_feed noFd outN at hk
  simp only [e_Q_feed_32, e_Q_feed_59]
  by_cases d1 : x < 0
  · rw [if_pos d1] at hk
    simp only [show ¬ (-4 : Int32) = 0 from by decide, if_false] at hk
    rw [if_neg (Int32.not_le.mpr d1)]
    exact t_Q_no I1 P1 (by unfold noK; simp) hk
  rw [if_neg d1] at hk
  rw [if_pos (Int32.not_lt.mp d1)]
  by_cases d2 : 255 < x
  · rw [if_pos d2] at hk
    simp only [show ¬ (-6 : Int32) = 0 from by decide, if_false] at hk
    rw [if_pos d2]
    exact t_Q_no I1 P1 (by unfold noK; simp) hk
  rw [if_neg d2, if_pos rfl] at hk
  rw [if_neg d2, st.1]
  refine ⟨w.1, ?_⟩
  by_cases d3 : (zL s).1 = 96
  · rw [if_pos d3, if_neg (by decide)] at hk
    rw [d3, if_neg (fun z => z rfl)]
    exact t_Q_no I1 P1 (by unfold noK; simp) hk
  · have hl : (zL s).1 < 96 := by omega
    rw [if_neg d3, if_pos rfl] at hk
    rw [if_pos (show ¬ nI (zL s).1 = 96 from fun z => d3 ((nI_eq (b := 96) (by omega) (by decide)).mp z))]
    simp only [w, true_and, tg_sI, gI_sI_eq]
    rw [ix_nI (by omega), gI_sI_ne _ _ _ _ (show ¬ (123 = 136 ∧ 19 = (zL s).1) by omega), st.1, nI_1]
    have fr : Fs (fun b j => b = 136 ∨ (b = 123 ∧ j = 19)) h1 (sI (sI h1 136 (zL s).1 x) 123 19 (nI ((zL s).1 + 1))) := Fs_trans (Fs_sI _ _ _ _ (Or.inl rfl)) (Fs_sI _ _ _ _ (Or.inr ⟨rfl, rfl⟩))
    refine ⟨inb_nI hl (by decide), hk _ (IQ_ltr I1 fr (gI_sI_eq _ _ _ _) (fun i hi => ?_)) (KP_trans P1 (KP_fs fr (fun b j x => by omega)))⟩
    have hi' : i < (zL s).1 + 1 := hi
    rw [gI_sI_ne _ _ _ _ (by omega)]
    by_cases d : i = (zL s).1
    · subst d; rw [gI_sI_eq]; exact (rs_eq _ _ _).symm
    · rw [gI_sI_ne _ _ _ _ (fun z => d z.2), st.2 i (by omega)]; exact (rs_ne _ _ d).symm
theorem t_Q_row (o : okS s) (x : Int32) : QO m_Q_row [.int x] s (r_row s x) := by
  intro h k I hk
  rw [c_Q_row]
  have I1 := IQ_12 I
  have P1 := KP_12 h
  refine ⟨I.1.1.1, ?_⟩
  generalize sI h 123 12 0 = h1 at I1 P1 ⊢
  have w := qw I1.1.1
  have st := I1.2.2.2.2.2.2.1
  have h12 := o.2.2.2.2.2
  unfold r_row noRw outN at hk
  simp only [e_Q_row_31, e_Q_row_58]
  by_cases d1 : x < 0
  · rw [if_pos d1] at hk
    simp only [show ¬ (-4 : Int32) = 0 from by decide, if_false] at hk
    rw [if_neg (Int32.not_le.mpr d1)]
    exact t_Q_no I1 P1 (by unfold noK; simp) hk
  rw [if_neg d1] at hk
  rw [if_pos (Int32.not_lt.mp d1)]
  by_cases d2 : 99 < x
  · rw [if_pos d2] at hk
    simp only [show ¬ (-6 : Int32) = 0 from by decide, if_false] at hk
    rw [if_pos d2]
    exact t_Q_no I1 P1 (by unfold noK; simp) hk
  rw [if_neg d2, if_pos rfl] at hk
  rw [if_neg d2, st.1]
  refine ⟨w.1, ?_⟩
  by_cases d3 : (zT s).1 = 12
  · rw [if_pos d3, if_neg (by decide)] at hk
    rw [d3, if_neg (fun z => z rfl)]
    exact t_Q_no I1 P1 (by unfold noK; simp) hk
  · have hl : (zT s).1 < 12 := by omega
    rw [if_neg d3, if_pos rfl] at hk
    rw [if_pos (show ¬ nI (zT s).1 = 12 from fun z => d3 ((nI_eq (b := 12) (by omega) (by decide)).mp z))]
    simp only [w, true_and, tg_sI, gI_sI_eq]
    rw [ix_nI (by omega), gI_sI_ne _ _ _ _ (show ¬ (123 = 144 ∧ 36 = (zT s).1) by omega), st.1, nI_1]
    have fr : Fs (fun b j => b = 144 ∨ (b = 123 ∧ j = 36)) h1 (sI (sI h1 144 (zT s).1 x) 123 36 (nI ((zT s).1 + 1))) := Fs_trans (Fs_sI _ _ _ _ (Or.inl rfl)) (Fs_sI _ _ _ _ (Or.inr ⟨rfl, rfl⟩))
    refine ⟨inb_nI hl (by decide), hk _ (IQ_tld I1 fr (gI_sI_eq _ _ _ _) (fun i hi => ?_)) (KP_trans P1 (KP_fs fr (fun b j x => by omega)))⟩
    have hi' : i < (zT s).1 + 1 := hi
    rw [gI_sI_ne _ _ _ _ (by omega)]
    by_cases d : i = (zT s).1
    · subst d; rw [gI_sI_eq]; exact (rs_eq _ _ _).symm
    · rw [gI_sI_ne _ _ _ _ (fun z => d z.2), st.2 i (by omega)]; exact (rs_ne _ _ d).symm
theorem IQ_clr (I : IQ h s) : IQ (sI h 123 36 0) (clrS s) :=
  IQ_tld I (Fs_sI _ _ _ _ (Or.inr ⟨rfl, rfl⟩)) (gI_sI_eq _ _ _ _) (fun i hi => absurd hi (Nat.not_lt_zero _))
theorem t_Q_clear : QO m_Q_clear [] s (r_clear s) := by
  intro h k I hk
  rw [c_Q_clear]
  have I1 := IQ_12 I
  have P1 := KP_12 h
  refine ⟨I.1.1.1, ?_⟩
  generalize sI h 123 12 0 = h1 at I1 P1 ⊢
  rw [I1.2.2.2.2.2.2.1.1]
  exact ⟨I1.1.1.1, I1.1.1.1, hk _ (IQ_clr I1) (KP_trans P1 (KP_cell 123 36 0 (by omega)))⟩
theorem okS_clr (o : okS s) : okS (clrS s) := ⟨o.1, o.2.1, o.2.2.1, o.2.2.2.1, o.2.2.2.2.1, Nat.zero_le _⟩
theorem t_Q_judge (o : okS s) (x : Int32) : QO m_Q_judge [.int x] s (r_judge s x) := by
  intro h k I hk
  rw [c_Q_judge]
  have I1 := IQ_12 I
  have P1 := KP_12 h
  refine ⟨I.1.1.1, ?_⟩
  generalize sI h 123 12 0 = h1 at I1 P1 ⊢
  refine ⟨I1.1.1.1, ?_⟩
  have h5 := okf o
  have h12 := o.2.2.2.2.2
  have st := I1.2.2.2.2.2.2.1
  have oc := okS_clr o
  rw [s_Q_isFamily I1.1]
  unfold r_judge at hk
  by_cases c : nF (zC s) x = 0
  · rw [if_pos c] at hk
    obtain ⟨f, hf, rfl⟩ := nF_0 h5 c
    rw [ix_nI (show f < 2 ^ 31 by omega)] at hk
    rw [if_neg (nI_on (by omega) hf), if_pos (by decide), st.1]
    have I2 := IQ_clr I1
    have P2 := KP_trans P1 (KP_cell (h := h1) 123 36 0 (by omega))
    have row2 : ∀ i, i < (zT s).1 → gI (sI h1 123 36 0) 144 i = (zT s).2 i := fun i hi => by rw [gI_sI_ne _ _ _ _ (by omega)]; exact st.2 i hi
    refine ⟨I1.1.1.1, I1.1.1.1, I2.1.1.1, ?_⟩
    generalize sI h1 123 36 0 = h2 at I2 P2 row2 ⊢
    refine t_think I2 fun h3 t3 _ => ?_
    unfold v_judge at hk
    generalize hp0 : (fun n => decide (¬ (zT s).2 n = tld (hoR (Cm (goC n (zC s)) f)))) = p at hk
    have fin : ∀ (h' : PH) (v l4 : Int32) (cc : Core), TK (clrS s) h2 h' cc → v = fstF p 0 (zT s).1 → wp m_Q_judge h' 93 [some (.ref 123), some (.int (nI f)), some (.int (nI (zT s).1)), some (.int v), some (.int l4)] [] (tyI k) := by
      intro h' v l4 cc t' e
      rw [e_Q_judge_93, e]
      exact q_end oc I2 P2 t' (fun h4 a b => hk h4 b a)
    refine hp (A := fun i h' => TK (clrS s) h2 h' (goC (i - 1) (zC s)) ∧ fstF p 0 (zT s).1 = fstF p i ((zT s).1 - i)) (X := fun i h' => wp m_Q_judge h' 39 [some (.ref 123), some (.int (nI f)), some (.int (nI (zT s).1)), some (.int (-9)), some (.int (nI i))] [] (tyI k)) (zT s).1 ?_ ?_ 0 (Nat.zero_le _) h3 ⟨by rw [Nat.zero_sub, goC_0]; exact t3, rfl⟩
    · intro h' ⟨t', q⟩
      rw [e_Q_judge_39, if_pos (Int32.le_refl _)]
      exact fin h' _ _ _ t' (by rw [q, Nat.sub_self]; rfl)
    · intro i hi h' ⟨t', q⟩ ih
      rw [fstF_step p hi] at q
      have pe : p i = decide (¬ (zT s).2 i = tld (hoR (Cm (goC i (zC s)) f))) := by rw [← hp0]
      have step : ∀ h4, TK (clrS s) h2 h4 (goC i (zC s)) → wp m_Q_judge h4 58 [some (.ref 123), some (.int (nI f)), some (.int (nI (zT s).1)), some (.int (-9)), some (.int (nI i))] [] (tyI k) := by
        intro h4 t4
        have q4 := qw t4.2.1.1
        have og := okC_go o.1.1 i
        have r144 : gI h4 144 i = (zT s).2 i := by rw [t4.1.2.2.2 144 i (by unfold Tq; omega)]; exact row2 i hi
        rw [e_Q_judge_58, s_Q_headOwes t4.2.1 og hf, s_Q_held, held_tld (hoR_bd (og.2.2.1 f hf)) (by decide)]
        simp only [q4, true_and, true_or, inb_nI (show i < 12 by omega) (show 12 < 2 ^ 31 by decide), ix_nI (show i < 2 ^ 31 by omega), r144, e_Q_judge_86, nI_1]
        by_cases d : (zT s).2 i = tld (hoR (Cm (goC i (zC s)) f))
        · rw [if_neg (by rw [pe]; simp [d])] at q
          rw [if_neg (fun z => z d.symm)]
          exact ih h4 ⟨t4, q⟩
        · rw [if_pos (by rw [pe]; simp [d])] at q
          rw [if_pos (fun z => d z.symm), e_Q_judge_39, if_pos (show 0 ≤ nI i from nI_pos' (by omega))]
          have F := fin h4 (nI i) (nI (i + 1)) _ t4 q.symm
          split
          · exact F
          · exact F
      rw [e_Q_judge_39, if_neg (nI_ge hi (by omega)), if_neg (by decide)]
      by_cases i0 : i = 0
      · subst i0
        rw [if_pos (by decide)]
        exact step h' t'
      · rw [if_neg (nI_nle (by omega) (by omega))]
        refine ⟨TK_tg t', t_yearOn t' (okC_go o.1.1 (i - 1)) fun h4 t4 _ => step h4 ?_⟩
        rw [goC_1, show i - 1 + 1 = i by omega] at t4
        exact t4
  · rw [if_neg c] at hk
    have e1 : nF (zC s) x = -1 := by
      unfold nF at c ⊢
      by_cases z : offN x (Cf (zC s))
      · rw [if_pos z]
      · rw [if_neg z] at c; exact absurd rfl c
    have e2 : offN x (Cf (zC s)) := by
      by_cases z : offN x (Cf (zC s))
      · exact z
      · unfold nF at c; rw [if_neg z] at c; exact absurd rfl c
    rw [e1] at hk
    rw [if_pos e2, if_neg (fun z => z rfl)]
    exact t_Q_no I1 P1 (by unfold noK; simp) hk
theorem t_Q_image (o : okS s) : QO m_Q_image [] s (r_image s) := by
  intro h k I hk
  rw [c_Q_image]
  have I1 := IQ_12 I
  have P1 := KP_12 h
  refine ⟨I.1.1.1, ?_⟩
  generalize sI h 123 12 0 = h1 at I1 P1 ⊢
  have fr2 : Fs (fun b j => b = 123 ∧ j = 28) h1 (sI h1 123 28 1) := Fs_sI _ _ _ _ ⟨rfl, rfl⟩
  have L2 : Liv (sI h1 123 28 1) (zC s) := Liv_fs I1.1 fr2 (fun b j x => by unfold LRg; omega)
  have e28 : gI (sI h1 123 28 1) 123 28 = 1 := gI_sI_eq _ _ _ _
  have B2 : ∀ w, w < Cw (zC s) → gI (sI h1 123 28 1) 131 w = bF (zB s) w := fun w hw => by rw [gI_sI_ne _ _ _ _ (by omega)]; exact I1.2.1 w hw
  refine ⟨⟨I1.1.1.1, Or.inr rfl⟩, L2.1.1, L2.1.1, ?_⟩
  generalize sI h1 123 28 1 = h2 at fr2 L2 e28 B2 ⊢
  have q2 := qw L2.1
  simp only [q2]
  refine t_Q_take L2 (F := bF (zB s)) B2 (Or.inr (Or.inl rfl)) fun h3 fr3 L3 B3 K3 => ?_
  rw [L3.2.2.1.2.2.1]
  have frA : Fs (fun b j => (b = 123 ∧ j = 28) ∨ SC 141 b j) h1 h3 := Fs_trans (Fs_mono fr2 (fun b j x => Or.inl x)) (Fs_mono fr3 (fun b j x => Or.inr x))
  have g : ∀ b j, ¬ ((b = 123 ∧ j = 28) ∨ SC 141 b j) → gI h3 b j = gI h1 b j := frA.2.2.2
  have st := I1.2.2
  refine ⟨L3.1.1, hk h3 ⟨L3, B3, ?_, fun x hx => ?_, ⟨?_, fun j x hx => ?_⟩, ⟨?_, fun i hi => ?_⟩, ⟨?_, fun i hi => ?_⟩, fun i hi => ?_⟩ (KP_trans P1 (KP_fs frA (fun b j x => by unfold SC at x; omega)))⟩
  · rw [fr3.2.2.2 123 28 (by unfold SC; omega), e28]; rfl
  · have : x = s.1 := by
      have hx : (some s.1 : Option Zl) = some x := hx
      injection hx with hx
      exact hx.symm
    rw [this]; exact K3
  · rw [g 123 34 (by unfold SC; omega)]; exact st.2.2.1.1
  · have : gI h3 142 = gI h1 142 := funext fun j => g 142 j (by unfold SC; omega)
    rw [this]; exact st.2.2.1.2 j x hx
  · rw [g 123 19 (by unfold SC; omega)]; exact st.2.2.2.1.1
  · rw [g 136 i (by unfold SC; omega)]; exact st.2.2.2.1.2 i hi
  · rw [g 123 36 (by unfold SC; omega)]; exact st.2.2.2.2.1.1
  · rw [g 144 i (by unfold SC; omega)]; exact st.2.2.2.2.1.2 i hi
  · rw [g 132 i (by unfold SC; omega)]; exact st.2.2.2.2.2 i hi
theorem t_Q_restore (o : okS s) : QO m_Q_restore [] s (r_restore s) := by
  intro h k I hk
  rw [c_Q_restore]
  have I1 := IQ_12 I
  have P1 := KP_12 h
  refine ⟨I.1.1.1, ?_⟩
  generalize sI h 123 12 0 = h1 at I1 P1 ⊢
  have st := I1.2.2
  have q1 := qw I1.1.1
  rw [st.1]
  refine ⟨I1.1.1.1, ?_⟩
  unfold r_restore at hk
  cases hz : zI s with
  | none =>
    rw [hz] at hk
    rw [if_neg (by decide)]
    exact t_Q_no I1 P1 (by unfold noK; simp) hk
  | some z =>
    rw [hz] at hk
    rw [if_pos (show ¬ (if (some z).isSome = true then (1 : Int32) else 0) = 0 from by simp)]
    simp only [q1, true_and]
    refine t_Q_put I1.1.1 (o.2.1 z hz).1.1 (Or.inr (Or.inl rfl)) (st.2.1 z hz) fun h2 fr2 L2 B2 K2 => ?_
    have g : ∀ b j, ¬ SC 141 b j → gI h2 b j = gI h1 b j := fr2.2.2.2
    have I2 : IQ h2 (nowS s z) := by
      refine ⟨L2, B2, ?_, fun x hx => ?_, ⟨?_, fun j x hx => ?_⟩, ⟨?_, fun i hi => ?_⟩, ⟨?_, fun i hi => ?_⟩, fun i hi => ?_⟩
      · rw [g 123 28 (by unfold SC; omega)]; exact st.1
      · have hx : zI s = some x := hx
        rw [hz] at hx
        injection hx with hx
        rw [← hx]; exact K2
      · rw [g 123 34 (by unfold SC; omega)]; exact st.2.2.1.1
      · have : gI h2 142 = gI h1 142 := funext fun j => g 142 j (by unfold SC; omega)
        rw [this]; exact st.2.2.1.2 j x hx
      · rw [g 123 19 (by unfold SC; omega)]; exact st.2.2.2.1.1
      · rw [g 136 i (by unfold SC; omega)]; exact st.2.2.2.1.2 i hi
      · rw [g 123 36 (by unfold SC; omega)]; exact st.2.2.2.2.1.1
      · rw [g 144 i (by unfold SC; omega)]; exact st.2.2.2.2.1.2 i hi
      · rw [g 132 i (by unfold SC; omega)]; exact st.2.2.2.2.2 i hi
    have I3 := IQ_forget I2
    rw [I3.1.2.2.1.2.2.1]
    exact ⟨L2.1.1, L2.1.1, hk _ I3 (KP_trans P1 (KP_trans (KP_fs fr2 (fun b j x => by unfold SC at x; omega)) (KP_cell 123 34 0 (by omega))))⟩
theorem in_11 (x : Int32) : (if (11 : Int32) ≤ x ∧ x ≤ 16 then (1 : Int32) else 0) = if offN (x - 11) 6 then 0 else 1 := by
  by_cases d : offN (x - 11) 6
  · rw [if_pos d, if_neg]
    intro z
    have h0 : ¬ x < 0 := fun y => Int32.not_le.mpr (Int32.lt_of_lt_of_le y (by decide : (0 : Int32) ≤ 11)) z.1
    obtain ⟨m, hm, rfl⟩ := nI_of h0
    have h1 : 11 ≤ m := Nat.le_of_not_lt fun y => Int32.not_le.mpr (nI_lt (b := 11) y (by decide)) z.1
    have h2 : m ≤ 16 := Nat.le_of_not_lt fun y => Int32.not_le.mpr (nI_lt (a := 16) y hm) z.2
    rw [show (11 : Int32) = nI 11 from rfl, nI_subI h1] at d
    exact nI_on (by decide) (show m - 11 < 6 by omega) d
  · rw [if_neg d, if_pos]
    obtain ⟨i, hi, e, _⟩ := cnt_x d
    rw [cnt_is e]
    exact ⟨nI_le (a := 11) (by omega) (by omega), nI_le (b := 16) (by omega) (by decide)⟩
theorem t_Q_count (o : okS s) (x : Int32) : QQ m_Q_count [.int x] s 0 (v_count s x) := by
  intro h k I _ hv
  rw [c_Q_count]
  have I1 := IQ_12 I
  have P1 := KP_12 h
  refine ⟨I.1.1.1, ?_⟩
  generalize sI h 123 12 0 = h1 at I1 P1 ⊢
  have hv' := hv rfl h1 P1 I1
  have w := qw I1.1.1
  have L := I1.1
  have h5 := okf o
  have st := I1.2.2
  rw [e_Q_count_6]
  simp only [w, true_and]
  unfold v_count at hv'
  by_cases d0 : x = 0
  · rw [if_pos d0] at hv'
    rw [if_pos d0, L.2.2.1.1]; exact hv'
  rw [if_neg d0] at hv'
  rw [if_neg d0]
  by_cases d1 : x = 1
  · rw [if_pos d1] at hv'
    rw [if_pos d1, L.2.2.1.2.1]; exact hv'
  rw [if_neg d1] at hv'
  rw [if_neg d1]
  by_cases d2 : x = 2
  · rw [if_pos d2] at hv'
    rw [if_pos d2, L.2.2.1.2.2.1]; exact hv'
  rw [if_neg d2] at hv'
  rw [if_neg d2]
  by_cases d3 : x = 3
  · rw [if_pos d3] at hv'
    rw [if_pos d3, L.2.2.1.2.2.2]; exact hv'
  rw [if_neg d3] at hv'
  rw [if_neg d3]
  by_cases d4 : x = 4
  · rw [if_pos d4] at hv'
    rw [if_pos d4, s_Q_allHeads L]; exact hv'
  rw [if_neg d4] at hv'
  rw [if_neg d4]
  by_cases d5 : x = 5
  · rw [if_pos d5] at hv'
    rw [if_pos d5, s_Q_allDebts L]; exact hv'
  rw [if_neg d5] at hv'
  rw [if_neg d5]
  by_cases d6 : x = 6
  · rw [if_pos d6] at hv'
    rw [if_pos d6, s_Q_builtBits I1 o, ← built_bits o.1.2 (okw o)]; exact hv'
  rw [if_neg d6] at hv'
  rw [if_neg d6]
  by_cases d7 : x = 7
  · rw [if_pos d7] at hv'
    rw [if_pos d7, st.2.2.2.1.1]; exact hv'
  rw [if_neg d7] at hv'
  rw [if_neg d7]
  by_cases d8 : x = 8
  · rw [if_pos d8] at hv'
    rw [if_pos d8, st.2.2.2.2.1.1]; exact hv'
  rw [if_neg d8] at hv'
  rw [if_neg d8]
  by_cases d9 : x = 9
  · rw [if_pos d9] at hv'
    rw [if_pos d9, st.2.2.1.1]; exact hv'
  rw [if_neg d9] at hv'
  rw [if_neg d9]
  simp only [e_Q_count_138]
  rw [s_Q_inI h1 (lo := 11) (hi := 16) (by decide) (by decide), in_11]
  by_cases e : offN (x - 11) 6
  · rw [if_pos e] at hv'
    rw [if_pos e, if_pos rfl]; exact hv'
  · rw [if_neg e] at hv'
    obtain ⟨i, hi, e1, e2⟩ := cnt_x e
    rw [e1, ix_nI (by omega)] at hv'
    rw [if_neg e, if_neg (by decide), e2, ix_nI (by omega)]
    simp only [w, true_or, true_and, inb_nI (show i + 1 < 7 by omega) (show 7 < 2 ^ 31 by decide)]
    rw [st.2.2.2.2.2 (i + 1) (by omega)]
    exact hv'
end IoQ
