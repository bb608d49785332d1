/-! ===== the reference: pulled down, mergers, treaty, cheapest ===== -/
theorem th_m1 (b : Int32) : th (-1) b = -1 := if_neg (by decide)
theorem th_z (b : Int32) : th 0 b = b := if_pos rfl
theorem th_isF2 {X : Int32 → Prop} {c : Core} {x y b : Int32} (h : X (th (nTwo c x y) b)) : if (if offN x (Cf c) then (0 : Int32) else 1) = 0 then X (-1) else if (if offN y (Cf c) then (0 : Int32) else 1) = 0 then X (-1) else if x = y then X (-1) else X b := by
  by_cases d : offN x (Cf c)
  · rw [show nTwo c x y = -1 from if_pos (Or.inr (Or.inl d)), th_m1] at h
    rw [if_pos d, if_pos rfl]; exact h
  · rw [if_neg d, if_neg (by decide)]
    by_cases e : offN y (Cf c)
    · rw [show nTwo c x y = -1 from if_pos (Or.inr (Or.inr e)), th_m1] at h
      rw [if_pos e, if_pos rfl]; exact h
    · rw [if_neg e, if_neg (by decide)]
      by_cases g : x = y
      · rw [show nTwo c x y = -1 from if_pos (Or.inl g), th_m1] at h
        rw [if_pos g]; exact h
      · rw [show nTwo c x y = 0 from if_neg (fun z => z.elim g (fun w => w.elim d e)), th_z] at h
        rw [if_neg g]; exact h
theorem th_isWF {X : Int32 → Prop} {c : Core} {x y b : Int32} (h : X (th (nWF c x y) b)) : if (if offN x (Cw c) then (0 : Int32) else 1) = 0 then X (-1) else if (if offN y (Cf c) then (0 : Int32) else 1) = 0 then X (-1) else X b := by
  by_cases d : offN x (Cw c)
  · rw [show nWF c x y = -1 from if_pos (Or.inl d), th_m1] at h
    rw [if_pos d, if_pos rfl]; exact h
  · rw [if_neg d, if_neg (by decide)]
    by_cases e : offN y (Cf c)
    · rw [show nWF c x y = -1 from if_pos (Or.inr e), th_m1] at h
      rw [if_pos e, if_pos rfl]; exact h
    · rw [show nWF c x y = 0 from if_neg (fun z => z.elim d e), th_z] at h
      rw [if_neg e, if_neg (by decide)]; exact h
theorem RgF_merge {c : Core} (o : okC c) {a b : Nat} (ha : a < Cf c) (hb : b < Cf c) : RgF (mergeR c a b) := by
  have A := (o.2.2.1 a ha).1
  have B := (o.2.2.1 b hb).1
  refine RgF_owe (RgF_0 (o.2.2.1 a ha) ?_) (o.2.2.1 b hb).2.1 (by decide)
  obtain ⟨p, ep, p1, p2⟩ := bd_of A
  obtain ⟨q, eq, q1, q2⟩ := bd_of B
  rw [ep, eq, nI_add]
  by_cases d : p + q < 20
  · rw [if_pos (show nI (p + q) < 20 from nI_lt (b := 20) d (by decide))]; exact bd_nI (by omega) (by omega) (by decide)
  · rw [if_neg (show ¬ nI (p + q) < 20 from nI_nlt (b := 20) (by omega) (by omega))]; exact bd_nI (n := 20) (by omega) (by omega) (by decide)
theorem held_heads {r r' : Row} (R : RgF r) (R' : RgF r') : heldN (r 0 + r' 0) 1 20 = if r 0 + r' 0 < 20 then r 0 + r' 0 else 20 := by
  obtain ⟨p, ep, p1, p2⟩ := bd_of R.1
  obtain ⟨q, eq, q1, q2⟩ := bd_of R'.1
  rw [ep, eq, nI_add]
  unfold heldN
  rw [if_neg (show ¬ nI (p + q) < 1 from nI_nlt (b := 1) (by omega) (by omega))]
  by_cases d : p + q < 20
  · rw [if_pos (show nI (p + q) < 20 from nI_lt (b := 20) d (by decide)), if_neg (show ¬ (20 : Int32) < nI (p + q) from nI_nlt (a := 20) (by omega) (by decide))]
  · rw [if_neg (show ¬ nI (p + q) < 20 from nI_nlt (b := 20) (by omega) (by omega))]
    by_cases e : p + q = 20
    · rw [e]; decide
    · rw [if_pos (show (20 : Int32) < nI (p + q) from nI_lt (a := 20) (by omega) (by omega))]
theorem rYear_5 (x y : Int32) (r : Row) : rYear x y r 5 = r 5 + dPaid x r := by
  have e : rSettle x r 5 = r 5 + dPaid x r := by
    unfold rSettle rPay dPaid
    try dsimp only
    rw [rs_eq, rs_ne _ _ (show (5 : Nat) ≠ 4 by decide), rs_ne _ _ (show (2 : Nat) ≠ 4 by decide), rs_ne _ _ (show (0 : Nat) ≠ 4 by decide), rs_ne _ _ (show (1 : Nat) ≠ 4 by decide)]
    unfold rOwe
    rw [rs_ne _ _ (show (5 : Nat) ≠ 1 by decide), rs_ne _ _ (show (2 : Nat) ≠ 1 by decide), rs_ne _ _ (show (0 : Nat) ≠ 1 by decide)]
  unfold rYear rBear
  try dsimp only
  split
  · exact e
  · split
    · split
      · split
        · rw [rs_ne _ _ (show (5 : Nat) ≠ 6 by decide), rs_ne _ _ (show (5 : Nat) ≠ 0 by decide)]; exact e
        · rw [rs_ne _ _ (show (5 : Nat) ≠ 0 by decide)]; exact e
      · exact e
    · exact e
theorem rYear_6 (x y : Int32) (r : Row) : rYear x y r 6 = r 6 + dBorn x y r := by
  have e : rSettle x r 6 = r 6 := by
    unfold rSettle rPay
    try dsimp only
    rw [rs_ne _ _ (show (6 : Nat) ≠ 5 by decide), rs_ne _ _ (show (6 : Nat) ≠ 1 by decide), rs_ne _ _ (show (6 : Nat) ≠ 4 by decide)]
    unfold rOwe
    rw [rs_ne _ _ (show (6 : Nat) ≠ 1 by decide)]
  unfold rYear rBear dBorn
  try dsimp only
  split
  · rw [e, Int32.add_zero]
  · split
    · split
      · split
        · rw [rs_eq, e]
        · rw [rs_ne _ _ (show (6 : Nat) ≠ 0 by decide), e, Int32.add_zero]
      · rw [e, Int32.add_zero]
    · rw [e, Int32.add_zero]
theorem dPaid_e {r r' : Row} (e : Ew 4 r r') (x : Int32) : dPaid x r = dPaid x r' := by
  unfold dPaid
  try dsimp only
  rw [e 1 (by decide), e 2 (by decide), e 0 (by decide), rOwe_e (by decide) e (r' 1 * x / 100) 1 (by decide)]
theorem dBorn_e {r r' : Row} (e : Ew 4 r r') (x y : Int32) : dBorn x y r = dBorn x y r' := by
  have e1 := rSettle_e (by decide) e x (Or.inl rfl)
  unfold dBorn
  try dsimp only
  rw [e1 3 (by decide), e1 0 (by decide), e1 1 (by decide)]
theorem sum_5 (x y : Int32) {r r' : Row} (e : Ew 4 r r') (z : r 5 = 0) : ∀ n, rYears x y n r 5 = sumN (fun j => dPaid x (rYears x y j r')) n
  | 0 => z
  | n + 1 => by
    show rYear x (y + nI (n + 1)) (rYears x y n r) 5 = _ + dPaid x (rYears x y n r')
    rw [rYear_5, sum_5 x y e z n, dPaid_e (rYears_e e x y (Or.inl rfl) n)]
theorem sum_6 (x y : Int32) {r r' : Row} (e : Ew 4 r r') (z : r 6 = 0) : ∀ n, rYears x y n r 6 = sumN (fun j => dBorn x (y + nI j + 1) (rYears x y j r')) n
  | 0 => z
  | n + 1 => by
    show rYear x (y + nI (n + 1)) (rYears x y n r) 6 = _ + dBorn x (y + nI n + 1) (rYears x y n r')
    rw [← nI_1, ← Int32.add_assoc, rYear_6, sum_6 x y e z n, dBorn_e (rYears_e e x y (Or.inl rfl) n)]
theorem sumN_add (f g : Nat → Int32) : ∀ n, sumN (fun i => f i + g i) n = sumN f n + sumN g n
  | 0 => rfl
  | n + 1 => by
    show sumN (fun i => f i + g i) n + (f n + g n) = (sumN f n + f n) + (sumN g n + g n)
    rw [sumN_add f g n, Int32.add_assoc, Int32.add_assoc, ← Int32.add_assoc (sumN g n), Int32.add_comm (sumN g n) (f n), Int32.add_assoc (f n)]
theorem sumN_0 : ∀ n, sumN (fun _ => 0) n = 0
  | 0 => rfl
  | n + 1 => by
    show sumN (fun _ => 0) n + 0 = 0
    rw [sumN_0 n]; rfl
theorem sumN_swap (F : Nat → Nat → Int32) (m : Nat) : ∀ n, sumN (fun j => sumN (fun f => F j f) m) n = sumN (fun f => sumN (fun j => F j f) n) m
  | 0 => (sumN_0 m).symm
  | n + 1 => by
    show sumN (fun j => sumN (fun f => F j f) m) n + sumN (fun f => F n f) m = sumN (fun f => sumN (fun j => F j f) n + F n f) m
    rw [sumN_swap F m n, sumN_add]
theorem born_eq (c : Core) (n : Nat) : bornN n c = v_born c n := by
  unfold bornN v_born
  rw [sumN_swap]
  congr 1
  funext f
  exact (sum_6 (Cr c) (Cy c) (fz_e _) rfl n).symm
section Q5
variable {h h' h0 h1 h2 h3 : PH} {s : Sta} {c c' : Core} {f n : Nat} {no v : Int32}
theorem IQ_sh (I : IQ h s) (fr : Fs (fun b _ => b = 133 ∨ b = 134) h h') : IQ h' s ∧ KP h h' := by
  have fr' : Fs Tq h h' := Fs_mono fr (fun b j x => by unfold Tq; omega)
  exact ⟨IQ_Tq I fr' (fun b j x => fr.2.2.2 b j (by unfold LRg at x; omega)), KP_Tq fr'⟩
theorem t_Q_share (o : okS s) (x y : Int32) : QQ m_Q_share [.int x, .int y] s (nWF (zC s) x y) (shareC (zC s) (Ck (zC s) (ix x)) (ix y)) := by
  intro h k I hr hv
  rw [c_Q_share]
  have I1 := IQ_12 I
  have P1 := KP_12 h
  refine ⟨I.1.1.1, ?_⟩
  generalize sI h 123 12 0 = h1 at I1 P1 ⊢
  refine ⟨I1.1.1.1, ?_⟩
  rw [s_Q_isWork I1.1, s_Q_isFamily I1.1]
  simp only [e_Q_share_21]
  have h5 := okf o
  have h6 := okw o
  by_cases c : nWF (zC s) x y = 0
  · have hv' := hv c
    have n : ¬ (offN x (Cw (zC s)) ∨ offN y (Cf (zC s))) := fun z => by unfold nWF at c; rw [if_pos z] at c; exact absurd c (by decide)
    obtain ⟨w, f, hw, hf, rfl, rfl⟩ := nWF_0 (okf o) (okw o) c
    rw [ix_nI (show w < 2 ^ 31 by omega), ix_nI (show f < 2 ^ 31 by omega)] at hv'
    rw [if_neg (fun z => n (Or.inl z)), if_neg (by decide), if_neg (fun z => n (Or.inr z)), if_pos (by decide)]
    refine ⟨I1.1.1.1, I1.1.1.1, t_Q_layShares I1.1 o.1.1 hw fun h2 fr e => ?_⟩
    have I2 := IQ_sh I1 fr
    have q := qw I2.1.1.1
    simp only [q, true_and, true_or, b5 (show f < 5 by omega), ix_nI (show f < 2 ^ 31 by omega), e f (by omega)]
    exact hv' h2 (KP_trans P1 I2.2) I2.1
  · have e1 : nWF (zC s) x y = -1 := by
      unfold nWF at c ⊢
      by_cases z : offN x (Cw (zC s)) ∨ offN y (Cf (zC s))
      · rw [if_pos z]
      · rw [if_neg z] at c; exact absurd rfl c
    have n : offN x (Cw (zC s)) ∨ offN y (Cf (zC s)) := by
      by_cases z : offN x (Cw (zC s)) ∨ offN y (Cf (zC s))
      · exact z
      · unfold nWF at e1; rw [if_neg z] at e1; exact absurd e1 (by decide)
    have fin := q_no I1 P1 (hr c)
    rw [e1] at fin
    by_cases a : offN x (Cw (zC s))
    · rw [if_pos a, if_pos rfl]; exact fin
    · rw [if_neg a, if_neg (by decide)]
      refine ⟨I1.1.1.1, ?_⟩
      rw [if_pos (n.elim (fun w => absurd w a) id), if_neg (by decide)]
      exact fin
theorem t_Q_pulledDown (o : okS s) (x y z : Int32) : QQ m_Q_pulledDown [.int x, .int y, .int z] s (th (nWF (zC s) x y) (outN z 0 100)) (v_pulled (zC s) (ix x) (ix y) (ix z)) := by
  intro h k I hr hv
  rw [c_Q_pulledDown]
  have I1 := IQ_12 I
  have P1 := KP_12 h
  refine ⟨I.1.1.1, ?_⟩
  generalize sI h 123 12 0 = h1 at I1 P1 ⊢
  refine ⟨I1.1.1.1, ?_⟩
  rw [s_Q_isWork I1.1, s_Q_isFamily I1.1, s_Q_wrongNumber]
  simp only [e_Q_pulledDown_31, I1.1.1.1, true_and]
  refine th_isWF (X := fun v => wp m_Q_pulledDown h1 32 [some (.ref 123), some (.int x), some (.int y), some (.int z), none, none, none, none] [.int v] (tyI k)) ?_
  show wp m_Q_pulledDown h1 32 _ _ _
  rw [e_Q_pulledDown_32]
  by_cases c : th (nWF (zC s) x y) (outN z 0 100) = 0
  · rw [if_pos (by rw [c]; decide)]
    have hv' := hv c
    obtain ⟨c1, c2⟩ := th_0.mp c
    obtain ⟨w, f, hw, hf, rfl, rfl⟩ := nWF_0 (okf o) (okw o) c1
    obtain ⟨n, hn, rfl, _, hn2⟩ := outN_0 (lo := 0) (hi := 100) (by decide) c2
    have h5 := okf o
    have h6 := okw o
    unfold v_pulled at hv'
    rw [ix_nI (show w < 2 ^ 31 by omega), ix_nI (show f < 2 ^ 31 by omega), ix_nI hn] at hv'
    refine ⟨I1.1.1.1, t_Q_layShares I1.1 o.1.1 hw fun h2 fr e => ?_⟩
    have I2 := IQ_sh I1 fr
    have q2 := qw I2.1.1.1
    simp only [q2, true_and, true_or, b5 (show f < 5 by omega), ix_nI (show f < 2 ^ 31 by omega), e f (by omega)]
    refine t_think I2.1 fun h3 t3 B3 => ⟨TK_tg t3, t_go t3 o.1.1 (by omega) fun h4 t4 _ _ _ => ?_⟩
    have q4 := qw t4.2.1.1
    simp only [q4, true_and, true_or, b5 (show f < 5 by omega), (t4.2.1.2.2.2.1 f hf).2.1]
    refine t_again t4 o fun h5 t5 B5 _ _ _ => ?_
    have q5 := qw t5.2.1.1
    have R := o.1.1.2.2.1 f hf
    have sb := shareC_bd o.1.1 (o.1.1.2.2.2 w hw) f
    simp only [q5, true_and, true_or, b5 (show f < 5 by omega), (t5.2.1.2.2.2.1 f hf).2.1, s_Q_held]
    rw [held_pay R sb (by decide)]
    have t6 := TK_debt t5 (x := rPay (shareC (zC s) (Ck (zC s) w) f) (Cm (zC s) f) 1) (r := rPay (shareC (zC s) (Ck (zC s) w) f) (Cm (zC s) f)) hf (by unfold rPay; rw [rs_ne _ _ (by decide), rs_ne _ _ (by decide)]) rfl (by unfold rPay; rw [rs_ne _ _ (by decide), rs_ne _ _ (by decide)]) (by unfold rPay; rw [rs_ne _ _ (by decide), rs_ne _ _ (by decide)])
    have o6 := okC_set o.1.1 (f := f) (RgF_pay R sb (by decide))
    refine ⟨TK_tg t6, t_go t6 o6 (by omega) fun h7 t7 _ _ _ => ?_⟩
    have q7 := qw t7.2.1.1
    have e7 : Cm (goC n (cM (zC s) (setM (Cm (zC s)) f (rPay (shareC (zC s) (Ck (zC s) w) f) (Cm (zC s) f))))) f = rYears (Cr (zC s)) (Cy (zC s)) n (rPay (shareC (zC s) (Ck (zC s) w) f) (Cm (zC s) f)) := by
      show rYears (Cr (zC s)) (Cy (zC s)) n (setM (Cm (zC s)) f (rPay (shareC (zC s) (Ck (zC s) w) f) (Cm (zC s) f)) f) = _
      rw [setM_eq]
    have r7 := (t7.2.1.2.2.2.1 f hf).2.1
    rw [e7] at r7
    simp only [q7, true_and, true_or, b5 (show f < 5 by omega), r7]
    refine t_again t7 o fun h8 t8 B8 _ _ _ => ?_
    exact hv' h8 (KP_trans P1 (KP_trans I2.2 (KP_Tq t8.1))) (IQ_back I2.1 t8 B8)
  · rw [if_neg (ng (nK_th (nK_WF _ _ _) (nK_out _ _ _) c))]
    exact q_no I1 P1 (hr c)
theorem t_Q_headIn (o : okS s) (I : IQ h s) (hf : f < Cf (zC s)) (hn : n < 2 ^ 30) {k : PH → Int32 → Prop} (hk : ∀ h', KP h h' → IQ h' s → k h' (hoR (Cm (goC n (zC s)) f))) : ccI m_Q_headIn h [.ref 123, .int (nI f), .int (nI n)] k := by
  rw [c_Q_headIn]
  refine ⟨I.1.1.1, t_think I fun h1 t1 _ => ⟨TK_tg t1, t_go t1 o.1.1 hn fun h2 t2 _ _ _ => ⟨TK_tg t2, ?_⟩⟩⟩
  rw [s_Q_headOwes t2.2.1 (okC_go o.1.1 n) hf]
  exact q_end (P1 := KP_Tq (Fs_refl _ _)) o I t2 hk
theorem t_Q_mergedIn (o : okS s) (I : IQ h s) {a b : Nat} (ha : a < Cf (zC s)) (hb : b < Cf (zC s)) (hab : a ≠ b) (hn : n < 2 ^ 30) {k : PH → Int32 → Prop} (hk : ∀ h', KP h h' → IQ h' s → k h' (v_merger (zC s) a b n)) : ccI m_Q_mergedIn h [.ref 123, .int (nI a), .int (nI b), .int (nI n)] k := by
  have h5 := okf o
  rw [c_Q_mergedIn]
  refine ⟨I.1.1.1, t_think I fun h1 t1 _ => ?_⟩
  have q1 := qw t1.2.1.1
  have ra := t1.2.1.2.2.2.1 a ha
  have rb := t1.2.1.2.2.2.1 b hb
  have Ra := o.1.1.2.2.1 a ha
  have Rb := o.1.1.2.2.1 b hb
  simp only [q1, true_and, true_or, b5 (show a < 5 by omega), b5 (show b < 5 by omega), ix_nI (show a < 2 ^ 31 by omega), ix_nI (show b < 2 ^ 31 by omega), ra.1, rb.1]
  rw [s_Q_held, held_heads Ra Rb]
  have t2 := TK_head t1 (x := if Cm (zC s) a 0 + Cm (zC s) b 0 < 20 then Cm (zC s) a 0 + Cm (zC s) b 0 else 20) (r := rs (Cm (zC s) a) 0 (if Cm (zC s) a 0 + Cm (zC s) b 0 < 20 then Cm (zC s) a 0 + Cm (zC s) b 0 else 20)) ha (rs_eq _ _ _) (rs_ne _ _ (by decide)) (rs_ne _ _ (by decide)) (rs_ne _ _ (by decide))
  have q2 := qw t2.2.1.1
  have ra2 := (t2.2.1.2.2.2.1 a ha).2.1
  have rb2 := (t2.2.1.2.2.2.1 b hb).2.1
  have ea : Cm (cM (zC s) (setM (Cm (zC s)) a (rs (Cm (zC s) a) 0 (if Cm (zC s) a 0 + Cm (zC s) b 0 < 20 then Cm (zC s) a 0 + Cm (zC s) b 0 else 20)))) a = rs (Cm (zC s) a) 0 (if Cm (zC s) a 0 + Cm (zC s) b 0 < 20 then Cm (zC s) a 0 + Cm (zC s) b 0 else 20) := setM_eq _ _ _
  have eb : Cm (cM (zC s) (setM (Cm (zC s)) a (rs (Cm (zC s) a) 0 (if Cm (zC s) a 0 + Cm (zC s) b 0 < 20 then Cm (zC s) a 0 + Cm (zC s) b 0 else 20)))) b = Cm (zC s) b := setM_ne _ _ (fun z => hab z.symm)
  rw [ea] at ra2
  rw [eb] at rb2
  have Rm : RgF (rs (Cm (zC s) a) 0 (if Cm (zC s) a 0 + Cm (zC s) b 0 < 20 then Cm (zC s) a 0 + Cm (zC s) b 0 else 20)) := by
    refine RgF_0 Ra ?_
    have := (RgF_merge o.1.1 ha hb).1
    unfold mergeR rOwe at this
    rw [rs_ne _ _ (by decide), rs_eq] at this
    exact this
  simp only [q1, q2, true_and, true_or, b5 (show a < 5 by omega), b5 (show b < 5 by omega), ra2, rb2]
  rw [s_Q_held, held_owe Rm Rb.2.1 (by decide)]
  have t3 := TK_debt t2 (x := mergeR (zC s) a b 1) (r := mergeR (zC s) a b) ha (by rw [ea]; unfold mergeR rOwe; exact rs_ne _ _ (by decide)) rfl (by rw [ea]; unfold mergeR rOwe; exact rs_ne _ _ (by decide)) (by rw [ea]; unfold mergeR rOwe; exact rs_ne _ _ (by decide))
  have o3 := okC_set (okC_set o.1.1 (f := a) Rm) (f := a) (RgF_merge o.1.1 ha hb)
  have q3 := qw t3.2.1.1
  simp only [q2, true_and, b5 (show a < 5 by omega)]
  refine ⟨TK_tg t3, t_go t3 o3 hn fun h4 t4 _ _ _ => ⟨TK_tg t4, ?_⟩⟩
  rw [s_Q_headOwes t4.2.1 (okC_go o3 n) ha]
  refine q_end (P1 := KP_Tq (Fs_refl _ _)) o I t4 ?_
  have e4 : hoR (Cm (goC n (cM (cM (zC s) (setM (Cm (zC s)) a (rs (Cm (zC s) a) 0 (if Cm (zC s) a 0 + Cm (zC s) b 0 < 20 then Cm (zC s) a 0 + Cm (zC s) b 0 else 20)))) (setM (Cm (cM (zC s) (setM (Cm (zC s)) a (rs (Cm (zC s) a) 0 (if Cm (zC s) a 0 + Cm (zC s) b 0 < 20 then Cm (zC s) a 0 + Cm (zC s) b 0 else 20))))) a (mergeR (zC s) a b)))) a) = v_merger (zC s) a b n := by
    show hoR (rYears (Cr (zC s)) (Cy (zC s)) n (setM _ a (mergeR (zC s) a b) a)) = _
    rw [setM_eq]; rfl
  rw [e4]
  exact hk
theorem t_Q_merger (o : okS s) (x y z : Int32) : QQ m_Q_merger [.int x, .int y, .int z] s (th (nTwo (zC s) x y) (outN z 0 100)) (v_merger (zC s) (ix x) (ix y) (ix z)) := by
  intro h k I hr hv
  rw [c_Q_merger]
  have I1 := IQ_12 I
  have P1 := KP_12 h
  refine ⟨I.1.1.1, ?_⟩
  generalize sI h 123 12 0 = h1 at I1 P1 ⊢
  refine ⟨I1.1.1.1, ?_⟩
  rw [s_Q_isFamily I1.1, s_Q_isFamily I1.1, s_Q_wrongNumber]
  simp only [e_Q_merger_36, I1.1.1.1, true_and]
  refine th_isF2 (X := fun v => wp m_Q_merger h1 37 [some (.ref 123), some (.int x), some (.int y), some (.int z), none] [.int v] (tyI k)) ?_
  show wp m_Q_merger h1 37 _ _ _
  rw [e_Q_merger_37]
  simp only [e_Q_merger_60]
  by_cases c : th (nTwo (zC s) x y) (outN z 0 100) = 0
  · rw [if_pos (by rw [c]; decide)]
    have hv' := hv c
    obtain ⟨c1, c2⟩ := th_0.mp c
    obtain ⟨a, b, ha, hb, hab, rfl, rfl⟩ := nTwo_0 (okf o) c1
    obtain ⟨n, hn, rfl, _, hn2⟩ := outN_0 (lo := 0) (hi := 100) (by decide) c2
    have h5 := okf o
    rw [ix_nI (show a < 2 ^ 31 by omega), ix_nI (show b < 2 ^ 31 by omega), ix_nI hn] at hv'
    exact ⟨I1.1.1.1, t_Q_mergedIn o I1 ha hb hab (by omega) fun h2 P2 I2 => hv' h2 (KP_trans P1 P2) I2⟩
  · rw [if_neg (ng (nK_th (nK_Two _ _ _) (nK_out _ _ _) c))]
    exact q_no I1 P1 (hr c)
theorem mrg_R {c : Core} (o : okC c) (n : Nat) : ∀ a, a ≤ Cf c → mnR (-9) 2147483647 999999 (mrgO c n 2147483647 a) (mrgO c n 999999 a)
  | 0, _ => Or.inr ⟨rfl, rfl⟩
  | a + 1, ha => by
    have ih := mrg_R o n a (by omega)
    have inner : ∀ d, a + 1 + d ≤ Cf c → mnR (-9) 2147483647 999999 (mrgI c n a (mrgO c n 2147483647 a) d) (mrgI c n a (mrgO c n 999999 a) d) := by
      intro d
      induction d with
      | zero => exact fun _ => ih
      | succ d id => exact fun hd => mnU_R (id (by omega)) fun _ => hoR_lt (RgF_years (RgF_merge o (by omega) (by omega)) o.2.1 n)
    exact inner (Cf c - (a + 1)) (by omega)
theorem t_Q_bestMerger (o : okS s) (y : Int32) : QQ m_Q_bestMerger [.int y] s (outN y 0 100) (mrgO (zC s) (ix y) 2147483647 (Cf (zC s))).1 := by
  intro h k I hr hv
  rw [c_Q_bestMerger]
  have I1 := IQ_12 I
  have P1 := KP_12 h
  refine ⟨I.1.1.1, ?_⟩
  generalize sI h 123 12 0 = h1 at I1 P1 ⊢
  rw [s_Q_wrongNumber]
  by_cases c : outN y 0 100 = 0
  · rw [if_pos (by rw [c]; decide)]
    have hv' := hv c
    obtain ⟨n, hn, rfl, _, hn2⟩ := outN_0 (lo := 0) (hi := 100) (by decide) c
    have h5 := okf o
    rw [ix_nI hn, mnR_1 (mrg_R o.1.1 n _ (Nat.le_refl _))] at hv'
    refine hp (A := fun _ h' => KP h h' ∧ IQ h' s) (X := fun a h' => ∀ q5 q6 q7, wp m_Q_bestMerger h' 37 [some (.ref 123), some (.int (nI n)), some (.int (mrgO (zC s) n 999999 a).1), some (.int (mrgO (zC s) n 999999 a).2), some (.int (nI a)), q5, q6, q7] [] (tyI k)) (Cf (zC s)) ?_ ?_ 0 (Nat.zero_le _) h1 ⟨P1, I1⟩ none none none
    · intro h' ⟨P', I'⟩ q5 q6 q7
      rw [e_Q_bestMerger_37, I'.1.2.2.1.1, if_pos (Int32.le_refl _)]
      exact ⟨I'.1.1.1, hv' h' P' I'⟩
    · intro a ha h' ⟨P', I'⟩ ih q5 q6 q7
      rw [e_Q_bestMerger_37, I'.1.2.2.1.1, if_neg (nI_ge ha (by omega)), nI_1]
      refine ⟨I'.1.1.1, ?_⟩
      generalize hst : mrgO (zC s) n 999999 a = st
      refine hp (A := fun _ h' => KP h h' ∧ IQ h' s) (X := fun d h' => ∀ q6 q7, wp m_Q_bestMerger h' 52 [some (.ref 123), some (.int (nI n)), some (.int (mrgI (zC s) n a st d).1), some (.int (mrgI (zC s) n a st d).2), some (.int (nI a)), some (.int (nI (a + 1 + d))), q6, q7] [] (tyI k)) (Cf (zC s) - (a + 1)) ?_ ?_ 0 (Nat.zero_le _) h' ⟨P', I'⟩ q6 q7
      · intro h2 ⟨P2, I2⟩ q6 q7
        rw [e_Q_bestMerger_52, I2.1.2.2.1.1, if_pos (nI_le (by omega) (by omega)), nI_1]
        refine ⟨I2.1.1.1, ?_⟩
        have := ih h2 ⟨P2, I2⟩
        simp only [mrgO, hst] at this
        exact this _ _ _
      · intro d hd h2 ⟨P2, I2⟩ ih2 q6 q7
        have hb : a + 1 + d < Cf (zC s) := by omega
        rw [e_Q_bestMerger_52, I2.1.2.2.1.1, if_neg (nI_ge hb (by omega))]
        refine ⟨I2.1.1.1, I2.1.1.1, t_Q_mergedIn o I2 ha hb (by omega) (by omega) fun h3 P3 I3 => ⟨I3.1.1.1, t_Q_headIn o I3 ha (by omega) fun h4 P4 I4 => ?_⟩⟩
        have P24 := KP_trans P2 (KP_trans P3 P4)
        have next : ∀ (h5 : PH) (x : Int32) (hx : x = if (¬ hoR (Cm (goC n (zC s)) a) ≤ v_merger (zC s) a (a + 1 + d) n ∧ ¬ hoR (Cm (goC n (zC s)) (a + 1 + d)) ≤ v_merger (zC s) a (a + 1 + d) n) ∧ v_merger (zC s) a (a + 1 + d) n < (mrgI (zC s) n a st d).2 then 1 else 0), KP h h5 → IQ h5 s →
            wp m_Q_bestMerger h5 107 [some (.ref 123), some (.int (nI n)), some (.int (mrgI (zC s) n a st d).1), some (.int (mrgI (zC s) n a st d).2), some (.int (nI a)), some (.int (nI (a + 1 + d))), some (.int (v_merger (zC s) a (a + 1 + d) n)), q7] [.int x] (tyI k) := by
          intro h5 x hx P5 I5
          have ih' := ih2 h5 ⟨P5, I5⟩
          simp only [mrgI, mrgU, mnU, decide_eq_true_eq] at ih'
          simp only [e_Q_bestMerger_107, e_Q_bestMerger_126, e_Q_bestMerger_138, nI_1]
          by_cases e : (¬ hoR (Cm (goC n (zC s)) a) ≤ v_merger (zC s) a (a + 1 + d) n ∧ ¬ hoR (Cm (goC n (zC s)) (a + 1 + d)) ≤ v_merger (zC s) a (a + 1 + d) n) ∧ v_merger (zC s) a (a + 1 + d) n < (mrgI (zC s) n a st d).2
          · rw [if_pos e] at hx ih'
            rw [hx]
            simp only [if_neg (show ¬ (1 : Int32) = 0 by decide)]
            exact ih' _ _
          · rw [if_neg e] at hx ih'
            rw [hx]
            simp only [if_true]
            exact ih' _ _
        simp only [e_Q_bestMerger_106]
        by_cases e1 : hoR (Cm (goC n (zC s)) a) ≤ v_merger (zC s) a (a + 1 + d) n
        · rw [if_pos e1]
          exact next h4 0 (by rw [if_neg (fun z => z.1.1 e1)]) P24 I4
        · rw [if_neg e1]
          refine ⟨I4.1.1.1, t_Q_headIn o I4 hb (by omega) fun h5 P5 I5 => ?_⟩
          by_cases e2 : hoR (Cm (goC n (zC s)) (a + 1 + d)) ≤ v_merger (zC s) a (a + 1 + d) n
          · rw [if_pos e2]
            exact next h5 0 (by rw [if_neg (fun z => z.1.2 e2)]) (KP_trans P24 P5) I5
          · rw [if_neg e2]
            by_cases e3 : v_merger (zC s) a (a + 1 + d) n < (mrgI (zC s) n a st d).2
            · rw [if_neg (Int32.not_le.mpr e3)]
              exact next h5 1 (by rw [if_pos ⟨⟨e1, e2⟩, e3⟩]) (KP_trans P24 P5) I5
            · rw [if_pos (Int32.not_lt.mp e3)]
              exact next h5 0 (by rw [if_neg (fun z => e3 z.2)]) (KP_trans P24 P5) I5
  · rw [if_neg (ng (nK_out _ _ _ c)), s_Q_wrongNumber]
    exact q_no I1 P1 (hr c)
theorem t_Q_burden (o : okS s) (I : IQ h s) (hf : f < Cf (zC s)) {m : Nat} (hm : m ≤ 1) {p : Int32} (hp : p = if m = 0 then Cm (zC s) f 2 else if Cm (zC s) f 2 + 1 < 9 then Cm (zC s) f 2 + 1 else 9) (hn : n < 2 ^ 30) {k : PH → Int32 → Prop} (hk : ∀ h', KP h h' → IQ h' s → k h' (costR (zC s) f n p)) : ccI m_Q_burden h [.ref 123, .int (nI f), .int (nI m), .int (nI n)] k := by
  have h5 := okf o
  rw [c_Q_burden]
  refine ⟨I.1.1.1, t_think I fun h1 t1 _ => ?_⟩
  have q1 := qw t1.2.1.1
  have r1 := t1.2.1.2.2.2.1 f hf
  have R := o.1.1.2.2.1 f hf
  simp only [q1, true_and, true_or, b5 (show f < 5 by omega), ix_nI (show f < 2 ^ 31 by omega), r1.2.2.1]
  obtain ⟨d, ed, _, d2⟩ := bd_of R.2.2.1
  have hh : heldN (Cm (zC s) f 2 + nI m) 0 9 = p ∧ bd p 0 9 := by
    rw [ed] at hp ⊢
    rw [nI_add]
    unfold heldN
    rw [if_neg (nI_pos (by omega))]
    by_cases e0 : m = 0
    · subst e0
      rw [if_pos rfl] at hp
      rw [Nat.add_zero, if_neg (show ¬ (9 : Int32) < nI d from nI_nlt (a := 9) (by omega) (by decide)), hp]
      exact ⟨rfl, bd_nI (by omega) (by omega) (by decide)⟩
    · obtain rfl : m = 1 := by omega
      rw [if_neg (by decide), nI_1] at hp
      by_cases e1 : d + 1 < 9
      · rw [if_pos (show nI (d + 1) < 9 from nI_lt (b := 9) e1 (by decide))] at hp
        rw [if_neg (show ¬ (9 : Int32) < nI (d + 1) from nI_nlt (a := 9) (by omega) (by decide)), hp]
        exact ⟨rfl, bd_nI (by omega) (by omega) (by decide)⟩
      · rw [if_neg (show ¬ nI (d + 1) < 9 from nI_nlt (b := 9) (by omega) (by omega))] at hp
        rw [hp]
        refine ⟨?_, bd_nI (n := 9) (by omega) (by omega) (by decide)⟩
        by_cases e2 : d + 1 = 9
        · rw [e2]; decide
        · rw [if_pos (show (9 : Int32) < nI (d + 1) from nI_lt (a := 9) (by omega) (by omega))]
  rw [s_Q_held, hh.1]
  have t2 := TK_pay t1 (x := p) (r := rs (Cm (zC s) f) 2 p) hf (rs_ne _ _ (by decide)) (rs_ne _ _ (by decide)) (rs_eq _ _ _) (rs_ne _ _ (by decide))
  have o2 := okC_set o.1.1 (f := f) (RgF_2 R hh.2)
  simp only [q1, true_and, b5 (show f < 5 by omega)]
  refine ⟨TK_tg t2, t_go t2 o2 hn fun h3 t3 _ pd _ => ?_⟩
  have q3 := qw t3.2.1.1
  have r3 := (t3.2.1.2.2.2.1 f hf).2.1
  have pd3 := pd f hf
  have er : ∀ j, Cm (goC j (cM (zC s) (setM (Cm (zC s)) f (rs (Cm (zC s) f) 2 p)))) f = rYears (Cr (zC s)) (Cy (zC s)) j (rs (Cm (zC s) f) 2 p) := fun j => by
    show rYears (Cr (zC s)) (Cy (zC s)) j (setM (Cm (zC s)) f (rs (Cm (zC s) f) 2 p) f) = _
    rw [setM_eq]
  have ew : Ew 4 (rs (fz (Cm (zC s) f)) 2 p) (rs (Cm (zC s) f) 2 p) := Ew_rs (fz_e _) 2 rfl
  have e5 : gI h3 135 f = rYears (Cr (zC s)) (Cy (zC s)) n (rs (fz (Cm (zC s) f)) 2 p) 5 := by
    rw [pd3, sum_5 (Cr (zC s)) (Cy (zC s)) ew (by rw [rs_ne _ _ (by decide)]; rfl) n]
    unfold paidN
    congr 1
    funext j
    rw [er]; rfl
  have e1 : gI h3 125 f = rYears (Cr (zC s)) (Cy (zC s)) n (rs (fz (Cm (zC s) f)) 2 p) 1 := by
    rw [r3, er, rYears_e ew _ _ (Or.inl rfl) n 1 (by decide)]
  simp only [q3, true_and, true_or, b5 (show f < 5 by omega), e5, e1]
  have := q_end (P1 := KP_Tq (Fs_refl _ _)) o I t3 hk
  exact this.2
theorem t_Q_treaty (o : okS s) (x y z : Int32) : QQ m_Q_treaty [.int x, .int y, .int z] s (th (nTwo (zC s) x y) (outN z 0 100)) (10 * v_sign (zC s) (ix x) (ix z) + v_sign (zC s) (ix y) (ix z)) := by
  intro h k I hr hv
  rw [c_Q_treaty]
  have I1 := IQ_12 I
  have P1 := KP_12 h
  refine ⟨I.1.1.1, ?_⟩
  generalize sI h 123 12 0 = h1 at I1 P1 ⊢
  refine ⟨I1.1.1.1, ?_⟩
  rw [s_Q_isFamily I1.1, s_Q_isFamily I1.1, s_Q_wrongNumber]
  simp only [e_Q_treaty_36, I1.1.1.1, true_and]
  refine th_isF2 (X := fun v => wp m_Q_treaty h1 37 [some (.ref 123), some (.int x), some (.int y), some (.int z), none, none, none] [.int v] (tyI k)) ?_
  show wp m_Q_treaty h1 37 _ _ _
  rw [e_Q_treaty_37]
  by_cases c : th (nTwo (zC s) x y) (outN z 0 100) = 0
  · rw [if_pos (by rw [c]; decide)]
    have hv' := hv c
    obtain ⟨c1, c2⟩ := th_0.mp c
    obtain ⟨a, b, ha, hb, hab, rfl, rfl⟩ := nTwo_0 (okf o) c1
    obtain ⟨n, hn, rfl, _, hn2⟩ := outN_0 (lo := 0) (hi := 100) (by decide) c2
    have h5 := okf o
    rw [ix_nI (show a < 2 ^ 31 by omega), ix_nI (show b < 2 ^ 31 by omega), ix_nI hn] at hv'
    have s2 : ∀ (h5 : PH) (x l4 : Int32) (q5 q6 : Option Value), KP h h5 → IQ h5 s → x = v_sign (zC s) a n → wp m_Q_treaty h5 73 [some (.ref 123), some (.int (nI a)), some (.int (nI b)), some (.int (nI n)), some (.int l4), q5, q6] [.int x] (tyI k) := by
      intro h5 x l4 q5 q6 P5 I5 hx
      rw [e_Q_treaty_73]
      refine ⟨I5.1.1.1, t_Q_burden o I5 hb (m := 1) (p := if Cm (zC s) b 2 + 1 < 9 then Cm (zC s) b 2 + 1 else 9) (by omega) (if_neg (by decide)).symm (by omega) fun h6 P6 I6 => ⟨I6.1.1.1, t_Q_burden o I6 hb (m := 0) (p := Cm (zC s) b 2) (by omega) (if_pos rfl).symm (by omega) fun h7 P7 I7 => ?_⟩⟩
      have hv2 := hv' h7 (KP_trans P5 (KP_trans P6 P7)) I7
      simp only [e_Q_treaty_97]
      rw [hx]
      unfold v_sign at hv2 ⊢
      by_cases d : costR (zC s) b n (Cm (zC s) b 2) ≤ costR (zC s) b n (if Cm (zC s) b 2 + 1 < 9 then Cm (zC s) b 2 + 1 else 9)
      · rw [if_pos d]
        rw [if_pos d] at hv2
        exact hv2
      · rw [if_neg d]
        rw [if_neg d] at hv2
        exact hv2
    refine ⟨I1.1.1.1, t_Q_burden o I1 ha (m := 1) (p := if Cm (zC s) a 2 + 1 < 9 then Cm (zC s) a 2 + 1 else 9) (by omega) (if_neg (by decide)).symm (by omega) fun h2 P2 I2 => ⟨I2.1.1.1, t_Q_burden o I2 ha (m := 0) (p := Cm (zC s) a 2) (by omega) (if_pos rfl).symm (by omega) fun h3 P3 I3 => ?_⟩⟩
    by_cases d : costR (zC s) a n (Cm (zC s) a 2) ≤ costR (zC s) a n (if Cm (zC s) a 2 + 1 < 9 then Cm (zC s) a 2 + 1 else 9)
    · rw [if_pos d]
      exact s2 h3 _ _ _ _ (KP_trans P1 (KP_trans P2 P3)) I3 (by unfold v_sign; rw [if_pos d])
    · rw [if_neg d]
      exact s2 h3 _ _ _ _ (KP_trans P1 (KP_trans P2 P3)) I3 (by unfold v_sign; rw [if_neg d])
  · rw [if_neg (ng (nK_th (nK_Two _ _ _) (nK_out _ _ _) c))]
    exact q_no I1 P1 (hr c)
theorem t_Q_cheapest (o : okS s) (y z : Int32) : QQ m_Q_cheapest [.int y, .int z] s (th (outN y 0 100) (othN z 1)) (v_cheapest (zC s) y z) := by
  intro h k I hr hv
  rw [c_Q_cheapest]
  have I1 := IQ_12 I
  have P1 := KP_12 h
  refine ⟨I.1.1.1, ?_⟩
  generalize sI h 123 12 0 = h1 at I1 P1 ⊢
  rw [s_Q_wrongNumber, s_Q_wb]
  by_cases c : th (outN y 0 100) (othN z 1) = 0
  · rw [if_pos (by rw [c]; decide)]
    have hv' := hv c
    obtain ⟨c1, c2⟩ := th_0.mp c
    obtain ⟨n, hn, rfl, _, hn2⟩ := outN_0 (lo := 0) (hi := 100) (by decide) c1
    have h5 := okf o
    unfold v_cheapest at hv'
    rw [ix_nI hn] at hv'
    generalize th (outN (nI n) 0 100) (othN z 1) = t
    have q := qw I1.1.1
    refine (lp (fun j => wp m_Q_cheapest h1 35 [some (.ref 123), some (.int (nI n)), some (.int z), some (.int t), some (.int (chpN (zC s) j)), some (.int (nI j))] [] (tyI k)) (Cf (zC s)) fun j hj => ?_).mpr ?_
    · rw [e_Q_cheapest_35, I1.1.2.2.1.1, if_neg (nI_ge hj (by omega)), ix_nI (by omega)]
      simp only [e_Q_cheapest_82, e_Q_cheapest_89, nI_1, chpN]
      rcases chpN_in (zC s) j with e | ⟨g, hg, e⟩
      · rw [e, if_pos (by decide), if_pos rfl]
        simp only [q, true_and]
      · rw [e, if_neg (nI_pos (by omega)), if_neg (nI_n9 (by omega)), ix_nI (by omega)]
        have rg := I1.1.2.2.2.1 g (by omega)
        have rj := I1.1.2.2.2.1 j hj
        simp only [q, true_and, true_or, b5 (show j < 5 by omega), b5 (show g < 5 by omega), rg.1, rg.2.1, rj.1, rj.2.1]
        by_cases d : Cm (zC s) g 1 * Cm (zC s) j 0 ≤ Cm (zC s) j 1 * Cm (zC s) g 0
        · rw [if_pos d, if_pos d]
        · rw [if_neg d, if_neg d]
    · rw [e_Q_cheapest_35, I1.1.2.2.1.1, if_pos (Int32.le_refl _)]
      refine ⟨q.1, q.1, t_think I1 fun h2 t2 _ => ⟨TK_tg t2, t_go t2 o.1.1 (by omega) fun h3 t3 _ _ b3 => ⟨TK_tg t3, t_again t3 o fun h4 t4 B4 b4 _ _ => ?_⟩⟩⟩
      have I4 := IQ_back I1 t4 B4
      have hv2 := hv' h4 (KP_trans P1 (KP_Tq t4.1)) I4
      simp only [e_Q_cheapest_123]
      by_cases d : z = 0
      · rw [if_pos d] at hv2
        rw [if_neg (fun w => w d)]
        exact hv2
      · rw [if_neg d] at hv2
        rw [if_pos d, b4, b3, born_eq]
        exact ⟨I4.1.1.1, hv2⟩
  · rw [if_neg (ng (nK_th (nK_out _ _ _) (nK_oth _ _) c))]
    exact q_no I1 P1 (hr c)
end Q5
