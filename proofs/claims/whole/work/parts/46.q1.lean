/-! ===== the reference: behind, all, solvent, lump, first ===== -/
theorem isF_th {X : Int32 → Prop} {c : Core} {x b : Int32} (h : X (th (nF c x) b)) : if (if offN x (Cf c) then (0 : Int32) else 1) = 0 then X (-1) else X b := by
  unfold nF th at h
  by_cases d : offN x (Cf c)
  · rw [if_pos d] at h ⊢
    rw [if_neg (by decide)] at h
    rw [if_pos rfl]; exact h
  · rw [if_neg d] at h ⊢
    rw [if_pos rfl] at h
    rw [if_neg (by decide)]; exact h
theorem isW_th {X : Int32 → Prop} {c : Core} {x b : Int32} (h : X (th (nW c x) b)) : if (if offN x (Cw c) then (0 : Int32) else 1) = 0 then X (-1) else X b := by
  unfold nW th at h
  by_cases d : offN x (Cw c)
  · rw [if_pos d] at h ⊢
    rw [if_neg (by decide)] at h
    rw [if_pos rfl]; exact h
  · rw [if_neg d] at h ⊢
    rw [if_pos rfl] at h
    rw [if_neg (by decide)]; exact h
theorem s_Q_wb (h : PH) (w x m : Int32) (k : PH → Int32 → Prop) : ccI m_Q_wrongBit h [.int w, .int x, .int m] k = k h (th w (othN x m)) := s_Q_wrongBit h w x m k
theorem ng {no : Int32} (hn : noK no) : ¬ 0 ≤ no := Int32.not_le.mpr (noK_neg hn)
theorem le0_0 {x : Int32} {N : Nat} (b : bd x 0 N) (hN : N < 2 ^ 31) : x ≤ 0 ↔ x = 0 := by
  obtain ⟨n, e, _, h2⟩ := bd_of b
  rw [e]
  constructor
  · intro z
    have : ¬ nI 0 < nI n := Int32.not_lt.mpr z
    by_cases d : 0 < n
    · exact absurd (nI_lt d (by omega)) this
    · rw [show n = 0 by omega]; rfl
  · intro z; rw [z]; exact Int32.le_refl _
theorem pay0 {r : Row} (R : RgF r) : Ew 4 (rPay 0 r) r := by
  intro j hj
  obtain ⟨n, e, _, h2⟩ := bd_of R.2.1
  unfold rPay
  rw [rs_ne _ _ (show j ≠ 5 by omega)]
  by_cases d : j = 1
  · subst d
    rw [rs_eq, if_pos (by rw [e]; exact nI_pos' (by omega)), Int32.sub_zero]
  · rw [rs_ne _ _ d]
theorem lump_0 {r : Row} (R : RgF r) {x y : Int32} (b : bd x 0 20) : ∀ n, Ew 4 (lumpR x y 0 n r) (rYears x y n r)
  | 0 => Ew_refl _ _
  | n + 1 => by
    have e : rYears x y (n + 1) r = rYear x (y + nI n + 1) (rYears x y n r) := by
      show rYear x (y + nI (n + 1)) (rYears x y n r) = _
      rw [← nI_1, Int32.add_assoc]
    have R1 : RgF (rYear x (y + nI n + 1) (rYears x y n r)) := by rw [← e]; exact RgF_years R b (n + 1)
    rw [e]
    exact Ew_trans (rPay_e (n := 4) (by decide) (rYear_e (lump_0 R b n) x (y + nI n + 1) (Or.inl rfl)) 0 (Or.inl (by decide))) (pay0 R1)
def lmpC (v : Int32) (f : Nat) (c : Core) : Nat → Core
  | 0 => c
  | n + 1 => cM (goC 1 (lmpC v f c n)) (setM (Cm (goC 1 (lmpC v f c n))) f (rPay v (Cm (goC 1 (lmpC v f c n)) f)))
section Q1
variable {h h0 h1 h2 h3 : PH} {s : Sta} {c c' : Core} {f n : Nat} {no v : Int32}
theorem q_no (I1 : IQ h1 s) (P1 : KP h h1) {k : PH → Int32 → Prop} (hr : ∀ h', KP h h' → IQ h' s → ccI m_Q_refuse h' [.ref 123, .int no] k) : tg h1 123 = 12 ∧ ccI m_Q_refuse h1 [.ref 123, .int no] fun h5 x5 => k h5 x5 := ⟨I1.1.1.1, hr h1 P1 I1⟩
theorem q_end (o : okS s) (I1 : IQ h1 s) (P1 : KP h h1) (t : TK s h1 h3 c) {k : PH → Int32 → Prop} (hv : ∀ h', KP h h' → IQ h' s → k h' v) : tg h3 123 = 12 ∧ ccV m_Q_again h3 [.ref 123] fun h4 => k h4 v :=
  ⟨t.2.1.1.1, t_again t o fun h4 t4 B4 _ _ _ => hv h4 (KP_trans P1 (KP_Tq t4.1)) (IQ_back I1 t4 B4)⟩
theorem TK_tg (t : TK s h0 h c) : tg h 123 = 12 := t.2.1.1.1
theorem t_Q_behind (o : okS s) (x y z : Int32) : QQ m_Q_behind [.int x, .int y, .int z] s (th (th (nF (zC s) x) (outN y 0 100)) (othN z 2)) (v_behind (zC s) x y z) := by
  intro h k I hr hv
  rw [c_Q_behind]
  have I1 := IQ_12 I
  have P1 := KP_12 h
  refine ⟨I.1.1.1, ?_⟩
  generalize sI h 123 12 0 = h1 at I1 P1 ⊢
  refine ⟨I1.1.1.1, ?_⟩
  rw [s_Q_isFamily I1.1, s_Q_wrongNumber]
  refine isF_th (X := fun v => wp m_Q_behind h1 24 [some (.ref 123), some (.int x), some (.int y), some (.int z), none, none] [.int v] (tyI k)) ?_
  show wp m_Q_behind h1 24 _ _ _
  rw [e_Q_behind_24, s_Q_wb]
  by_cases c : th (th (nF (zC s) x) (outN y 0 100)) (othN z 2) = 0
  · rw [if_pos (by rw [c]; decide)]
    have hv' := hv c
    obtain ⟨c12, c3⟩ := th_0.mp c
    obtain ⟨c1, c2⟩ := th_0.mp c12
    obtain ⟨f, hf, rfl⟩ := nF_0 (okf o) c1
    obtain ⟨n, hn, rfl, _, hn2⟩ := outN_0 (lo := 0) (hi := 100) (by decide) c2
    have h5 := okf o
    unfold v_behind at hv'
    rw [ix_nI (show f < 2 ^ 31 by omega), ix_nI hn] at hv'
    refine ⟨I1.1.1.1, t_think I1 fun h2 t2 _ => ⟨TK_tg t2, t_go t2 o.1.1 (by omega) fun h3 t3 _ _ _ => ?_⟩⟩
    have q := qw t3.2.1.1
    have r := t3.2.1.2.2.2.1 f hf
    simp only [q, true_and, true_or, inb_nI (show f < 5 by omega) (show 5 < 2 ^ 31 by decide), ix_nI (show f < 2 ^ 31 by omega), r.1, r.2.1]
    rw [s_Q_headOwes t3.2.1 (okC_go o.1.1 n) hf]
    simp only [e_Q_behind_84]
    by_cases d : z = 0
    · rw [if_neg (fun w => w d)]
      rw [if_pos d] at hv'
      exact q_end o I1 P1 t3 hv'
    · rw [if_pos d]
      rw [if_neg d] at hv'
      by_cases d1 : z = 1
      · rw [if_neg (fun w => w d1)]
        rw [if_pos d1] at hv'
        exact q_end o I1 P1 t3 hv'
      · rw [if_pos d1]
        rw [if_neg d1] at hv'
        exact q_end o I1 P1 t3 hv'
  · rw [if_neg (ng (nK_th (nK_th (nK_F _ _) (nK_out _ _ _)) (nK_oth _ _) c))]
    exact q_no I1 P1 (hr c)
theorem t_Q_allIn (o : okS s) (t : TK s h0 h c) (oc : okC c) (hn : n < 2 ^ 30) {k : PH → Int32 → Prop} (hk : ∀ h', TK s h0 h' (zC s) → TB s h' → k h' (debtsC (goC n c))) : ccI m_Q_allIn h [.ref 123, .int (nI n)] k := by
  rw [c_Q_allIn]
  refine ⟨TK_tg t, t_go t oc hn fun h3 t3 _ _ _ => ⟨TK_tg t3, ?_⟩⟩
  rw [s_Q_allDebts t3.2.1]
  exact ⟨TK_tg t3, t_again t3 o fun h4 t4 B4 _ _ _ => hk h4 t4 B4⟩
theorem t_Q_all (o : okS s) (y : Int32) : QQ m_Q_all [.int y] s (outN y 0 100) (debtsC (goC (ix y) (zC s))) := by
  intro h k I hr hv
  rw [c_Q_all]
  have I1 := IQ_12 I
  have P1 := KP_12 h
  refine ⟨I.1.1.1, ?_⟩
  generalize sI h 123 12 0 = h1 at I1 P1 ⊢
  rw [s_Q_wrongNumber]
  by_cases c : outN y 0 100 = 0
  · rw [if_pos (by rw [c]; decide)]
    have hv' := hv c
    obtain ⟨n, hn, rfl, _, hn2⟩ := outN_0 (lo := 0) (hi := 100) (by decide) c
    rw [ix_nI hn] at hv'
    refine ⟨I1.1.1.1, t_think I1 fun h2 t2 _ => ⟨TK_tg t2, t_Q_allIn o t2 o.1.1 (by omega) fun h4 t4 B4 => hv' h4 (KP_trans P1 (KP_Tq t4.1)) (IQ_back I1 t4 B4)⟩⟩
  · rw [if_neg (ng (nK_out _ _ _ c)), s_Q_wrongNumber]
    exact q_no I1 P1 (hr c)
theorem t_Q_solventIn (o : okS s) (I : IQ h s) (hf : f < Cf (zC s)) {k : PH → Int32 → Prop} (hk : ∀ h', KP h h' → IQ h' s → k h' (v_free (zC s) f 0)) : ccI m_Q_solventIn h [.ref 123, .int (nI f)] k := by
  rw [c_Q_solventIn]
  have h5 := okf o
  refine ⟨I.1.1.1, t_think I fun h1 t1 _ => ?_⟩
  have fin : ∀ (h' : PH) (i : Nat), TK s h h' (goC i (zC s)) → i ≤ 101 → v_free (zC s) f 0 = (if nI i ≤ 100 then nI i else -9) → wp m_Q_solventIn h' 31 [some (.ref 123), some (.int (nI f)), some (.int (nI i))] [] (tyI k) := by
    intro h' i t' hi e
    rw [e_Q_solventIn_31]
    refine ⟨TK_tg t', t_again t' o fun h4 t4 B4 _ _ _ => ?_⟩
    have := hk h4 (KP_Tq t4.1) (IQ_back I t4 B4)
    rw [e] at this
    simp only [e_Q_solventIn_47]
    split <;> simp_all
  unfold v_free at hk fin
  generalize hp0 : (fun n => decide (lumpR (Cr (zC s)) (Cy (zC s)) 0 n (Cm (zC s) f) 1 = 0)) = p at hk fin
  refine hp (A := fun i h' => TK s h h' (goC i (zC s)) ∧ fstF p 0 101 = fstF p i (101 - i)) (X := fun i h' => wp m_Q_solventIn h' 6 [some (.ref 123), some (.int (nI f)), some (.int (nI i))] [] (tyI k)) 101 ?_ ?_ 0 (Nat.zero_le _) h1 ⟨by rw [goC_0]; exact t1, rfl⟩
  · intro h' ⟨t', e⟩
    rw [e_Q_solventIn_6, if_pos (show (100 : Int32) < nI 101 by decide)]
    exact fin h' 101 t' (Nat.le_refl _) (by rw [e]; rfl)
  · intro i hi h' ⟨t', e⟩ ih
    rw [e_Q_solventIn_6, if_neg (show ¬ (100 : Int32) < nI i from nI_nlt (a := 100) (by omega) (by omega)), ix_nI (by omega)]
    have q := qw t'.2.1.1
    have r := t'.2.1.2.2.2.1 f hf
    simp only [q, true_and, true_or, inb_nI (show f < 5 by omega) (show 5 < 2 ^ 31 by decide), r.2.1]
    have R := (okC_go o.1.1 i).2.2.1 f hf
    have pe : p i = decide (Cm (goC i (zC s)) f 1 = 0) := by rw [← hp0]; show decide _ = _; rw [lump_0 (o.1.1.2.2.1 f hf) o.1.1.2.1 i 1 (by decide)]; rfl
    rw [fstF_step p hi] at e
    by_cases d : Cm (goC i (zC s)) f 1 = 0
    · rw [if_pos ((le0_0 R.2.1 (by decide)).mpr d)]
      refine fin h' i t' (by omega) ?_
      rw [e, if_pos (by rw [pe]; exact decide_eq_true d), if_pos (show nI i ≤ 100 from nI_le (b := 100) (by omega) (by decide))]
    · rw [if_neg (fun z => d ((le0_0 R.2.1 (by decide)).mp z))]
      refine t_yearOn t' (okC_go o.1.1 i) fun h2 t2 _ => ?_
      rw [goC_1] at t2
      rw [nI_1]
      refine ih h2 ⟨t2, ?_⟩
      rw [e, if_neg (by rw [pe]; simp [d])]
theorem t_Q_solvent (o : okS s) (x : Int32) : QQ m_Q_solvent [.int x] s (nF (zC s) x) (v_free (zC s) (ix x) 0) := by
  intro h k I hr hv
  rw [c_Q_solvent]
  have I1 := IQ_12 I
  have P1 := KP_12 h
  refine ⟨I.1.1.1, ?_⟩
  generalize sI h 123 12 0 = h1 at I1 P1 ⊢
  refine ⟨I1.1.1.1, ?_⟩
  rw [s_Q_isFamily I1.1]
  simp only [e_Q_solvent_26]
  by_cases c : nF (zC s) x = 0
  · have hv' := hv c
    have n : ¬ offN x (Cf (zC s)) := fun z => by unfold nF at c; rw [if_pos z] at c; exact absurd c (by decide)
    obtain ⟨f, hf, rfl⟩ := nF_0 (okf o) c
    have h5 := okf o
    rw [ix_nI (by omega)] at hv'
    rw [if_neg n, if_neg (by decide)]
    exact ⟨I1.1.1.1, t_Q_solventIn o I1 hf fun h2 P2 I2 => hv' h2 (KP_trans P1 P2) I2⟩
  · have n : offN x (Cf (zC s)) := by
      by_cases z : offN x (Cf (zC s))
      · exact z
      · unfold nF at c; rw [if_neg z] at c; exact absurd rfl c
    rw [if_pos n, if_pos rfl]
    have := q_no I1 P1 (hr c)
    unfold nF at this
    rw [if_pos n] at this
    exact this
end Q1
