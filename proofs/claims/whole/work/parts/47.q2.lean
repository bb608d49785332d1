/-! ===== the reference: first, peak, interest, doubled, lump, half, crosses ===== -/
section Q2
variable {h h0 h1 h2 h3 : PH} {s : Sta} {c c' : Core} {f n : Nat} {no v : Int32}
theorem TK_debt (t : TK s h0 h c) (hf : f < Cf c) {x : Int32} {r : Row} (e0 : r 0 = Cm c f 0) (e1 : r 1 = x) (e2 : r 2 = Cm c f 2) (e3 : r 3 = Cm c f 3) : TK s h0 (sI h 125 f x) (cM c (setM (Cm c) f r)) :=
  ⟨Fs_trans t.1 (Fs_sI _ _ _ _ (by unfold Tq; omega)), Liv_debt t.2.1 hf e0 e1 e2 e3, Kp_fs t.2.2 (S := fun b _ => b = 125) (Fs_sI _ _ _ _ rfl) (fun j x => by omega)⟩
theorem TK_head (t : TK s h0 h c) (hf : f < Cf c) {x : Int32} {r : Row} (e0 : r 0 = x) (e1 : r 1 = Cm c f 1) (e2 : r 2 = Cm c f 2) (e3 : r 3 = Cm c f 3) : TK s h0 (sI h 124 f x) (cM c (setM (Cm c) f r)) :=
  ⟨Fs_trans t.1 (Fs_sI _ _ _ _ (by unfold Tq; omega)), Liv_head t.2.1 hf e0 e1 e2 e3, Kp_fs t.2.2 (S := fun b _ => b = 124) (Fs_sI _ _ _ _ rfl) (fun j x => by omega)⟩
theorem TK_pay (t : TK s h0 h c) (hf : f < Cf c) {x : Int32} {r : Row} (e0 : r 0 = Cm c f 0) (e1 : r 1 = Cm c f 1) (e2 : r 2 = x) (e3 : r 3 = Cm c f 3) : TK s h0 (sI h 126 f x) (cM c (setM (Cm c) f r)) :=
  ⟨Fs_trans t.1 (Fs_sI _ _ _ _ (by unfold Tq; omega)), Liv_pay t.2.1 hf e0 e1 e2 e3, Kp_fs t.2.2 (S := fun b _ => b = 126) (Fs_sI _ _ _ _ rfl) (fun j x => by omega)⟩
theorem TK_birth (t : TK s h0 h c) (hf : f < Cf c) {x : Int32} {r : Row} (e0 : r 0 = Cm c f 0) (e1 : r 1 = Cm c f 1) (e2 : r 2 = Cm c f 2) (e3 : r 3 = x) : TK s h0 (sI h 127 f x) (cM c (setM (Cm c) f r)) :=
  ⟨Fs_trans t.1 (Fs_sI _ _ _ _ (by unfold Tq; omega)), Liv_birth t.2.1 hf e0 e1 e2 e3, Kp_fs t.2.2 (S := fun b _ => b = 127) (Fs_sI _ _ _ _ rfl) (fun j x => by omega)⟩
theorem TK_rate (t : TK s h0 h c) (x : Int32) : TK s h0 (sI h 123 5 x) (cR c x) :=
  ⟨Fs_trans t.1 (Fs_sI _ _ _ _ (by unfold Tq; omega)), Liv_rate t.2.1 x, Kp_fs t.2.2 (S := fun b _ => b = 123) (Fs_sI _ _ _ _ rfl) (fun j x => by omega)⟩
theorem b5 (h : f < 5) : inb (nI f) 5 := inb_nI h (by decide)
theorem t_Q_stuckIn (o : okS s) (I : IQ h s) {k : PH → Int32 → Prop} (hk : ∀ h', KP h h' → IQ h' s → k h' (v_stuck (zC s))) : ccI m_Q_stuckIn h [.ref 123] k := by
  rw [c_Q_stuckIn]
  have h5 := okf o
  refine ⟨I.1.1.1, t_think I fun h1 t1 _ => ?_⟩
  have fin : ∀ (h' : PH) (c : Core) (x y : Int32) (q : Option Value), TK s h h' c → v_stuck (zC s) = x → wp m_Q_stuckIn h' 62 [some (.ref 123), some (.int x), some (.int y), q] [] (tyI k) := by
    intro h' c x y q t' e
    rw [e_Q_stuckIn_62]
    rw [e] at hk
    exact q_end (P1 := KP_Tq (Fs_refl _ _)) o I t' hk
  unfold v_stuck at fin
  generalize hp0 : (fun n => anyN (fun f => decide (Cm (goC n (zC s)) f 1 = 99999)) (Cf (zC s))) = p at fin
  refine hp (A := fun i h' => TK s h h' (goC i (zC s)) ∧ fstF p 0 101 = fstF p i (101 - i)) (X := fun i h' => ∀ q, wp m_Q_stuckIn h' 9 [some (.ref 123), some (.int (-9)), some (.int (nI i)), q] [] (tyI k)) 101 ?_ ?_ 0 (Nat.zero_le _) h1 ⟨by rw [goC_0]; exact t1, rfl⟩ none
  · intro h' ⟨t', e⟩ q
    rw [e_Q_stuckIn_9, if_pos (show (100 : Int32) < nI 101 by decide)]
    exact fin h' _ _ _ _ t' (by rw [e]; rfl)
  · intro i hi h' ⟨t', e⟩ ih q
    rw [e_Q_stuckIn_9, if_neg (show ¬ (100 : Int32) < nI i from nI_nlt (a := 100) (by omega) (by omega)), if_neg (by decide)]
    have q := qw t'.2.1.1
    have h0 : gI h' 123 0 = nI (Cf (zC s)) := t'.2.1.2.2.1.1
    have pe : p i = anyN (fun f => decide (Cm (goC i (zC s)) f 1 = 99999)) (Cf (zC s)) := by rw [← hp0]
    generalize hg : (fun f => decide (Cm (goC i (zC s)) f 1 = 99999)) = g at pe
    rw [fstF_step p hi, pe] at e
    refine (lp (fun j => wp m_Q_stuckIn h' 21 [some (.ref 123), some (.int (if anyN g j = true then nI i else -9)), some (.int (nI i)), some (.int (nI j))] [] (tyI k)) (Cf (zC s)) fun j hj => ?_).mpr ?_
    · rw [e_Q_stuckIn_21, h0, if_neg (nI_ge hj (by omega)), ix_nI (by omega)]
      have gj : g j = decide (Cm (goC i (zC s)) j 1 = 99999) := by rw [← hg]
      simp only [q, true_and, true_or, b5 (show j < 5 by omega), (t'.2.1.2.2.2.1 j hj).2.1, e_Q_stuckIn_45, nI_1, anyN, gj]
      by_cases d : Cm (goC i (zC s)) j 1 = 99999
      · rw [if_neg (fun z => z d), if_pos (by simp [d])]
      · rw [if_pos d]
        simp [d]
    · rw [e_Q_stuckIn_21, h0, if_pos (Int32.le_refl _)]
      simp only [q, true_and]
      refine t_yearOn t' (okC_go o.1.1 i) fun h2 t2 _ => ?_
      rw [goC_1] at t2
      rw [nI_1]
      by_cases d : anyN g (Cf (zC s)) = true
      · rw [if_pos d] at e ⊢
        rw [e_Q_stuckIn_9]
        have := fin h2 _ (nI i) (nI (i + 1)) (some (.int (nI (Cf (zC s))))) t2 e
        split
        · exact this
        · rw [if_pos (nI_pos' (by omega))]; exact this
      · rw [if_neg d] at e ⊢
        exact ih h2 ⟨t2, e⟩ _
theorem t_Q_growBits (o : okS s) (I : IQ h s) {k : PH → Int32 → Prop} (hk : ∀ h', KP h h' → IQ h' s → k h' (v_grow (zC s))) : ccI m_Q_growBits h [.ref 123] k := by
  rw [c_Q_growBits]
  have h5 := okf o
  refine ⟨I.1.1.1, t_think I fun h1 t1 _ => ⟨TK_tg t1, t_yearOn t1 o.1.1 fun h' t' _ => ?_⟩⟩
  have q := qw t'.2.1.1
  have h0 : gI h' 123 0 = nI (Cf (zC s)) := t'.2.1.2.2.1.1
  unfold v_grow at hk
  generalize hg : (fun f => decide (¬ Cm (goC 1 (zC s)) f 1 ≤ Cm (zC s) f 1)) = g at hk
  have main : ∀ q3, wp m_Q_growBits h' 12 [some (.ref 123), some (.int (bm g 0)), some (.int (nI 0)), q3] [] (tyI k) := by
    refine hp (A := fun _ h2 => h2 = h') (X := fun j h2 => ∀ q3, wp m_Q_growBits h2 12 [some (.ref 123), some (.int (bm g j)), some (.int (nI j)), q3] [] (tyI k)) (Cf (zC s)) ?_ ?_ 0 (Nat.zero_le _) h' rfl
    · rintro h2 rfl q3
      rw [e_Q_growBits_12, h0, if_pos (Int32.le_refl _)]
      exact ⟨q.1, q_end (P1 := KP_Tq (Fs_refl _ _)) o I t' hk⟩
    · rintro j hj h2 rfl ih q3
      rw [e_Q_growBits_12, h0, if_neg (nI_ge hj (by omega)), ix_nI (by omega)]
      have gj : g j = decide (¬ Cm (goC 1 (zC s)) j 1 ≤ Cm (zC s) j 1) := by rw [← hg]
      have e5 : 5 + 4 * nI j = nI (4 + 4 * j + 1) := by
        rw [show (5 : Int32) = nI 5 from rfl, show (4 : Int32) = nI 4 from rfl, nI_mul, nI_add]; congr 1; omega
      have kj := (t'.2.2.2.1 j hj).2.1
      have bj : inb (nI (4 + 4 * j + 1)) 48 := inb_nI (by omega) (by decide)
      have ih' := ih h2 rfl
      simp only [bm, gj, decide_eq_true_eq] at ih'
      simp only [q, true_and, true_or, b5 (show j < 5 by omega), (t'.2.1.2.2.2.1 j hj).2.1, e_Q_growBits_49, nI_1, e5, bj, ix_nI (show 4 + 4 * j + 1 < 2 ^ 31 by omega), kj]
      by_cases d : Cm (goC 1 (zC s)) j 1 ≤ Cm (zC s) j 1
      · rw [if_pos d]
        rw [if_neg (fun z => z d)] at ih'
        rw [show bm g j ||| 0 = bm g j from Int32.or_zero]
        exact ih' _
      · rw [if_neg d]
        rw [if_pos d] at ih'
        exact ih' _
  exact main none
theorem v_free_bd (c : Core) (f : Nat) (v : Int32) : v_free c f v = -9 ∨ ∃ j, j < 101 ∧ v_free c f v = nI j := by
  rcases fstF_bd (fun n => decide (lumpR (Cr c) (Cy c) v n (Cm c f) 1 = 0)) 101 0 (by decide) with e | ⟨j, _, h2, e, _⟩
  · exact Or.inl e
  · exact Or.inr ⟨j, by omega, e⟩
theorem t_Q_first (o : okS s) (x : Int32) : QQ m_Q_first [.int x] s (othN x 2) (v_first (zC s) x) := by
  intro h k I hr hv
  rw [c_Q_first]
  have I1 := IQ_12 I
  have P1 := KP_12 h
  have h5 := okf o
  refine ⟨I.1.1.1, ?_⟩
  generalize sI h 123 12 0 = h1 at I1 P1 ⊢
  rw [s_Q_inO h1 (hi := 2) (a2 := 2) (by decide)]
  by_cases c : othN x 2 = 0
  · rw [if_pos c, if_pos (by decide)]
    have hv' := hv c
    obtain ⟨i, hi, rfl⟩ := oth_0 (m := 2) (by decide) c
    unfold v_first at hv'
    simp only [e_Q_first_44]
    by_cases d0 : i = 0
    · subst d0
      rw [if_pos (show nI 0 = 0 from rfl)] at hv'
      rw [if_pos (show nI 0 ≤ 0 from Int32.le_refl _)]
      unfold v_firstFree at hv'
      generalize hg : (fun f => v_free (zC s) f 0) = g at hv'
      have gv : ∀ j, g j = v_free (zC s) j 0 := fun j => by rw [← hg]
      have hE : (mnF (-9) 101 (fun f => decide (¬ v_free (zC s) f 0 = -9)) g (Cf (zC s))).1 = (mnF (-9) 999 (fun f => decide (¬ v_free (zC s) f 0 = -9)) g (Cf (zC s))).1 := by
        refine mnR_1 (mnF_R _ fun j hj e => ?_)
        have e := of_decide_eq_true e
        rw [gv]
        rcases v_free_bd (zC s) j 0 with z | ⟨m, hm, z⟩
        · exact absurd z e
        · rw [z]; exact ⟨nI_lt (b := 101) hm (by decide), nI_lt (b := 999) (by omega) (by decide)⟩
      rw [hE] at hv'
      refine hp (A := fun _ h2 => KP h h2 ∧ IQ h2 s) (X := fun j h2 => ∀ q, wp m_Q_first h2 55 [some (.ref 123), some (.int (nI 0)), some (.int (mnF (-9) 999 (fun f => decide (¬ v_free (zC s) f 0 = -9)) g j).1), some (.int (mnF (-9) 999 (fun f => decide (¬ v_free (zC s) f 0 = -9)) g j).2), some (.int (nI j)), q] [] (tyI k)) (Cf (zC s)) ?_ ?_ 0 (Nat.zero_le _) h1 ⟨P1, I1⟩ none
      · intro h2 ⟨P2, I2⟩ q
        rw [e_Q_first_55, I2.1.2.2.1.1, if_pos (Int32.le_refl _)]
        exact ⟨I2.1.1.1, hv' h2 P2 I2⟩
      · intro j hj h2 ⟨P2, I2⟩ ih q
        rw [e_Q_first_55, I2.1.2.2.1.1, if_neg (nI_ge hj (by omega))]
        refine ⟨I2.1.1.1, I2.1.1.1, t_Q_solventIn o I2 hj fun h3 P3 I3 => ?_⟩
        have ih' := ih h3 ⟨KP_trans P2 P3, I3⟩
        simp only [mnF, mnU, gv, decide_eq_true_eq] at ih'
        simp only [e_Q_first_88, e_Q_first_89, e_Q_first_106, e_Q_first_107, nI_1]
        rcases v_free_bd (zC s) j 0 with z | ⟨m, hm, z⟩
        · rw [z] at ih' ⊢
          rw [if_pos (by decide), if_pos (by decide)]
          rw [if_neg (fun w => w.1 rfl)] at ih'
          exact ih' _
        · have n9 : ¬ v_free (zC s) j 0 = -9 := by rw [z]; exact nI_n9 (by omega)
          have n0 : ¬ v_free (zC s) j 0 < 0 := by rw [z]; exact nI_pos (by omega)
          simp only [if_neg n0]
          by_cases d2 : v_free (zC s) j 0 < (mnF (-9) 999 (fun f => decide (¬ v_free (zC s) f 0 = -9)) g j).2
          · simp only [if_neg (Int32.not_le.mpr d2)]
            rw [if_pos ⟨n9, d2⟩] at ih'
            exact ih' _
          · simp only [if_pos (Int32.not_lt.mp d2)]
            rw [if_neg (fun z => d2 z.2)] at ih'
            exact ih' _
    · rw [if_neg (nI_nle (by omega) (by omega))]
      rw [if_neg (nI_ne0 (by omega) (by omega))] at hv'
      by_cases d1 : i = 1
      · subst d1
        rw [if_pos (show nI 1 = 1 from rfl)] at hv'
        rw [if_neg (show ¬ ¬ nI 1 = 1 from fun z => z rfl)]
        exact ⟨I1.1.1.1, t_Q_growBits o I1 fun h2 P2 I2 => hv' h2 (KP_trans P1 P2) I2⟩
      · have : ¬ nI i = 1 := fun z => d1 ((nI_eq (b := 1) (by omega) (by decide)).mp z)
        rw [if_neg this] at hv'
        rw [if_pos this]
        exact ⟨I1.1.1.1, t_Q_stuckIn o I1 fun h2 P2 I2 => hv' h2 (KP_trans P1 P2) I2⟩
  · rw [if_neg c, if_neg (by decide)]
    have := q_no I1 P1 (hr c)
    rw [oth_n2 c] at this
    exact this
end Q2
