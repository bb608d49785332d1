/-! ===== the reference: centuries by lot ===== -/
section Q7l
variable {h h' h0 h1 h2 h3 : PH} {s : Sta} {c c' : Core} {f n : Nat} {no v : Int32}
theorem t_think2 (I : IQ h s) {k : PH → Prop} (hk : ∀ h', TK s h h' (zC s) → TB s h' → gI h' 123 39 = gI h 123 39 → (∀ b, b = 145 ∨ b = 146 → gI h' b = gI h b) → k h') : ccV m_Q_think h [.ref 123] k := by
  have w := qw I.1.1
  rw [c_Q_think]
  simp only [w, true_and]
  exact t_Q_take I.1 I.2.1 (Or.inl rfl) fun h' fr L' B' K' => hk h' ⟨Fs_mono fr (fun b j x => by unfold SC at x; unfold Tq; omega), L', K'⟩ B' (fr.2.2.2 123 39 (by unfold SC; omega)) (fun b hb => funext fun j => fr.2.2.2 b j (by unfold SC; omega))
theorem TK_seed (t : TK s h0 h c) (x : Int32) : TK s h0 (sI h 123 39 x) c :=
  ⟨Fs_trans t.1 (Fs_sI _ _ _ _ (by unfold Tq; omega)), Liv_fs (S := fun b j => b = 123 ∧ j = 39) t.2.1 (Fs_sI _ _ _ _ ⟨rfl, rfl⟩) (fun b j z => by unfold LRg; omega), Kp_fs t.2.2 (S := fun b _ => b = 123) (Fs_sI _ _ _ _ rfl) (fun j x => by omega)⟩
theorem t_draw (t : TK s h0 h c) {z : Int32} (e : gI h 123 39 = z) {k : PH → Int32 → Prop} (hk : ∀ h', TK s h0 h' c → gI h' 123 39 = nxs z → k h' (drw (nxs z))) : ccI m_Q_drawBelow h [.ref 123, .int 10] k := by
  have q := qw t.2.1.1
  rw [c_Q_drawBelow, e]
  simp only [q, true_and, tg_sI, gI_sI_eq]
  exact ⟨by decide, by decide, hk _ (TK_seed t _) (gI_sI_eq _ _ _ _)⟩
theorem t_draw2 (t : TK s h0 h c) {y : Int32} {i : Nat} (e : gI h 123 39 = seedN y i) {k : PH → Int32 → Prop} (hk : ∀ h', TK s h0 h' c → gI h' 123 39 = seedN y (i + 1) → k h' (drw (seedN y (i + 1)))) : ccI m_Q_drawBelow h [.ref 123, .int 10] k := by
  refine t_draw t e fun h' t' e' => ?_
  have := hk h' t'
  rw [seedN_s] at this
  exact this e'
/-- all pay what is drawn -/
theorem t_drawAll (t : TK s h0 h c) (h5 : Cf c ≤ 5) {y : Int32} (e : gI h 123 39 = y) {l1 l2 l3 l4 l5 l6 l7 : Int32} {k : PH → Int32 → Prop}
    (hK : ∀ h', TK s h0 h' (cM c (fun f => rs (Cm c f) 2 (drw (seedN y (f + 1))))) → gI h' 123 39 = seedN y (Cf c) → wp m_Q_lots h' 68 [some (.ref 123), some (.int l1), some (.int l2), some (.int l3), some (.int l4), some (.int l5), some (.int l6), some (.int l7), some (.int (nI (Cf c)))] [] (tyI k)) : wp m_Q_lots h 68 [some (.ref 123), some (.int l1), some (.int l2), some (.int l3), some (.int l4), some (.int l5), some (.int l6), some (.int l7), some (.int (nI 0))] [] (tyI k) := by
  refine hp (A := fun i h6 => TK s h0 h6 (upC c (fun f r => rs r 2 (drw (seedN y (f + 1)))) i) ∧ gI h6 123 39 = seedN y i) (X := fun i h6 => wp m_Q_lots h6 68 [some (.ref 123), some (.int l1), some (.int l2), some (.int l3), some (.int l4), some (.int l5), some (.int l6), some (.int l7), some (.int (nI i))] [] (tyI k)) (Cf c) ?_ ?_ 0 (Nat.zero_le _) _ ⟨up_0 t, e.trans (seedN_0 y).symm⟩
  · intro h6 ⟨t6, z6⟩
    exact hK h6 (up_n t6) z6
  · intro i hi h6 ⟨t6, z6⟩ ih6
    have q6 := qw t6.2.1.1
    rw [e_Q_lots_68, show gI h6 123 0 = nI (Cf c) from t6.2.1.2.2.1.1, if_neg (nI_ge hi (by omega))]
    refine ⟨TK_tg t6, TK_tg t6, TK_tg t6, t_draw2 t6 z6 fun h7 t7 z7 => ?_⟩
    have q7 := qw t7.2.1.1
    simp only [q6, q7, true_and, b5 (show i < 5 by omega), ix_nI (show i < 2 ^ 31 by omega), nI_1]
    generalize hD : seedN y (i + 1) = D at z7 ⊢
    have e0 := upC_at c (fun f r => rs r 2 (drw (seedN y (f + 1)))) i
    have t8 := TK_pay t7 (f := i) (x := drw D) (r := rs (Cm c i) 2 (drw D)) hi (by rw [e0]; exact rs_ne _ _ (by decide)) (by rw [e0]; exact rs_ne _ _ (by decide)) (rs_eq _ _ _) (by rw [e0]; exact rs_ne _ _ (by decide))
    refine ih6 _ ⟨up_s t8 (by rw [hD]; exact Ew_refl _ _), ?_⟩
    rw [gI_sI_ne _ _ _ _ (by omega), hD]
    exact z7
theorem t_go50 (t : TK s h0 h c) (o : okC c) {k : PH → Prop} (hk : ∀ h' G, G = go50 c → Cf G = Cf c → TK s h0 h' G → gI h' 123 39 = gI h 123 39 → k h') : ccV m_Q_goYears h [.ref 123, .int 50] k :=
  t_go t o (n := 50) (by decide) fun h' t' fr _ _ => hk h' (go50 c) rfl rfl t' (fr.2.2.2 123 39 (by unfold SY; omega))
/-- how many of the first n owe nothing -/
def frN2 (G : Core) (n : Nat) : Int32 := sumN (fun f => if Cm G f 1 = 0 then 1 else 0) n
theorem frN2_s (G : Core) (n : Nat) : frN2 G (n + 1) = frN2 G n + if Cm G n 1 = 0 then 1 else 0 := rfl
theorem frN2_c (G : Core) : frN2 G (Cf G) = freeC G := rfl
/-- a century goes by, and is counted -/
theorem t_century (o : okS s) (t : TK s h0 h c) (oc : okC c) (hc : Cf c = Cf (zC s)) {l1 l2 l3 l4 l5 l6 l7 : Int32} {k : PH → Int32 → Prop} (hk : ∀ h', TK s h0 h' (zC s) → TB s h' → gI h' 123 39 = gI h 123 39 → ∀ q8, wp m_Q_lots h' 49 [some (.ref 123), some (.int l1), some (.int l2), some (.int l3), some (.int l4), some (.int (l5 + debtsC (go50 c))), some (.int (l6 + freeC (go50 c))), some (.int (l7 + 1)), q8] [] (tyI k)) :
    wp m_Q_lots h 68 [some (.ref 123), some (.int l1), some (.int l2), some (.int l3), some (.int l4), some (.int l5), some (.int l6), some (.int l7), some (.int (nI (Cf (zC s))))] [] (tyI k) := by
  have h5 := okf o
  rw [e_Q_lots_68, show gI h 123 0 = nI (Cf (zC s)) from t.2.1.2.2.1.1.trans (by rw [hc]), if_pos (Int32.le_refl _)]
  refine ⟨TK_tg t, TK_tg t, t_go50 t oc fun h8 G hG hf t8 z8 => ⟨TK_tg t8, ?_⟩⟩
  rw [s_Q_allDebts t8.2.1]
  have q8' := qw t8.2.1.1
  have e0 : gI h8 123 0 = nI (Cf G) := t8.2.1.2.2.1.1
  have r8 : ∀ i, i < Cf G → gI h8 125 i = Cm G i 1 := fun i hi => (t8.2.1.2.2.2.1 i hi).2.1
  have h5G : Cf G ≤ 5 := by omega
  rw [← hG] at hk
  clear hG
  have key := (lp (fun i => wp m_Q_lots h8 114 [some (.ref 123), some (.int l1), some (.int l2), some (.int l3), some (.int l4), some (.int (l5 + debtsC G)), some (.int (l6 + frN2 G i)), some (.int l7), some (.int (nI i))] [] (tyI k)) (Cf G) ?_).mpr ?_
  · have z : l6 + frN2 G 0 = l6 := Int32.add_zero l6
    rw [z] at key
    exact key
  · intro i hi
    rw [e_Q_lots_114, e0, if_neg (nI_ge hi (by omega)), ix_nI (by omega), frN2_s]
    simp only [q8', true_and, true_or, b5 (show i < 5 by omega), r8 i hi, e_Q_lots_140, nI_1]
    by_cases d : Cm G i 1 = 0
    · rw [if_neg (fun w => w d), if_pos d, Int32.add_assoc]
    · rw [if_pos d, if_neg d, Int32.add_assoc]
  · rw [e_Q_lots_114, e0, if_pos (Int32.le_refl _), frN2_c]
    refine ⟨TK_tg t8, TK_tg t8, t_again t8 o fun h9 t9 B9 _ _ z9 => ?_⟩
    exact hk h9 t9 B9 (z9.trans z8) _
theorem cM_f (c : Core) (F : Nat → Row) : Cf (cM c F) = Cf c := rfl
theorem cR_f (c : Core) (x : Int32) : Cf (cR c x) = Cf c := rfl
theorem okC_upd {c : Core} (o : okC c) {x : Int32} {F : Nat → Row} (b : bd x 0 20) (R : ∀ f, f < Cf c → RgF (F f)) : okC (cM (cR c x) F) := ⟨o.1, b, R, o.2.2.2⟩
theorem TK_upd {x : Int32} {g : Nat → Int32} (t : TK s h0 h (cM (cR c x) (fun f => rs (Cm (cR c x) f) 2 (g f)))) : TK s h0 h (cM (cR c x) (fun f => rs (Cm c f) 2 (g f))) := t
theorem lotC_f (c : Core) (Z : Int32) : Cf (lotC c Z) = Cf c := by unfold lotC; rw [cM_f, cR_f]
theorem okC_lot {c : Core} (o : okC c) (Z : Int32) : okC (lotC c Z) := by
  unfold lotC
  exact okC_upd o (bd_le (drw_bd _) (by omega)) (fun f hf => RgF_2 (o.2.2.1 f hf) (drw_bd _))
/-- a lot is drawn, a century goes by -/
theorem t_lot (o : okS s) (t : TK s h0 h (zC s)) {Z : Int32} (z : gI h 123 39 = Z) {l1 l2 l3 l4 l5 l6 l7 : Int32} {q8 : Option Value} {k : PH → Int32 → Prop} (hn : ¬ l1 ≤ l7) (hk : ∀ h', TK s h0 h' (zC s) → TB s h' → gI h' 123 39 = seedN (nxs Z) (Cf (zC s)) → ∀ q8, wp m_Q_lots h' 49 [some (.ref 123), some (.int l1), some (.int l2), some (.int l3), some (.int l4), some (.int (l5 + debtsC (go50 (lotC (zC s) Z)))), some (.int (l6 + freeC (go50 (lotC (zC s) Z)))), some (.int (l7 + 1)), q8] [] (tyI k)) :
    wp m_Q_lots h 49 [some (.ref 123), some (.int l1), some (.int l2), some (.int l3), some (.int l4), some (.int l5), some (.int l6), some (.int l7), q8] [] (tyI k) := by
  have h5 := okf o
  rw [e_Q_lots_49, if_neg hn]
  refine ⟨TK_tg t, t_draw t z fun h4 t4 z4 => ⟨TK_tg t4, ?_⟩⟩
  have t5 := TK_rate t4 (drw (nxs Z))
  have z5 : gI (sI h4 123 5 (drw (nxs Z))) 123 39 = nxs Z := by rw [gI_sI_ne _ _ _ _ (by omega)]; exact z4
  refine t_drawAll t5 (by rw [cR_f]; exact h5) z5 fun h6 t7 z6 => ?_
  have t7' := TK_upd t7
  have t8 : TK s h0 h6 (lotC (zC s) Z) := by
    unfold lotC
    exact t7'
  rw [cR_f] at z6 ⊢
  refine t_century o t8 (okC_lot o.1.1 Z) (lotC_f _ _) fun h9 t9 B9 z9 q8 => hk h9 t9 B9 ?_ q8
  rw [z9]
  exact z6
theorem t_Q_lots (o : okS s) (x z t : Int32) : QQ m_Q_lots [.int x, .int z, .int t] s (th (outN x 1 20) (othN t 1)) (v_lots (zC s) x z t) := by
  intro h k I hr hv
  rw [c_Q_lots]
  have I1 := IQ_12 I
  have P1 := KP_12 h
  refine ⟨I.1.1.1, ?_⟩
  generalize sI h 123 12 0 = h1 at I1 P1 ⊢
  rw [s_Q_wrongNumber, s_Q_wb]
  by_cases c : th (outN x 1 20) (othN t 1) = 0
  · rw [if_pos (by rw [c]; decide)]
    have hv' := hv c
    obtain ⟨c1, c2⟩ := th_0.mp c
    obtain ⟨n, hn, rfl, hn1, hn2⟩ := outN_0 (lo := 1) (hi := 20) (by decide) c1
    have h5 := okf o
    unfold v_lots at hv'
    rw [ix_nI hn] at hv'
    generalize th (outN (nI n) 1 20) (othN t 1) = u
    have fr39 : Fs Tq h1 (sI h1 123 39 z) := Fs_sI _ _ _ _ (by unfold Tq; omega)
    have I2 : IQ (sI h1 123 39 z) s := IQ_Tq I1 fr39 (fun b j hb => gI_sI_ne _ _ _ _ (by unfold LRg at hb; omega))
    have P2 : KP h (sI h1 123 39 z) := KP_trans P1 (KP_Tq fr39)
    have z2 : gI (sI h1 123 39 z) 123 39 = z := gI_sI_eq _ _ _ _
    refine ⟨I1.1.1.1, ?_⟩
    generalize sI h1 123 39 z = h2 at I2 P2 z2 ⊢
    refine ⟨I2.1.1.1, t_think2 I2 fun h3 t3 B3 z3 _ => ?_⟩
    obtain ⟨W, hW⟩ : ∃ W : Nat → Int32 × Int32 × Int32, W = lotN (zC s) z := ⟨_, rfl⟩
    have w0 : W 0 = (z, 0, 0) := by rw [hW]; rfl
    have ws : ∀ j, W (j + 1) = (seedN (nxs (W j).1) (Cf (zC s)), (W j).2.1 + debtsC (go50 (lotC (zC s) (W j).1)), (W j).2.2 + freeC (go50 (lotC (zC s) (W j).1))) := fun j => by rw [hW]; exact lotN_s _ _ _
    rw [← hW] at hv'
    clear hW
    have start : ∀ q8, wp m_Q_lots h3 49 [some (.ref 123), some (.int (nI n)), some (.int z), some (.int t), some (.int u), some (.int (W 0).2.1), some (.int (W 0).2.2), some (.int (nI 0)), q8] [] (tyI k) := by
      refine hp (A := fun j h' => TK s h2 h' (zC s) ∧ TB s h' ∧ gI h' 123 39 = (W j).1) (X := fun j h' => ∀ q8, wp m_Q_lots h' 49 [some (.ref 123), some (.int (nI n)), some (.int z), some (.int t), some (.int u), some (.int (W j).2.1), some (.int (W j).2.2), some (.int (nI j)), q8] [] (tyI k)) n ?_ ?_ 0 (Nat.zero_le _) h3 ⟨t3, B3, by rw [w0]; exact z3.trans z2⟩
      · intro h' ⟨t', B', z'⟩ q8
        have hv2 := hv' h' (KP_trans P2 (KP_Tq t'.1)) (IQ_back I2 t' B')
        rw [e_Q_lots_49, if_pos (Int32.le_refl _)]
        simp only [e_Q_lots_170]
        by_cases d : t = 0
        · rw [if_neg (fun w => w d)]
          rw [if_pos d] at hv2
          exact hv2
        · rw [if_pos d]
          rw [if_neg d] at hv2
          exact hv2
      · intro j hj h' ⟨t', B', z'⟩ ih q8
        refine t_lot o t' z' (nI_ge hj (by omega)) fun h9 t9 B9 z9 q8 => ?_
        have ih' := ih h9 ⟨t9, B9, by rw [ws]; exact z9⟩
        rw [ws] at ih'
        rw [nI_1]
        exact ih' _
    rw [w0] at start
    exact start none
  · rw [if_neg (ng (nK_th (nK_out _ _ _) (nK_oth _ _) c))]
    exact q_no I1 P1 (hr c)
end Q7l
