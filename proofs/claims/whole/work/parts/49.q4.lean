/-! ===== the reference: jubilee, one more, common pay, best births, highest ===== -/
theorem setM_eq (F : Nat → Row) (f : Nat) (r : Row) : setM F f r f = r := if_pos rfl
theorem setM_ne (F : Nat → Row) {f g : Nat} (r : Row) (e : g ≠ f) : setM F f r g = F g := if_neg e
theorem okC_set {c : Core} (o : okC c) {f : Nat} {r : Row} (R : RgF r) : okC (cM c (setM (Cm c) f r)) := ⟨o.1, o.2.1, fun g hg => by
  show RgF (setM _ f r g)
  unfold setM
  split
  · exact R
  · exact o.2.2.1 g hg, o.2.2.2⟩
theorem RgF_1 {r : Row} (R : RgF r) {x : Int32} (b : bd x 0 99999) : RgF (rs r 1 x) := ⟨by rw [rs_ne _ _ (by decide)]; exact R.1, by rw [rs_eq]; exact b, by rw [rs_ne _ _ (by decide)]; exact R.2.2.1, by rw [rs_ne _ _ (by decide)]; exact R.2.2.2⟩
theorem RgF_0 {r : Row} (R : RgF r) {x : Int32} (b : bd x 1 20) : RgF (rs r 0 x) := ⟨by rw [rs_eq]; exact b, by rw [rs_ne _ _ (by decide)]; exact R.2.1, by rw [rs_ne _ _ (by decide)]; exact R.2.2.1, by rw [rs_ne _ _ (by decide)]; exact R.2.2.2⟩
theorem RgF_2 {r : Row} (R : RgF r) {x : Int32} (b : bd x 0 9) : RgF (rs r 2 x) := ⟨by rw [rs_ne _ _ (by decide)]; exact R.1, by rw [rs_ne _ _ (by decide)]; exact R.2.1, by rw [rs_eq]; exact b, by rw [rs_ne _ _ (by decide)]; exact R.2.2.2⟩
theorem RgF_3 {r : Row} (R : RgF r) {x : Int32} (b : bd x 0 9) : RgF (rs r 3 x) := ⟨by rw [rs_ne _ _ (by decide)]; exact R.1, by rw [rs_ne _ _ (by decide)]; exact R.2.1, by rw [rs_ne _ _ (by decide)]; exact R.2.2.1, by rw [rs_eq]; exact b⟩
theorem okC_pay {c : Core} (o : okC c) {x : Int32} (b : bd x 0 9) : okC (payC c x) := ⟨o.1, o.2.1, fun f hf => RgF_2 (o.2.2.1 f hf) b, o.2.2.2⟩
theorem debts_lt {c : Core} (o : okC c) : debtsC c < 2147483647 ∧ debtsC c < 999999 := by
  obtain ⟨n, e, _, h2⟩ := bd_of (debts_bd o)
  rw [e]
  exact ⟨nI_lt (b := 2147483647) (by omega) (by decide), nI_lt (b := 999999) (by omega) (by decide)⟩
theorem bF_0 {bo : List Nat} (hb : bo.length ≤ 6) (w : Nat) : bF bo w = 0 ↔ w ∉ bo := by
  unfold bF
  by_cases d : w ∈ bo
  · rw [if_pos d]
    have : bo.idxOf w < bo.length := List.idxOf_lt_length_of_mem d
    exact ⟨fun z => absurd z (nI_ne0 (by omega) (by omega)), fun z => absurd d z⟩
  · rw [if_neg d]; exact ⟨fun _ => d, fun _ => rfl⟩
theorem okS_len {s : Sta} (o : okS s) : (zB s).length ≤ 6 := Nat.le_trans (okB_len o.1.2) (okw o)
section Q4
variable {h h0 h1 h2 h3 : PH} {s : Sta} {c c' : Core} {f n : Nat} {no v : Int32}
theorem b6 (h : f < 6) : inb (nI f) 6 := inb_nI h (by decide)
theorem TK_ext (t : TK s h0 h c) (h1 : Cf c' = Cf c) (h2 : Cw c' = Cw c) (h3 : Cy c' = Cy c) (h4 : Cr c' = Cr c) (h5 : ∀ f, f < Cf c → Ew 4 (Cm c f) (Cm c' f)) (h6 : ∀ w, w < Cw c → Ck c w = Ck c' w) : TK s h0 h c' :=
  ⟨t.1, Liv_ext t.2.1 h1 h2 h3 h4 h5 h6, t.2.2⟩
/-- the rows of the first i families are changed -/
def upC (c : Core) (g : Nat → Row → Row) (i : Nat) : Core := cM c (fun f => if f < i then g f (Cm c f) else Cm c f)
theorem upC_at (c : Core) (g : Nat → Row → Row) (i : Nat) : Cm (upC c g i) i = Cm c i := if_neg (t := g i (Cm c i)) (Nat.lt_irrefl i)
theorem up_0 {g : Nat → Row → Row} (t : TK s h0 h c) : TK s h0 h (upC c g 0) := TK_ext t rfl rfl rfl rfl (fun f _ => by
  have : Cm (upC c g 0) f = Cm c f := if_neg (t := g f (Cm c f)) (Nat.not_lt_zero f)
  rw [this]; exact Ew_refl _ _) (fun _ _ => rfl)
theorem up_s {g : Nat → Row → Row} {i : Nat} {r : Row} (t : TK s h0 h (cM (upC c g i) (setM (Cm (upC c g i)) i r))) (e : Ew 4 r (g i (Cm c i))) : TK s h0 h (upC c g (i + 1)) := TK_ext t rfl rfl rfl rfl (fun f _ => by
  show Ew 4 (setM (Cm (upC c g i)) i r f) (Cm (upC c g (i + 1)) f)
  by_cases d : f = i
  · subst d
    have : Cm (upC c g (f + 1)) f = g f (Cm c f) := if_pos (Nat.lt_succ_self f)
    rw [setM_eq, this]; exact e
  · rw [setM_ne _ _ d]
    by_cases d2 : f < i
    · have e1 : Cm (upC c g i) f = g f (Cm c f) := if_pos d2
      have e2 : Cm (upC c g (i + 1)) f = g f (Cm c f) := if_pos (by omega)
      rw [e1, e2]; exact Ew_refl _ _
    · have e1 : Cm (upC c g i) f = Cm c f := if_neg d2
      have e2 : Cm (upC c g (i + 1)) f = Cm c f := if_neg (by omega)
      rw [e1, e2]; exact Ew_refl _ _) (fun _ _ => rfl)
theorem up_n {g : Nat → Row → Row} (t : TK s h0 h (upC c g (Cf c))) : TK s h0 h (cM c (fun f => g f (Cm c f))) := TK_ext t rfl rfl rfl rfl (fun f hf => by
  have e1 : Cm (upC c g (Cf c)) f = g f (Cm c f) := if_pos hf
  have e2 : Cm (cM c (fun f => g f (Cm c f))) f = g f (Cm c f) := rfl
  rw [e1, e2]; exact Ew_refl _ _) (fun _ _ => rfl)
theorem t_Q_jubilee (o : okS s) (y : Int32) : QQ m_Q_jubilee [.int y] s (outN y 0 100) (v_jubilee (zC s) (ix y)) := by
  intro h k I hr hv
  rw [c_Q_jubilee]
  have I1 := IQ_12 I
  have P1 := KP_12 h
  refine ⟨I.1.1.1, ?_⟩
  generalize sI h 123 12 0 = h1 at I1 P1 ⊢
  rw [s_Q_wrongNumber]
  by_cases c : outN y 0 100 = 0
  · rw [if_pos (by rw [c]; decide)]
    have hv' := hv c
    obtain ⟨n, hn, rfl, _, hn2⟩ := outN_0 (lo := 0) (hi := 100) (by decide) c
    have h5 := okf o
    rw [ix_nI hn] at hv'
    unfold v_jubilee at hv'
    generalize hg : (fun f => debtsC (goC n (jubC (zC s) f))) = g at hv'
    have gv : ∀ j, g j = debtsC (goC n (jubC (zC s) j)) := fun j => by rw [← hg]
    have oj : ∀ j, j < Cf (zC s) → okC (jubC (zC s) j) := fun j hj => okC_set o.1.1 (RgF_1 (o.1.1.2.2.1 j hj) (bd_nI (n := 0) (by omega) (by omega) (by decide)))
    rw [mnR_1 (mnF_R (M := 2147483647) (M' := 999999) _ fun j hj _ => by rw [gv]; exact debts_lt (okC_go (oj j hj) n))] at hv'
    refine ⟨I1.1.1.1, t_think I1 fun h2 t2 B2 => ?_⟩
    refine hp (A := fun j h' => TK s h1 h' (zC s) ∧ TB s h') (X := fun j h' => ∀ q, wp m_Q_jubilee h' 41 [some (.ref 123), some (.int (nI n)), some (.int (mnF (-9) 999999 (fun _ => true) g j).1), some (.int (mnF (-9) 999999 (fun _ => true) g j).2), some (.int (nI j)), q] [] (tyI k)) (Cf (zC s)) ?_ ?_ 0 (Nat.zero_le _) h2 ⟨t2, B2⟩ none
    · intro h' ⟨t', B'⟩ q
      rw [e_Q_jubilee_41, t'.2.1.2.2.1.1, if_pos (Int32.le_refl _)]
      exact ⟨TK_tg t', hv' h' (KP_trans P1 (KP_Tq t'.1)) (IQ_back I1 t' B')⟩
    · intro j hj h' ⟨t', B'⟩ ih q
      have q' := qw t'.2.1.1
      rw [e_Q_jubilee_41, t'.2.1.2.2.1.1, if_neg (nI_ge hj (by omega)), ix_nI (by omega)]
      simp only [q', true_and, b5 (show j < 5 by omega)]
      have t3 := TK_debt t' (x := 0) (r := rs (Cm (zC s) j) 1 0) hj (rs_ne _ _ (by decide)) (rs_eq _ _ _) (rs_ne _ _ (by decide)) (rs_ne _ _ (by decide))
      refine ⟨TK_tg t3, t_Q_allIn o t3 (oj j hj) (by omega) fun h4 t4 B4 => ?_⟩
      have ih' := ih h4 ⟨t4, B4⟩
      rw [show debtsC (goC n (cM (zC s) (setM (Cm (zC s)) j (rs (Cm (zC s) j) 1 0)))) = g j from (gv j).symm]
      simp only [mnF, mnU, true_and] at ih'
      simp only [e_Q_jubilee_77, e_Q_jubilee_90, nI_1]
      by_cases d : g j < (mnF (-9) 999999 (fun _ => true) g j).2
      · simp only [if_neg (Int32.not_le.mpr d)]
        rw [if_pos d] at ih'
        exact ih' _
      · simp only [if_pos (Int32.not_lt.mp d)]
        rw [if_neg d] at ih'
        exact ih' _
  · rw [if_neg (ng (nK_out _ _ _ c)), s_Q_wrongNumber]
    exact q_no I1 P1 (hr c)
theorem t_Q_oneMore (o : okS s) (y : Int32) : QQ m_Q_oneMore [.int y] s (outN y 0 100) (v_oneMore s.1 (ix y)) := by
  intro h k I hr hv
  rw [c_Q_oneMore]
  have I1 := IQ_12 I
  have P1 := KP_12 h
  refine ⟨I.1.1.1, ?_⟩
  generalize sI h 123 12 0 = h1 at I1 P1 ⊢
  rw [s_Q_wrongNumber]
  by_cases c : outN y 0 100 = 0
  · rw [if_pos (by rw [c]; decide)]
    have hv' := hv c
    obtain ⟨n, hn, rfl, _, hn2⟩ := outN_0 (lo := 0) (hi := 100) (by decide) c
    have h6 := okw o
    rw [ix_nI hn] at hv'
    unfold v_oneMore at hv'
    generalize hg : (fun w => debtsC (goC n (chargeC s.1.1 (Ck s.1.1 w)))) = g at hv'
    have gv : ∀ j, g j = debtsC (goC n (chargeC (zC s) (Ck (zC s) j))) := fun j => by rw [← hg]
    have oj : ∀ j, j < Cw (zC s) → okC (chargeC (zC s) (Ck (zC s) j)) := fun j hj => okC_charge o.1.1 (o.1.1.2.2.2 j hj)
    rw [mnR_1 (mnF_R (M := 2147483647) (M' := 999999) _ fun j hj _ => by rw [gv]; exact debts_lt (okC_go (oj j hj) n))] at hv'
    refine ⟨I1.1.1.1, t_think I1 fun h2 t2 B2 => ?_⟩
    refine hp (A := fun j h' => TK s h1 h' (zC s) ∧ TB s h') (X := fun j h' => ∀ q, wp m_Q_oneMore h' 41 [some (.ref 123), some (.int (nI n)), some (.int (mnF (-9) 999999 (fun w => decide (w ∉ s.1.2)) g j).1), some (.int (mnF (-9) 999999 (fun w => decide (w ∉ s.1.2)) g j).2), some (.int (nI j)), q] [] (tyI k)) (Cw (zC s)) ?_ ?_ 0 (Nat.zero_le _) h2 ⟨t2, B2⟩ none
    · intro h' ⟨t', B'⟩ q
      rw [e_Q_oneMore_41, t'.2.1.2.2.1.2.1, if_pos (Int32.le_refl _)]
      exact ⟨TK_tg t', hv' h' (KP_trans P1 (KP_Tq t'.1)) (IQ_back I1 t' B')⟩
    · intro j hj h' ⟨t', B'⟩ ih q
      have q' := qw t'.2.1.1
      rw [e_Q_oneMore_41, t'.2.1.2.2.1.2.1, if_neg (nI_ge hj (by omega)), ix_nI (by omega)]
      simp only [q', true_and, true_or, b6 (show j < 6 by omega), B' j hj, e_Q_oneMore_99, e_Q_oneMore_85, e_Q_oneMore_98, nI_1]
      by_cases d0 : j ∈ s.1.2
      · have ih' := ih h' ⟨t', B'⟩
        simp only [mnF, mnU] at ih'
        rw [if_neg (fun z => absurd d0 (of_decide_eq_true z.1))] at ih'
        rw [if_pos (fun z => (bF_0 (okS_len o) j).mp z d0)]
        exact ih' _
      · rw [if_neg (fun z => z ((bF_0 (okS_len o) j).mpr d0))]
        refine t_build t' o.1.1 hj fun h3 t3 _ => ⟨TK_tg t3, t_Q_allIn o t3 (oj j hj) (by omega) fun h4 t4 B4 => ?_⟩
        have ih' := ih h4 ⟨t4, B4⟩
        rw [show debtsC (goC n (chargeC (zC s) (Ck (zC s) j))) = g j from (gv j).symm]
        simp only [mnF, mnU] at ih'
        by_cases d : g j < (mnF (-9) 999999 (fun w => decide (w ∉ s.1.2)) g j).2
        · simp only [if_neg (Int32.not_le.mpr d)]
          rw [if_pos ⟨decide_eq_true d0, d⟩] at ih'
          exact ih' _
        · simp only [if_pos (Int32.not_lt.mp d)]
          rw [if_neg (fun z => d z.2)] at ih'
          exact ih' _
  · rw [if_neg (ng (nK_out _ _ _ c)), s_Q_wrongNumber]
    exact q_no I1 P1 (hr c)
theorem m1_add (x : Int32) : x + (-1) = x - 1 := (Int32.sub_eq_add_neg _ _).symm
theorem t_Q_commonPay (o : okS s) (x y : Int32) : QQ m_Q_commonPay [.int x, .int y] s (eith x 100 y 99999) (v_common (zC s) (ix x) y) := by
  intro h k I hr hv
  rw [c_Q_commonPay]
  have I1 := IQ_12 I
  have P1 := KP_12 h
  refine ⟨I.1.1.1, ?_⟩
  generalize sI h 123 12 0 = h1 at I1 P1 ⊢
  have main : wp m_Q_commonPay h1 36 [some (.ref 123), some (.int x), some (.int y), none, none, none, none] [.int (eith x 100 y 99999)] (tyI k) := by
    rw [e_Q_commonPay_36]
    by_cases c : eith x 100 y 99999 = 0
    · rw [if_pos (by rw [c]; decide)]
      have hv' := hv c
      obtain ⟨n, w, hn2, hw2, rfl, rfl⟩ := eith_0 (M := 100) (N := 99999) (by decide) (by decide) c
      have h5 := okf o
      rw [ix_nI (by omega)] at hv'
      generalize eith (nI n) 100 (nI w) 99999 = t
      generalize nI w = v at hv' ⊢
      unfold v_common at hv'
      generalize hp0 : (fun p => decide (¬ v < debtsC (goC n (payC (zC s) (nI p))))) = p at hv'
      have pv : ∀ i, p i = decide (¬ v < debtsC (goC n (payC (zC s) (nI i)))) := fun i => by rw [← hp0]
      refine ⟨I1.1.1.1, t_think I1 fun h2 t2 B2 => ?_⟩
      have g := hp (A := fun j h' => TK s h1 h' (zC s) ∧ TB s h') (X := fun j h' => ∀ q, wp m_Q_commonPay h' 59 [some (.ref 123), some (.int (nI n)), some (.int v), some (.int t), some (.int (fstF p (10 - j) j)), some (.int (nI (10 - j) - 1)), q] [] (tyI k)) 10 ?_ ?_ 0 (Nat.zero_le _) h2 ⟨t2, B2⟩ none
      · exact g
      · intro h' ⟨t', B'⟩ q
        rw [e_Q_commonPay_59, if_pos (by decide)]
        exact hv' h' (KP_trans P1 (KP_Tq t'.1)) (IQ_back I1 t' B')
      · intro j hj h' ⟨t', B'⟩ ih q
        obtain ⟨m, em⟩ : ∃ m, 10 - j = m + 1 := ⟨9 - j, by omega⟩
        rw [em, nI_pred, e_Q_commonPay_59, if_neg (nI_pos (by omega))]
        refine hp (A := fun i h' => TK s h1 h' (upC (zC s) (fun _ r => rs r 2 (nI m)) i)) (X := fun i h' => wp m_Q_commonPay h' 67 [some (.ref 123), some (.int (nI n)), some (.int v), some (.int t), some (.int (fstF p (m + 1) j)), some (.int (nI m)), some (.int (nI i))] [] (tyI k)) (Cf (zC s)) ?_ ?_ 0 (Nat.zero_le _) h' (up_0 t')
        · intro h3 t3
          have t4 : TK s h1 h3 (payC (zC s) (nI m)) := up_n t3
          rw [e_Q_commonPay_67, show gI h3 123 0 = nI (Cf (zC s)) from t4.2.1.2.2.1.1, if_pos (Int32.le_refl _)]
          refine ⟨TK_tg t4, TK_tg t4, t_Q_allIn o t4 (okC_pay o.1.1 (bd_nI (by omega) (by omega) (by decide))) (by omega) fun h5 t5 B5 => ?_⟩
          have ih' := ih h5 ⟨t5, B5⟩
          have e1 : 10 - (j + 1) = m := by omega
          rw [e1] at ih'
          have e2 : fstF p m (j + 1) = if p m = true then nI m else fstF p (m + 1) j := rfl
          rw [e2, pv] at ih'
          simp only [e_Q_commonPay_107, m1_add]
          by_cases d : v < debtsC (goC n (payC (zC s) (nI m)))
          · rw [if_pos d]
            rw [if_neg (by simp [d])] at ih'
            exact ih' _
          · rw [if_neg d]
            rw [if_pos (by simp [d])] at ih'
            exact ih' _
        · intro i hi h3 t3 ih3
          have q3 := qw t3.2.1.1
          rw [e_Q_commonPay_67, show gI h3 123 0 = nI (Cf (zC s)) from t3.2.1.2.2.1.1, if_neg (nI_ge hi (by omega)), ix_nI (by omega)]
          simp only [q3, true_and, b5 (show i < 5 by omega), nI_1]
          have e0 := upC_at (zC s) (fun _ r => rs r 2 (nI m)) i
          have t4 := TK_pay t3 (f := i) (x := nI m) (r := rs (Cm (zC s) i) 2 (nI m)) hi (by rw [e0]; exact rs_ne _ _ (by decide)) (by rw [e0]; exact rs_ne _ _ (by decide)) (rs_eq _ _ _) (by rw [e0]; exact rs_ne _ _ (by decide))
          exact ih3 _ (up_s t4 (Ew_refl _ _))
    · rw [if_neg (ng (nK_eith _ _ _ _ c))]
      exact q_no I1 P1 (hr c)
  simp only [e_Q_commonPay_13, e_Q_commonPay_30]
  unfold eith at main
  by_cases a : x < 0
  · rw [if_pos (Or.inl a)] at main
    rw [if_pos a]; exact main
  · rw [if_neg a]
    by_cases b : y < 0
    · rw [if_pos (Or.inr b)] at main
      rw [if_neg (Int32.not_le.mpr b)]; exact main
    · rw [if_neg (fun z => z.elim a b)] at main
      rw [if_pos (Int32.not_lt.mp b)]
      by_cases d : 100 < x
      · rw [if_pos (Or.inl d)] at main
        rw [if_pos d]; exact main
      · rw [if_neg d]
        by_cases e : 99999 < y
        · rw [if_pos (Or.inr e)] at main
          rw [if_neg (Int32.not_le.mpr e)]; exact main
        · rw [if_neg (fun z => z.elim d e)] at main
          rw [if_pos (Int32.not_lt.mp e)]; exact main
theorem hoR_lt {r : Row} (R : RgF r) : hoR r < 2147483647 ∧ hoR r < 999999 := by
  obtain ⟨n, e, _, h2⟩ := bd_of (hoR_bd R)
  rw [e]
  exact ⟨nI_lt (b := 2147483647) (by omega) (by decide), nI_lt (b := 999999) (by omega) (by decide)⟩
theorem t_Q_bestBirths (o : okS s) (x y : Int32) : QQ m_Q_bestBirths [.int x, .int y] s (th (nF (zC s) x) (outN y 0 100)) (v_births (zC s) (ix x) (ix y)) := by
  intro h k I hr hv
  rw [c_Q_bestBirths]
  have I1 := IQ_12 I
  have P1 := KP_12 h
  refine ⟨I.1.1.1, ?_⟩
  generalize sI h 123 12 0 = h1 at I1 P1 ⊢
  refine ⟨I1.1.1.1, ?_⟩
  rw [s_Q_isFamily I1.1, s_Q_wrongNumber]
  refine isF_th (X := fun v => wp m_Q_bestBirths h1 24 [some (.ref 123), some (.int x), some (.int y), none, none, none, none, none] [.int v] (tyI k)) ?_
  show wp m_Q_bestBirths h1 24 _ _ _
  rw [e_Q_bestBirths_24]
  by_cases c : th (nF (zC s) x) (outN y 0 100) = 0
  · rw [if_pos (by rw [c]; decide)]
    have hv' := hv c
    obtain ⟨c1, c2⟩ := th_0.mp c
    obtain ⟨f, hf, rfl⟩ := nF_0 (okf o) c1
    obtain ⟨n, hn, rfl, _, hn2⟩ := outN_0 (lo := 0) (hi := 100) (by decide) c2
    have h5 := okf o
    rw [ix_nI (show f < 2 ^ 31 by omega), ix_nI hn] at hv'
    unfold v_births at hv'
    generalize hg : (fun b => hoR (rYears (Cr (zC s)) (Cy (zC s)) n (rs (Cm (zC s) f) 3 (nI b)))) = g at hv'
    have gv : ∀ j, g j = hoR (rYears (Cr (zC s)) (Cy (zC s)) n (rs (Cm (zC s) f) 3 (nI j))) := fun j => by rw [← hg]
    have Rj : ∀ j, j < 10 → RgF (rs (Cm (zC s) f) 3 (nI j)) := fun j hj => RgF_3 (o.1.1.2.2.1 f hf) (bd_nI (by omega) (by omega) (by decide))
    rw [mnR_1 (mnF_R (M := 2147483647) (M' := 999999) _ fun j hj _ => by rw [gv]; exact hoR_lt (RgF_years (Rj j hj) o.1.1.2.1 n))] at hv'
    generalize th (nF (zC s) (nI f)) (outN (nI n) 0 100) = t
    refine ⟨I1.1.1.1, t_think I1 fun h2 t2 B2 => ?_⟩
    refine hp (A := fun j h' => TK s h1 h' (zC s) ∧ TB s h') (X := fun j h' => ∀ q, wp m_Q_bestBirths h' 50 [some (.ref 123), some (.int (nI f)), some (.int (nI n)), some (.int t), some (.int (mnF 0 999999 (fun _ => true) g j).1), some (.int (mnF 0 999999 (fun _ => true) g j).2), some (.int (nI j)), q] [] (tyI k)) 10 ?_ ?_ 0 (Nat.zero_le _) h2 ⟨t2, B2⟩ none
    · intro h' ⟨t', B'⟩ q
      rw [e_Q_bestBirths_50, if_pos (show (9 : Int32) < nI 10 by decide)]
      exact hv' h' (KP_trans P1 (KP_Tq t'.1)) (IQ_back I1 t' B')
    · intro j hj h' ⟨t', B'⟩ ih q
      have q' := qw t'.2.1.1
      rw [e_Q_bestBirths_50, if_neg (show ¬ (9 : Int32) < nI j from nI_nlt (a := 9) (by omega) (by decide)), ix_nI (by omega)]
      simp only [q', true_and, b5 (show f < 5 by omega)]
      have t3 := TK_birth t' (x := nI j) (r := rs (Cm (zC s) f) 3 (nI j)) hf (rs_ne _ _ (by decide)) (rs_ne _ _ (by decide)) (rs_ne _ _ (by decide)) (rs_eq _ _ _)
      have o3 : okC (cM (zC s) (setM (Cm (zC s)) f (rs (Cm (zC s) f) 3 (nI j)))) := okC_set o.1.1 (Rj j hj)
      refine ⟨TK_tg t3, t_go t3 o3 (by omega) fun h4 t4 _ _ _ => ⟨TK_tg t4, ?_⟩⟩
      rw [s_Q_headOwes t4.2.1 (okC_go o3 n) hf]
      have e1 : hoR (Cm (goC n (cM (zC s) (setM (Cm (zC s)) f (rs (Cm (zC s) f) 3 (nI j))))) f) = g j := by
        rw [gv]
        show hoR (rYears (Cr (zC s)) (Cy (zC s)) n (setM (Cm (zC s)) f (rs (Cm (zC s) f) 3 (nI j)) f)) = _
        rw [setM_eq]
      rw [e1]
      refine ⟨TK_tg t4, t_again t4 o fun h5 t5 B5 _ _ _ => ?_⟩
      have ih' := ih h5 ⟨t5, B5⟩
      simp only [mnF, mnU, true_and] at ih'
      simp only [e_Q_bestBirths_95, e_Q_bestBirths_111, nI_1]
      by_cases d : g j < (mnF 0 999999 (fun _ => true) g j).2
      · simp only [if_neg (Int32.not_le.mpr d)]
        rw [if_pos d] at ih'
        exact ih' _
      · simp only [if_pos (Int32.not_lt.mp d)]
        rw [if_neg d] at ih'
        exact ih' _
  · rw [if_neg (ng (nK_th (nK_F _ _) (nK_out _ _ _) c))]
    exact q_no I1 P1 (hr c)
theorem t_Q_highest (o : okS s) (x y z : Int32) : QQ m_Q_highest [.int x, .int y, .int z] s (th (th (nF (zC s) x) (outN y 0 100)) (othN z 1)) (v_highest (zC s) x y z) := by
  intro h k I hr hv
  rw [c_Q_highest]
  have I1 := IQ_12 I
  have P1 := KP_12 h
  refine ⟨I.1.1.1, ?_⟩
  generalize sI h 123 12 0 = h1 at I1 P1 ⊢
  refine ⟨I1.1.1.1, ?_⟩
  rw [s_Q_isFamily I1.1, s_Q_wrongNumber]
  refine isF_th (X := fun v => wp m_Q_highest h1 24 [some (.ref 123), some (.int x), some (.int y), some (.int z), none, none, none, none] [.int v] (tyI k)) ?_
  show wp m_Q_highest h1 24 _ _ _
  rw [e_Q_highest_24, s_Q_wb]
  by_cases c : th (th (nF (zC s) x) (outN y 0 100)) (othN z 1) = 0
  · rw [if_pos (by rw [c]; decide)]
    have hv' := hv c
    obtain ⟨c12, c3⟩ := th_0.mp c
    obtain ⟨c1, c2⟩ := th_0.mp c12
    obtain ⟨f, hf, rfl⟩ := nF_0 (okf o) c1
    obtain ⟨n, hn, rfl, _, hn2⟩ := outN_0 (lo := 0) (hi := 100) (by decide) c2
    obtain ⟨m, hm, rfl⟩ := oth_0 (m := 1) (by decide) c3
    have h5 := okf o
    unfold v_highest at hv'
    rw [ix_nI (show f < 2 ^ 31 by omega), ix_nI hn] at hv'
    generalize th (th (nF (zC s) (nI f)) (outN (nI n) 0 100)) (othN (nI m) 1) = t
    refine ⟨I1.1.1.1, t_think I1 fun h2 t2 B2 => ?_⟩
    by_cases d : m = 0
    · subst d
      rw [if_pos (show nI 0 = 0 from rfl)] at hv'
      unfold v_rate at hv'
      generalize hp0 : (fun x => decide (rYears (nI x) (Cy (zC s)) n (Cm (zC s) f) 1 = 0)) = p at hv'
      have pv : ∀ i, p i = decide (rYears (nI i) (Cy (zC s)) n (Cm (zC s) f) 1 = 0) := fun i => by rw [← hp0]
      refine hp (A := fun j h' => TK s h1 h' (zC s) ∧ TB s h') (X := fun j h' => ∀ q, wp m_Q_highest h' 54 [some (.ref 123), some (.int (nI f)), some (.int (nI n)), some (.int (nI 0)), some (.int t), some (.int (lstF p j)), some (.int (nI j)), q] [] (tyI k)) 21 ?_ ?_ 0 (Nat.zero_le _) h2 ⟨t2, B2⟩ none
      · intro h' ⟨t', B'⟩ q
        rw [e_Q_highest_54, if_neg (show ¬ ¬ nI 0 = 0 from fun z => z rfl), e_Q_highest_67, if_pos (show (20 : Int32) < nI 21 by decide)]
        exact hv' h' (KP_trans P1 (KP_Tq t'.1)) (IQ_back I1 t' B')
      · intro j hj h' ⟨t', B'⟩ ih q
        rw [e_Q_highest_54, if_neg (show ¬ ¬ nI 0 = 0 from fun z => z rfl), e_Q_highest_67, if_neg (show ¬ (20 : Int32) < nI j from nI_nlt (a := 20) (by omega) (by decide)), if_neg (show ¬ ¬ nI 0 = 0 from fun z => z rfl), e_Q_highest_84, if_pos (show ¬ nI 0 = 1 by decide)]
        have t3 := TK_rate t' (nI j)
        have q' := qw t'.2.1.1
        have q3 := qw t3.2.1.1
        have r3 := t3.2.1.2.2.2.1 f hf
        simp only [q', q3, true_and, true_or, b5 (show f < 5 by omega), ix_nI (show f < 2 ^ 31 by omega), r3.2.2.1, e_Q_highest_108]
        have t4 := TK_pay t3 (x := Cm (cR (zC s) (nI j)) f 2) (r := Cm (zC s) f) hf rfl rfl rfl rfl
        have o4 : okC (cM (cR (zC s) (nI j)) (setM (Cm (zC s)) f (Cm (zC s) f))) := okC_set (c := cR (zC s) (nI j)) ⟨o.1.1.1, bd_nI (by omega) (by omega) (by decide), o.1.1.2.2.1, o.1.1.2.2.2⟩ (o.1.1.2.2.1 f hf)
        refine ⟨TK_tg t4, t_go t4 o4 (by omega) fun h5 t5 _ _ _ => ?_⟩
        have q5 := qw t5.2.1.1
        have r5 := (t5.2.1.2.2.2.1 f hf).2.1
        have e5 : Cm (goC n (cM (cR (zC s) (nI j)) (setM (Cm (cR (zC s) (nI j))) f (Cm (zC s) f)))) f 1 = rYears (nI j) (Cy (zC s)) n (Cm (zC s) f) 1 := by
          show rYears (nI j) (Cy (zC s)) n (setM (Cm (zC s)) f (Cm (zC s) f) f) 1 = _
          rw [setM_eq]
        rw [e5] at r5
        simp only [q5, true_and, true_or, b5 (show f < 5 by omega), r5]
        rw [if_pos (show nI 0 = 0 from rfl), e_Q_highest_132, e_Q_highest_136, e_Q_highest_137, e_Q_highest_137]
        by_cases e : rYears (nI j) (Cy (zC s)) n (Cm (zC s) f) 1 = 0
        · rw [if_neg (fun w => w e)]
          refine ⟨TK_tg t5, t_again t5 o fun h6 t6 B6 _ _ _ => ?_⟩
          have ih' := ih h6 ⟨t6, B6⟩
          simp only [lstF, pv] at ih'
          rw [if_pos (by simp [e])] at ih'
          rw [if_neg (by decide), e_Q_highest_155, nI_1]
          exact ih' _
        · rw [if_pos e]
          refine ⟨TK_tg t5, t_again t5 o fun h6 t6 B6 _ _ _ => ?_⟩
          have ih' := ih h6 ⟨t6, B6⟩
          simp only [lstF, pv] at ih'
          rw [if_neg (by simp [e])] at ih'
          rw [if_pos rfl, e_Q_highest_155, nI_1]
          exact ih' _
    · obtain rfl : m = 1 := by omega
      rw [if_neg (show ¬ nI 1 = 0 by decide)] at hv'
      unfold v_pay at hv'
      generalize hp0 : (fun x => decide (rYears (Cr (zC s)) (Cy (zC s)) n (rs (Cm (zC s) f) 2 (nI x)) 1 = 0)) = p at hv'
      have pv : ∀ i, p i = decide (rYears (Cr (zC s)) (Cy (zC s)) n (rs (Cm (zC s) f) 2 (nI i)) 1 = 0) := fun i => by rw [← hp0]
      refine hp (A := fun j h' => TK s h1 h' (zC s) ∧ TB s h') (X := fun j h' => ∀ q, wp m_Q_highest h' 54 [some (.ref 123), some (.int (nI f)), some (.int (nI n)), some (.int (nI 1)), some (.int t), some (.int (fstF p 0 j)), some (.int (nI j)), q] [] (tyI k)) 10 ?_ ?_ 0 (Nat.zero_le _) h2 ⟨t2, B2⟩ none
      · intro h' ⟨t', B'⟩ q
        rw [e_Q_highest_54, if_pos (show ¬ nI 1 = 0 by decide), e_Q_highest_67, if_pos (show (9 : Int32) < nI 10 by decide)]
        exact hv' h' (KP_trans P1 (KP_Tq t'.1)) (IQ_back I1 t' B')
      · intro j hj h' ⟨t', B'⟩ ih q
        have t3 : TK s h1 (sI h' 123 5 (gI h' 123 5)) (zC s) := by
          have := TK_rate t' (gI h' 123 5)
          rw [t'.2.1.2.2.1.2.2.2] at this ⊢
          exact this
        have q' := qw t'.2.1.1
        have q3 := qw t3.2.1.1
        rw [e_Q_highest_54, if_pos (show ¬ nI 1 = 0 by decide), e_Q_highest_67, if_neg (show ¬ (9 : Int32) < nI j from nI_nlt (a := 9) (by omega) (by decide)), if_pos (show ¬ nI 1 = 0 by decide), e_Q_highest_84, if_neg (show ¬ ¬ nI 1 = 1 from fun z => z rfl)]
        simp only [q', q3, true_and, true_or, b5 (show f < 5 by omega), ix_nI (show f < 2 ^ 31 by omega), e_Q_highest_108]
        have t4 := TK_pay t3 (x := nI j) (r := rs (Cm (zC s) f) 2 (nI j)) hf (rs_ne _ _ (by decide)) (rs_ne _ _ (by decide)) (rs_eq _ _ _) (rs_ne _ _ (by decide))
        have o4 : okC (cM (zC s) (setM (Cm (zC s)) f (rs (Cm (zC s) f) 2 (nI j)))) := okC_set o.1.1 (RgF_2 (o.1.1.2.2.1 f hf) (bd_nI (by omega) (by omega) (by decide)))
        refine ⟨TK_tg t4, t_go t4 o4 (by omega) fun h5 t5 _ _ _ => ?_⟩
        have q5 := qw t5.2.1.1
        have r5 := (t5.2.1.2.2.2.1 f hf).2.1
        have e5 : Cm (goC n (cM (zC s) (setM (Cm (zC s)) f (rs (Cm (zC s) f) 2 (nI j))))) f 1 = rYears (Cr (zC s)) (Cy (zC s)) n (rs (Cm (zC s) f) 2 (nI j)) 1 := by
          show rYears (Cr (zC s)) (Cy (zC s)) n (setM (Cm (zC s)) f (rs (Cm (zC s) f) 2 (nI j)) f) 1 = _
          rw [setM_eq]
        rw [e5] at r5
        simp only [q5, true_and, true_or, b5 (show f < 5 by omega), r5]
        rw [if_neg (show ¬ nI 1 = 0 by decide), e_Q_highest_132, e_Q_highest_136, e_Q_highest_137, e_Q_highest_137]
        have hbd := fstF_bd p j 0 (by omega)
        by_cases e : rYears (Cr (zC s)) (Cy (zC s)) n (rs (Cm (zC s) f) 2 (nI j)) 1 = 0
        · rw [if_neg (fun w => w e)]
          rcases hbd with e9 | ⟨i, _, hi, e9, _⟩
          · rw [e9, if_neg (by decide)]
            refine ⟨TK_tg t5, t_again t5 o fun h6 t6 B6 _ _ _ => ?_⟩
            have ih' := ih h6 ⟨t6, B6⟩
            rw [fstF_snoc p j 0 (by omega), e9, if_pos rfl, Nat.zero_add, pv, if_pos (by simp [e])] at ih'
            rw [if_neg (by decide), e_Q_highest_155, nI_1]
            exact ih' _
          · rw [e9, if_pos (nI_pos' (by omega))]
            refine ⟨TK_tg t5, t_again t5 o fun h6 t6 B6 _ _ _ => ?_⟩
            have ih' := ih h6 ⟨t6, B6⟩
            rw [fstF_snoc p j 0 (by omega), e9, if_neg (nI_n9 (by omega))] at ih'
            rw [if_pos rfl, e_Q_highest_155, nI_1]
            exact ih' _
        · rw [if_pos e]
          refine ⟨TK_tg t5, t_again t5 o fun h6 t6 B6 _ _ _ => ?_⟩
          have ih' := ih h6 ⟨t6, B6⟩
          rw [if_pos rfl, e_Q_highest_155, nI_1]
          rcases hbd with e9 | ⟨i, _, hi, e9, _⟩
          · rw [fstF_snoc p j 0 (by omega), e9, if_pos rfl, Nat.zero_add, pv, if_neg (by simp [e])] at ih'
            rw [e9]
            exact ih' _
          · rw [fstF_snoc p j 0 (by omega), e9, if_neg (nI_n9 (by omega))] at ih'
            rw [e9]
            exact ih' _
  · rw [if_neg (ng (nK_th (nK_th (nK_F _ _) (nK_out _ _ _)) (nK_oth _ _) c))]
    exact q_no I1 P1 (hr c)
end Q4
