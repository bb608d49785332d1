/-! ===== the reference: orders of works ===== -/
theorem opL_s (m w : Nat) : opL m (w + 1) = if m.testBit w = true then opL m w else opL m w ++ [w] := rfl
theorem getD_app (l : List Nat) (x i : Nat) : (l ++ [x]).getD i 0 = if i = l.length then x else l.getD i 0 := by
  rw [List.getD_eq_getElem?_getD, List.getD_eq_getElem?_getD]
  by_cases d : i < l.length
  · rw [List.getElem?_append_left d, if_neg (by omega)]
  · rw [List.getElem?_append_right (by omega)]
    by_cases e : i = l.length
    · subst e; simp
    · rw [if_neg e, List.getElem?_eq_none (by simp; omega), List.getElem?_eq_none (by omega)]
section OrdQ
variable {h h' h0 h1 h2 h3 : PH} {s : Sta} {c : Core} {f n : Nat}
theorem t_skip {u i : Nat} (q : isQ h) (hu : u < 64) (hi : i < 6) {l1 l2 l3 l6 : Int32} {k : PH → Prop} : ∀ d w j, w + d ≤ 6 → j < 2 ^ 30 → skN u d w j < w + d → (∀ q7 q8, wp m_Q_layOrder (sI h 145 i (nI (skN u d w j))) 8 [some (.ref 123), some (.int l1), some (.int l2), some (.int l3), some (.int (nI (u ||| 2 ^ (skN u d w j)))), some (.int (nI (i + 1))), some (.int l6), q7, q8] [] (tyV k)) →
    wp m_Q_layOrder h 39 [some (.ref 123), some (.int l1), some (.int l2), some (.int l3), some (.int (nI u)), some (.int (nI i)), some (.int l6), some (.int (nI j)), some (.int (nI w))] [] (tyV k) := by
  have w1 := qw q
  intro d
  induction d with
  | zero => intro w j _ _ hs; exact absurd hs (by show ¬ w < w + 0; omega)
  | succ d ih =>
    intro w j hw hj hs hk
    have hbt := bt_nI hu (show w < 6 by omega)
    rw [e_Q_layOrder_39, s_Q_hasBit]
    simp only [e_Q_layOrder_54, e_Q_layOrder_71]
    rw [s_Q_hasBit, hbt]
    unfold skN at hs hk
    by_cases t : u.testBit w = true
    · rw [if_pos t] at hs hk
      rw [if_pos t, if_pos (by decide), if_neg (by decide), Int32.sub_zero, nI_1]
      exact ih (w + 1) j (by omega) hj (by omega) hk
    · rw [if_neg t] at hs hk
      rw [if_neg t, if_neg (fun z => z rfl), if_pos rfl]
      by_cases y : j = 0
      · subst y
        rw [if_pos rfl] at hk
        rw [if_pos (by decide)]
        simp only [w1, true_and, inb_nI hi (show 6 < 2 ^ 31 by decide), ix_nI (show i < 2 ^ 31 by omega)]
        rw [or_dec ⟨u, hu⟩ ⟨w, by omega⟩, nI_1]
        exact hk _ _
      · rw [if_neg y] at hs hk
        rw [if_neg (nI_nle (by omega) (by omega)), show nI j - 1 = nI (j - 1) from nI_subI (show 1 ≤ j by omega), nI_1]
        exact ih (w + 1) (j - 1) (by omega) (by omega) (by omega) hk
theorem t_Q_layOrder {z : Zl} (q : isQ h) (h6 : Cw z.1 ≤ 6) (h5 : (opZ z).length ≤ 5) {j : Nat} (hj : j < fac (opZ z).length) {k : PH → Prop} (hk : ∀ h', Fs (fun b _ => b = 145) h h' → (∀ i, i < (opZ z).length → gI h' 145 i = nI (ordI (opZ z).length j i)) → k h') : ccV m_Q_layOrder h [.ref 123, .int (nI j), .int (nI (opZ z).length)] k := by
  rw [c_Q_layOrder]
  refine hp (A := fun i h' => Fs (fun b _ => b = 145) h h' ∧ ∀ i', i' < i → gI h' 145 i' = nI (ordI (opZ z).length j i')) (X := fun i h' => ∀ q6 q7 q8, wp m_Q_layOrder h' 8 [some (.ref 123), some (.int (nI j)), some (.int (nI (opZ z).length)), some (.int (nI (ordS (opZ z).length j i).1)), some (.int (nI (ordS (opZ z).length j i).2)), some (.int (nI i)), q6, q7, q8] [] (tyV k)) (opZ z).length ?_ ?_ 0 (Nat.zero_le _) h ⟨Fs_refl _ _, fun i' hi' => absurd hi' (Nat.not_lt_zero _)⟩ none none none
  · intro h' ⟨fr, e⟩ q6 q7 q8
    rw [e_Q_layOrder_8, if_pos (Int32.le_refl _)]
    exact hk h' fr e
  · intro i hi h' ⟨fr, e⟩ ih q6 q7 q8
    obtain ⟨⟨g1, g1b⟩, g2, g3, g4, g5, g6, g7⟩ := ordZ h6 h5 hj hi
    have fb := fac_5 (show (opZ z).length - 1 - i ≤ 5 by omega)
    have fp := fac_pos ((opZ z).length - 1 - i)
    have p32 : 2 ^ (opZ z).length ≤ 64 := p2_6 (by omega)
    rw [e_Q_layOrder_8, if_neg (nI_ge hi (by omega)), sub2 hi, s_Q_fac (by omega), nI_div (by omega) (by omega), nI_mod (by omega) (by omega) (by omega)]
    refine ⟨nI_ne0 (by omega) (by omega), nI_ne0 (by omega) (by omega), ?_⟩
    refine t_skip (isQ_fs q fr) (by omega) (by omega) (opZ z).length 0 _ (by omega) (by omega) (by rw [Nat.zero_add]; exact g3) (fun q7 q8 => ?_)
    have ih' := ih (sI h' 145 i (nI (ordI (opZ z).length j i))) ⟨Fs_trans fr (Fs_sI _ _ _ _ rfl), fun i' hi' => by
      by_cases d : i' = i
      · subst d; rw [gI_sI_eq]
      · rw [gI_sI_ne _ _ _ _ (fun z => d z.2)]; exact e i' (by omega)⟩
    rw [ordS_s] at ih'
    exact ih' _ _ _
theorem TK_145 (t : TK s h0 h c) (f : Fs (fun b _ => b = 145) h h') : TK s h0 h' c :=
  ⟨Fs_trans t.1 (Fs_mono f (fun b j x => by unfold Tq; omega)), Liv_fs t.2.1 f (fun b j x => by unfold LRg; omega), Kp_fs t.2.2 f (fun j x => by omega)⟩
theorem TB_145 (t : TB s h) (f : Fs (fun b _ => b = 145) h h') : TB s h' := fun w hw => by rw [f.2.2.2 131 w (by omega)]; exact t w hw
/-- the places 146 hold the works that are not built -/
def Op (s : Sta) (h : PH) : Prop := ∀ i, i < (opZ s.1).length → gI h 146 i = nI ((opZ s.1).getD i 0)
theorem Op_c (e : Op s h) (q : gI h' 146 = gI h 146) : Op s h' := fun i hi => by rw [q]; exact e i hi
theorem t_ordTry (o : okS s) (h5 : (opZ s.1).length ≤ 5) {j : Nat} (hj : j < fac (opZ s.1).length) (t : TK s h0 h (zC s)) (op : Op s h) {l1 l3 l4 l5 l6 : Int32} {q8 : Option Value} {k : PH → Int32 → Prop}
    (hk : ∀ h' q8, TK s h0 h' (zC s) → TB s h' → Op s h' → (if l5 < 0 ∨ ordD s.1 j < l5 then wp m_Q_order h' 93 [some (.ref 123), some (.int l1), some (.int (nI (opZ s.1).length)), some (.int l3), some (.int (nI j)), some (.int (ordD s.1 j)), some (.int l6), some (.int (nI (j + 1))), q8] [] (tyI k) else wp m_Q_order h' 93 [some (.ref 123), some (.int l1), some (.int (nI (opZ s.1).length)), some (.int l3), some (.int l4), some (.int l5), some (.int l6), some (.int (nI (j + 1))), q8] [] (tyI k))) (hl : ¬ l6 ≤ nI j) :
    wp m_Q_order h 93 [some (.ref 123), some (.int l1), some (.int (nI (opZ s.1).length)), some (.int l3), some (.int l4), some (.int l5), some (.int l6), some (.int (nI j)), q8] [] (tyI k) := by
  have h6 := okw o
  rw [e_Q_order_93, if_neg hl]
  refine ⟨TK_tg t, t_Q_layOrder t.2.1.1 h6 h5 hj fun h1 fr1 e1 => ?_⟩
  have t1 := TK_145 t fr1
  have op1 : Op s h1 := Op_c op (funext fun i => fr1.2.2.2 146 i (by omega))
  refine hp (A := fun i h' => TK s h0 h' (ordC (zC s) (ordW s.1 j) i) ∧ gI h' 145 = gI h1 145 ∧ gI h' 146 = gI h1 146) (X := fun i h' => wp m_Q_order h' 110 [some (.ref 123), some (.int l1), some (.int (nI (opZ s.1).length)), some (.int l3), some (.int l4), some (.int l5), some (.int l6), some (.int (nI j)), some (.int (nI i))] [] (tyI k)) (opZ s.1).length ?_ ?_ 0 (Nat.zero_le _) h1 ⟨t1, rfl, rfl⟩
  · intro h' ⟨t', a, b⟩
    rw [e_Q_order_110, if_pos (Int32.le_refl _), s_Q_allDebts t'.2.1]
    refine ⟨TK_tg t', TK_tg t', t_again t' o fun h2 t2 B2 _ r2 _ => ?_⟩
    have op2 : Op s h2 := Op_c op1 ((r2 146 (Or.inr rfl)).trans b)
    show if l5 < 0 then _ else (if l5 ≤ ordD s.1 j then _ else _)
    simp only [e_Q_order_164, e_Q_order_171, e_Q_order_185, e_Q_order_192, nI_1]
    have hk' := hk h2 (some (.int (ordD s.1 j))) t2 B2 op2
    by_cases y : l5 < 0
    · rw [if_pos (Or.inl y)] at hk'
      rw [if_pos y, if_pos y]
      exact hk'
    · rw [if_neg y, if_neg y]
      by_cases y2 : ordD s.1 j < l5
      · rw [if_pos (Or.inr y2)] at hk'
        rw [if_neg (Int32.not_le.mpr y2), if_neg y, if_neg (show ¬ l5 ≤ debtsC (ordC (zC s) (ordW s.1 j) (opZ s.1).length) from Int32.not_le.mpr y2)]
        exact hk'
      · rw [if_neg (fun z => z.elim y y2)] at hk'
        rw [if_pos (Int32.not_lt.mp y2), if_pos (show l5 ≤ debtsC (ordC (zC s) (ordW s.1 j) (opZ s.1).length) from Int32.not_lt.mp y2)]
        exact hk'
  · intro i hi h' ⟨t', a, b⟩ ih
    have w' := qw t'.2.1.1
    obtain ⟨_, _, g3, _, _, g6, _⟩ := ordZ h6 h5 hj hi
    have ok := ordC_k (zC s) (ordW s.1 j) i
    have oi : okC (ordC (zC s) (ordW s.1 j) i) := ordC_ok o.1.1 i (fun i' hi' => ordW_lt h6 h5 hj (by omega))
    have r145 : gI h' 145 i = nI (ordI (opZ s.1).length j i) := by rw [a]; exact e1 i hi
    have r146 : gI h' 146 (ordI (opZ s.1).length j i) = nI (ordW s.1 j i) := by rw [b]; exact op1 _ g3
    rw [e_Q_order_110, if_neg (nI_ge hi (by omega))]
    simp only [w', true_and, true_or, inb_nI (show i < 6 by omega) (show 6 < 2 ^ 31 by decide), ix_nI (show i < 2 ^ 31 by omega), r145, inb_nI (show ordI (opZ s.1).length j i < 6 by omega) (show 6 < 2 ^ 31 by decide), ix_nI (show ordI (opZ s.1).length j i < 2 ^ 31 by omega), r146]
    refine t_build t' oi (w := ordW s.1 j i) (by rw [ok.2.2]; exact g6) fun h2 t2 f2 => ⟨TK_tg t2, ?_⟩
    have o2 := okC_charge oi (r := Ck (ordC (zC s) (ordW s.1 j) i) (ordW s.1 j i)) (oi.2.2.2 _ (by rw [ok.2.2]; exact g6))
    refine t_yearOn t2 o2 fun h3 t3 f3 => ?_
    rw [nI_1]
    refine ih h3 ⟨?_, ?_, ?_⟩
    · rw [ok.1] at t3; exact t3
    · rw [← a]; exact funext fun i => (f3.2.2.2 145 i (by unfold SY; omega)).trans (f2.2.2.2 145 i (by omega))
    · rw [← b]; exact funext fun i => (f3.2.2.2 146 i (by unfold SY; omega)).trans (f2.2.2.2 146 i (by omega))
theorem t_Q_order (o : okS s) (x : Int32) : QQ m_Q_order [.int x] s (noO s.1 x) (v_order s.1 x) := by
  intro h k I hr hv
  rw [c_Q_order]
  have I1 := IQ_12 I
  have P1 := KP_12 h
  refine ⟨I.1.1.1, ?_⟩
  generalize sI h 123 12 0 = h1 at I1 P1 ⊢
  have h6 := okw o
  have hlB := okS_len o
  have main : ∀ h2, Fs (fun b _ => b = 146) h1 h2 → Op s h2 → ∀ l3 q4 q5 q6 q7 q8, wp m_Q_order h2 63 [some (.ref 123), some (.int x), some (.int (nI (opZ s.1).length)), some (.int l3), q4, q5, q6, q7, q8] [.int (noO s.1 x)] (tyI k) := by
    intro h2 fr op l3 q4 q5 q6 q7 q8
    have frq : Fs Tq h1 h2 := Fs_mono fr (fun b j x => by unfold Tq; omega)
    have I2 : IQ h2 s := IQ_Tq I1 frq (fun b j hb => fr.2.2.2 b j (by unfold LRg at hb; omega))
    have P2 : KP h h2 := KP_trans P1 (KP_Tq frq)
    rw [e_Q_order_63]
    by_cases e : noO s.1 x = 0
    · have hv' := hv e
      have c1 : ¬ x < -1 := fun z => by unfold noO at e; rw [if_pos z] at e; exact absurd e (by decide)
      have c2 : (opZ s.1).length ≤ 5 := Decidable.byContradiction fun z => by unfold noO at e; rw [if_neg c1, if_neg z] at e; exact absurd e (by decide)
      have fb := fac_5 c2
      have fp := fac_pos (opZ s.1).length
      have Db := fun k (hk : k < fac (opZ s.1).length) => ordD_bd o.1 c2 hk
      rw [e, if_pos (by decide), s_Q_fac c2]
      refine ⟨I2.1.1.1, t_think2 I2 fun h3 t3 B3 _ r3 => ?_⟩
      have op3 : Op s h3 := Op_c op (r3 146 (Or.inr rfl))
      refine hp (A := fun j h' => TK s h2 h' (zC s) ∧ TB s h' ∧ Op s h') (X := fun j h' => ∀ q8, wp m_Q_order h' 93 [some (.ref 123), some (.int x), some (.int (nI (opZ s.1).length)), some (.int 0), some (.int (nI (orN (ordD s.1) j).1)), some (.int (if j = 0 then -1 else (orN (ordD s.1) j).2)), some (.int (nI (fac (opZ s.1).length))), some (.int (nI j)), q8] [] (tyI k)) (fac (opZ s.1).length) ?_ ?_ 0 (Nat.zero_le _) h3 ⟨t3, B3, op3⟩ q8
      · intro h' ⟨t', B', op'⟩ q8
        obtain ⟨b, hb, eb⟩ := orN_in (D := ordD s.1) (fac (opZ s.1).length) fp Db
        unfold v_order at hv'
        rw [eb] at hv' ⊢
        rw [e_Q_order_93, if_pos (Int32.le_refl _), if_neg (show ¬ fac (opZ s.1).length = 0 by omega)]
        by_cases y : x = -1
        · rw [if_pos y] at hv'
          rw [y, if_neg (by decide)]
          exact hv' h' (KP_trans P2 (KP_Tq t'.1)) (IQ_back I2 t' B')
        · rw [if_neg y] at hv'
          have x0 : ¬ x < 0 := fun z => y (ord_m1 c1 z)
          rw [if_pos (Int32.not_lt.mp x0)]
          refine ⟨TK_tg t', t_Q_layOrder t'.2.1.1 h6 c2 hb fun h4 fr4 e4 => ?_⟩
          have t4 := TK_145 t' fr4
          have B4 := TB_145 B' fr4
          have op4 : Op s h4 := Op_c op' (funext fun i => fr4.2.2.2 146 i (by omega))
          have hv2 := hv' h4 (KP_trans P2 (KP_Tq t4.1)) (IQ_back I2 t4 B4)
          simp only [e_Q_order_235]
          by_cases y2 : nI (opZ s.1).length ≤ x
          · rw [if_pos y2] at hv2
            rw [if_pos y2]
            exact hv2
          · rw [if_neg y2] at hv2
            rw [if_neg y2]
            obtain ⟨i, hi, rfl⟩ := on_nI (x := x) (n := (opZ s.1).length) (by omega) (fun z => z.elim x0 y2)
            obtain ⟨_, _, g3, _⟩ := ordZ h6 c2 hb hi
            have w4 := qw t4.2.1.1
            rw [ix_nI (by omega)] at hv2
            simp only [w4, true_and, true_or, inb_nI (show i < 6 by omega) (show 6 < 2 ^ 31 by decide), ix_nI (show i < 2 ^ 31 by omega), e4 i hi, inb_nI (show ordI (opZ s.1).length b i < 6 by omega) (show 6 < 2 ^ 31 by decide), ix_nI (show ordI (opZ s.1).length b i < 2 ^ 31 by omega), op4 _ g3]
            exact hv2
      · intro j hj h' ⟨t', B', op'⟩ ih q8
        refine t_ordTry o c2 hj t' op' (fun h4 q8 t4 B4 op4 => ?_) (nI_ge hj (by omega))
        have ih' := ih h4 ⟨t4, B4, op4⟩
        rw [if_neg (show ¬ j + 1 = 0 by omega)] at ih'
        by_cases j0 : j = 0
        · subst j0
          obtain ⟨d, hd, _, d2⟩ := bd_of (Db 0 hj)
          have en : orN (ordD s.1) (0 + 1) = (0, ordD s.1 0) := if_pos (show ordD s.1 0 < 2147483647 from by rw [hd]; exact nI_lt (b := 2147483647) (by omega) (by decide))
          rw [en] at ih'
          rw [if_pos rfl, if_pos (Or.inl (by decide))]
          exact ih' _
        · obtain ⟨b, hb, eb⟩ := orN_in (D := ordD s.1) j (by omega) (fun k hk => Db k (by omega))
          rw [if_neg j0]
          have l0 : ¬ (orN (ordD s.1) j).2 < 0 := by
            rw [eb]
            exact Int32.not_lt.mpr (bd_ge0 (Db b (by omega)) (by decide))
          by_cases y : ordD s.1 j < (orN (ordD s.1) j).2
          · have en : orN (ordD s.1) (j + 1) = (j, ordD s.1 j) := if_pos y
            rw [en] at ih'
            rw [if_pos (Or.inr y)]
            exact ih' _
          · have en : orN (ordD s.1) (j + 1) = orN (ordD s.1) j := if_neg y
            rw [en] at ih'
            rw [if_neg (fun z => z.elim l0 y)]
            exact ih' _
    · rw [if_neg (ng (nK_O _ _ e))]
      exact q_no I2 P2 (hr e)
  refine hp (A := fun i h' => Fs (fun b _ => b = 146) h1 h' ∧ ∀ i', i' < (opL (bmN s.1) i).length → gI h' 146 i' = nI ((opL (bmN s.1) i).getD i' 0)) (X := fun i h' => wp m_Q_order h' 9 [some (.ref 123), some (.int x), some (.int (nI (opL (bmN s.1) i).length)), some (.int (nI i)), none, none, none, none, none] [] (tyI k)) (Cw (zC s)) ?_ ?_ 0 (Nat.zero_le _) h1 ⟨Fs_refl _ _, fun i hi => absurd hi (Nat.not_lt_zero _)⟩
  · intro h' ⟨fr, op⟩
    have L' : Liv h' (zC s) := Liv_fs I1.1 fr (fun b j x => by unfold LRg; omega)
    have m := main h' fr op (nI (Cw (zC s))) none none none none none
    unfold noO at m
    rw [e_Q_order_9, L'.2.2.1.2.1, if_pos (Int32.le_refl _)]
    refine ⟨L'.1.1, ?_⟩
    have hl := opL_le (m := bmN s.1) (Cw (zC s))
    by_cases c1 : x < -1
    · rw [if_pos c1] at m
      rw [if_neg (Int32.not_le.mpr c1)]
      exact m
    · rw [if_neg c1] at m
      rw [if_pos (Int32.not_lt.mp c1)]
      by_cases c2 : (opZ s.1).length ≤ 5
      · rw [if_pos c2] at m
        rw [if_pos (show nI (opL (bmN s.1) (Cw (zC s))).length ≤ 5 from nI_le (b := 5) c2 (by decide))]
        exact m
      · rw [if_neg c2] at m
        rw [if_neg (show ¬ nI (opL (bmN s.1) (Cw (zC s))).length ≤ 5 from nI_ge (a := 5) (Nat.lt_of_not_le c2) (by omega))]
        exact m
  · intro i hi h' ⟨fr, op⟩ ih
    have L' : Liv h' (zC s) := Liv_fs I1.1 fr (fun b j x => by unfold LRg; omega)
    have w' := qw L'.1
    have hl := opL_le (m := bmN s.1) i
    have r131 : gI h' 131 i = bF (zB s) i := by rw [fr.2.2.2 131 i (by omega)]; exact I1.2.1 i hi
    have hb : (bmN s.1).testBit i = decide (i ∈ zB s) := bmN_bit (z := s.1) hi
    rw [e_Q_order_9, L'.2.2.1.2.1, if_neg (nI_ge hi (by omega))]
    simp only [w', true_and, true_or, inb_nI (show i < 6 by omega) (show 6 < 2 ^ 31 by decide), ix_nI (show i < 2 ^ 31 by omega), r131, e_Q_order_36, nI_1]
    rw [opL_s, hb] at ih
    by_cases y : i ∈ zB s
    · rw [if_pos (decide_eq_true y)] at ih
      rw [if_pos (fun z => (bF_0 hlB i).mp z y)]
      exact ih h' ⟨fr, op⟩
    · rw [if_neg (by simp [y])] at ih
      rw [if_neg (fun z => z ((bF_0 hlB i).mpr y))]
      simp only [inb_nI (show (opL (bmN s.1) i).length < 6 by omega) (show 6 < 2 ^ 31 by decide), ix_nI (show (opL (bmN s.1) i).length < 2 ^ 31 by omega), true_and]
      rw [List.length_append, List.length_singleton] at ih
      refine ih _ ⟨Fs_trans fr (Fs_sI _ _ _ _ rfl), fun i' hi' => ?_⟩
      rw [getD_app]
      by_cases d : i' = (opL (bmN s.1) i).length
      · rw [if_pos d, d, gI_sI_eq]
      · rw [if_neg d, gI_sI_ne _ _ _ _ (fun z => d z.2)]
        exact op i' (by omega)
end OrdQ
