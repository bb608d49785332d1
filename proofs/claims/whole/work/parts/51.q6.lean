/-! ===== the reference: sets of works, births by chance, lots, heirs ===== -/
theorem bm_cut {p : Nat → Bool} {n : Nat} (e : ∀ i, n ≤ i → p i = false) : ∀ d, bm p (n + d) = bm p n
  | 0 => rfl
  | d + 1 => by
    show (if p (n + d) = true then _ else bm p (n + d)) = _
    rw [e (n + d) (by omega), if_neg (by decide)]
    exact bm_cut e d
theorem built_bits {bo : List Nat} {n : Nat} (o : okB bo n) (hn : n ≤ 6) : bm (fun w => decide (w ∈ bo)) 6 = bm (fun w => decide (w ∈ bo)) n := by
  obtain ⟨d, e⟩ := Nat.le.dest hn
  rw [← e]
  exact bm_cut (fun i hi => decide_eq_false fun z => by have := o.2 i z; omega) d
theorem bF_le {bo : List Nat} (hb : bo.length ≤ 6) (w : Nat) : bF bo w ≤ 0 ↔ w ∉ bo := by
  unfold bF
  by_cases d : w ∈ bo
  · rw [if_pos d]
    have : bo.idxOf w < bo.length := List.idxOf_lt_length_of_mem d
    exact ⟨fun z => absurd z (nI_nle (by omega) (by omega)), fun z => absurd d z⟩
  · rw [if_neg d]; exact ⟨fun _ => d, fun _ => Int32.le_refl _⟩
def notN (p : Nat → Bool) (n : Nat) : Int32 := if anyN p n = true then 0 else 1
theorem notN_s (p : Nat → Bool) (n : Nat) : notN p (n + 1) = if notN p n = 0 then 0 else if p n = true then 0 else 1 := by
  show (if (anyN p n || p n) = true then (0 : Int32) else 1) = if (if anyN p n = true then (0 : Int32) else 1) = 0 then 0 else if p n = true then 0 else 1
  cases anyN p n <;> cases p n <;> decide
theorem notN_01 (p : Nat → Bool) (n : Nat) : notN p n = 0 ∨ notN p n = 1 := by
  unfold notN; split <;> simp
section Q6
variable {h h0 h1 h2 h3 : PH} {s : Sta} {c c' : Core} {f n : Nat} {no v : Int32}
theorem s_Q_noneOwes (L : Liv h c) (o : okC c) (v : Int32) (k : PH → Int32 → Prop) : ccI m_Q_noneOwes h [.ref 123, .int v] k = k h (notN (fun f => decide (¬ hoR (Cm c f) ≤ v)) (Cf c)) := by
  have q := qw L.1
  have h5 := L.2.1.1
  have h0 := L.2.2.1.1
  rw [c_Q_noneOwes]
  generalize hp : (fun f => decide (¬ hoR (Cm c f) ≤ v)) = p
  have pv : ∀ i, p i = decide (¬ hoR (Cm c i) ≤ v) := fun i => by rw [← hp]
  refine (lp (fun i => wp m_Q_noneOwes h 4 [some (.ref 123), some (.int v), some (.int (notN p i)), some (.int (nI i))] [] (tyI k)) (Cf c) fun i hi => ?_).trans ?_
  · rw [e_Q_noneOwes_4, h0, if_neg (nI_ge hi (by omega)), notN_s]
    simp only [q, true_and, e_Q_noneOwes_29, e_Q_noneOwes_30, nI_1]
    by_cases d : notN p i = 0
    · rw [if_pos d, if_pos d]
    · rw [if_neg d, if_neg d, s_Q_headOwes L o hi, pv]
      by_cases e : hoR (Cm c i) ≤ v
      · rw [if_neg (Int32.not_lt.mpr e), if_neg (by simp [e])]
      · rw [if_pos (Int32.not_le.mp e), if_pos (by simp [e])]
  · rw [e_Q_noneOwes_4, h0, if_pos (Int32.le_refl _)]
    simp only [q, true_and]
    exact propext ⟨fun z => z.2, fun z => ⟨notN_01 _ _, z⟩⟩
theorem s_Q_builtBits (I : IQ h s) (o : okS s) (k : PH → Int32 → Prop) : ccI m_Q_builtBits h [.ref 123] k = k h (bm (fun w => decide (w ∈ zB s)) (Cw (zC s))) := by
  have q := qw I.1.1
  have h6 := okw o
  have h0 := I.1.2.2.1.2.1
  rw [c_Q_builtBits]
  refine (lp (fun i => wp m_Q_builtBits h 4 [some (.ref 123), some (.int (bm (fun w => decide (w ∈ zB s)) i)), some (.int (nI i))] [] (tyI k)) (Cw (zC s)) fun i hi => ?_).trans ?_
  · rw [e_Q_builtBits_4, h0, if_neg (nI_ge hi (by omega)), ix_nI (by omega)]
    simp only [q, true_and, true_or, b6 (show i < 6 by omega), I.2.1 i hi, e_Q_builtBits_29, nI_1, bm, decide_eq_true_eq]
    by_cases d : i ∈ zB s
    · rw [if_neg (fun z => (bF_le (okS_len o) i).mp z d), if_pos d]
    · rw [if_pos ((bF_le (okS_len o) i).mpr d), if_neg d, Int32.or_zero]
  · rw [e_Q_builtBits_4, h0, if_pos (Int32.le_refl _)]
    simp only [q, true_and]
theorem t_Q_buildAll (t : TK s h0 h c) (o : okC c) (B : Int32) {k : PH → Prop} (hk : ∀ h', TK s h0 h' (chargeN B c (Cw c)) → k h') : ccV m_Q_buildAll h [.ref 123, .int B] k := by
  rw [c_Q_buildAll]
  have h6 := o.1.2
  refine hp (A := fun i h' => TK s h0 h' (chargeN B c i)) (X := fun i h' => wp m_Q_buildAll h' 2 [some (.ref 123), some (.int B), some (.int (nI i))] [] (tyV k)) (Cw c) ?_ ?_ 0 (Nat.zero_le _) h t
  · intro h' t'
    have ck := chargeN_k B c (Cw c)
    have e0 := t'.2.1.2.2.1.2.1
    rw [ck.2.2.1] at e0
    rw [e_Q_buildAll_2, e0, if_pos (Int32.le_refl _)]
    exact ⟨TK_tg t', hk h' t'⟩
  · intro i hi h' t' ih
    have ck := chargeN_k B c i
    have oi := chargeN_ok (B := B) o (show i ≤ Cw c by omega)
    have e0 := t'.2.1.2.2.1.2.1
    rw [ck.2.2.1] at e0
    rw [e_Q_buildAll_2, e0, if_neg (nI_ge hi (by omega)), s_Q_hasBit]
    refine ⟨TK_tg t', ?_⟩
    simp only [e_Q_buildAll_23, nI_1]
    by_cases d : bt B i = true
    · rw [if_pos d, if_neg (by decide)]
      refine ⟨TK_tg t', t_build t' oi (w := i) (by rw [ck.2.2.1]; exact hi) fun h2 t2 _ => ih h2 ?_⟩
      unfold chargeN
      rw [if_pos d, ← ck.1]
      exact t2
    · rw [if_neg d, if_pos rfl]
      refine ih h' ?_
      unfold chargeN
      rw [if_neg d]
      exact t'
theorem t_Q_building (o : okS s) (x y z : Int32) : QQ m_Q_building [.int x, .int y, .int z] s (th (eith x 100 y 999) (othN z 1)) (v_building s.1 x y z) := by
  intro h k I hr hv
  rw [c_Q_building]
  have I1 := IQ_12 I
  have P1 := KP_12 h
  refine ⟨I.1.1.1, ?_⟩
  generalize sI h 123 12 0 = h1 at I1 P1 ⊢
  have main : wp m_Q_building h1 42 [some (.ref 123), some (.int x), some (.int y), some (.int z), none, none, none, none, none, none, none] [.int (th (eith x 100 y 999) (othN z 1))] (tyI k) := by
    rw [e_Q_building_42]
    by_cases c : th (eith x 100 y 999) (othN z 1) = 0
    · rw [if_pos (by rw [c]; decide)]
      have hv' := hv c
      obtain ⟨c1, c2⟩ := th_0.mp c
      obtain ⟨n, w, hn2, hw2, rfl, rfl⟩ := eith_0 (M := 100) (N := 999) (by decide) (by decide) c1
      have h5 := okf o
      have h6 := okw o
      unfold v_building at hv'
      rw [ix_nI (by omega)] at hv'
      generalize th (eith (nI n) 100 (nI w) 999) (othN z 1) = t
      generalize nI w = v at hv' ⊢
      rw [s_Q_builtBits I1 o]
      have hbb : bm (fun w => decide (w ∈ zB s)) (Cw (zC s)) = bm (fun w => decide (w ∈ s.1.2)) 6 := (built_bits o.1.2 h6).symm
      rw [hbb]
      refine ⟨I1.1.1.1, I1.1.1.1, t_think I1 fun h2 t2 B2 => ?_⟩
      have hp64 : 2 ^ Cw (zC s) ≤ 64 := Nat.le_trans (Nat.pow_le_pow_right (by decide) h6) (by decide)
      refine hp (A := fun _ h' => TK s h1 h' (zC s) ∧ TB s h') (X := fun j h' => ∀ q9 q10, wp m_Q_building h' 77 [some (.ref 123), some (.int (nI n)), some (.int v), some (.int z), some (.int t), some (.int (bm (fun w => decide (w ∈ s.1.2)) 6)), some (.int (bldN s.1 n v j).1), some (.int (bldN s.1 n v j).2), some (.int (nI j)), q9, q10] [] (tyI k)) (2 ^ Cw (zC s)) ?_ ?_ 0 (Nat.zero_le _) h2 ⟨t2, B2⟩ none none
      · intro h' ⟨t', B'⟩ q9 q10
        have hv2 := hv' h' (KP_trans P1 (KP_Tq t'.1)) (IQ_back I1 t' B')
        rw [e_Q_building_77, t'.2.1.2.2.1.2.1, (every_dec ⟨Cw (zC s), by omega⟩).2, if_pos (Int32.le_refl _)]
        refine ⟨TK_tg t', ?_⟩
        simp only [e_Q_building_225]
        by_cases d : z = 0
        · rw [if_neg (fun w => w d)]
          rw [if_pos d] at hv2
          exact hv2
        · rw [if_pos d]
          rw [if_neg d] at hv2
          exact hv2
      · intro j hj h' ⟨t', B'⟩ ih q9 q10
        have q := qw t'.2.1.1
        rw [e_Q_building_77, t'.2.1.2.2.1.2.1, (every_dec ⟨Cw (zC s), by omega⟩).2, if_neg (nI_ge hj (by omega))]
        refine ⟨TK_tg t', ?_⟩
        simp only [e_Q_building_208, nI_1]
        by_cases d : nI j &&& bm (fun w => decide (w ∈ s.1.2)) 6 = 0
        · rw [if_neg (fun w => w d)]
          refine (lp (fun i => wp m_Q_building h' 102 [some (.ref 123), some (.int (nI n)), some (.int v), some (.int z), some (.int t), some (.int (bm (fun w => decide (w ∈ s.1.2)) 6)), some (.int (bldN s.1 n v j).1), some (.int (bldN s.1 n v j).2), some (.int (nI j)), some (.int (sumN (fun w => if bt (nI j) w = true then Ck (zC s) w 2 else 0) i)), some (.int (nI i))] [] (tyI k)) (Cw (zC s)) fun i hi => ?_).mpr ?_
          · rw [e_Q_building_102, t'.2.1.2.2.1.2.1, if_neg (nI_ge hi (by omega)), s_Q_hasBit]
            simp only [q, true_and, e_Q_building_134, nI_1, sumN]
            by_cases e : bt (nI j) i = true
            · rw [if_pos e, if_neg (by decide), if_pos e, ix_nI (by omega), (t'.2.1.2.2.2.2 i hi).2.2]
              simp only [true_or, true_and, b6 (show i < 6 by omega)]
            · rw [if_neg e, if_pos rfl, if_neg e]
          · rw [e_Q_building_102, t'.2.1.2.2.1.2.1, if_pos (Int32.le_refl _)]
            have oB := chargeN_ok (B := nI j) o.1.1 (Nat.le_refl (Cw (zC s)))
            have ck := chargeN_k (nI j) (zC s) (Cw (zC s))
            refine ⟨TK_tg t', TK_tg t', t_Q_buildAll t' o.1.1 (nI j) fun h3 t3 => ⟨TK_tg t3, t_go t3 oB (by omega) fun h4 t4 _ _ _ => ⟨TK_tg t4, ?_⟩⟩⟩
            have hno : notN (fun f => decide (¬ hoR (Cm (goC n (chargeN (nI j) (zC s) (Cw (zC s)))) f) ≤ v)) (Cf (goC n (chargeN (nI j) (zC s) (Cw (zC s))))) = if overN (zC s) n v (nI j) = true then 0 else 1 := by
              show notN _ (Cf (chargeN (nI j) (zC s) (Cw (zC s)))) = _
              rw [ck.2.1]; rfl
            rw [s_Q_noneOwes t4.2.1 (okC_go oB n), hno]
            have cst : sumN (fun w => if bt (nI j) w = true then Ck (zC s) w 2 else 0) (Cw (zC s)) = costN s.1.1 (nI j) := rfl
            rw [cst]
            have next : ∀ (y : Int32), (y = if nI j &&& bm (fun w => decide (w ∈ s.1.2)) 6 = 0 ∧ (bldN s.1 n v j).2 < costN s.1.1 (nI j) ∧ overN s.1.1 n v (nI j) = false then 1 else 0) →
                wp m_Q_building h4 174 [some (.ref 123), some (.int (nI n)), some (.int v), some (.int z), some (.int t), some (.int (bm (fun w => decide (w ∈ s.1.2)) 6)), some (.int (bldN s.1 n v j).1), some (.int (bldN s.1 n v j).2), some (.int (nI j)), some (.int (costN s.1.1 (nI j))), some (.int (nI (Cw (zC s))))] [.int y] (tyI k) := by
              intro y hy
              rw [e_Q_building_174]
              refine ⟨TK_tg t4, t_again t4 o fun h5 t5 B5 _ _ _ => ?_⟩
              have ih' := ih h5 ⟨t5, B5⟩
              simp only [bldN] at ih'
              simp only [e_Q_building_192, e_Q_building_206, e_Q_building_208, nI_1]
              by_cases e : nI j &&& bm (fun w => decide (w ∈ s.1.2)) 6 = 0 ∧ (bldN s.1 n v j).2 < costN s.1.1 (nI j) ∧ overN s.1.1 n v (nI j) = false
              · rw [if_pos e] at hy ih'
                rw [hy]
                simp only [if_neg (show ¬ (1 : Int32) = 0 by decide)]
                exact ih' _ _
              · rw [if_neg e] at hy ih'
                rw [hy]
                simp only [if_true]
                exact ih' _ _
            simp only [e_Q_building_173]
            by_cases e1 : overN s.1.1 n v (nI j) = true
            · rw [if_pos e1, if_pos rfl]
              exact next 0 (by rw [if_neg (fun w => by rw [e1] at w; exact absurd w.2.2 (by decide))])
            · rw [if_neg e1, if_neg (by decide)]
              by_cases e2 : (bldN s.1 n v j).2 < costN s.1.1 (nI j)
              · rw [if_neg (Int32.not_le.mpr e2)]
                exact next 1 (by rw [if_pos ⟨d, e2, by simpa using e1⟩])
              · rw [if_pos (Int32.not_lt.mp e2)]
                exact next 0 (by rw [if_neg (fun w => e2 w.2.1)])
        · rw [if_pos d]
          have ih' := ih h' ⟨t', B'⟩
          simp only [bldN] at ih'
          rw [if_neg (fun w => d w.1)] at ih'
          exact ih' _ _
    · rw [if_neg (ng (nK_th (nK_eith _ _ _ _) (nK_oth _ _) c))]
      exact q_no I1 P1 (hr c)
  simp only [e_Q_building_13, e_Q_building_31, s_Q_wb]
  unfold eith at main
  by_cases a : x < 0
  · rw [if_pos (Or.inl a)] at main
    rw [if_pos a]; exact main
  · rw [if_neg a]
    by_cases b : y < 0
    · rw [if_pos (Or.inr b)] at main
      rw [if_neg (Int32.not_le.mpr b)]; exact main
    · rw [if_neg (fun z => z.elim a b)] at main
      rw [if_pos (Int32.not_lt.mp b)]
      by_cases d : 100 < x
      · rw [if_pos (Or.inl d)] at main
        rw [if_pos d]; exact main
      · rw [if_neg d]
        by_cases e : 999 < y
        · rw [if_pos (Or.inr e)] at main
          rw [if_neg (Int32.not_le.mpr e)]; exact main
        · rw [if_neg (fun z => z.elim d e)] at main
          rw [if_pos (Int32.not_lt.mp e)]; exact main
theorem whoN_in (c : Core) (r : Row) : ∀ m, m ≤ 64 → ((whoN c r m).1 = 0 ∧ (whoN c r m).2 = -9) ∨ ∃ a b, 0 < a ∧ a ≤ m ∧ b < m ∧ (whoN c r m).1 = nI a ∧ (whoN c r m).2 = nI b
  | 0, _ => Or.inl ⟨rfl, rfl⟩
  | m + 1, hm => by
    unfold whoN
    by_cases d : notTold c r (nI m) = true
    · simp only [if_pos d]
      rcases whoN_in c r m (by omega) with e | ⟨a, b, h1, h2, h3, e⟩
      · exact Or.inl e
      · exact Or.inr ⟨a, b, h1, by omega, by omega, e⟩
    · simp only [if_neg d]
      rcases whoN_in c r m (by omega) with ⟨e1, e2⟩ | ⟨a, b, h1, h2, h3, e1, e2⟩
      · refine Or.inr ⟨1, m, by omega, by omega, by omega, ?_, ?_⟩
        · rw [e1]; rfl
        · rw [if_pos e1]
      · refine Or.inr ⟨a + 1, b, by omega, by omega, by omega, ?_, ?_⟩
        · rw [e1, nI_1]
        · rw [e1, if_neg (nI_ne0 (by omega) (by omega))]; exact e2
theorem held_tld {x : Int32} {m : Nat} (b : bd x 0 m) (hm : m < 2 ^ 30) : heldN x 0 99 = tld x := by
  obtain ⟨n, e, _, h2⟩ := bd_of b
  unfold heldN tld
  rw [e, if_neg (nI_pos (by omega))]
  by_cases d : n < 99
  · rw [if_pos (show nI n < 99 from nI_lt (b := 99) d (by decide)), if_neg (show ¬ (99 : Int32) < nI n from nI_nlt (a := 99) (by omega) (by decide))]
  · rw [if_neg (show ¬ nI n < 99 from nI_nlt (b := 99) (by omega) (by omega))]
    by_cases e : n = 99
    · rw [e]; decide
    · rw [if_pos (show (99 : Int32) < nI n from nI_lt (a := 99) (by omega) (by omega))]
theorem t_Q_whoBuilt (o : okS s) (z : Int32) : QQ m_Q_whoBuilt [.int z] s (th (othN z 1) (if (zT s).1 = Cf (zC s) then 0 else -3)) (v_who s z) := by
  intro h k I hr hv
  rw [c_Q_whoBuilt]
  have I1 := IQ_12 I
  have P1 := KP_12 h
  refine ⟨I.1.1.1, ?_⟩
  generalize sI h 123 12 0 = h1 at I1 P1 ⊢
  have hK : ∀ (a : Int32), (a ≠ 0 → noK a) → th a (if (zT s).1 = Cf (zC s) then 0 else -3) ≠ 0 → noK (th a (if (zT s).1 = Cf (zC s) then 0 else -3)) := fun a ha => nK_th ha (by
    split
    · intro z; exact absurd rfl z
    · intro _; unfold noK; simp)
  have main : wp m_Q_whoBuilt h1 37 [some (.ref 123), some (.int z), none, none, none, none, none, none] [.int (th (othN z 1) (if (zT s).1 = Cf (zC s) then 0 else -3))] (tyI k) := by
    rw [e_Q_whoBuilt_37]
    by_cases c : th (othN z 1) (if (zT s).1 = Cf (zC s) then 0 else -3) = 0
    · rw [if_pos (by rw [c]; decide)]
      have hv' := hv c
      have hT : (zT s).1 = Cf (zC s) := by
        have := (th_0.mp c).2
        by_cases e : (zT s).1 = Cf (zC s)
        · exact e
        · rw [if_neg e] at this; exact absurd this (by decide)
      have h5 := okf o
      have h6 := okw o
      unfold v_who at hv'
      generalize th (othN z 1) (if (zT s).1 = Cf (zC s) then 0 else -3) = t
      refine ⟨I1.1.1.1, t_think I1 fun h2 t2 B2 => ?_⟩
      have hp64 : 2 ^ Cw (zC s) ≤ 64 := Nat.le_trans (Nat.pow_le_pow_right (by decide) h6) (by decide)
      refine hp (A := fun _ h' => TK s h1 h' (zC s) ∧ TB s h') (X := fun j h' => ∀ q6 q7, wp m_Q_whoBuilt h' 61 [some (.ref 123), some (.int z), some (.int t), some (.int (whoN (zC s) (zT s).2 j).1), some (.int (whoN (zC s) (zT s).2 j).2), some (.int (nI j)), q6, q7] [] (tyI k)) (2 ^ Cw (zC s)) ?_ ?_ 0 (Nat.zero_le _) h2 ⟨t2, B2⟩ none none
      · intro h' ⟨t', B'⟩ q6 q7
        have hv2 := hv' h' (KP_trans P1 (KP_Tq t'.1)) (IQ_back I1 t' B')
        rw [e_Q_whoBuilt_61, t'.2.1.2.2.1.2.1, (every_dec ⟨Cw (zC s), by omega⟩).2, if_pos (Int32.le_refl _)]
        refine ⟨TK_tg t', ?_⟩
        simp only [e_Q_whoBuilt_212]
        by_cases d : z = 0
        · rw [if_neg (fun w => w d)]
          rw [if_pos d] at hv2
          exact hv2
        · rw [if_pos d]
          rw [if_neg d] at hv2
          exact hv2
      · intro j hj h' ⟨t', B'⟩ ih q6 q7
        rw [e_Q_whoBuilt_61, t'.2.1.2.2.1.2.1, (every_dec ⟨Cw (zC s), by omega⟩).2, if_neg (nI_ge hj (by omega))]
        refine ⟨TK_tg t', ?_⟩
        have oz := okC_zero o.1.1
        refine hp (A := fun i h3 => TK s h1 h3 (upC (zC s) (fun _ r => rs r 1 0) i)) (X := fun i h3 => wp m_Q_whoBuilt h3 75 [some (.ref 123), some (.int z), some (.int t), some (.int (whoN (zC s) (zT s).2 j).1), some (.int (whoN (zC s) (zT s).2 j).2), some (.int (nI j)), some (.int (nI i)), q7] [] (tyI k)) (Cf (zC s)) ?_ ?_ 0 (Nat.zero_le _) h' (up_0 t')
        · intro h3 t3
          have t4 : TK s h1 h3 (zeroC (zC s)) := up_n t3
          rw [e_Q_whoBuilt_75, show gI h3 123 0 = nI (Cf (zC s)) from t4.2.1.2.2.1.1, if_pos (Int32.le_refl _)]
          refine ⟨TK_tg t4, TK_tg t4, t_Q_buildAll t4 oz (nI j) fun h4 t5 => ?_⟩
          have ck := chargeN_k (nI j) (zeroC (zC s)) (Cw (zC s))
          have oB := chargeN_ok (B := nI j) oz (Nat.le_refl (Cw (zC s)))
          have t5 : TK s h1 h4 (chargeN (nI j) (zeroC (zC s)) (Cw (zC s))) := t5
          generalize hC : chargeN (nI j) (zeroC (zC s)) (Cw (zC s)) = C at t5 ck oB
          have q := qw t5.2.1.1
          have e0 : gI h4 123 0 = nI (Cf (zC s)) := by rw [t5.2.1.2.2.1.1, ck.2.1]; rfl
          generalize hp : (fun f => decide (¬ (zT s).2 f = tld (Cm C f 1))) = p
          have pv : ∀ i, p i = decide (¬ (zT s).2 i = tld (Cm C i 1)) := fun i => by rw [← hp]
          have hnt : notTold (zC s) (zT s).2 (nI j) = anyN p (Cf (zC s)) := by unfold notTold; rw [hC, hp]
          refine (lp (fun i => wp m_Q_whoBuilt h4 110 [some (.ref 123), some (.int z), some (.int t), some (.int (whoN (zC s) (zT s).2 j).1), some (.int (whoN (zC s) (zT s).2 j).2), some (.int (nI j)), some (.int (notN p i)), some (.int (nI i))] [] (tyI k)) (Cf (zC s)) fun i hi => ?_).mpr ?_
          · have r144 : gI h4 144 i = (zT s).2 i := by rw [t5.1.2.2.2 144 i (by unfold Tq; omega)]; exact I1.2.2.2.2.2.2.1.2 i (by omega)
            rw [e_Q_whoBuilt_110, e0, if_neg (nI_ge hi (by omega)), ix_nI (by omega), notN_s]
            simp only [q, true_and, true_or, b5 (show i < 5 by omega), inb_nI (show i < 12 by omega) (show 12 < 2 ^ 31 by decide), e_Q_whoBuilt_151, e_Q_whoBuilt_152, nI_1, s_Q_held]
            by_cases d : notN p i = 0
            · rw [if_pos d, if_pos d]
            · have hiC : i < Cf C := by rw [ck.2.1]; exact hi
              rw [if_neg d, if_neg d, (t5.2.1.2.2.2.1 i hiC).2.1, held_tld (oB.2.2.1 i hiC).2.1 (by decide), r144, pv]
              by_cases e : (zT s).2 i = tld (Cm C i 1)
              · rw [if_neg (fun w => w e.symm), if_neg (by simp [e])]
              · rw [if_pos (fun w => e w.symm), if_pos (by simp [e])]
          · rw [e_Q_whoBuilt_110, e0, if_pos (Int32.le_refl _)]
            refine ⟨TK_tg t5, TK_tg t5, t_again t5 o fun h6 t6 B6 _ _ _ => ?_⟩
            have ih' := ih h6 ⟨t6, B6⟩
            simp only [whoN, hnt] at ih'
            simp only [e_Q_whoBuilt_175, e_Q_whoBuilt_192, e_Q_whoBuilt_194, nI_1]
            have nn : notN p (Cf (zC s)) = if anyN p (Cf (zC s)) = true then 0 else 1 := rfl
            rw [nn]
            by_cases d : anyN p (Cf (zC s)) = true
            · rw [if_pos d] at ih' ⊢
              rw [if_pos rfl, if_pos rfl, Int32.add_zero]
              exact ih' _ _
            · rw [if_neg d] at ih' ⊢
              rw [if_neg (by decide), if_neg (by decide)]
              rcases whoN_in (zC s) (zT s).2 j (by omega) with ⟨e1, e2⟩ | ⟨a, b, h1, h2, h3, e1, e2⟩
              · rw [if_pos e1] at ih'
                rw [e2, if_neg (by decide)]
                exact ih' _ _
              · rw [if_neg (by rw [e1]; exact nI_ne0 (by omega) (by omega)), e2] at ih'
                rw [e2, if_pos (nI_pos' (by omega))]
                exact ih' _ _
        · intro i hi h3 t3 ih3
          have q3 := qw t3.2.1.1
          rw [e_Q_whoBuilt_75, show gI h3 123 0 = nI (Cf (zC s)) from t3.2.1.2.2.1.1, if_neg (nI_ge hi (by omega)), ix_nI (by omega)]
          simp only [q3, true_and, b5 (show i < 5 by omega), nI_1]
          have e0 := upC_at (zC s) (fun _ r => rs r 1 0) i
          have t4 := TK_debt t3 (f := i) (x := 0) (r := rs (Cm (zC s) i) 1 0) hi (by rw [e0]; exact rs_ne _ _ (by decide)) (rs_eq _ _ _) (by rw [e0]; exact rs_ne _ _ (by decide)) (by rw [e0]; exact rs_ne _ _ (by decide))
          exact ih3 _ (up_s t4 (Ew_refl _ _))
    · rw [if_neg (ng (hK _ (nK_oth _ _) c))]
      exact q_no I1 P1 (hr c)
  rw [s_Q_inO h1 (hi := 1) (a2 := 1) (by decide)]
  unfold th at main
  by_cases a : othN z 1 = 0
  · rw [if_pos a] at main
    rw [if_pos a, if_pos (by decide)]
    refine ⟨I1.1.1.1, I1.1.1.1, ?_⟩
    rw [I1.2.2.2.2.2.2.1.1, I1.1.2.2.1.1]
    have h5 := okf o
    have h12 := o.2.2.2.2.2
    by_cases b : (zT s).1 = Cf (zC s)
    · rw [if_pos b] at main
      rw [if_pos (by rw [b])]; exact main
    · rw [if_neg b] at main
      rw [if_neg (fun w => b ((nI_eq (by omega) (by omega)).mp w))]; exact main
  · rw [if_neg a] at main
    rw [if_neg a, if_neg (by decide)]
    rw [oth_n2 a] at main
    exact main
end Q6
