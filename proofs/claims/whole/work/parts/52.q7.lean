/-! ===== the reference: births by chance, lots, heirs ===== -/
theorem bear_0 {r : Row} (R : RgF r) : heldN (r 0 + 1) 1 20 = rBear r 0 ∧ heldN (r 0 + 0) 1 20 = r 0 := by
  obtain ⟨p, ep, p1, p2⟩ := bd_of R.1
  unfold rBear heldN
  rw [ep, nI_1, Int32.add_zero]
  constructor
  · rw [if_neg (show ¬ nI (p + 1) < 1 from nI_nlt (b := 1) (by omega) (by omega))]
    by_cases d : p < 20
    · rw [if_pos (show nI p < 20 from nI_lt (b := 20) d (by decide)), if_neg (show ¬ (20 : Int32) < nI (p + 1) from nI_nlt (a := 20) (by omega) (by decide))]
      split
      · rw [rs_ne _ _ (show (0 : Nat) ≠ 6 by decide), rs_eq]
      · rw [rs_eq]
    · rw [if_neg (show ¬ nI p < 20 from nI_nlt (b := 20) (by omega) (by omega)), if_pos (show (20 : Int32) < nI (p + 1) from nI_lt (a := 20) (by omega) (by omega)), ep, show p = 20 by omega]
      rfl
  · rw [if_neg (show ¬ nI p < 1 from nI_nlt (b := 1) (by omega) (by omega)), if_neg (show ¬ (20 : Int32) < nI p from nI_nlt (a := 20) (by omega) (by decide))]
theorem bear_j (r : Row) {j : Nat} (h0 : j ≠ 0) (h6 : j ≠ 6) : rBear r j = r j := by
  unfold rBear
  split
  · split
    · rw [rs_ne _ _ h6, rs_ne _ _ h0]
    · rw [rs_ne _ _ h0]
  · rfl
theorem RgF_chR {c : Core} (o : okC c) {f : Nat} (hf : f < Cf c) (B : Nat) : ∀ k, RgF (chR c f B k)
  | 0 => o.2.2.1 f hf
  | k + 1 => by
    have R := RgF_settle (RgF_chR o hf B k) o.2.1
    unfold chR
    split
    · exact RgF_bear R
    · exact R
theorem nI_mod {a b : Nat} (ha : a < 2 ^ 31) (hb : b < 2 ^ 31) (h0 : 0 < b) : nI a % nI b = nI (a % b) := by
  apply Int32.toInt_inj.mp
  have hab : a % b < 2 ^ 31 := Nat.lt_trans (Nat.mod_lt a h0) hb
  rw [Int32.toInt_mod, nI_toInt ha, nI_toInt hb, nI_toInt hab]
  rfl
theorem and_nI (z : Int32) : ∃ m : Nat, m < 2 ^ 31 ∧ z &&& 2147483647 = nI m := by
  have hm : z.toBitVec.toNat &&& 2147483647 < 2 ^ 31 := Nat.lt_of_le_of_lt Nat.and_le_right (by decide)
  refine ⟨z.toBitVec.toNat &&& 2147483647, hm, Int32.toBitVec_inj.mp (BitVec.eq_of_toNat_eq ?_)⟩
  rw [Int32.toBitVec_and, BitVec.toNat_and]
  show z.toBitVec.toNat &&& 2147483647 = (z.toBitVec.toNat &&& 2147483647) % 2 ^ 32
  rw [Nat.mod_eq_of_lt (by omega)]
theorem drw_bd (z : Int32) : bd (drw z) 0 9 := by
  obtain ⟨m, hm, e⟩ := and_nI z
  unfold drw
  rw [e, show (65536 : Int32) = nI 65536 from rfl, show (10 : Int32) = nI 10 from rfl, nI_div hm (by decide), nI_mod (by omega) (by decide) (by decide)]
  exact bd_nI (by omega) (by omega) (by decide)
section Q7
variable {h h' h0 h1 h2 h3 : PH} {s : Sta} {c c' : Core} {f n : Nat} {no v : Int32}
theorem t_owes (t : TK s h0 h c) (hf : f < Cf c) {k : PH → Prop} (hk : ∀ h', TK s h0 h' (cM c (setM (Cm c) f (rSettle (Cr c) (Cm c f)))) → k h') : ccV m_Q_owes h [.ref 123, .int (nI f)] k :=
  t_Q_owes t.2.1 hf fun h' fr L' _ => hk h' ⟨Fs_trans t.1 (Fs_mono fr (fun b j x => by unfold Tq; omega)), L', Kp_fs t.2.2 fr (fun j x => by omega)⟩
def chC (c : Core) (f B k : Nat) : Core := cM c (setM (Cm c) f (chR c f B k))
theorem lN_one (a : Nat) : lN a * 1 = lN a := Int64.mul_one _
theorem t_Q_births (o : okS s) (x y v t z : Int32) : QQL m_Q_births [.int x, .int y, .int v, .int t, .int z] s (th (th (nF (zC s) x) (b3 y v t)) (othN z 1)) (v_births2 (zC s) x y v t z) := by
  intro h k I hr hv
  rw [c_Q_births]
  have I1 := IQ_12 I
  have P1 := KP_12 h
  refine ⟨I.1.1.1, ?_⟩
  generalize sI h 123 12 0 = h1 at I1 P1 ⊢
  refine ⟨I1.1.1.1, ?_⟩
  have main : wp m_Q_births h1 67 [some (.ref 123), some (.int x), some (.int y), some (.int v), some (.int t), some (.int z), some (.int (th (nF (zC s) x) (b3 y v t))), none, none, none, none, none, none, none, none] [] (tyL k) := by
    rw [e_Q_births_67, s_Q_wb]
    by_cases c : th (th (nF (zC s) x) (b3 y v t)) (othN z 1) = 0
    · rw [if_pos (by rw [c]; decide)]
      have hv' := hv c
      have c1 := th_0.mp (th_0.mp c).1
      have c3 := (th_0.mp c).2
      obtain ⟨f, hf, rfl⟩ := nF_0 (okf o) c1.1
      obtain ⟨n, w, t', hn, hw2, ht1, ht2, rfl, rfl, rfl⟩ := b3_0 c1.2
      have hz : z = 0 ∨ z = 1 := by
        obtain ⟨m, hm, rfl⟩ := oth_0 (m := 1) (by decide) c3
        by_cases e : m = 0
        · subst e; exact Or.inl rfl
        · obtain rfl : m = 1 := by omega
          exact Or.inr rfl
      have h5 := okf o
      unfold v_births2 at hv'
      rw [ix_nI (show f < 2 ^ 31 by omega), ix_nI (show n < 2 ^ 31 by omega), ix_nI (show t' < 2 ^ 31 by omega)] at hv'
      generalize th (th (nF (zC s) (nI f)) (b3 (nI n) (nI w) (nI t'))) (othN z 1) = u
      have hp2 : 2 ^ n ≤ 256 := Nat.le_trans (show 2 ^ n ≤ 2 ^ 8 from Nat.pow_le_pow_right (by decide) hn) (by decide)
      have hpw := pow_bd ht2 hn
      have hpos : 1 ≤ t' ^ n := by have q1 := Nat.pow_le_pow_left (show 1 ≤ t' by omega) n; rw [Nat.one_pow] at q1; exact q1
      have hg := good_le (c := zC s) (f := f) (n := n) (v := nI w) (t := t') (by omega) (Nat.le_refl (2 ^ n))
      refine (lp (fun i => wp m_Q_births h1 103 [some (.ref 123), some (.int (nI f)), some (.int (nI n)), some (.int (nI w)), some (.int (nI t')), some (.int z), some (.int u), some (.long (lN 0)), none, some (.long (lN (t' ^ i))), none, some (.int (nI i)), none, none, none] [] (tyL k)) n fun i hi => ?_).mpr ?_
      · rw [e_Q_births_103, if_neg (nI_ge hi (by omega)), nI_l (by omega), lN_mul, nI_1, Nat.pow_succ]
      · rw [e_Q_births_103, if_pos (Int32.le_refl _)]
        refine ⟨I1.1.1.1, t_think I1 fun h2 t2 B2 => ?_⟩
        refine hp (A := fun _ h' => TK s h1 h' (zC s) ∧ TB s h') (X := fun j h' => ∀ q12 q13 q14, wp m_Q_births h' 130 [some (.ref 123), some (.int (nI f)), some (.int (nI n)), some (.int (nI w)), some (.int (nI t')), some (.int z), some (.int u), some (.long (lN (sumT (goodN (zC s) f n (nI w) t') j))), none, some (.long (lN (t' ^ n))), none, some (.int (nI j)), q12, q13, q14] [] (tyL k)) (2 ^ n) ?_ ?_ 0 (Nat.zero_le _) h2 ⟨t2, B2⟩ none none none
        · intro h' ⟨t', B'⟩ q12 q13 q14
          rw [e_Q_births_130, shl9 ⟨n, by omega⟩, if_pos (Int32.le_refl _), s_Q_frac (by omega) (by omega) hpos hz]
          exact hv' h' (KP_trans P1 (KP_Tq t'.1)) (IQ_back I1 t' B')
        · intro B hB h' ⟨tk, B'⟩ ih q12 q13 q14
          rw [e_Q_births_130, shl9 ⟨n, by omega⟩, if_neg (nI_ge (show B < 2 ^ n from hB) (by omega))]
          refine hp (A := fun i h3 => TK s h1 h3 (chC (zC s) f B i)) (X := fun i h3 => wp m_Q_births h3 144 [some (.ref 123), some (.int (nI f)), some (.int (nI n)), some (.int (nI w)), some (.int (nI t')), some (.int z), some (.int u), some (.long (lN (sumT (goodN (zC s) f n (nI w) t') B))), none, some (.long (lN (t' ^ n))), none, some (.int (nI B)), some (.long (lN (wayN B t' i))), none, some (.int (nI i))] [] (tyL k)) n ?_ ?_ 0 (Nat.zero_le _) h' (TK_ext tk rfl rfl rfl rfl (fun g _ => ?_) (fun _ _ => rfl))
          · intro h3 t3
            have o3 : okC (chC (zC s) f B n) := okC_set o.1.1 (RgF_chR o.1.1 hf B n)
            have e3 : Cm (chC (zC s) f B n) f = chR (zC s) f B n := setM_eq _ _ _
            rw [e_Q_births_144, if_pos (Int32.le_refl _), s_Q_headOwes t3.2.1 o3 hf, e3]
            refine ⟨TK_tg t3, ?_⟩
            have fin : ∀ m : Nat, m = goodN (zC s) f n (nI w) t' B → wp m_Q_births h3 228 [some (.ref 123), some (.int (nI f)), some (.int (nI n)), some (.int (nI w)), some (.int (nI t')), some (.int z), some (.int u), some (.long (lN (sumT (goodN (zC s) f n (nI w) t') B))), none, some (.long (lN (t' ^ n))), none, some (.int (nI B)), some (.long (lN (wayN B t' n))), none, some (.int (nI n))] [.long (lN m), .long (lN (sumT (goodN (zC s) f n (nI w) t') B))] (tyL k) := by
              intro m hm
              rw [e_Q_births_228]
              refine ⟨TK_tg t3, t_again t3 o fun h4 t4 B4 _ _ _ => ?_⟩
              have ih' := ih h4 ⟨t4, B4⟩
              simp only [sumT] at ih'
              rw [hm, lN_add, nI_1]
              exact ih' _ _ _
            by_cases d : nI w < hoR (chR (zC s) f B n)
            · rw [if_pos d]
              exact fin 0 (by unfold goodN; rw [if_pos d])
            · rw [if_neg d]
              exact fin _ (by unfold goodN; rw [if_neg d])
          · intro i hi h3 t3 ih3
            have hfc : f < Cf (chC (zC s) f B i) := hf
            have e3 : Cm (chC (zC s) f B i) f = chR (zC s) f B i := setM_eq _ _ _
            have R := RgF_settle (RgF_chR o.1.1 hf B i) o.1.1.2.1
            rw [e_Q_births_144, if_neg (nI_ge hi (by omega))]
            refine ⟨TK_tg t3, t_owes t3 hfc fun h4 t4 => ?_⟩
            have q4 := qw t4.2.1.1
            have r4 := (t4.2.1.2.2.2.1 f hf).1
            have e4 : Cm (cM (chC (zC s) f B i) (setM (Cm (chC (zC s) f B i)) f (rSettle (Cr (chC (zC s) f B i)) (Cm (chC (zC s) f B i) f)))) f = rSettle (Cr (zC s)) (chR (zC s) f B i) := by
              rw [e3]; exact setM_eq _ _ _
            rw [e4] at r4
            simp only [q4, true_and, true_or, b5 (show f < 5 by omega), ix_nI (show f < 2 ^ 31 by omega), r4]
            rw [bit8 ⟨B, by omega⟩ ⟨i, by omega⟩, s_Q_held]
            have hbt : bt (nI B) i = B.testBit i := by
              unfold bt
              rw [bit8 ⟨B, by omega⟩ ⟨i, by omega⟩]
              by_cases e : B.testBit i = true <;> simp [e]
            have next : ∀ (x : Int32) (l : Nat), (x = chR (zC s) f B (i + 1) 0) → l = wayN B t' (i + 1) → wp m_Q_births (sI h4 124 f x) 144 [some (.ref 123), some (.int (nI f)), some (.int (nI n)), some (.int (nI w)), some (.int (nI t')), some (.int z), some (.int u), some (.long (lN (sumT (goodN (zC s) f n (nI w) t') B))), none, some (.long (lN (t' ^ n))), none, some (.int (nI B)), some (.long (lN l)), none, some (.int (nI (i + 1)))] [] (tyL k) := by
              intro x l hx hl
              have ej : ∀ j, j ≠ 0 → j ≠ 6 → chR (zC s) f B (i + 1) j = rSettle (Cr (zC s)) (chR (zC s) f B i) j := fun j h0 h6 => by
                show (if B.testBit i = true then rBear (rSettle (Cr (zC s)) (chR (zC s) f B i)) else rSettle (Cr (zC s)) (chR (zC s) f B i)) j = _
                split
                · exact bear_j _ h0 h6
                · rfl
              have t5 := TK_head t4 (f := f) (x := x) (r := chR (zC s) f B (i + 1)) hf hx.symm (by rw [e4]; exact ej 1 (by decide) (by decide)) (by rw [e4]; exact ej 2 (by decide) (by decide)) (by rw [e4]; exact ej 3 (by decide) (by decide))
              rw [hl]
              refine ih3 _ (TK_ext t5 rfl rfl rfl rfl (fun g _ => ?_) (fun _ _ => rfl))
              by_cases e : g = f
              · subst e
                have a1 : Cm (chC (zC s) g B (i + 1)) g = chR (zC s) g B (i + 1) := setM_eq _ _ _
                rw [a1]
                show Ew 4 (setM _ g (chR (zC s) g B (i + 1)) g) _
                rw [setM_eq]; exact Ew_refl _ _
              · have a1 : Cm (chC (zC s) f B (i + 1)) g = Cm (zC s) g := setM_ne _ _ e
                rw [a1]
                show Ew 4 (setM (setM (setM (Cm (zC s)) f (chR (zC s) f B i)) f _) f (chR (zC s) f B (i + 1)) g) _
                rw [setM_ne _ _ e, setM_ne _ _ e, setM_ne _ _ e]; exact Ew_refl _ _
            by_cases e : B.testBit i = true
            · have e5 : chR (zC s) f B (i + 1) = rBear (rSettle (Cr (zC s)) (chR (zC s) f B i)) := if_pos e
              have e6 : wayN B t' (i + 1) = wayN B t' i := if_pos e
              rw [if_pos e, (bear_0 R).1]
              simp only [q4, true_and, b5 (show f < 5 by omega), s_Q_hasBit, hbt, e, if_true, e_Q_births_202, nI_1]
              rw [if_neg (by decide)]
              have := next (rBear (rSettle (Cr (zC s)) (chR (zC s) f B i)) 0) (wayN B t' i) (by rw [e5]) e6.symm
              rw [← lN_one (wayN B t' i)] at this
              exact this
            · have e5 : chR (zC s) f B (i + 1) = rSettle (Cr (zC s)) (chR (zC s) f B i) := if_neg e
              have e6 : wayN B t' (i + 1) = wayN B t' i * (t' - 1) := if_neg e
              rw [if_neg e, (bear_0 R).2]
              simp only [q4, true_and, b5 (show f < 5 by omega), s_Q_hasBit, hbt, if_neg e, if_true, e_Q_births_202, nI_1]
              have := next (rSettle (Cr (zC s)) (chR (zC s) f B i) 0) (wayN B t' i * (t' - 1)) (by rw [e5]) e6.symm
              rw [show (1 : Int32) = nI 1 from rfl, nI_subI (show 1 ≤ t' by omega), nI_l (by omega), lN_mul]
              exact this
          · show Ew 4 (Cm (zC s) g) (setM (Cm (zC s)) f (Cm (zC s) f) g)
            by_cases e : g = f
            · subst e; rw [setM_eq]; exact Ew_refl _ _
            · rw [setM_ne _ _ e]; exact Ew_refl _ _
    · rw [if_neg (ng (nK_th (nK_th (nK_F _ _) (nK_b3 _ _ _)) (nK_oth _ _) c))]
      exact ⟨I1.1.1.1, hr c h1 P1 I1⟩
  rw [s_Q_isFamily I1.1]
  simp only [e_Q_births_36, e_Q_births_63]
  unfold th nF at main
  by_cases c0 : offN x (Cf (zC s))
  · rw [if_pos c0, if_neg (by decide)] at main
    rw [if_pos c0, if_neg (by decide)]
    exact main
  · rw [if_neg c0, if_pos rfl] at main
    rw [if_neg c0, if_pos (by decide)]
    unfold b3 at main
    by_cases d1 : y < 0
    · rw [if_pos (Or.inl d1)] at main
      rw [if_pos d1]; exact main
    rw [if_neg d1]
    by_cases d2 : v < 0
    · rw [if_pos (Or.inr (Or.inl d2))] at main
      rw [if_pos d2]; exact main
    rw [if_neg d2]
    by_cases d3 : t < 2
    · rw [if_pos (Or.inr (Or.inr d3))] at main
      rw [if_neg (Int32.not_le.mpr d3)]; exact main
    rw [if_pos (Int32.not_lt.mp d3)]
    rw [if_neg (fun q => q.elim d1 (fun q => q.elim d2 d3))] at main
    by_cases d4 : 8 < y
    · rw [if_pos (Or.inl d4)] at main
      rw [if_pos d4]; exact main
    rw [if_neg d4]
    by_cases d5 : 999 < v
    · rw [if_pos (Or.inr (Or.inl d5))] at main
      rw [if_pos d5]; exact main
    rw [if_neg d5]
    by_cases d6 : 20 < t
    · rw [if_pos (Or.inr (Or.inr d6))] at main
      rw [if_neg (Int32.not_le.mpr d6)]; exact main
    rw [if_pos (Int32.not_lt.mp d6)]
    rw [if_neg (fun q => q.elim d4 (fun q => q.elim d5 d6))] at main
    exact main
theorem t_think2 (I : IQ h s) {k : PH → Prop} (hk : ∀ h', TK s h h' (zC s) → TB s h' → gI h' 123 39 = gI h 123 39 → (∀ b, b = 145 ∨ b = 146 → gI h' b = gI h b) → k h') : ccV m_Q_think h [.ref 123] k := by
  have w := qw I.1.1
  rw [c_Q_think]
  simp only [w, true_and]
  exact t_Q_take I.1 I.2.1 (Or.inl rfl) fun h' fr L' B' K' => hk h' ⟨Fs_mono fr (fun b j x => by unfold SC at x; unfold Tq; omega), L', K'⟩ B' (fr.2.2.2 123 39 (by unfold SC; omega)) (fun b hb => funext fun j => fr.2.2.2 b j (by unfold SC; omega))
theorem TK_seed (t : TK s h0 h c) (x : Int32) : TK s h0 (sI h 123 39 x) c :=
  ⟨Fs_trans t.1 (Fs_sI _ _ _ _ (by unfold Tq; omega)), Liv_fs (S := fun b j => b = 123 ∧ j = 39) t.2.1 (Fs_sI _ _ _ _ ⟨rfl, rfl⟩) (fun b j z => by unfold LRg; omega), Kp_fs t.2.2 (S := fun b _ => b = 123) (Fs_sI _ _ _ _ rfl) (fun j x => by omega)⟩
theorem t_draw (t : TK s h0 h c) {z : Int32} (e : gI h 123 39 = z) {k : PH → Int32 → Prop} (hk : ∀ h', TK s h0 h' c → gI h' 123 39 = nxs z → k h' (drw (nxs z))) : ccI m_Q_drawBelow h [.ref 123, .int 10] k := by
  have q := qw t.2.1.1
  rw [c_Q_drawBelow, e]
  simp only [q, true_and, tg_sI, gI_sI_eq]
  exact ⟨by decide, by decide, hk _ (TK_seed t _) (gI_sI_eq _ _ _ _)⟩
theorem t_draw2 (t : TK s h0 h c) {y : Int32} {i : Nat} (e : gI h 123 39 = seedN y i) {k : PH → Int32 → Prop} (hk : ∀ h', TK s h0 h' c → gI h' 123 39 = seedN y (i + 1) → k h' (drw (seedN y (i + 1)))) : ccI m_Q_drawBelow h [.ref 123, .int 10] k := by
  refine t_draw t e fun h' t' e' => ?_
  have := hk h' t'
  rw [seedN_s] at this
  exact this e'
/-- all pay what is drawn -/
theorem t_drawAll (t : TK s h0 h c) (h5 : Cf c ≤ 5) {y : Int32} (e : gI h 123 39 = y) {l1 l2 l3 l4 l5 l6 l7 : Int32} {K : PH → Option Value → Prop}
    (hK : ∀ h', TK s h0 h' (cM c (fun f => rs (Cm c f) 2 (drw (seedN y (f + 1))))) → gI h' 123 39 = seedN y (Cf c) → wp m_Q_lots h' 68 [some (.ref 123), some (.int l1), some (.int l2), some (.int l3), some (.int l4), some (.int l5), some (.int l6), some (.int l7), some (.int (nI (Cf c)))] [] K) : wp m_Q_lots h 68 [some (.ref 123), some (.int l1), some (.int l2), some (.int l3), some (.int l4), some (.int l5), some (.int l6), some (.int l7), some (.int (nI 0))] [] K := by
  refine hp (A := fun i h6 => TK s h0 h6 (upC c (fun f r => rs r 2 (drw (seedN y (f + 1)))) i) ∧ gI h6 123 39 = seedN y i) (X := fun i h6 => wp m_Q_lots h6 68 [some (.ref 123), some (.int l1), some (.int l2), some (.int l3), some (.int l4), some (.int l5), some (.int l6), some (.int l7), some (.int (nI i))] [] K) (Cf c) ?_ ?_ 0 (Nat.zero_le _) _ ⟨up_0 t, e.trans (seedN_0 y).symm⟩
  · intro h6 ⟨t6, z6⟩
    exact hK h6 (up_n t6) z6
  · intro i hi h6 ⟨t6, z6⟩ ih6
    have q6 := qw t6.2.1.1
    rw [e_Q_lots_68, show gI h6 123 0 = nI (Cf c) from t6.2.1.2.2.1.1, if_neg (nI_ge hi (by omega))]
    refine ⟨TK_tg t6, TK_tg t6, TK_tg t6, t_draw2 t6 z6 fun h7 t7 z7 => ?_⟩
    have q7 := qw t7.2.1.1
    simp only [q6, q7, true_and, b5 (show i < 5 by omega), ix_nI (show i < 2 ^ 31 by omega), nI_1]
    generalize hD : seedN y (i + 1) = D at z7 ⊢
    have e0 := upC_at c (fun f r => rs r 2 (drw (seedN y (f + 1)))) i
    have t8 := TK_pay t7 (f := i) (x := drw D) (r := rs (Cm c i) 2 (drw D)) hi (by rw [e0]; exact rs_ne _ _ (by decide)) (by rw [e0]; exact rs_ne _ _ (by decide)) (rs_eq _ _ _) (by rw [e0]; exact rs_ne _ _ (by decide))
    refine ih6 _ ⟨up_s t8 (by rw [hD]; exact Ew_refl _ _), ?_⟩
    rw [gI_sI_ne _ _ _ _ (by omega), hD]
    exact z7
theorem t_go50 (t : TK s h0 h c) (o : okC c) {k : PH → Prop} (hk : ∀ h', TK s h0 h' (go50 c) → Fs SY h h' → k h') : ccV m_Q_goYears h [.ref 123, .int 50] k :=
  t_go t o (n := 50) (by decide) fun h' t' fr _ _ => hk h' t' fr
theorem go50_f (c : Core) : Cf (go50 c) = Cf c := rfl
theorem t_Q_lots (o : okS s) (x z t : Int32) : QQ m_Q_lots [.int x, .int z, .int t] s (th (outN x 1 20) (othN t 1)) (v_lots (zC s) x z t) := by
  intro h k I hr hv
  rw [c_Q_lots]
  have I1 := IQ_12 I
  have P1 := KP_12 h
  refine ⟨I.1.1.1, ?_⟩
  generalize sI h 123 12 0 = h1 at I1 P1 ⊢
  rw [s_Q_wrongNumber, s_Q_wb]
  by_cases c : th (outN x 1 20) (othN t 1) = 0
  · rw [if_pos (by rw [c]; decide)]
    have hv' := hv c
    obtain ⟨c1, c2⟩ := th_0.mp c
    obtain ⟨n, hn, rfl, hn1, hn2⟩ := outN_0 (lo := 1) (hi := 20) (by decide) c1
    have h5 := okf o
    unfold v_lots at hv'
    rw [ix_nI hn] at hv'
    generalize th (outN (nI n) 1 20) (othN t 1) = u
    have fr39 : Fs Tq h1 (sI h1 123 39 z) := Fs_sI _ _ _ _ (by unfold Tq; omega)
    have I2 : IQ (sI h1 123 39 z) s := IQ_Tq I1 fr39 (fun b j hb => gI_sI_ne _ _ _ _ (by unfold LRg at hb; omega))
    have P2 : KP h (sI h1 123 39 z) := KP_trans P1 (KP_Tq fr39)
    have z2 : gI (sI h1 123 39 z) 123 39 = z := gI_sI_eq _ _ _ _
    refine ⟨I1.1.1.1, ?_⟩
    generalize sI h1 123 39 z = h2 at I2 P2 z2 ⊢
    refine ⟨I2.1.1.1, t_think2 I2 fun h3 t3 B3 z3 _ => ?_⟩
    refine hp (A := fun j h' => TK s h2 h' (zC s) ∧ TB s h' ∧ gI h' 123 39 = (lotN (zC s) z j).1) (X := fun j h' => ∀ q8, wp m_Q_lots h' 49 [some (.ref 123), some (.int (nI n)), some (.int z), some (.int t), some (.int u), some (.int (lotN (zC s) z j).2.1), some (.int (lotN (zC s) z j).2.2), some (.int (nI j)), q8] [] (tyI k)) n ?_ ?_ 0 (Nat.zero_le _) h3 ⟨t3, B3, z3.trans z2⟩ none
    · intro h' ⟨t', B', z'⟩ q8
      have hv2 := hv' h' (KP_trans P2 (KP_Tq t'.1)) (IQ_back I2 t' B')
      rw [e_Q_lots_49, if_pos (Int32.le_refl _)]
      simp only [e_Q_lots_170]
      by_cases d : t = 0
      · rw [if_neg (fun w => w d)]
        rw [if_pos d] at hv2
        exact hv2
      · rw [if_pos d]
        rw [if_neg d] at hv2
        exact hv2
    · intro j hj h' ⟨t', B', z'⟩ ih q8
      rw [e_Q_lots_49, if_neg (nI_ge hj (by omega))]
      refine ⟨TK_tg t', t_draw t' z' fun h4 t4 z4 => ⟨TK_tg t4, ?_⟩⟩
      generalize hZ : (lotN (zC s) z j).1 = Z at z4 ⊢
      have t5 := TK_rate t4 (drw (nxs Z))
      have z5 : gI (sI h4 123 5 (drw (nxs Z))) 123 39 = nxs Z := by rw [gI_sI_ne _ _ _ _ (by omega)]; exact z4
      refine t_drawAll t5 h5 z5 fun h6 t7 z6 => ?_
      · have t7 : TK s h2 h6 (lotC (zC s) Z) := t7
        have z6 : gI h6 123 39 = seedN (nxs Z) (Cf (zC s)) := z6
        have ec : nI (Cf (cR (zC s) (drw (nxs Z)))) = nI (Cf (zC s)) := rfl
        rw [ec]
        have o7 : okC (lotC (zC s) Z) := ⟨o.1.1.1, bd_le (drw_bd _) (by omega), fun f hf => RgF_2 (o.1.1.2.2.1 f hf) (drw_bd _), o.1.1.2.2.2⟩
        rw [e_Q_lots_68, show gI h6 123 0 = nI (Cf (zC s)) from t7.2.1.2.2.1.1, if_pos (Int32.le_refl _)]
        refine ⟨TK_tg t7, TK_tg t7, t_go50 t7 o7 fun h8 t8 fr8 => ⟨TK_tg t8, ?_⟩⟩
        have z8 : gI h8 123 39 = seedN (nxs Z) (Cf (zC s)) := by rw [fr8.2.2.2 123 39 (by unfold SY; omega)]; exact z6
        rw [s_Q_allDebts t8.2.1]
        have q8' := qw t8.2.1.1
        have e0 : gI h8 123 0 = nI (Cf (zC s)) := by rw [t8.2.1.2.2.1.1, go50_f]; rfl
        have r8 : ∀ i, i < Cf (zC s) → gI h8 125 i = Cm (go50 (lotC (zC s) Z)) i 1 := fun i hi => (t8.2.1.2.2.2.1 i (by rw [go50_f]; exact hi)).2.1
        have hfree : freeC (go50 (lotC (zC s) Z)) = sumN (fun f => if Cm (go50 (lotC (zC s) Z)) f 1 = 0 then 1 else 0) (Cf (zC s)) := by unfold freeC; rw [go50_f]; rfl
        obtain ⟨G, hG⟩ : ∃ G, G = go50 (lotC (zC s) Z) := ⟨_, rfl⟩
        rw [← hG] at hfree ⊢
        simp only [← hG] at r8
        have key := (lp (fun i => wp m_Q_lots h8 114 [some (.ref 123), some (.int (nI n)), some (.int z), some (.int t), some (.int u), some (.int ((lotN (zC s) z j).2.1 + debtsC G)), some (.int ((lotN (zC s) z j).2.2 + sumN (fun f => if Cm G f 1 = 0 then 1 else 0) i)), some (.int (nI j)), some (.int (nI i))] [] (tyI k)) (Cf (zC s)) ?_).mpr ?_
        · simp only [sumN, Int32.add_zero] at key
          exact key
        · intro i hi
          rw [e_Q_lots_114, e0, if_neg (nI_ge hi (by omega)), ix_nI (by omega)]
          simp only [q8', true_and, true_or, b5 (show i < 5 by omega), r8 i hi, e_Q_lots_140, nI_1, sumN]
          by_cases d : Cm G i 1 = 0
          · rw [if_neg (fun w => w d), if_pos d, Int32.add_assoc]
          · rw [if_pos d, if_neg d, Int32.add_assoc]
        · rw [e_Q_lots_114, e0, if_pos (Int32.le_refl _)]
          refine ⟨TK_tg t8, TK_tg t8, t_again t8 o fun h9 t9 B9 _ _ z9 => ?_⟩
          have ih' := ih h9 ⟨t9, B9, by rw [lotN_s, hZ, z9, z8]⟩
          rw [lotN_s, hZ, ← hG, hfree] at ih'
          rw [nI_1]
          exact ih' _
  · rw [if_neg (ng (nK_th (nK_out _ _ _) (nK_oth _ _) c))]
    exact q_no I1 P1 (hr c)
end Q7
