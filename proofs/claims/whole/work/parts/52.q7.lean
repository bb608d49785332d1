/-! ===== the reference: births by chance, lots, heirs ===== -/
theorem bear_0 {r : Row} (R : RgF r) : heldN (r 0 + 1) 1 20 = rBear r 0 ∧ heldN (r 0 + 0) 1 20 = r 0 := by
  obtain ⟨p, ep, p1, p2⟩ := bd_of R.1
  unfold rBear heldN
  rw [ep, nI_1, Int32.add_zero]
  constructor
  · rw [if_neg (show ¬ nI (p + 1) < 1 from nI_nlt (b := 1) (by omega) (by omega))]
    by_cases d : p < 20
    · rw [if_pos (show nI p < 20 from nI_lt (b := 20) d (by decide)), if_neg (show ¬ (20 : Int32) < nI (p + 1) from nI_nlt (a := 20) (by omega) (by decide))]
      split
      · rw [rs_ne _ _ (show (0 : Nat) ≠ 6 by decide), rs_eq]
      · rw [rs_eq]
    · rw [if_neg (show ¬ nI p < 20 from nI_nlt (b := 20) (by omega) (by omega)), if_pos (show (20 : Int32) < nI (p + 1) from nI_lt (a := 20) (by omega) (by omega)), ep, show p = 20 by omega]
      rfl
  · rw [if_neg (show ¬ nI p < 1 from nI_nlt (b := 1) (by omega) (by omega)), if_neg (show ¬ (20 : Int32) < nI p from nI_nlt (a := 20) (by omega) (by decide))]
theorem bear_j (r : Row) {j : Nat} (h0 : j ≠ 0) (h6 : j ≠ 6) : rBear r j = r j := by
  unfold rBear
  split
  · split
    · rw [rs_ne _ _ h6, rs_ne _ _ h0]
    · rw [rs_ne _ _ h0]
  · rfl
theorem RgF_chR {c : Core} (o : okC c) {f : Nat} (hf : f < Cf c) (B : Nat) : ∀ k, RgF (chR c f B k)
  | 0 => o.2.2.1 f hf
  | k + 1 => by
    have R := RgF_settle (RgF_chR o hf B k) o.2.1
    unfold chR
    split
    · exact RgF_bear R
    · exact R
theorem nI_mod {a b : Nat} (ha : a < 2 ^ 31) (hb : b < 2 ^ 31) (h0 : 0 < b) : nI a % nI b = nI (a % b) := by
  apply Int32.toInt_inj.mp
  have hab : a % b < 2 ^ 31 := Nat.lt_trans (Nat.mod_lt a h0) hb
  rw [Int32.toInt_mod, nI_toInt ha, nI_toInt hb, nI_toInt hab]
  rfl
theorem and_nI (z : Int32) : ∃ m : Nat, m < 2 ^ 31 ∧ z &&& 2147483647 = nI m := by
  have hm : z.toBitVec.toNat &&& 2147483647 < 2 ^ 31 := Nat.lt_of_le_of_lt Nat.and_le_right (by decide)
  refine ⟨z.toBitVec.toNat &&& 2147483647, hm, Int32.toBitVec_inj.mp (BitVec.eq_of_toNat_eq ?_)⟩
  rw [Int32.toBitVec_and, BitVec.toNat_and]
  show z.toBitVec.toNat &&& 2147483647 = (z.toBitVec.toNat &&& 2147483647) % 2 ^ 32
  rw [Nat.mod_eq_of_lt (by omega)]
theorem drw_bd (z : Int32) : bd (drw z) 0 9 := by
  obtain ⟨m, hm, e⟩ := and_nI z
  unfold drw
  rw [e, show (65536 : Int32) = nI 65536 from rfl, show (10 : Int32) = nI 10 from rfl, nI_div hm (by decide), nI_mod (by omega) (by decide) (by decide)]
  exact bd_nI (by omega) (by omega) (by decide)
section Q7
variable {h h' h0 h1 h2 h3 : PH} {s : Sta} {c c' : Core} {f n : Nat} {no v : Int32}
theorem t_owes (t : TK s h0 h c) (hf : f < Cf c) {k : PH → Prop} (hk : ∀ h', TK s h0 h' (cM c (setM (Cm c) f (rSettle (Cr c) (Cm c f)))) → k h') : ccV m_Q_owes h [.ref 123, .int (nI f)] k :=
  t_Q_owes t.2.1 hf fun h' fr L' _ => hk h' ⟨Fs_trans t.1 (Fs_mono fr (fun b j x => by unfold Tq; omega)), L', Kp_fs t.2.2 fr (fun j x => by omega)⟩
def chC (c : Core) (f B k : Nat) : Core := cM c (setM (Cm c) f (chR c f B k))
theorem lN_one (a : Nat) : lN a * 1 = lN a := Int64.mul_one _
theorem t_Q_births (o : okS s) (x y v t z : Int32) : QQL m_Q_births [.int x, .int y, .int v, .int t, .int z] s (th (th (nF (zC s) x) (b3 y v t)) (othN z 1)) (v_births2 (zC s) x y v t z) := by
  intro h k I hr hv
  rw [c_Q_births]
  have I1 := IQ_12 I
  have P1 := KP_12 h
  refine ⟨I.1.1.1, ?_⟩
  generalize sI h 123 12 0 = h1 at I1 P1 ⊢
  refine ⟨I1.1.1.1, ?_⟩
  have main : wp m_Q_births h1 67 [some (.ref 123), some (.int x), some (.int y), some (.int v), some (.int t), some (.int z), some (.int (th (nF (zC s) x) (b3 y v t))), none, none, none, none, none, none, none, none] [] (tyL k) := by
    rw [e_Q_births_67, s_Q_wb]
    by_cases c : th (th (nF (zC s) x) (b3 y v t)) (othN z 1) = 0
    · rw [if_pos (by rw [c]; decide)]
      have hv' := hv c
      have c1 := th_0.mp (th_0.mp c).1
      have c3 := (th_0.mp c).2
      obtain ⟨f, hf, rfl⟩ := nF_0 (okf o) c1.1
      obtain ⟨n, w, t', hn, hw2, ht1, ht2, rfl, rfl, rfl⟩ := b3_0 c1.2
      have hz : z = 0 ∨ z = 1 := by
        obtain ⟨m, hm, rfl⟩ := oth_0 (m := 1) (by decide) c3
        by_cases e : m = 0
        · subst e; exact Or.inl rfl
        · obtain rfl : m = 1 := by omega
          exact Or.inr rfl
      have h5 := okf o
      unfold v_births2 at hv'
      rw [ix_nI (show f < 2 ^ 31 by omega), ix_nI (show n < 2 ^ 31 by omega), ix_nI (show t' < 2 ^ 31 by omega)] at hv'
      generalize th (th (nF (zC s) (nI f)) (b3 (nI n) (nI w) (nI t'))) (othN z 1) = u
      have hp2 : 2 ^ n ≤ 256 := Nat.le_trans (show 2 ^ n ≤ 2 ^ 8 from Nat.pow_le_pow_right (by decide) hn) (by decide)
      have hpw := pow_bd ht2 hn
      have hpos : 1 ≤ t' ^ n := by have q1 := Nat.pow_le_pow_left (show 1 ≤ t' by omega) n; rw [Nat.one_pow] at q1; exact q1
      have hg := good_le (c := zC s) (f := f) (n := n) (v := nI w) (t := t') (by omega) (Nat.le_refl (2 ^ n))
      refine (lp (fun i => wp m_Q_births h1 103 [some (.ref 123), some (.int (nI f)), some (.int (nI n)), some (.int (nI w)), some (.int (nI t')), some (.int z), some (.int u), some (.long (lN 0)), none, some (.long (lN (t' ^ i))), none, some (.int (nI i)), none, none, none] [] (tyL k)) n fun i hi => ?_).mpr ?_
      · rw [e_Q_births_103, if_neg (nI_ge hi (by omega)), nI_l (by omega), lN_mul, nI_1, Nat.pow_succ]
      · rw [e_Q_births_103, if_pos (Int32.le_refl _)]
        refine ⟨I1.1.1.1, t_think I1 fun h2 t2 B2 => ?_⟩
        refine hp (A := fun _ h' => TK s h1 h' (zC s) ∧ TB s h') (X := fun j h' => ∀ q12 q13 q14, wp m_Q_births h' 130 [some (.ref 123), some (.int (nI f)), some (.int (nI n)), some (.int (nI w)), some (.int (nI t')), some (.int z), some (.int u), some (.long (lN (sumT (goodN (zC s) f n (nI w) t') j))), none, some (.long (lN (t' ^ n))), none, some (.int (nI j)), q12, q13, q14] [] (tyL k)) (2 ^ n) ?_ ?_ 0 (Nat.zero_le _) h2 ⟨t2, B2⟩ none none none
        · intro h' ⟨t', B'⟩ q12 q13 q14
          rw [e_Q_births_130, shl9 ⟨n, by omega⟩, if_pos (Int32.le_refl _), s_Q_frac (by omega) (by omega) hpos hz]
          exact hv' h' (KP_trans P1 (KP_Tq t'.1)) (IQ_back I1 t' B')
        · intro B hB h' ⟨tk, B'⟩ ih q12 q13 q14
          rw [e_Q_births_130, shl9 ⟨n, by omega⟩, if_neg (nI_ge (show B < 2 ^ n from hB) (by omega))]
          refine hp (A := fun i h3 => TK s h1 h3 (chC (zC s) f B i)) (X := fun i h3 => wp m_Q_births h3 144 [some (.ref 123), some (.int (nI f)), some (.int (nI n)), some (.int (nI w)), some (.int (nI t')), some (.int z), some (.int u), some (.long (lN (sumT (goodN (zC s) f n (nI w) t') B))), none, some (.long (lN (t' ^ n))), none, some (.int (nI B)), some (.long (lN (wayN B t' i))), none, some (.int (nI i))] [] (tyL k)) n ?_ ?_ 0 (Nat.zero_le _) h' (TK_ext tk rfl rfl rfl rfl (fun g _ => ?_) (fun _ _ => rfl))
          · intro h3 t3
            have o3 : okC (chC (zC s) f B n) := okC_set o.1.1 (RgF_chR o.1.1 hf B n)
            have e3 : Cm (chC (zC s) f B n) f = chR (zC s) f B n := setM_eq _ _ _
            rw [e_Q_births_144, if_pos (Int32.le_refl _), s_Q_headOwes t3.2.1 o3 hf, e3]
            refine ⟨TK_tg t3, ?_⟩
            have fin : ∀ m : Nat, m = goodN (zC s) f n (nI w) t' B → wp m_Q_births h3 228 [some (.ref 123), some (.int (nI f)), some (.int (nI n)), some (.int (nI w)), some (.int (nI t')), some (.int z), some (.int u), some (.long (lN (sumT (goodN (zC s) f n (nI w) t') B))), none, some (.long (lN (t' ^ n))), none, some (.int (nI B)), some (.long (lN (wayN B t' n))), none, some (.int (nI n))] [.long (lN m), .long (lN (sumT (goodN (zC s) f n (nI w) t') B))] (tyL k) := by
              intro m hm
              rw [e_Q_births_228]
              refine ⟨TK_tg t3, t_again t3 o fun h4 t4 B4 _ _ _ => ?_⟩
              have ih' := ih h4 ⟨t4, B4⟩
              simp only [sumT] at ih'
              rw [hm, lN_add, nI_1]
              exact ih' _ _ _
            by_cases d : nI w < hoR (chR (zC s) f B n)
            · rw [if_pos d]
              exact fin 0 (by unfold goodN; rw [if_pos d])
            · rw [if_neg d]
              exact fin _ (by unfold goodN; rw [if_neg d])
          · intro i hi h3 t3 ih3
            have hfc : f < Cf (chC (zC s) f B i) := hf
            have e3 : Cm (chC (zC s) f B i) f = chR (zC s) f B i := setM_eq _ _ _
            have R := RgF_settle (RgF_chR o.1.1 hf B i) o.1.1.2.1
            rw [e_Q_births_144, if_neg (nI_ge hi (by omega))]
            refine ⟨TK_tg t3, t_owes t3 hfc fun h4 t4 => ?_⟩
            have q4 := qw t4.2.1.1
            have r4 := (t4.2.1.2.2.2.1 f hf).1
            have e4 : Cm (cM (chC (zC s) f B i) (setM (Cm (chC (zC s) f B i)) f (rSettle (Cr (chC (zC s) f B i)) (Cm (chC (zC s) f B i) f)))) f = rSettle (Cr (zC s)) (chR (zC s) f B i) := by
              rw [e3]; exact setM_eq _ _ _
            rw [e4] at r4
            simp only [q4, true_and, true_or, b5 (show f < 5 by omega), ix_nI (show f < 2 ^ 31 by omega), r4]
            rw [bit8 ⟨B, by omega⟩ ⟨i, by omega⟩, s_Q_held]
            have hbt : bt (nI B) i = B.testBit i := by
              unfold bt
              rw [bit8 ⟨B, by omega⟩ ⟨i, by omega⟩]
              by_cases e : B.testBit i = true <;> simp [e]
            have next : ∀ (x : Int32) (l : Nat), (x = chR (zC s) f B (i + 1) 0) → l = wayN B t' (i + 1) → wp m_Q_births (sI h4 124 f x) 144 [some (.ref 123), some (.int (nI f)), some (.int (nI n)), some (.int (nI w)), some (.int (nI t')), some (.int z), some (.int u), some (.long (lN (sumT (goodN (zC s) f n (nI w) t') B))), none, some (.long (lN (t' ^ n))), none, some (.int (nI B)), some (.long (lN l)), none, some (.int (nI (i + 1)))] [] (tyL k) := by
              intro x l hx hl
              have ej : ∀ j, j ≠ 0 → j ≠ 6 → chR (zC s) f B (i + 1) j = rSettle (Cr (zC s)) (chR (zC s) f B i) j := fun j h0 h6 => by
                show (if B.testBit i = true then rBear (rSettle (Cr (zC s)) (chR (zC s) f B i)) else rSettle (Cr (zC s)) (chR (zC s) f B i)) j = _
                split
                · exact bear_j _ h0 h6
                · rfl
              have t5 := TK_head t4 (f := f) (x := x) (r := chR (zC s) f B (i + 1)) hf hx.symm (by rw [e4]; exact ej 1 (by decide) (by decide)) (by rw [e4]; exact ej 2 (by decide) (by decide)) (by rw [e4]; exact ej 3 (by decide) (by decide))
              rw [hl]
              refine ih3 _ (TK_ext t5 rfl rfl rfl rfl (fun g _ => ?_) (fun _ _ => rfl))
              by_cases e : g = f
              · subst e
                have a1 : Cm (chC (zC s) g B (i + 1)) g = chR (zC s) g B (i + 1) := setM_eq _ _ _
                rw [a1]
                show Ew 4 (setM _ g (chR (zC s) g B (i + 1)) g) _
                rw [setM_eq]; exact Ew_refl _ _
              · have a1 : Cm (chC (zC s) f B (i + 1)) g = Cm (zC s) g := setM_ne _ _ e
                rw [a1]
                show Ew 4 (setM (setM (setM (Cm (zC s)) f (chR (zC s) f B i)) f _) f (chR (zC s) f B (i + 1)) g) _
                rw [setM_ne _ _ e, setM_ne _ _ e, setM_ne _ _ e]; exact Ew_refl _ _
            by_cases e : B.testBit i = true
            · have e5 : chR (zC s) f B (i + 1) = rBear (rSettle (Cr (zC s)) (chR (zC s) f B i)) := if_pos e
              have e6 : wayN B t' (i + 1) = wayN B t' i := if_pos e
              rw [if_pos e, (bear_0 R).1]
              simp only [q4, true_and, b5 (show f < 5 by omega), s_Q_hasBit, hbt, e, if_true, e_Q_births_202, nI_1]
              rw [if_neg (by decide)]
              have := next (rBear (rSettle (Cr (zC s)) (chR (zC s) f B i)) 0) (wayN B t' i) (by rw [e5]) e6.symm
              rw [← lN_one (wayN B t' i)] at this
              exact this
            · have e5 : chR (zC s) f B (i + 1) = rSettle (Cr (zC s)) (chR (zC s) f B i) := if_neg e
              have e6 : wayN B t' (i + 1) = wayN B t' i * (t' - 1) := if_neg e
              rw [if_neg e, (bear_0 R).2]
              simp only [q4, true_and, b5 (show f < 5 by omega), s_Q_hasBit, hbt, if_neg e, if_true, e_Q_births_202, nI_1]
              have := next (rSettle (Cr (zC s)) (chR (zC s) f B i) 0) (wayN B t' i * (t' - 1)) (by rw [e5]) e6.symm
              rw [show (1 : Int32) = nI 1 from rfl, nI_subI (show 1 ≤ t' by omega), nI_l (by omega), lN_mul]
              exact this
          · show Ew 4 (Cm (zC s) g) (setM (Cm (zC s)) f (Cm (zC s) f) g)
            by_cases e : g = f
            · subst e; rw [setM_eq]; exact Ew_refl _ _
            · rw [setM_ne _ _ e]; exact Ew_refl _ _
    · rw [if_neg (ng (nK_th (nK_th (nK_F _ _) (nK_b3 _ _ _)) (nK_oth _ _) c))]
      exact ⟨I1.1.1.1, hr c h1 P1 I1⟩
  rw [s_Q_isFamily I1.1]
  simp only [e_Q_births_36, e_Q_births_63]
  unfold th nF at main
  by_cases c0 : offN x (Cf (zC s))
  · rw [if_pos c0, if_neg (by decide)] at main
    rw [if_pos c0, if_neg (by decide)]
    exact main
  · rw [if_neg c0, if_pos rfl] at main
    rw [if_neg c0, if_pos (by decide)]
    unfold b3 at main
    by_cases d1 : y < 0
    · rw [if_pos (Or.inl d1)] at main
      rw [if_pos d1]; exact main
    rw [if_neg d1]
    by_cases d2 : v < 0
    · rw [if_pos (Or.inr (Or.inl d2))] at main
      rw [if_pos d2]; exact main
    rw [if_neg d2]
    by_cases d3 : t < 2
    · rw [if_pos (Or.inr (Or.inr d3))] at main
      rw [if_neg (Int32.not_le.mpr d3)]; exact main
    rw [if_pos (Int32.not_lt.mp d3)]
    rw [if_neg (fun q => q.elim d1 (fun q => q.elim d2 d3))] at main
    by_cases d4 : 8 < y
    · rw [if_pos (Or.inl d4)] at main
      rw [if_pos d4]; exact main
    rw [if_neg d4]
    by_cases d5 : 999 < v
    · rw [if_pos (Or.inr (Or.inl d5))] at main
      rw [if_pos d5]; exact main
    rw [if_neg d5]
    by_cases d6 : 20 < t
    · rw [if_pos (Or.inr (Or.inr d6))] at main
      rw [if_neg (Int32.not_le.mpr d6)]; exact main
    rw [if_pos (Int32.not_lt.mp d6)]
    rw [if_neg (fun q => q.elim d4 (fun q => q.elim d5 d6))] at main
    exact main
end Q7
