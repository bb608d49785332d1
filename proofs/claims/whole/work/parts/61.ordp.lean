/-! ===== the class: orders of works ===== -/
def usd (z : Zl) (k i : Nat) : Nat := mkU (bmN z) (ordS (opZ z).length k i).2 (opZ z) (opZ z).length
theorem ordZ {z : Zl} (h6 : Cw z.1 ≤ 6) (h5 : (opZ z).length ≤ 5) {k : Nat} (hk : k < fac (opZ z).length) {i : Nat} (hi : i < (opZ z).length) :
    ((ordS (opZ z).length k i).1 < 120 ∧ (ordS (opZ z).length k i).2 < 2 ^ (opZ z).length) ∧ (ordS (opZ z).length k i).1 / fac ((opZ z).length - 1 - i) < 6 ∧ ordI (opZ z).length k i < (opZ z).length ∧ skN (usd z k i) (Cw z.1) 0 ((ordS (opZ z).length k i).1 / fac ((opZ z).length - 1 - i)) = ordW z k i ∧ usd z k (i + 1) = usd z k i ||| 2 ^ (ordW z k i) ∧ ordW z k i < Cw z.1 ∧ usd z k i < 64 := ord_get h6 (bmN_lt z) h5 hk hi
theorem usd_0 (z : Zl) (k : Nat) : usd z k 0 = bmN z := mkU_0 _ _ _
theorem ord_m1 {x : Int32} (h1 : ¬ x < -1) (h2 : x < 0) : x = -1 := by
  have a := Int32.le_iff_toInt_le.mp (Int32.not_lt.mp h1)
  have b := Int32.lt_iff_toInt_lt.mp h2
  have e1 : (-1 : Int32).toInt = -1 := by decide
  have e0 : (0 : Int32).toInt = 0 := by decide
  apply Int32.toInt_inj.mp
  omega
section OrdP
variable {h h' h0 h1 h2 h3 : PH} {s : Sta} {c : Core} {f n : Nat}
theorem s_P_fac (hn : n ≤ 5) (k : PH → Int32 → Prop) : ccI m_P_factorial h [.int (nI n)] k = k h (nI (fac n)) := by
  rw [c_P_factorial]
  by_cases z : n = 0
  · subst z
    rw [e_P_factorial_4, if_pos (by decide)]
    rfl
  · have key : ∀ d j, j + d = n → 1 ≤ j → wp m_P_factorial h 4 [some (.int (nI n)), some (.int (nI (fac j))), some (.int (nI (j + 1)))] [] (tyI k) = k h (nI (fac n)) := by
      intro d
      induction d with
      | zero =>
        intro j e h1
        rw [e_P_factorial_4, if_pos (nI_lt (by omega) (by omega)), show j = n by omega]
      | succ d ih =>
        intro j e h1
        rw [e_P_factorial_4, if_neg (nI_nlt (by omega) (by omega)), nI_mul, nI_1, show fac j * (j + 1) = fac (j + 1) from Nat.mul_comm _ _]
        exact ih (j + 1) (by omega) (by omega)
    exact key (n - 1) 1 (by omega) (Nat.le_refl _)
theorem s_Q_fac (hn : n ≤ 5) (k : PH → Int32 → Prop) : ccI m_Q_ordersOf h [.int (nI n)] k = k h (nI (fac n)) := by
  rw [c_Q_ordersOf]
  by_cases z : n = 0
  · subst z
    rw [e_Q_ordersOf_4, if_pos (by decide)]
    rfl
  · have key : ∀ d j, j + d = n → 1 ≤ j → wp m_Q_ordersOf h 4 [some (.int (nI n)), some (.int (nI (fac j))), some (.int (nI (j + 1)))] [] (tyI k) = k h (nI (fac n)) := by
      intro d
      induction d with
      | zero =>
        intro j e h1
        rw [e_Q_ordersOf_4, if_pos (nI_lt (by omega) (by omega)), show j = n by omega]
      | succ d ih =>
        intro j e h1
        rw [e_Q_ordersOf_4, if_neg (nI_nlt (by omega) (by omega)), nI_mul, nI_1, show fac j * (j + 1) = fac (j + 1) from Nat.mul_comm _ _]
        exact ih (j + 1) (by omega) (by omega)
    exact key (n - 1) 1 (by omega) (Nat.le_refl _)
theorem s_unused {a nw u j : Nat} (L : isLed h a) (e1 : gI h a 1 = nI nw) (hw : nw ≤ 6) (hu : u < 64) (hj : j < 6) (hs : skN u nw 0 j < nw) (k : PH → Int32 → Prop) : ccI m_Ledger_unusedWork h [.ref a, .int (nI u), .int (nI j)] k = k h (nI (skN u nw 0 j)) := by
  rw [c_Ledger_unusedWork]
  have key : ∀ d w b, w + d = nw → b ≤ j → skN u d w (j - b) < nw → wp m_Ledger_unusedWork h 5 [some (.ref a), some (.int (nI u)), some (.int (nI j)), some (.int (nI b)), some (.int (nI w))] [] (tyI k) = k h (nI (skN u d w (j - b))) := by
    intro d
    induction d with
    | zero =>
      intro w b e _ hs
      have : w < nw := hs
      omega
    | succ d ih =>
      intro w b e hb hs
      have hbt := bt_nI hu (show w < 6 by omega)
      unfold bt at hbt
      unfold skN at hs ⊢
      rw [e_Ledger_unusedWork_5, e1, if_neg (nI_ge (by omega) (by omega))]
      simp only [L.1, true_and, e_Ledger_unusedWork_38, nI_1]
      by_cases t : u.testBit w = true
      · rw [t] at hbt
        rw [if_neg (fun z => z (of_decide_eq_true hbt))]
        rw [if_pos t] at hs ⊢
        exact ih (w + 1) b (by omega) hb hs
      · have t' : u.testBit w = false := by simpa using t
        rw [t'] at hbt
        rw [if_pos (of_decide_eq_false hbt)]
        rw [if_neg t] at hs ⊢
        by_cases y : j - b = 0
        · rw [if_pos y, if_neg (fun z => z (by rw [show b = j by omega]))]
        · rw [if_neg y] at hs ⊢
          rw [if_pos (fun z => y (by have := (nI_eq (by omega) (by omega)).mp z; omega))]
          rw [show j - b - 1 = j - (b + 1) by omega] at hs ⊢
          exact ih (w + 1) (b + 1) (by omega) (by omega) hs
  exact key nw 0 0 (by omega) (Nat.zero_le _) hs
theorem sub2 {n i : Nat} (h : i < n) : nI n - 1 - nI i = nI (n - 1 - i) := by
  rw [show (1 : Int32) = nI 1 from rfl, nI_subI (by omega), nI_subI (by omega)]
theorem mod_nI {r b : Nat} (hr : r < 120) : nI r - nI (r / b) * nI b = nI (r % b) := by
  have h := Nat.div_add_mod' r b
  rw [nI_mul, nI_subI (by omega)]
  congr 1
  omega
theorem t_P_arrange (I : IP h0 s) (F : FT h0 h) (o : okS s) (h5 : (opZ s.1).length ≤ 5) {j : Nat} (hj : j < fac (opZ s.1).length) {k : PH → Prop} (hk : ∀ h', FT h0 h' → gI h' 122 = gI h 122 → (∀ i, i < (opZ s.1).length → gI h' 121 i = nI (ordW s.1 j i)) → k h') : ccV m_P_arrange h [.ref 2, .int (nI j), .int (nI (opZ s.1).length)] k := by
  have I1 := IP_FT I F
  have w := pw I1.1
  have h6 := okw o
  have e4 : gI h 3 4 = nI (usd s.1 j 0) := by
    rw [(PB I1).2.1, built_bits o.1.2 h6, bm_nm _ _ h6, usd_0]; rfl
  rw [c_P_arrange]
  simp only [w, true_and]
  rw [e4]
  refine hp (A := fun i h' => Fr (fun b => b = 121) (fun _ => False) h h' ∧ ∀ i', i' < i → gI h' 121 i' = nI (ordW s.1 j i')) (X := fun i h' => ∀ q6 q7 q8, wp m_P_arrange h' 14 [some (.ref 2), some (.int (nI j)), some (.int (nI (opZ s.1).length)), some (.int (nI (ordS (opZ s.1).length j i).1)), some (.int (nI (usd s.1 j i))), some (.int (nI i)), q6, q7, q8] [] (tyV k)) (opZ s.1).length ?_ ?_ 0 (Nat.zero_le _) h ⟨Fr_refl _ _ _, fun i' hi' => absurd hi' (Nat.not_lt_zero _)⟩ none none none
  · intro h' ⟨fr, e⟩ q6 q7 q8
    rw [e_P_arrange_14, if_pos (Int32.le_refl _), e_P_arrange_102]
    exact hk h' (FT_trans F (FT_of fr (fun b x => by omega) (fun b x => x.elim))) (funext fun i => fr.2.2.2 122 (by omega) i) e
  · intro i hi h' ⟨fr, e⟩ ih q6 q7 q8
    have F' := FT_trans F (FT_of fr (fun b x => by omega) (fun b x => x.elim))
    have I' := IP_FT I F'
    have w' := pw I'.1
    obtain ⟨⟨g1, _⟩, g2, _, g4, g5, g6, g7⟩ := ordZ h6 h5 hj hi
    have fb := fac_5 (show (opZ s.1).length - 1 - i ≤ 5 by omega)
    have fp := fac_pos ((opZ s.1).length - 1 - i)
    rw [e_P_arrange_14, if_neg (nI_ge hi (by omega))]
    simp only [w', true_and, e_P_arrange_102]
    rw [show Int32.ofNat 5 = nI 5 from rfl, if_neg (nI_ge (show i < 5 by omega) (by decide)), sub2 hi, s_P_fac (by omega), if_pos (show (1 : Int32) ≤ nI (fac ((opZ s.1).length - 1 - i)) from nI_le (a := 1) fp (by omega)), e_P_arrange_55, nI_div (by omega) (by omega)]
    simp only [w', true_and]
    rw [s_unused (PL I').1 (PL I').2.2.1.2.1 h6 g7 g2 (by rw [g4]; exact g6), g4]
    simp only [w', true_and, inb_nI (show i < 5 by omega) (show 5 < 2 ^ 31 by decide), ix_nI (show i < 2 ^ 31 by omega)]
    rw [or_dec ⟨usd s.1 j i, g7⟩ ⟨ordW s.1 j i, by have q : ordW s.1 j i < Cw (zC s) := g6; omega⟩]
    refine ⟨by decide, nI_ne0 (by omega) (by omega), ?_⟩
    rw [mod_nI g1, nI_1]
    have ih' := ih (sI h' 121 i (nI (ordW s.1 j i))) ⟨Fr_trans fr (Fr_sI _ _ _ _ rfl), fun i' hi' => by
      by_cases d : i' = i
      · subst d; rw [gI_sI_eq]
      · rw [gI_sI_ne _ _ _ _ (fun z => d z.2)]; exact e i' (by omega)⟩
    rw [g5] at ih'
    exact ih' _ _ _
theorem t_P_debtsAsTried (I : IP h0 s) (F : FT h0 h) (o : okS s) (hn : n ≤ 5) {W : Nat → Nat} (hW : ∀ j, j < n → W j < Cw (zC s) ∧ gI h 121 j = nI (W j)) {k : PH → Int32 → Prop} (hk : ∀ h', FT h0 h' → gI h' 121 = gI h 121 → gI h' 122 = gI h 122 → k h' (debtsC (ordC (zC s) W n))) : ccI m_P_debtsAsTried h [.ref 2, .int (nI n)] k := by
  have I1 := IP_FT I F
  have w := pw I1.1
  have h6 := okw o
  rw [c_P_debtsAsTried]
  simp only [w, true_and]
  refine t_Ledger_copy (PL I1) (PB I1) I1.1.2.2.2.2.2.2.1.2.1 (Or.inr (by decide)) fun h1 fr1 L1 B1 => ?_
  refine hp (A := fun j h' => FT h0 h' ∧ Led h' 13 (ordC (zC s) W j) ∧ gI h' 121 = gI h 121 ∧ gI h' 122 = gI h 122) (X := fun j h' => wp m_P_debtsAsTried h' 13 [some (.ref 2), some (.int (nI n)), some (.int (nI j))] [] (tyI k)) n ?_ ?_ 0 (Nat.zero_le _) h1 ⟨FT_trans F (FT_of fr1 (fun b x => by omega) (fun b x => by omega)), L1, funext fun i => fr1.2.2.2 121 (by omega) i, funext fun i => fr1.2.2.2 122 (by omega) i⟩
  · intro h' ⟨F', L', e1, e2⟩
    have w' := pw (IP_FT I F').1
    rw [e_P_debtsAsTried_13, if_pos (Int32.le_refl _), e_P_debtsAsTried_53]
    simp only [w', true_and]
    rw [u_Ledger_allDebts L']
    exact hk h' F' e1 e2
  · intro j hj h' ⟨F', L', e1, e2⟩ ih
    have w' := pw (IP_FT I F').1
    obtain ⟨W1, W2⟩ := hW j hj
    have ok := ordC_k (zC s) W j
    have oj : okC (ordC (zC s) W j) := ordC_ok o.1.1 j (fun i hi => (hW i (by omega)).1)
    rw [e_P_debtsAsTried_13, if_neg (nI_ge hj (by omega))]
    simp only [w', true_and]
    rw [show Int32.ofNat 5 = nI 5 from rfl, if_neg (nI_ge (show j < 5 by omega) (by decide)), ix_nI (show j < 2 ^ 31 by omega), e1, W2]
    refine ⟨by decide, ⟨Or.inl trivial, inb_nI (show j < 5 by omega) (by decide)⟩, ?_⟩
    refine t_Ledger_charge L' oj (w := W j) (by rw [ok.2.2]; exact W1) fun h2 fr2 L2 => ?_
    have F2 := FT_trans F' (FT_of fr2 (fun b x => by omega) (fun b x => x.elim))
    have w2 := pw (IP_FT I F2).1
    simp only [w2, true_and]
    refine t_Ledger_passYear L2 fun h3 fr3 L3 _ => ?_
    have F3 := FT_trans F2 (FT_of fr3 (fun b x => by omega) (fun b x => x.elim))
    rw [nI_1]
    refine ih h3 ⟨F3, ?_, ?_, ?_⟩
    · rw [ok.1] at L3; exact L3
    · rw [← e1]; exact funext fun i => (fr3.2.2.2 121 (by omega) i).trans (fr2.2.2.2 121 (by omega) i)
    · rw [← e2]; exact funext fun i => (fr3.2.2.2 122 (by omega) i).trans (fr2.2.2.2 122 (by omega) i)
theorem gI_cpI (h : PH) (a b sp dp n c i : Nat) : gI (cpI h a b sp dp n) c i = if c = b ∧ dp ≤ i ∧ i < dp + n then gI h a (sp + (i - dp)) else gI h c i := rfl
theorem Fr_cpI (h : PH) (a b sp dp n : Nat) {S R : Nat → Prop} (hS : S b) : Fr S R h (cpI h a b sp dp n) := ⟨rfl, rfl, fun _ _ _ => rfl, fun c hc i => if_neg (fun z => hc (by rw [z.1]; exact hS))⟩
theorem t_P_order (o : okS s) (x : Int32) : PQ m_P_order [.int x] s (noO s.1 x) (v_order s.1 x) := by
  intro h k I hr hv
  have w := pw I.1
  have h6 := okw o
  have L := PL I
  have hl := opZ_len o.1
  have hlB := okS_len o
  rw [c_P_order]
  by_cases c1 : x < -1
  · have e : noO s.1 x = -4 := if_pos c1
    rw [e] at hr
    rw [if_neg (Int32.not_le.mpr c1)]
    exact ⟨w.1, hr (by decide) h (FT_refl h)⟩
  · rw [if_pos (Int32.not_lt.mp c1)]
    simp only [w, true_and]
    have e15 : gI h 3 1 - gI h 3 5 = nI (opZ s.1).length := by
      rw [L.2.2.1.2.1, (PB I).2.2.1]
      have hl : (opZ s.1).length + (zB s).length = Cw (zC s) := hl
      rw [nI_subI (by omega)]
      congr 1
      omega
    rw [e15]
    by_cases c2 : (opZ s.1).length ≤ 5
    · have e : noO s.1 x = 0 := by unfold noO; rw [if_neg c1, if_pos c2]
      have hv' := hv e
      have fb := fac_5 c2
      have fp := fac_pos (opZ s.1).length
      rw [if_pos (show nI (opZ s.1).length ≤ 5 from nI_le (b := 5) c2 (by decide)), s_P_fac c2]
      have Db := fun k (hk : k < fac (opZ s.1).length) => ordD_bd o.1 c2 hk
      refine hp (A := fun j h' => FT h h' ∧ (1 ≤ j → ∀ i, i < (opZ s.1).length → gI h' 122 i = nI (ordW s.1 (orN (ordD s.1) j).1 i))) (X := fun j h' => ∀ q6, wp m_P_order h' 52 [some (.ref 2), some (.int x), some (.int (nI (opZ s.1).length)), some (.int (orN (ordD s.1) j).2), some (.int (nI (fac (opZ s.1).length))), some (.int (nI j)), q6] [] (tyI k)) (fac (opZ s.1).length) ?_ ?_ 0 (Nat.zero_le _) h ⟨FT_refl h, fun z => absurd z (by decide)⟩ none
      · intro h' ⟨F', e'⟩ q6
        have w' := pw (IP_FT I F').1
        have hv2 := hv' h' F'
        unfold v_order at hv2
        rw [e_P_order_52, if_pos (Int32.le_refl _)]
        simp only [w', true_and, e_P_order_144, e_P_order_146]
        by_cases y : x = -1
        · rw [if_pos y] at hv2
          rw [if_neg (fun z => z y)]
          exact hv2
        · rw [if_neg y] at hv2
          rw [if_pos y]
          by_cases y2 : nI (opZ s.1).length ≤ x
          · rw [if_pos y2] at hv2
            rw [if_pos y2]
            exact hv2
          · rw [if_neg y2] at hv2
            rw [if_neg y2]
            have x0 : ¬ x < 0 := fun z => y (ord_m1 c1 z)
            obtain ⟨i, hi, rfl⟩ := on_nI (x := x) (n := (opZ s.1).length) (by omega) (fun z => z.elim x0 y2)
            rw [ix_nI (by omega)] at hv2
            rw [show Int32.ofNat 5 = nI 5 from rfl, if_neg (nI_ge (show i < 5 by omega) (by decide)), ix_nI (by omega), e' fp i hi]
            exact ⟨by decide, ⟨Or.inl trivial, inb_nI (show i < 5 by omega) (by decide)⟩, hv2⟩
      · intro j hj h' ⟨F', e'⟩ ih q6
        have w' := pw (IP_FT I F').1
        rw [e_P_order_52, if_neg (nI_ge hj (by omega))]
        refine ⟨w'.1, t_P_arrange I F' o c2 hj fun h1 F1 k1 e1 => ⟨(pw (IP_FT I F1).1).1, ?_⟩⟩
        refine t_P_debtsAsTried I F1 o c2 (W := ordW s.1 j) (fun i hi => ⟨ordW_lt h6 c2 hj hi, e1 i hi⟩) fun h2 F2 k2 k3 => ?_
        have w2 := pw (IP_FT I F2).1
        show if (orN (ordD s.1) j).2 ≤ ordD s.1 j then _ else _
        simp only [e_P_order_108, nI_1]
        by_cases y : ordD s.1 j < (orN (ordD s.1) j).2
        · rw [if_neg (Int32.not_le.mpr y)]
          have en : orN (ordD s.1) (j + 1) = (j, ordD s.1 j) := if_pos y
          have fr3 : Fr (fun b => b = 122) (fun _ => False) h2 (cpI h2 121 122 0 0 5) := Fr_cpI _ _ _ _ _ _ rfl
          have ih' := ih (cpI h2 121 122 0 0 5) ⟨FT_trans F2 (FT_of fr3 (fun b x => by omega) (fun b x => x.elim)), fun _ i hi => by
            rw [en, gI_cpI, if_pos ⟨rfl, by omega, by omega⟩, show 0 + (i - 0) = i by omega, k2]
            exact e1 i hi⟩
          rw [en] at ih'
          simp only [w2, true_and]
          rw [if_neg (show ¬ Int32.ofNat 5 < Int32.ofNat 5 by decide)]
          exact ⟨by decide, by decide, by decide, ih' _⟩
        · rw [if_pos (Int32.not_lt.mp y)]
          have en : orN (ordD s.1) (j + 1) = orN (ordD s.1) j := if_neg y
          have j1 : 1 ≤ j := by
            refine Nat.one_le_iff_ne_zero.mpr fun z => ?_
            subst z
            obtain ⟨d, hd, _, d2⟩ := bd_of (Db 0 hj)
            exact y (show ordD s.1 0 < 2147483647 from by rw [hd]; exact nI_lt (b := 2147483647) (by omega) (by decide))
          have ih' := ih h2 ⟨F2, fun _ i hi => by rw [en, k3, k1]; exact e' j1 i hi⟩
          rw [en] at ih'
          exact ih' _
    · have e : noO s.1 x = -3 := by unfold noO; rw [if_neg c1, if_neg c2]
      rw [e] at hr
      have hl : (opZ s.1).length + (zB s).length = Cw (zC s) := hl
      rw [if_neg (show ¬ nI (opZ s.1).length ≤ 5 from nI_ge (a := 5) (by omega) (by omega))]
      exact hr (by decide) h (FT_refl h)
end OrdP
