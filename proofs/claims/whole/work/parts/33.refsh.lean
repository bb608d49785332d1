/-! ===== the reference lays shares ===== -/
theorem n5 {i : Nat} (h : i < 5) : ¬ (5 : Int32) ≤ nI i := nI_ge (b := 5) h (by decide)
theorem n6 {i : Nat} (h : i < 6) : ¬ (6 : Int32) ≤ nI i := nI_ge (b := 6) h (by decide)
section RefSh
variable {h : PH} {c : Core}
theorem t_Q_layParts (L : Liv h c) {w : Nat} (hw : w < Cw c) {k : PH → Prop} (hk : ∀ h', Fs (fun b _ => b = 134) h h' → (∀ f, f < 5 → gI h' 134 f = ptC c (Ck c w) f) → k h') : ccV m_Q_layParts h [.ref 123, .int (nI w)] k := by
  have q := qw L.1
  have h5 := L.2.1.1
  have h6 := L.2.1.2
  have h0 := L.2.2.1.1
  have r0 := (L.2.2.2.2 w hw).1
  rw [c_Q_layParts, ix_nI (by omega)]
  simp only [q, true_and, true_or, inb_nI (show w < 6 by omega) (show 6 < 2 ^ 31 by decide), r0]
  generalize hr : Ck c w = r
  have main : ∀ q5, wp m_Q_layParts h 54 [some (.ref 123), some (.int (nI w)), some (.int (r 0)), some (.int (withC c)), some (.int (nI 0)), q5] [] (tyV k) := by
    refine hp (A := fun i h' => Fs (fun b _ => b = 134) h h' ∧ ∀ f, f < i → gI h' 134 f = ptC c r f)
      (X := fun i h' => ∀ q5, wp m_Q_layParts h' 54 [some (.ref 123), some (.int (nI w)), some (.int (r 0)), some (.int (withC c)), some (.int (nI i)), q5] [] (tyV k)) 5 ?_ ?_ 0 (Nat.zero_le _) h ⟨Fs_refl _ _, fun f hf => absurd hf (by omega)⟩
    · intro h' ⟨fr, e⟩ q5
      rw [e_Q_layParts_54, if_pos (show (5 : Int32) ≤ nI 5 by decide)]
      exact hk h' fr (by rw [hr]; exact e)
    · intro i hi h' ⟨fr, e⟩ ih q5
      have bi := inb_nI hi (show 5 < 2 ^ 31 by decide)
      have xi := ix_nI (show i < 2 ^ 31 by omega)
      have step : ∀ (h2 : PH) (y l5 : Int32), Fs (fun b _ => b = 134) h h2 → (∀ f, f < i → gI h2 134 f = ptC c r f) → y = ptC c r i →
          wp m_Q_layParts h2 215 [some (.ref 123), some (.int (nI w)), some (.int (r 0)), some (.int (withC c)), some (.int (nI i)), some (.int l5)] [.int y, .int (nI i), .ref 134] (tyV k) := by
        intro h2 y l5 fr2 e2 hy
        have q2 := qw (isQ_fs L.1 fr2)
        rw [e_Q_layParts_215, xi]
        simp only [q2, true_and, bi, nI_1]
        refine ih _ ⟨Fs_trans fr2 (Fs_sI _ _ _ _ rfl), fun f hf => ?_⟩ _
        by_cases d : f = i
        · subst d; rw [gI_sI_eq, hy]
        · rw [gI_sI_ne _ _ _ _ (fun z => d z.2)]; exact e2 f (by omega)
      have s172 : ∀ (h2 : PH) (y l5 : Int32), Fs (fun b _ => b = 134) h h2 → (∀ f, f < i → gI h2 134 f = ptC c r f) → (¬ r 0 = 4 → y = ptC c r i) →
          wp m_Q_layParts h2 172 [some (.ref 123), some (.int (nI w)), some (.int (r 0)), some (.int (withC c)), some (.int (nI i)), some (.int l5)] [.int y, .int (nI i), .ref 134] (tyV k) := by
        intro h2 y l5 fr2 e2 hy
        have q2 := qw (isQ_fs L.1 fr2)
        have fr3 : Fs (fun b _ => b = 134) h2 (sI h2 134 i y) := Fs_sI _ _ _ _ rfl
        have e3 : ∀ f, f < i → gI (sI h2 134 i y) 134 f = ptC c r f := fun f hf => by rw [gI_sI_ne _ _ _ _ (fun z => absurd z.2 (Nat.ne_of_lt hf))]; exact e2 f hf
        have L3 : Liv (sI h2 134 i y) c := Liv_fs L (Fs_trans fr2 fr3) (fun b j z => by unfold LRg; omega)
        have q3 := qw L3.1
        have h03 := L3.2.2.1.1
        rw [e_Q_layParts_172, xi]
        simp only [q2, q3, true_and, true_or, bi, xi, gI_sI_eq, e_Q_layParts_204]
        by_cases d : r 0 = 4
        · rw [if_neg (fun z => z d), s_Q_leastDebt L3]
          have hp0 : ptC c r i = if i < Cf c then (if i = leastC c then 1 else 0) else 0 := by
            unfold ptC; by_cases e : i < Cf c
            · rw [if_pos e, if_pos e, d, if_neg (by decide), if_neg (by decide), if_pos rfl]
            · rw [if_neg e, if_neg e]
          have hb : leastC c < 5 := bst_5 _ h5
          simp only [q3, true_and, h03]
          by_cases d2 : i = leastC c
          · rw [if_neg (fun z => z (by rw [← d2]))]
            by_cases d3 : Cf c = 0
            · rw [if_pos (by rw [d3]; decide)]
              exact step _ _ _ (Fs_trans fr2 fr3) e3 (by rw [hp0, if_neg (by omega)])
            · rw [if_neg (nI_nle (by omega) (by omega))]
              have : leastC c < Cf c := bst_lt1 _ _ (by omega)
              exact step _ _ _ (Fs_trans fr2 fr3) e3 (by rw [hp0, if_pos (by omega), if_pos d2])
          · rw [if_pos (fun z => d2 ((nI_eq (by omega) (by omega)).mp z))]
            exact step _ _ _ (Fs_trans fr2 fr3) e3 (by rw [hp0, if_neg d2]; split <;> rfl)
        · rw [if_pos d]
          exact step _ _ _ (Fs_trans fr2 fr3) e3 (hy d)
      have s129 : ∀ (y l5 : Int32), (¬ r 0 = 2 → ¬ r 0 = 4 → y = ptC c r i) →
          wp m_Q_layParts h' 129 [some (.ref 123), some (.int (nI w)), some (.int (r 0)), some (.int (withC c)), some (.int (nI i)), some (.int l5)] [.int y, .int (nI i), .ref 134] (tyV k) := by
        intro y l5 hy
        have q2 := qw (isQ_fs L.1 fr)
        have fr3 : Fs (fun b _ => b = 134) h' (sI h' 134 i y) := Fs_sI _ _ _ _ rfl
        have e3 : ∀ f, f < i → gI (sI h' 134 i y) 134 f = ptC c r f := fun f hf => by rw [gI_sI_ne _ _ _ _ (fun z => absurd z.2 (Nat.ne_of_lt hf))]; exact e f hf
        have L3 : Liv (sI h' 134 i y) c := Liv_fs L (Fs_trans fr fr3) (fun b j z => by unfold LRg; omega)
        have q3 := qw L3.1
        have h03 := L3.2.2.1.1
        rw [e_Q_layParts_129, xi]
        simp only [q2, q3, true_and, true_or, bi, xi, gI_sI_eq, e_Q_layParts_161]
        by_cases d : r 0 = 2
        · rw [if_neg (fun z => z d), s_Q_mostHeads L3]
          have hp0 : ptC c r i = if i < Cf c then (if i = mostC c then 1 else 0) else 0 := by
            unfold ptC; by_cases e : i < Cf c
            · rw [if_pos e, if_pos e, d, if_neg (by decide), if_pos rfl]
            · rw [if_neg e, if_neg e]
          have n4 : ¬ r 0 = 4 := by rw [d]; decide
          have hb : mostC c < 5 := bst_5 _ h5
          simp only [q3, true_and, h03]
          by_cases d2 : i = mostC c
          · rw [if_neg (fun z => z (by rw [← d2]))]
            by_cases d3 : Cf c = 0
            · rw [if_pos (by rw [d3]; decide)]
              exact s172 _ _ _ (Fs_trans fr fr3) e3 (fun _ => by rw [hp0, if_neg (by omega)])
            · rw [if_neg (nI_nle (by omega) (by omega))]
              have : mostC c < Cf c := bst_lt1 _ _ (by omega)
              exact s172 _ _ _ (Fs_trans fr fr3) e3 (fun _ => by rw [hp0, if_pos (by omega), if_pos d2])
          · rw [if_pos (fun z => d2 ((nI_eq (by omega) (by omega)).mp z))]
            exact s172 _ _ _ (Fs_trans fr fr3) e3 (fun _ => by rw [hp0, if_neg d2]; split <;> rfl)
        · rw [if_pos d]
          exact s172 _ _ _ (Fs_trans fr fr3) e3 (fun d4 => hy d d4)
      have L' : Liv h' c := Liv_fs L fr (fun b j z => by unfold LRg; omega)
      have q' := qw L'.1
      have h0' := L'.2.2.1.1
      have s84 : ∀ y : Int32, (y = if r 0 = 3 ∧ ¬ withC c = 0 ∧ gI h' 127 i ≤ 0 then 0 else 1) →
          wp m_Q_layParts h' 84 [some (.ref 123), some (.int (nI w)), some (.int (r 0)), some (.int (withC c)), some (.int (nI i)), q5] [.int y] (tyV k) := by
        intro y hy
        rw [e_Q_layParts_84, xi]
        simp only [q', true_and, true_or, bi, h0']
        by_cases d : i < Cf c
        · have rw4 := L'.2.2.2.1 i d
          rw [if_pos (nI_lt d (by omega))]
          by_cases d0 : r 0 = 0
          · rw [if_neg (fun z => z d0)]
            exact s129 _ _ (fun _ _ => by unfold ptC; rw [if_pos d, if_pos d0])
          · rw [if_pos d0]
            rw [rw4.2.2.2] at hy
            by_cases d1 : r 0 = 3 ∧ ¬ withC c = 0 ∧ Cm c i 3 ≤ 0
            · rw [if_pos d1] at hy
              rw [if_pos hy]
              exact s129 _ _ (fun a b => by unfold ptC; rw [if_pos d, if_neg d0, if_neg a, if_neg b, if_pos d1])
            · rw [if_neg d1] at hy
              rw [if_neg (by rw [hy]; decide), rw4.1]
              exact s129 _ _ (fun a b => by unfold ptC; rw [if_pos d, if_neg d0, if_neg a, if_neg b, if_neg d1])
        · rw [if_neg (nI_nlt (by omega) (by omega))]
          exact s129 _ _ (fun _ _ => by unfold ptC; rw [if_neg d])
      rw [e_Q_layParts_54, if_neg (n5 hi)]
      simp only [q', true_and, true_or, bi, xi, e_Q_layParts_79]
      by_cases d3 : r 0 = 3
      · rw [if_neg (fun z => z d3)]
        by_cases dw : withC c = 0
        · rw [if_pos dw]
          exact s84 _ (by rw [if_neg (fun z => z.2.1 dw)])
        · rw [if_neg dw]
          by_cases db : gI h' 127 i ≤ 0
          · rw [if_pos db]
            exact s84 _ (by rw [if_pos ⟨d3, dw, db⟩])
          · rw [if_neg db]
            exact s84 _ (by rw [if_neg (fun z => db z.2.2)])
      · rw [if_pos d3]
        exact s84 _ (by rw [if_neg (fun z => d3 z.1)])
  refine (lp (fun i => wp m_Q_layParts h 12 [some (.ref 123), some (.int (nI w)), some (.int (r 0)), some (.int (sumN (fun f => if Cm c f 3 ≤ 0 then 0 else Cm c f 0) i)), some (.int (nI i)), none] [] (tyV k)) (Cf c) fun i hi => ?_).mpr ?_
  · rw [e_Q_layParts_12, h0, if_neg (nI_ge hi (by omega)), ix_nI (by omega)]
    simp only [q, true_and, true_or, inb_nI (show i < 5 by omega) (show 5 < 2 ^ 31 by decide), (L.2.2.2.1 i hi).1, (L.2.2.2.1 i hi).2.2.2, e_Q_layParts_43, nI_1, sumN]
    by_cases d : Cm c i 3 ≤ 0 <;> simp only [d, if_true, if_false]
  · rw [e_Q_layParts_12, h0, if_pos (Int32.le_refl _)]
    exact ⟨q.1, main _⟩
theorem t_Q_layShares (L : Liv h c) (o : okC c) {w : Nat} (hw : w < Cw c) {k : PH → Prop} (hk : ∀ h', Fs (fun b _ => b = 133 ∨ b = 134) h h' → (∀ f, f < 5 → gI h' 133 f = shareC c (Ck c w) f) → k h') : ccV m_Q_layShares h [.ref 123, .int (nI w)] k := by
  rw [c_Q_layShares]
  refine ⟨L.1.1, t_Q_layParts L hw fun h1 fr1 e1 => ?_⟩
  have L1 : Liv h1 c := Liv_fs L fr1 (fun b j z => by unfold LRg; omega)
  have q1 := qw L1.1
  rw [s_Q_dueOf L1 o hw]
  refine ⟨q1.1, ?_⟩
  generalize Ck c w = r at e1 hk ⊢
  refine (lp (fun i => wp m_Q_layShares h1 16 [some (.ref 123), some (.int (nI w)), some (.int (dueW r)), some (.int (sumN (ptC c r) i)), some (.int (nI i)), none, none] [] (tyV k)) 5 fun i hi => ?_).mpr ?_
  · rw [e_Q_layShares_16, if_neg (n5 hi), ix_nI (by omega)]
    simp only [q1, true_and, true_or, inb_nI hi (show 5 < 2 ^ 31 by decide), e1 i hi, nI_1]
    rfl
  rw [e_Q_layShares_16, if_pos (show (5 : Int32) ≤ nI 5 by decide)]
  refine hp (A := fun i h' => Fs (fun b _ => b = 133) h1 h' ∧ ∀ f, f < i → gI h' 133 f = baseC c r f)
    (X := fun i h' => wp m_Q_layShares h' 44 [some (.ref 123), some (.int (nI w)), some (.int (dueW r)), some (.int (allP c r)), some (.int (lftN (baseC c r) (dueW r) i)), some (.int (nI i)), none] [] (tyV k)) 5 ?_ ?_ 0 (Nat.zero_le _) h1 ⟨Fs_refl _ _, fun f hf => absurd hf (by omega)⟩
  · intro h' ⟨fr, e⟩
    rw [e_Q_layShares_44, if_pos (show (5 : Int32) ≤ nI 5 by decide)]
    refine hp (A := fun i h2 => Fs (fun b _ => b = 133) h1 h2 ∧ ∀ f, f < 5 → gI h2 133 f = if f < i then shareC c r f else baseC c r f)
      (X := fun i h2 => ∀ q6, wp m_Q_layShares h2 97 [some (.ref 123), some (.int (nI w)), some (.int (dueW r)), some (.int (allP c r)), some (.int (rstN (getsC c r) (lftN (baseC c r) (dueW r) 5) i)), some (.int (nI i)), q6] [] (tyV k)) 5 ?_ ?_ 0 (Nat.zero_le _) h' ⟨fr, fun f hf => by rw [if_neg (by omega)]; exact e f hf⟩ none
    · intro h2 ⟨fr2, e2⟩ q6
      rw [e_Q_layShares_97, if_pos (show (5 : Int32) ≤ nI 5 by decide)]
      exact hk h2 (Fs_trans (Fs_mono fr1 (fun b j z => Or.inr z)) (Fs_mono fr2 (fun b j z => Or.inl z))) fun f hf => by rw [e2 f hf, if_pos hf]
    · intro i hi h2 ⟨fr2, e2⟩ ih q6
      have q2 := qw (isQ_fs L1.1 fr2)
      have bi := inb_nI hi (show 5 < 2 ^ 31 by decide)
      have xi := ix_nI (show i < 2 ^ 31 by omega)
      have hpt : gI h2 134 i = ptC c r i := by rw [fr2.2.2.2 134 i (by omega)]; exact e1 i hi
      have s127 : ∀ y : Int32, y = oneN (getsC c r) (lftN (baseC c r) (dueW r) 5) i → rstN (getsC c r) (lftN (baseC c r) (dueW r) 5) i - y = rstN (getsC c r) (lftN (baseC c r) (dueW r) 5) (i + 1) → (y = 0 ∨ y = 1) →
          wp m_Q_layShares h2 127 [some (.ref 123), some (.int (nI w)), some (.int (dueW r)), some (.int (allP c r)), some (.int (rstN (getsC c r) (lftN (baseC c r) (dueW r) 5) i)), some (.int (nI i)), q6] [.int y] (tyV k) := by
        intro y hy hr1 h01
        rw [e_Q_layShares_127, xi]
        simp only [q2, true_and, true_or, bi, e_Q_layShares_147, e_Q_layShares_161, xi, nI_1, e2 i hi, if_neg (Nat.lt_irrefl i)]
        have fin : wp m_Q_layShares (sI h2 133 i (baseC c r i + y)) 97 [some (.ref 123), some (.int (nI w)), some (.int (dueW r)), some (.int (allP c r)), some (.int (rstN (getsC c r) (lftN (baseC c r) (dueW r) 5) i - y)), some (.int (nI (i + 1))), some (.int y)] [] (tyV k) := by
          rw [hr1]
          refine ih _ ⟨Fs_trans fr2 (Fs_sI _ _ _ _ rfl), fun f hf => ?_⟩ _
          by_cases d : f = i
          · subst d; rw [gI_sI_eq, if_pos (Nat.lt_succ_self _), hy]; rfl
          · rw [gI_sI_ne _ _ _ _ (fun z => d z.2), e2 f hf]
            by_cases d2 : f < i
            · rw [if_pos d2, if_pos (by omega)]
            · rw [if_neg d2, if_neg (by omega)]
        rcases h01 with rfl | rfl
        · rw [if_pos rfl, if_pos rfl]; exact fin
        · rw [if_neg (by decide), if_neg (by decide)]; exact fin
      have g0 : ¬ (getsC c r i = true ∧ ¬ rstN (getsC c r) (lftN (baseC c r) (dueW r) 5) i ≤ 0) → wp m_Q_layShares h2 127 [some (.ref 123), some (.int (nI w)), some (.int (dueW r)), some (.int (allP c r)), some (.int (rstN (getsC c r) (lftN (baseC c r) (dueW r) 5) i)), some (.int (nI i)), q6] [.int 0] (tyV k) := fun n =>
        s127 0 (by unfold oneN; rw [if_neg n]) (by rw [Int32.sub_zero, rstN, if_neg n]) (Or.inl rfl)
      rw [e_Q_layShares_97, if_neg (n5 hi), xi]
      simp only [q2, true_and, true_or, bi, hpt, e_Q_layShares_126]
      by_cases d1 : allP c r ≤ 0
      · rw [if_pos d1]
        exact g0 (fun z => (of_decide_eq_true z.1).1 d1)
      · rw [if_neg d1]
        by_cases d2 : rstN (getsC c r) (lftN (baseC c r) (dueW r) 5) i ≤ 0
        · rw [if_pos d2]
          exact g0 (fun z => z.2 d2)
        · rw [if_neg d2]
          by_cases d3 : ptC c r i ≤ 0
          · rw [if_pos d3]
            exact g0 (fun z => (of_decide_eq_true z.1).2 d3)
          · rw [if_neg d3]
            have n : getsC c r i = true ∧ ¬ rstN (getsC c r) (lftN (baseC c r) (dueW r) 5) i ≤ 0 := ⟨decide_eq_true ⟨d1, d3⟩, d2⟩
            exact s127 1 (by unfold oneN; rw [if_pos n]) (by rw [rstN, if_pos n]) (Or.inr rfl)
  · intro i hi h' ⟨fr, e⟩ ih
    have q2 := qw (isQ_fs L1.1 fr)
    have bi := inb_nI hi (show 5 < 2 ^ 31 by decide)
    have xi := ix_nI (show i < 2 ^ 31 by omega)
    have hpt : gI h' 134 i = ptC c r i := by rw [fr.2.2.2 134 i (by omega)]; exact e1 i hi
    have s75 : ∀ y : Int32, y = baseC c r i → wp m_Q_layShares h' 75 [some (.ref 123), some (.int (nI w)), some (.int (dueW r)), some (.int (allP c r)), some (.int (lftN (baseC c r) (dueW r) i)), some (.int (nI i)), none] [.int y, .int (nI i), .ref 133] (tyV k) := by
      intro y hy
      rw [e_Q_layShares_75, xi]
      simp only [tg_sI, ln_sI, gR_sI, q2, true_and, true_or, bi, gI_sI_eq, nI_1]
      rw [hy]
      refine ih _ ⟨Fs_trans fr (Fs_sI _ _ _ _ rfl), fun f hf => ?_⟩
      by_cases d : f = i
      · subst d; rw [gI_sI_eq]
      · rw [gI_sI_ne _ _ _ _ (fun z => d z.2)]; exact e f (by omega)
    rw [e_Q_layShares_44, if_neg (n5 hi), xi]
    simp only [q2, true_and, true_or, bi, hpt]
    by_cases d : allP c r = 0
    · rw [if_neg (fun z => z d)]
      exact s75 _ (by unfold baseC; rw [if_pos d])
    · rw [if_pos d]
      exact ⟨d, s75 _ (by unfold baseC; rw [if_neg d])⟩
end RefSh
