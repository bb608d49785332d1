/-! ===== the class: jubilee, one more, common pay, mergers, treaty, cheapest, share, pulled down ===== -/
def jubC (c : Core) (f : Nat) : Core := cM c (setM (Cm c) f (rs (Cm c f) 1 0))
def v_jubilee (c : Core) (n : Nat) : Int32 := (mnF (-9) 2147483647 (fun _ => true) (fun f => debtsC (goC n (jubC c f))) (Cf c)).1
def v_oneMore (z : Zl) (n : Nat) : Int32 := (mnF (-9) 2147483647 (fun w => decide (w ∉ z.2)) (fun w => debtsC (goC n (chargeC z.1 (Ck z.1 w)))) (Cw z.1)).1
def payC (c : Core) (x : Int32) : Core := cM c (fun f => rs (Cm c f) 2 x)
def v_common (c : Core) (n : Nat) (v : Int32) : Int32 := fstF (fun p => decide (¬ v < debtsC (goC n (payC c (nI p))))) 0 10
def mergeR (c : Core) (a b : Nat) : Row := rOwe (Cm c b 1) (rs (Cm c a) 0 (if Cm c a 0 + Cm c b 0 < 20 then Cm c a 0 + Cm c b 0 else 20))
def v_merger (c : Core) (a b n : Nat) : Int32 := hoR (rYears (Cr c) (Cy c) n (mergeR c a b))
def mrgU (c : Core) (n a b : Nat) (st : Int32 × Int32) : Int32 × Int32 := mnU st (decide (¬ hoR (Cm (goC n c) a) ≤ v_merger c a b n ∧ ¬ hoR (Cm (goC n c) b) ≤ v_merger c a b n)) (10 * nI a + nI b) (v_merger c a b n)
def mrgI (c : Core) (n a : Nat) (st : Int32 × Int32) : Nat → Int32 × Int32
  | 0 => st
  | k + 1 => mrgU c n a (a + 1 + k) (mrgI c n a st k)
def mrgO (c : Core) (n : Nat) (M : Int32) : Nat → Int32 × Int32
  | 0 => (-9, M)
  | a + 1 => mrgI c n a (mrgO c n M a) (Cf c - (a + 1))
def costR (c : Core) (f n : Nat) (p : Int32) : Int32 := rYears (Cr c) (Cy c) n (rs (fz (Cm c f)) 2 p) 5 + rYears (Cr c) (Cy c) n (rs (fz (Cm c f)) 2 p) 1
def v_sign (c : Core) (f n : Nat) : Int32 := if costR c f n (Cm c f 2) ≤ costR c f n (if Cm c f 2 + 1 < 9 then Cm c f 2 + 1 else 9) then 0 else 1
def chpN (c : Core) : Nat → Int32
  | 0 => -9
  | f + 1 => if chpN c f = -9 then nI f else if Cm c (ix (chpN c f)) 1 * Cm c f 0 ≤ Cm c f 1 * Cm c (ix (chpN c f)) 0 then chpN c f else nI f
theorem chpN_in (c : Core) : ∀ n, chpN c n = -9 ∨ ∃ g, g < n ∧ chpN c n = nI g
  | 0 => Or.inl rfl
  | n + 1 => by
    rcases chpN_in c n with e | ⟨g, hg, e⟩
    · unfold chpN; rw [e, if_pos rfl]; exact Or.inr ⟨n, by omega, rfl⟩
    · unfold chpN
      split
      · exact Or.inr ⟨n, by omega, rfl⟩
      · split
        · exact Or.inr ⟨g, by omega, e⟩
        · exact Or.inr ⟨n, by omega, rfl⟩
def v_born (c : Core) (n : Nat) : Int32 := sumN (fun f => rYears (Cr c) (Cy c) n (fz (Cm c f)) 6) (Cf c)
section P4
variable {h h0 : PH} {s : Sta} {c : Core} {f n : Nat}
theorem t_P_jubilee (o : okS s) (y : Int32) : PQ m_P_jubilee [.int y] s (outN y 0 100) (v_jubilee (zC s) (ix y)) := by
  intro h k I hr hv
  have w := pw I.1
  rw [c_P_jubilee, s_P_notAhead]
  by_cases c : outN y 0 100 = 0
  · obtain ⟨n, hn, rfl, _, hn2⟩ := outN_0 (lo := 0) (hi := 100) (by decide) c
    have hv' := hv c
    rw [ix_nI hn] at hv'
    have h5 := okf o
    rw [if_pos c]
    unfold v_jubilee at hv'
    generalize outN (nI n) 0 100 = t
    generalize hg : (fun f => debtsC (goC n (jubC (zC s) f))) = g at hv'
    refine hp (A := fun j h' => FT h h') (X := fun j h' => ∀ q, wp m_P_jubilee h' 25 [some (.ref 2), some (.int (nI n)), some (.int t), some (.int (mnF (-9) 2147483647 (fun _ => true) g j).1), some (.int (mnF (-9) 2147483647 (fun _ => true) g j).2), some (.int (nI j)), q] [] (tyI k)) (Cf (zC s)) ?_ ?_ 0 (Nat.zero_le _) h (FT_refl h) none
    · intro h' F' q
      have I' := IP_FT I F'
      have w' := pw I'.1
      rw [e_P_jubilee_25]
      simp only [w', true_and]
      rw [(PL I').2.2.1.1, if_pos (Int32.le_refl _)]
      exact hv' h' F'
    · intro j hj h' F' ih q
      have I' := IP_FT I F'
      have w' := pw I'.1
      rw [e_P_jubilee_25]
      simp only [w', true_and]
      rw [(PL I').2.2.1.1, if_neg (nI_ge hj (by omega))]
      refine t_mind_copy I F' fun h1 F1 L1 _ => ?_
      have w1 := pw (IP_FT I F1).1
      simp only [w1, true_and]
      rw [Led_at L1 (by omega)]
      have q2 := mind_set F1 L1 hj 1 0
      have w2 := pw (IP_FT I q2.1).1
      simp only [Led_tgf L1 (show j < 5 by omega), w2, true_and]
      refine t_mind_behind q2.1 q2.2 (by omega) fun h3 F3 _ => ?_
      have hgj : debtsC (goC n (cM (zC s) (setM (Cm (zC s)) j (rs (Cm (zC s) j) 1 0)))) = g j := by rw [← hg]; rfl
      rw [hgj]
      have ih' := ih h3 F3
      simp only [mnF, mnU, true_and] at ih'
      simp only [e_P_jubilee_85, nI_1]
      by_cases d : g j < (mnF (-9) 2147483647 (fun _ => true) g j).2
      · rw [if_neg (Int32.not_le.mpr d)]
        rw [if_pos d] at ih'
        exact ih' _
      · rw [if_pos (Int32.not_lt.mp d)]
        rw [if_neg d] at ih'
        exact ih' _
  · rw [if_neg c]
    exact ⟨w.1, hr c h (FT_refl h)⟩
theorem t_P_oneMore (o : okS s) (y : Int32) : PQ m_P_oneMore [.int y] s (outN y 0 100) (v_oneMore s.1 (ix y)) := by
  intro h k I hr hv
  have w := pw I.1
  rw [c_P_oneMore, s_P_notAhead]
  by_cases c : outN y 0 100 = 0
  · obtain ⟨n, hn, rfl, _, hn2⟩ := outN_0 (lo := 0) (hi := 100) (by decide) c
    have hv' := hv c
    rw [ix_nI hn] at hv'
    have h6 := okw o
    rw [if_pos c]
    unfold v_oneMore at hv'
    generalize outN (nI n) 0 100 = t
    generalize hg : (fun w => debtsC (goC n (chargeC (zC s) (Ck (zC s) w)))) = g at hv'
    refine hp (A := fun j h' => FT h h') (X := fun j h' => ∀ q, wp m_P_oneMore h' 25 [some (.ref 2), some (.int (nI n)), some (.int t), some (.int (mnF (-9) 2147483647 (fun w => decide (w ∉ zB s)) g j).1), some (.int (mnF (-9) 2147483647 (fun w => decide (w ∉ zB s)) g j).2), some (.int (nI j)), q] [] (tyI k)) (Cw (zC s)) ?_ ?_ 0 (Nat.zero_le _) h (FT_refl h) none
    · intro h' F' q
      have I' := IP_FT I F'
      have w' := pw I'.1
      rw [e_P_oneMore_25]
      simp only [w', true_and]
      rw [(PL I').2.2.1.2.1, if_pos (Int32.le_refl _)]
      exact hv' h' F'
    · intro j hj h' F' ih q
      have I' := IP_FT I F'
      have w' := pw I'.1
      rw [e_P_oneMore_25]
      simp only [w', true_and]
      rw [(PL I').2.2.1.2.1, if_neg (nI_ge hj (by omega)), s_Ledger_isBuilt (PL I').1 (PB I') (by omega)]
      simp only [e_P_oneMore_96, nI_1, w', true_and]
      by_cases b : j ∈ zB s
      · rw [if_pos b, if_neg (by decide)]
        have ih' := ih h' F'
        simp only [mnF, mnU, decide_eq_true_eq] at ih'
        rw [if_neg (fun z => z.1 b)] at ih'
        exact ih' _
      · rw [if_neg b, if_pos rfl]
        refine t_mind_copy I F' fun h1 F1 L1 _ => ?_
        have w1 := pw (IP_FT I F1).1
        simp only [w1, true_and]
        refine t_mind_charge F1 L1 o.1.1 hj fun h2 F2 L2 => ?_
        have w2 := pw (IP_FT I F2).1
        simp only [w2, true_and]
        refine t_mind_behind F2 L2 (by omega) fun h3 F3 _ => ?_
        have hgj : debtsC (goC n (chargeC (zC s) (Ck (zC s) j))) = g j := by rw [← hg]
        rw [hgj]
        have ih' := ih h3 F3
        simp only [mnF, mnU, decide_eq_true_eq] at ih'
        by_cases d : g j < (mnF (-9) 2147483647 (fun w => decide (w ∉ zB s)) g j).2
        · rw [if_neg (Int32.not_le.mpr d)]
          rw [if_pos ⟨b, d⟩] at ih'
          exact ih' _
        · rw [if_pos (Int32.not_lt.mp d)]
          rw [if_neg (fun z => d z.2)] at ih'
          exact ih' _
  · rw [if_neg c]
    exact ⟨w.1, hr c h (FT_refl h)⟩
theorem t_P_commonPay (o : okS s) (x y : Int32) : PQ m_P_commonPay [.int x, .int y] s (eith x 100 y 99999) (v_common (zC s) (ix x) y) := by
  intro h k I hr hv
  have w := pw I.1
  rw [c_P_commonPay, s_P_eitherOutside]
  by_cases c : eith x 100 y 99999 = 0
  · obtain ⟨n, v, hn, _, rfl, rfl⟩ := eith_0 (M := 100) (N := 99999) (by decide) (by decide) c
    have hv' := hv c
    rw [ix_nI (by omega)] at hv'
    have h5 := okf o
    rw [if_pos c]
    generalize eith (nI n) 100 (nI v) 99999 = t
    unfold v_common at hv'
    generalize hp' : (fun p => decide (¬ nI v < debtsC (goC n (payC (zC s) (nI p))))) = p at hv'
    generalize hV : fstF p 0 10 = V at hv'
    refine hp (A := fun j h' => FT h h' ∧ fstF p j (10 - j) = V) (X := fun j h' => ∀ q, wp m_P_commonPay h' 24 [some (.ref 2), some (.int (nI n)), some (.int (nI v)), some (.int t), some (.int (nI j)), q] [] (tyI k)) 10 ?_ ?_ 0 (Nat.zero_le _) h ⟨FT_refl h, hV⟩ none
    · intro h' ⟨F', hV'⟩ q
      rw [e_P_commonPay_24, if_pos (show (9 : Int32) < nI 10 by decide)]
      have := hv' h' F'
      rw [← hV'] at this
      exact this
    · intro j hj h' ⟨F', hV'⟩ ih q
      have w' := pw (IP_FT I F').1
      rw [e_P_commonPay_24, if_neg (show ¬ (9 : Int32) < nI j from nI_nlt (a := 9) (by omega) (by decide))]
      simp only [w', true_and]
      refine t_mind_copy I F' fun h1 F1 L1 _ => ?_
      refine hp (A := fun i h2 => FT h h2 ∧ Led h2 13 (cM (zC s) (fun f => if f < i then rs (Cm (zC s) f) 2 (nI j) else Cm (zC s) f))) (X := fun i h2 => wp m_P_commonPay h2 45 [some (.ref 2), some (.int (nI n)), some (.int (nI v)), some (.int t), some (.int (nI j)), some (.int (nI i))] [] (tyI k)) (Cf (zC s)) ?_ ?_ 0 (Nat.zero_le _) h1 ⟨F1, Led_ext L1 rfl rfl rfl rfl (fun f _ => ?_) (fun _ _ => rfl)⟩
      · intro h2 ⟨F2, L2⟩
        have w2 := pw (IP_FT I F2).1
        have q0 : gI h2 13 0 = nI (Cf (zC s)) := L2.2.2.1.1
        rw [e_P_commonPay_45]
        simp only [w2, true_and]
        rw [q0, if_pos (Int32.le_refl _)]
        have L2' : Led h2 13 (payC (zC s) (nI j)) := Led_ext L2 rfl rfl rfl rfl (fun f hf => by
          show Ew 4 (if f < Cf (zC s) then _ else _) _
          rw [if_pos (show f < Cf (zC s) from hf)]; exact Ew_refl _ _) (fun _ _ => rfl)
        refine t_mind_behind F2 L2' (by omega) fun h3 F3 _ => ?_
        have hpj : p j = decide (¬ nI v < debtsC (goC n (payC (zC s) (nI j)))) := by rw [← hp']
        rw [fstF_step p hj, hpj] at hV'
        by_cases d : nI v < debtsC (goC n (payC (zC s) (nI j)))
        · rw [if_pos d, nI_1]
          rw [decide_eq_false (fun z => z d), if_neg (by decide)] at hV'
          exact ih h3 ⟨F3, hV'⟩ _
        · rw [if_neg d]
          rw [decide_eq_true d, if_pos rfl] at hV'
          have := hv' h3 F3
          rw [← hV'] at this
          exact this
      · intro i hi h2 ⟨F2, L2⟩ ih2
        have w2 := pw (IP_FT I F2).1
        have q0 : gI h2 13 0 = nI (Cf (zC s)) := L2.2.2.1.1
        rw [e_P_commonPay_45]
        simp only [w2, true_and]
        rw [q0, if_neg (nI_ge hi (by omega)), Led_at L2 (by omega)]
        have q3 := mind_set F2 L2 (f := i) hi 2 (nI j)
        simp only [Led_tgf L2 (show i < 5 by omega), true_and, nI_1]
        refine ih2 _ ⟨q3.1, Led_ext q3.2 rfl rfl rfl rfl (fun f _ => ?_) (fun _ _ => rfl)⟩
        show Ew 4 (setM (fun f => if f < i then rs (Cm (zC s) f) 2 (nI j) else Cm (zC s) f) i (rs (if i < i then rs (Cm (zC s) i) 2 (nI j) else Cm (zC s) i) 2 (nI j)) f) (if f < i + 1 then rs (Cm (zC s) f) 2 (nI j) else Cm (zC s) f)
        unfold setM
        rw [if_neg (Nat.lt_irrefl i)]
        by_cases c1 : f = i
        · subst c1; rw [if_pos rfl, if_pos (Nat.lt_succ_self _)]; exact Ew_refl _ _
        · rw [if_neg c1]
          dsimp only
          by_cases c2 : f < i
          · rw [if_pos c2, if_pos (by omega)]; exact Ew_refl _ _
          · rw [if_neg c2, if_neg (by omega)]; exact Ew_refl _ _
      · show Ew 4 (Cm (zC s) f) (if f < 0 then rs (Cm (zC s) f) 2 (nI j) else Cm (zC s) f)
        rw [if_neg (by omega)]; exact Ew_refl _ _
  · rw [if_neg c]
    exact ⟨w.1, hr c h (FT_refl h)⟩
theorem t_P_merged (I : IP h0 s) (F : FT h0 h) {a b : Nat} (ha : a < Cf (zC s)) (hb : b < Cf (zC s)) (hn : n < 2 ^ 30) {k : PH → Int32 → Prop} (hk : ∀ h', FT h0 h' → k h' (v_merger (zC s) a b n)) : ccI m_P_mergedHeadOwes h [.ref 2, .int (nI a), .int (nI b), .int (nI n)] k := by
  have I1 := IP_FT I F
  have w := pw I1.1
  have L := PL I1
  have h5 := L.2.1.1
  rw [c_P_mergedHeadOwes]
  simp only [w, true_and]
  rw [Led_at L (by omega)]
  simp only [w, true_and]
  rw [Led_at L (by omega)]
  simp only [w, true_and]
  refine t_im_copy I F ha fun h2 F2 e2 _ => ?_
  have I2 := IP_FT I F2
  have w2 := pw I2.1
  have L2 := PL I2
  simp only [w2, true_and, Led_tgf L2 (show b < 5 by omega), tg_sI, gR_sI]
  have g119 : gI h2 119 0 = Cm (zC s) a 0 := (e2 0 (by decide)).trans (fz_e _ 0 (by decide))
  have gb0 : gI h2 (3 + 2 + b) 0 = Cm (zC s) b 0 := L2.2.2.2.1 b hb 0 (by decide)
  rw [g119, gb0]
  have q3 := im_set F2 e2 0 (if Cm (zC s) a 0 + Cm (zC s) b 0 < 20 then Cm (zC s) a 0 + Cm (zC s) b 0 else 20)
  have L3 := PL (IP_FT I q3.1)
  rw [L3.2.2.2.1 b hb 1 (by decide)]
  refine t_im_owe I q3.1 q3.2 fun h4 F4 e4 => ?_
  have I4 := IP_FT I F4
  have w4 := pw I4.1
  simp only [w4, true_and]
  rw [(PL I4).2.2.1.2.2.1, (PL I4).2.2.1.2.2.2]
  refine t_im_years I F4 e4 hn fun h5' F5 e5 _ => ?_
  have I5 := IP_FT I F5
  have w5 := pw I5.1
  simp only [w5, true_and]
  rw [s_im_head I5 e5]
  have : hoR (rYears (Cr (zC s)) (Cy (zC s)) n (rOwe (Cm (zC s) b 1) (rs (fz (Cm (zC s) a)) 0 (if Cm (zC s) a 0 + Cm (zC s) b 0 < 20 then Cm (zC s) a 0 + Cm (zC s) b 0 else 20)))) = v_merger (zC s) a b n :=
    hoR_e (rYears_e (rOwe_e (by decide) (Ew_rs (fz_e _) 0 rfl) _) _ _ (Or.inl rfl) n)
  rw [this]
  exact hk h5' F5
theorem t_P_merger (o : okS s) (x y z : Int32) : PQ m_P_merger [.int x, .int y, .int z] s (th (nTwo (zC s) x y) (outN z 0 100)) (v_merger (zC s) (ix x) (ix y) (ix z)) := by
  intro h k I hr hv
  have w := pw I.1
  rw [c_P_merger]
  refine ⟨w.1, ?_⟩
  rw [s_P_noTwoAhead I]
  simp only [e_P_merger_30]
  by_cases c : th (nTwo (zC s) x y) (outN z 0 100) = 0
  · have c1 := th_0.mp c
    obtain ⟨f, g, hf, hg, _, rfl, rfl⟩ := nTwo_0 (okf o) c1.1
    obtain ⟨n, hn, rfl, _, hn2⟩ := outN_0 (lo := 0) (hi := 100) (by decide) c1.2
    have h5 := okf o
    have hv' := hv c
    rw [ix_nI (show f < 2 ^ 31 by omega), ix_nI (show g < 2 ^ 31 by omega), ix_nI hn] at hv'
    rw [if_pos c]
    exact ⟨w.1, t_P_merged I (FT_refl h) hf hg (by omega) hv'⟩
  · rw [if_neg c]
    exact ⟨w.1, hr c h (FT_refl h)⟩
theorem t_P_bestMerger (o : okS s) (y : Int32) : PQ m_P_bestMerger [.int y] s (outN y 0 100) (mrgO (zC s) (ix y) 2147483647 (Cf (zC s))).1 := by
  intro h k I hr hv
  have w := pw I.1
  rw [c_P_bestMerger, s_P_notAhead]
  by_cases c : outN y 0 100 = 0
  · obtain ⟨n, hn, rfl, _, hn2⟩ := outN_0 (lo := 0) (hi := 100) (by decide) c
    have hv' := hv c
    rw [ix_nI hn] at hv'
    have h5 := okf o
    rw [if_pos c]
    generalize outN (nI n) 0 100 = t
    refine hp (A := fun a h' => FT h h') (X := fun a h' => ∀ q q', wp m_P_bestMerger h' 25 [some (.ref 2), some (.int (nI n)), some (.int t), some (.int (mrgO (zC s) n 2147483647 a).1), some (.int (mrgO (zC s) n 2147483647 a).2), some (.int (nI a)), q, q'] [] (tyI k)) (Cf (zC s)) ?_ ?_ 0 (Nat.zero_le _) h (FT_refl h) none none
    · intro h' F' q q'
      have I' := IP_FT I F'
      have w' := pw I'.1
      rw [e_P_bestMerger_25]
      simp only [w', true_and]
      rw [(PL I').2.2.1.1, if_pos (Int32.le_refl _)]
      exact hv' h' F'
    · intro a ha h' F' ih q q'
      have I' := IP_FT I F'
      have w' := pw I'.1
      rw [e_P_bestMerger_25]
      simp only [w', true_and]
      rw [(PL I').2.2.1.1, if_neg (nI_ge ha (by omega)), nI_1]
      refine hp (A := fun j h2 => FT h h2) (X := fun j h2 => ∀ q', wp m_P_bestMerger h2 43 [some (.ref 2), some (.int (nI n)), some (.int t), some (.int (mrgI (zC s) n a (mrgO (zC s) n 2147483647 a) j).1), some (.int (mrgI (zC s) n a (mrgO (zC s) n 2147483647 a) j).2), some (.int (nI a)), some (.int (nI (a + 1 + j))), q'] [] (tyI k)) (Cf (zC s) - (a + 1)) ?_ ?_ 0 (Nat.zero_le _) h' F' q'
      · intro h2 F2 q2
        have I2 := IP_FT I F2
        have w2 := pw I2.1
        rw [e_P_bestMerger_43]
        simp only [w2, true_and]
        rw [(PL I2).2.2.1.1, if_pos (nI_le (by omega) (by omega)), nI_1]
        exact ih h2 F2 _ _
      · intro j hj h2 F2 ih2 q2
        have I2 := IP_FT I F2
        have w2 := pw I2.1
        have hb : a + 1 + j < Cf (zC s) := by omega
        rw [e_P_bestMerger_43]
        simp only [w2, true_and]
        rw [(PL I2).2.2.1.1, if_neg (nI_ge hb (by omega))]
        refine t_P_merged I F2 ha hb (by omega) fun h3 F3 => ?_
        have w3 := pw (IP_FT I F3).1
        simp only [e_P_bestMerger_110, nI_1, w3, true_and]
        by_cases d : v_merger (zC s) a (a + 1 + j) n < (mrgI (zC s) n a (mrgO (zC s) n 2147483647 a) j).2
        · rw [if_neg (Int32.not_le.mpr d)]
          refine s_P_headOwesBehind I F3 ha (by omega) fun h4 F4 => ?_
          have w4 := pw (IP_FT I F4).1
          simp only [w4, true_and]
          by_cases d2 : hoR (Cm (goC n (zC s)) a) ≤ v_merger (zC s) a (a + 1 + j) n
          · rw [if_pos d2]
            have ih' := ih2 h4 F4
            simp only [mrgI, mrgU, mnU, decide_eq_true_eq] at ih'
            rw [if_neg (fun z => z.1.1 d2)] at ih'
            exact ih' _
          · rw [if_neg d2]
            refine s_P_headOwesBehind I F4 hb (by omega) fun h5' F5 => ?_
            have ih' := ih2 h5' F5
            simp only [mrgI, mrgU, mnU, decide_eq_true_eq] at ih'
            by_cases d3 : hoR (Cm (goC n (zC s)) (a + 1 + j)) ≤ v_merger (zC s) a (a + 1 + j) n
            · rw [if_pos d3]
              rw [if_neg (fun z => z.1.2 d3)] at ih'
              exact ih' _
            · rw [if_neg d3]
              rw [if_pos ⟨⟨d2, d3⟩, d⟩] at ih'
              exact ih' _
        · rw [if_pos (Int32.not_lt.mp d)]
          have ih' := ih2 h3 F3
          simp only [mrgI, mrgU, mnU, decide_eq_true_eq] at ih'
          rw [if_neg (fun z => d z.2)] at ih'
          exact ih' _
  · rw [if_neg c]
    exact ⟨w.1, hr c h (FT_refl h)⟩
theorem t_P_cost (I : IP h0 s) (F : FT h0 h) (hf : f < Cf (zC s)) (hn : n < 2 ^ 30) (p : Int32) {k : PH → Int32 → Prop} (hk : ∀ h', FT h0 h' → k h' (costR (zC s) f n p)) : ccI m_P_costOfPaying h [.ref 2, .int p, .int (nI f), .int (nI n)] k := by
  have I1 := IP_FT I F
  have w := pw I1.1
  have L := PL I1
  have h5 := L.2.1.1
  rw [c_P_costOfPaying]
  simp only [w, true_and]
  rw [Led_at L (by omega)]
  simp only [w, true_and]
  refine t_im_copy I F hf fun h2 F2 e2 _ => ?_
  have q2 := im_set F2 e2 2 p
  have w2 := pw (IP_FT I F2).1
  have I3 := IP_FT I q2.1
  have w3 := pw I3.1
  simp only [w2, w3, true_and]
  rw [(PL I3).2.2.1.2.2.1, (PL I3).2.2.1.2.2.2]
  refine t_im_years I q2.1 q2.2 hn fun h4 F4 e4 _ => ?_
  have w4 := pw (IP_FT I F4).1
  simp only [w4, true_and]
  rw [e4 5 (by decide), e4 1 (by decide)]
  exact hk h4 F4
theorem t_P_signedPay (I : IP h0 s) (F : FT h0 h) (hf : f < Cf (zC s)) (hn : n < 2 ^ 30) {k : PH → Int32 → Prop} (hk : ∀ h', FT h0 h' → k h' (v_sign (zC s) f n)) : ccI m_P_signedPay h [.ref 2, .int (nI f), .int (nI n)] k := by
  have I1 := IP_FT I F
  have w := pw I1.1
  have L := PL I1
  have h5 := L.2.1.1
  rw [c_P_signedPay]
  simp only [w, true_and]
  rw [Led_at L (by omega)]
  simp only [w, true_and, Led_tgf L (show f < 5 by omega), e_P_signedPay_45]
  rw [L.2.2.2.1 f hf 2 (by decide)]
  refine t_P_cost I F hf hn _ fun h2 F2 => ⟨(pw (IP_FT I F2).1).1, t_P_cost I F2 hf hn _ fun h3 F3 => ?_⟩
  have := hk h3 F3
  unfold v_sign at this
  by_cases d : costR (zC s) f n (Cm (zC s) f 2) ≤ costR (zC s) f n (if Cm (zC s) f 2 + 1 < 9 then Cm (zC s) f 2 + 1 else 9)
  · rw [if_pos d]; rw [if_pos d] at this; exact this
  · rw [if_neg d]; rw [if_neg d] at this; exact this
theorem t_P_treaty (o : okS s) (x y z : Int32) : PQ m_P_treaty [.int x, .int y, .int z] s (th (nTwo (zC s) x y) (outN z 0 100)) (10 * v_sign (zC s) (ix x) (ix z) + v_sign (zC s) (ix y) (ix z)) := by
  intro h k I hr hv
  have w := pw I.1
  rw [c_P_treaty]
  refine ⟨w.1, ?_⟩
  rw [s_P_noTwoAhead I]
  simp only [e_P_treaty_39]
  by_cases c : th (nTwo (zC s) x y) (outN z 0 100) = 0
  · have c1 := th_0.mp c
    obtain ⟨f, g, hf, hg, _, rfl, rfl⟩ := nTwo_0 (okf o) c1.1
    obtain ⟨n, hn, rfl, _, hn2⟩ := outN_0 (lo := 0) (hi := 100) (by decide) c1.2
    have h5 := okf o
    have hv' := hv c
    rw [ix_nI (show f < 2 ^ 31 by omega), ix_nI (show g < 2 ^ 31 by omega), ix_nI hn] at hv'
    rw [if_pos c]
    exact ⟨w.1, t_P_signedPay I (FT_refl h) hf (by omega) fun h1 F1 => ⟨(pw (IP_FT I F1).1).1, t_P_signedPay I F1 hg (by omega) fun h2 F2 => hv' h2 F2⟩⟩
  · rw [if_neg c]
    exact ⟨w.1, hr c h (FT_refl h)⟩
theorem t_P_cheapestFamily (I : IP h s) (o : okS s) (k : PH → Int32 → Prop) : ccI m_P_cheapestFamily h [.ref 2] k = k h (chpN (zC s) (Cf (zC s))) := by
  have w := pw I.1
  have L := PL I
  have h5 := okf o
  rw [c_P_cheapestFamily]
  refine (lp (fun i => wp m_P_cheapestFamily h 5 [some (.ref 2), some (.int (chpN (zC s) i)), some (.int (nI i))] [] (tyI k)) (Cf (zC s)) fun i hi => ?_).trans ?_
  · rw [e_P_cheapestFamily_5]
    simp only [w, true_and]
    rw [L.2.2.1.1, if_neg (nI_ge hi (by omega))]
    simp only [e_P_cheapestFamily_44, e_P_cheapestFamily_46, nI_1]
    rcases chpN_in (zC s) i with e | ⟨g, hg, e⟩
    · rw [e, if_pos rfl]
      unfold chpN
      rw [e, if_pos rfl]
    · rw [e, if_neg (nI_n9 (by omega)), Led_at L (by omega)]
      simp only [w, true_and]
      rw [Led_at L (by omega)]
      simp only [Led_tgf L (show i < 5 by omega), true_and]
      rw [s_Family_isCheaperThan (Led_tgf L (by omega)) (Led_tgf L (by omega)), L.2.2.2.1 i hi 0 (by decide), L.2.2.2.1 i hi 1 (by decide), L.2.2.2.1 g (by omega) 0 (by decide), L.2.2.2.1 g (by omega) 1 (by decide)]
      show _ = wp m_P_cheapestFamily h 5 [some (.ref 2), some (.int (if chpN (zC s) i = -9 then nI i else if Cm (zC s) (ix (chpN (zC s) i)) 1 * Cm (zC s) i 0 ≤ Cm (zC s) i 1 * Cm (zC s) (ix (chpN (zC s) i)) 0 then chpN (zC s) i else nI i)), some (.int (nI (i + 1)))] [] (tyI k)
      rw [e, if_neg (nI_n9 (by omega)), ix_nI (by omega)]
      by_cases d : Cm (zC s) g 1 * Cm (zC s) i 0 ≤ Cm (zC s) i 1 * Cm (zC s) g 0
      · rw [if_pos d, if_pos d, if_pos rfl]
      · rw [if_neg d, if_neg d, if_neg (by decide)]
  · rw [e_P_cheapestFamily_5]
    simp only [w, true_and]
    rw [L.2.2.1.1, if_pos (Int32.le_refl _)]
theorem t_P_bornFree (I : IP h0 s) (o : okS s) (F : FT h0 h) (hn : n < 2 ^ 30) {k : PH → Int32 → Prop} (hk : ∀ h', FT h0 h' → k h' (v_born (zC s) n)) : ccI m_P_bornFree h [.ref 2, .int (nI n)] k := by
  have h5 := okf o
  rw [c_P_bornFree]
  refine hp (A := fun _ h' => FT h0 h') (X := fun j h' => wp m_P_bornFree h' 4 [some (.ref 2), some (.int (nI n)), some (.int (sumN (fun f => rYears (Cr (zC s)) (Cy (zC s)) n (fz (Cm (zC s) f)) 6) j)), some (.int (nI j))] [] (tyI k)) (Cf (zC s)) ?_ ?_ 0 (Nat.zero_le _) h F
  · intro h' F'
    have I' := IP_FT I F'
    have w' := pw I'.1
    rw [e_P_bornFree_4]
    simp only [w', true_and]
    rw [(PL I').2.2.1.1, if_pos (Int32.le_refl _)]
    exact hk h' F'
  · intro j hj h' F' ih
    have I' := IP_FT I F'
    have w' := pw I'.1
    rw [e_P_bornFree_4]
    simp only [w', true_and]
    rw [(PL I').2.2.1.1, if_neg (nI_ge hj (by omega))]
    refine t_P_ahead I F' hj hn fun h1 F1 e1 _ => ?_
    have w1 := pw (IP_FT I F1).1
    simp only [w1, true_and, nI_1]
    rw [e1 6 (by decide)]
    exact ih h1 F1
def v_cheapest (c : Core) (y z : Int32) : Int32 := if z = 0 then chpN c (Cf c) else v_born c (ix y)
theorem t_P_cheapest (o : okS s) (y z : Int32) : PQ m_P_cheapest [.int y, .int z] s (th (outN y 0 100) (othN z 1)) (v_cheapest (zC s) y z) := by
  intro h k I hr hv
  have w := pw I.1
  rw [c_P_cheapest, s_P_notAhead]
  simp only [s_P_otherThan]
  refine th_if (X := fun t => wp m_P_cheapest h 15 [some (.ref 2), some (.int y), some (.int z), some (.int t)] [] (tyI k)) ?_
  rw [e_P_cheapest_15]
  simp only [e_P_cheapest_41]
  by_cases c : th (outN y 0 100) (othN z 1) = 0
  · obtain ⟨n, hn, rfl, _, hn2⟩ := outN_0 (lo := 0) (hi := 100) (by decide) (th_0.mp c).1
    have hv' := hv c
    unfold v_cheapest at hv'
    rw [ix_nI hn] at hv'
    rw [if_pos c]
    by_cases d : z = 0
    · rw [if_neg (fun q => q d), t_P_cheapestFamily I o]
      rw [if_pos d] at hv'
      exact ⟨w.1, hv' h (FT_refl h)⟩
    · rw [if_pos d]
      rw [if_neg d] at hv'
      exact ⟨w.1, t_P_bornFree I o (FT_refl h) (by omega) hv'⟩
  · rw [if_neg c]
    exact ⟨w.1, hr c h (FT_refl h)⟩
def nWF (c : Core) (x y : Int32) : Int32 := if offN x (Cw c) ∨ offN y (Cf c) then -1 else 0
theorem nK_WF (c : Core) (x y : Int32) : nWF c x y ≠ 0 → noK (nWF c x y) := by
  unfold nWF noK
  split
  · intro _; simp
  · intro z; exact absurd rfl z
theorem nWF_0 {c : Core} {x y : Int32} (hf : Cf c ≤ 5) (hw : Cw c ≤ 6) (e : nWF c x y = 0) : ∃ w f, w < Cw c ∧ f < Cf c ∧ x = nI w ∧ y = nI f := by
  unfold nWF at e
  by_cases d : offN x (Cw c) ∨ offN y (Cf c)
  · rw [if_pos d] at e; exact absurd e (by decide)
  · obtain ⟨w, h1, rfl⟩ := on_nI (x := x) (by omega) (fun z => d (Or.inl z))
    obtain ⟨f, h2, rfl⟩ := on_nI (x := y) (by omega) (fun z => d (Or.inr z))
    exact ⟨w, f, h1, h2, rfl, rfl⟩
theorem s_P_lacksEither (I : IP h s) (o : okS s) (x y : Int32) (k : PH → Int32 → Prop) : ccI m_Ledger_lacksEither h [.ref 3, .int x, .int y] k = k h (nWF (zC s) x y) := by
  have L := PL I
  exact s_Ledger_lacksEither L.1 L.2.2.1.1 L.2.2.1.2.1 (okw o) (fun w hw => by have := (L.2.2.2.2 w hw).1.1; omega) x y k
theorem t_P_share (o : okS s) (x y : Int32) : PQ m_P_share [.int x, .int y] s (nWF (zC s) x y) (shareC (zC s) (Ck (zC s) (ix x)) (ix y)) := by
  intro h k I hr hv
  have w := pw I.1
  rw [c_P_share]
  simp only [w, true_and]
  rw [s_P_lacksEither I o]
  simp only [w, true_and, e_P_share_31]
  by_cases c : nWF (zC s) x y = 0
  · obtain ⟨v, f, h1, h2, rfl, rfl⟩ := nWF_0 (okf o) (okw o) c
    have h5 := okf o
    have h6 := okw o
    have hv' := hv c
    rw [ix_nI (show v < 2 ^ 31 by omega), ix_nI (show f < 2 ^ 31 by omega)] at hv'
    rw [if_pos c]
    exact s_share I (FT_refl h) o h1 h2 fun h' F' _ _ => hv' h' F'
  · rw [if_neg c]
    exact hr c h (FT_refl h)
def v_pulled (c : Core) (w f n : Nat) : Int32 := Cm (goC n c) f 1 - rYears (Cr c) (Cy c) n (rPay (shareC c (Ck c w) f) (Cm c f)) 1
theorem t_P_pulledDown (o : okS s) (x y z : Int32) : PQ m_P_pulledDown [.int x, .int y, .int z] s (th (nWF (zC s) x y) (outN z 0 100)) (v_pulled (zC s) (ix x) (ix y) (ix z)) := by
  intro h k I hr hv
  have w := pw I.1
  rw [c_P_pulledDown]
  simp only [w, true_and]
  rw [s_P_lacksEither I o]
  simp only [s_P_notAhead]
  refine th_if (X := fun t => wp m_P_pulledDown h 22 [some (.ref 2), some (.int x), some (.int y), some (.int z), some (.int t)] [] (tyI k)) ?_
  rw [e_P_pulledDown_22]
  by_cases c : th (nWF (zC s) x y) (outN z 0 100) = 0
  · have c1 := th_0.mp c
    obtain ⟨v, f, h1, h2, rfl, rfl⟩ := nWF_0 (okf o) (okw o) c1.1
    obtain ⟨n, hn, rfl, _, hn2⟩ := outN_0 (lo := 0) (hi := 100) (by decide) c1.2
    have h5 := okf o
    have h6 := okw o
    have hv' := hv c
    rw [ix_nI (show v < 2 ^ 31 by omega), ix_nI (show f < 2 ^ 31 by omega), ix_nI hn] at hv'
    have L := PL I
    rw [if_pos c]
    simp only [w, true_and]
    rw [Led_at L (by omega)]
    simp only [w, true_and]
    rw [s_Family_copy w.2.2.2.2.1.2.2.2.2.2.1 (Led_tgf L (by omega)) (by omega)]
    have F1 := FT_im2 (FT_refl h) (rCopy (gI h (3 + 2 + f)) (gI h 120))
    have e1 : Ew 4 (gI (wR h 120 (rCopy (gI h (3 + 2 + f)) (gI h 120))) 120) (Cm (zC s) f) := by
      rw [gI_wR]
      exact Ew_trans (Ew_le (by decide) (rCopy_e _ _)) (Ew_trans (fz_e _) (L.2.2.2.1 f h2))
    generalize wR h 120 (rCopy (gI h (3 + 2 + f)) (gI h 120)) = h1' at F1 e1
    have w1 := pw (IP_FT I F1).1
    simp only [w1, true_and]
    refine s_share I F1 o h1 h2 fun h2' F2 _ g2 => ?_
    have w2 := pw (IP_FT I F2).1
    simp only [w2, true_and]
    rw [s_Family_pay w2.2.2.2.2.1.2.2.2.2.2.1, g2]
    have F3 := FT_im2 F2 (rPay (shareC (zC s) (Ck (zC s) v) f) (gI h1' 120))
    have e3 : Ew 4 (gI (wR h2' 120 (rPay (shareC (zC s) (Ck (zC s) v) f) (gI h1' 120))) 120) (rPay (shareC (zC s) (Ck (zC s) v) f) (Cm (zC s) f)) := by
      rw [gI_wR]
      exact rPay_e (by decide) e1 _ (by omega)
    generalize wR h2' 120 (rPay (shareC (zC s) (Ck (zC s) v) f) (gI h1' 120)) = h3 at F3 e3
    have I3 := IP_FT I F3
    have w3 := pw I3.1
    simp only [w3, true_and]
    rw [(PL I3).2.2.1.2.2.1, (PL I3).2.2.1.2.2.2, s_Family_passYears w3.2.2.2.2.1.2.2.2.2.2.1 _ _ (by omega)]
    have F4 := FT_im2 F3 (rYears (Cr (zC s)) (Cy (zC s)) n (gI h3 120))
    have e4 : Ew 4 (gI (wR h3 120 (rYears (Cr (zC s)) (Cy (zC s)) n (gI h3 120))) 120) (rYears (Cr (zC s)) (Cy (zC s)) n (rPay (shareC (zC s) (Ck (zC s) v) f) (Cm (zC s) f))) := by
      rw [gI_wR]
      exact rYears_e e3 _ _ (Or.inl rfl) n
    generalize wR h3 120 (rYears (Cr (zC s)) (Cy (zC s)) n (gI h3 120)) = h4 at F4 e4
    have w4 := pw (IP_FT I F4).1
    refine ⟨w4.1, t_P_ahead I F4 h2 (by omega) fun h5' F5 e5 g5 => ?_⟩
    have w5 := pw (IP_FT I F5).1
    simp only [w5, true_and]
    rw [g5, e4 1 (by decide), e4_go e5 1 (by decide)]
    exact hv' h5' F5
  · rw [if_neg c]
    exact ⟨w.1, hr c h (FT_refl h)⟩
end P4
