/-! ===== the class: reads, signature, building, who built, lots ===== -/
section P7
variable {h h0 : PH} {s : Sta} {c : Core} {f n p : Nat} {r : Row}
theorem wk_kd (R : RgW r) : r 0 = nI 0 ∨ r 0 = nI 1 ∨ r 0 = nI 2 ∨ r 0 = nI 3 ∨ r 0 = nI 4 ∨ r 0 = nI 5 := by
  obtain ⟨kd, h0, _, hk5⟩ := bd_of R.1
  have : kd = 0 ∨ kd = 1 ∨ kd = 2 ∨ kd = 3 ∨ kd = 4 ∨ kd = 5 := by omega
  rcases this with rfl | rfl | rfl | rfl | rfl | rfl <;> simp [h0]
theorem t_kind (W : isWk h p r) (R : RgW r) : ∃ M, find1 (tg h p) [(1, m_Bridge_kind), (2, m_Cradle_kind), (6, m_Pen_kind), (7, m_Ruin_kind), (9, m_War_kind), (10, m_Work_kind)] = some M ∧ ∀ k : PH → Int32 → Prop, ccI M h [.ref p] k = k h (r 0) := by
  obtain ⟨_, ht, _, _⟩ := W
  rcases wk_kd R with e | e | e | e | e | e <;> rw [e] at ht ⊢
  · exact ⟨m_Work_kind, by rw [ht]; rfl, fun k => c_Work_kind h p k⟩
  · exact ⟨m_Bridge_kind, by rw [ht]; rfl, fun k => c_Bridge_kind h p k⟩
  · exact ⟨m_War_kind, by rw [ht]; rfl, fun k => c_War_kind h p k⟩
  · exact ⟨m_Cradle_kind, by rw [ht]; rfl, fun k => c_Cradle_kind h p k⟩
  · exact ⟨m_Pen_kind, by rw [ht]; rfl, fun k => c_Pen_kind h p k⟩
  · exact ⟨m_Ruin_kind, by rw [ht]; rfl, fun k => c_Ruin_kind h p k⟩
theorem t_due (W : isWk h p r) (R : RgW r) : ∃ M, find1 (tg h p) [(1, m_Bridge_due), (2, m_Cradle_due), (6, m_Pen_due), (7, m_Ruin_due), (9, m_War_due), (10, m_Work_due)] = some M ∧ ∀ k : PH → Int32 → Prop, k h (dueW r) → ccI M h [.ref p] k := by
  obtain ⟨_, ht, g0, g1⟩ := W
  unfold dueW
  rw [← g0, ← g1]
  rcases wk_kd R with e | e | e | e | e | e <;> rw [e] at ht ⊢
  · rw [show wtag (nI 0) = 10 from by decide] at ht
    refine ⟨m_Work_due, by rw [ht]; rfl, fun k hk => ?_⟩
    rw [c_Work_due]
    exact ⟨by rw [ht]; rfl, hk⟩
  · rw [show wtag (nI 1) = 1 from by decide] at ht
    refine ⟨m_Bridge_due, by rw [ht]; rfl, fun k hk => ?_⟩
    rw [c_Bridge_due, c_Work_due]
    exact ⟨by rw [ht]; decide, by rw [ht]; rfl, by rw [ht]; rfl, hk⟩
  · rw [show wtag (nI 2) = 9 from by decide] at ht
    refine ⟨m_War_due, by rw [ht]; rfl, fun k hk => ?_⟩
    rw [c_War_due, c_Work_due]
    exact ⟨by rw [ht]; decide, by rw [ht]; rfl, hk⟩
  · rw [show wtag (nI 3) = 2 from by decide] at ht
    refine ⟨m_Cradle_due, by rw [ht]; rfl, fun k hk => ?_⟩
    rw [c_Cradle_due, c_Bridge_due, c_Work_due]
    exact ⟨by rw [ht]; decide, by rw [ht]; decide, by rw [ht]; rfl, by rw [ht]; rfl, by decide, hk⟩
  · rw [show wtag (nI 4) = 6 from by decide] at ht
    refine ⟨m_Pen_due, by rw [ht]; rfl, fun k hk => ?_⟩
    rw [c_Pen_due, c_War_due, c_Work_due]
    exact ⟨by rw [ht]; decide, by rw [ht]; decide, by rw [ht]; rfl, ht, hk⟩
  · rw [show wtag (nI 5) = 7 from by decide] at ht
    refine ⟨m_Ruin_due, by rw [ht]; rfl, fun k hk => ?_⟩
    rw [c_Ruin_due, c_Bridge_due, c_Work_due]
    exact ⟨by rw [ht]; decide, by rw [ht]; decide, by rw [ht]; rfl, by rw [ht]; rfl, ht, hk⟩
def v_familyOf (c : Core) (x z : Int32) : Int32 := if z = 0 then Cm c (ix x) 0 else if z = 1 then Cm c (ix x) 1 else if z = 2 then Cm c (ix x) 2 else if z = 3 then Cm c (ix x) 3 else hoR (Cm c (ix x))
theorem t_P_familyOf (o : okS s) (x z : Int32) : PQ m_P_familyOf [.int x, .int z] s (th (nF (zC s) x) (othN z 4)) (v_familyOf (zC s) x z) := by
  intro h k I hr hv
  have w := pw I.1
  have L := PL I
  rw [c_P_familyOf]
  simp only [w, true_and]
  rw [s_Ledger_lacksFamily L.1 L.2.2.1.1]
  simp only [s_P_otherThan]
  refine th_if (X := fun t => wp m_P_familyOf h 19 [some (.ref 2), some (.int x), some (.int z), some (.int t), none] [] (tyI k)) ?_
  show wp m_P_familyOf h 19 [some (.ref 2), some (.int x), some (.int z), some (.int (th (nF (zC s) x) (othN z 4))), none] [] (tyI k)
  rw [e_P_familyOf_19]
  by_cases c : th (nF (zC s) x) (othN z 4) = 0
  · obtain ⟨f, hf, rfl⟩ := nF_0 (okf o) (th_0.mp c).1
    have h5 := okf o
    have hv' := hv c h (FT_refl h)
    unfold v_familyOf at hv'
    rw [ix_nI (show f < 2 ^ 31 by omega)] at hv'
    rw [if_pos c]
    simp only [w, true_and]
    rw [Led_at L (by omega), e_P_familyOf_40]
    simp only [Led_tgf L (show f < 5 by omega), true_and]
    rw [s_mind_head L hf, L.2.2.2.1 f hf 0 (by decide), L.2.2.2.1 f hf 1 (by decide), L.2.2.2.1 f hf 2 (by decide), L.2.2.2.1 f hf 3 (by decide), ite_k, ite_k, ite_k, ite_k]
    exact hv'
  · rw [if_neg c]
    exact ⟨w.1, hr c h (FT_refl h)⟩
def v_workOf (z : Zl) (x y : Int32) : Int32 := if y = 0 then Ck z.1 (ix x) 0 else if y = 1 then Ck z.1 (ix x) 1 else if y = 2 then Ck z.1 (ix x) 2 else if y = 3 then dueW (Ck z.1 (ix x)) else if ix x ∈ z.2 then 1 else 0
theorem t_P_workOf (o : okS s) (x y : Int32) : PQ m_P_workOf [.int x, .int y] s (th (nW (zC s) x) (othN y 4)) (v_workOf s.1 x y) := by
  intro h k I hr hv
  have w := pw I.1
  have L := PL I
  have h6 := okw o
  rw [c_P_workOf]
  simp only [w, true_and]
  by_cases c1 : offN x (Cw (zC s))
  · rw [s_Ledger_workAt_off L.1 L.2.2.1.2.1 c1, if_neg (fun z => z rfl)]
    have e : th (nW (zC s) x) (othN y 4) = -1 := by unfold th nW; rw [if_pos c1]; rfl
    rw [e] at hr
    exact ⟨w.1, hr (by decide) h (FT_refl h)⟩
  · obtain ⟨v, hv1, rfl⟩ := on_nI (by omega) c1
    have W := L.2.2.2.2 v hv1
    have R := o.1.1.2.2.2 v hv1
    have e : th (nW (zC s) (nI v)) (othN y 4) = othN y 4 := by unfold th nW; rw [if_neg c1]; rfl
    rw [e] at hr hv
    rw [s_Ledger_workAt L.1 L.2.2.1.2.1 h6 hv1, if_pos (by have := W.1.1; omega), s_P_otherThan]
    by_cases c2 : othN y 4 = 0
    · have hv' := hv c2 h (FT_refl h)
      unfold v_workOf at hv'
      rw [ix_nI (show v < 2 ^ 31 by omega)] at hv'
      rw [if_pos c2, e_P_workOf_35]
      have mb : memB (tg h (gR h (3 + 7) v)) [1, 2, 6, 7, 9, 10] = true := by rw [W.2.1]; exact wtag_in _
      by_cases d0 : y = 0
      · rw [if_pos d0]
        rw [if_pos d0] at hv'
        obtain ⟨M, hM, hk⟩ := t_kind W R
        refine ⟨M, hM, ?_⟩
        rw [hk]
        exact hv'
      rw [if_neg d0]
      rw [if_neg d0] at hv'
      by_cases d1 : y = 1
      · rw [if_pos d1]
        rw [if_pos d1] at hv'
        exact ⟨mb, by rw [W.2.2.1]; exact hv'⟩
      rw [if_neg d1]
      rw [if_neg d1] at hv'
      by_cases d2 : y = 2
      · rw [if_pos d2]
        rw [if_pos d2] at hv'
        exact ⟨mb, by rw [W.2.2.2]; exact hv'⟩
      rw [if_neg d2]
      rw [if_neg d2] at hv'
      by_cases d3 : y = 3
      · rw [if_pos d3]
        rw [if_pos d3] at hv'
        obtain ⟨M, hM, hk⟩ := t_due W R
        exact ⟨M, hM, hk _ hv'⟩
      rw [if_neg d3]
      rw [if_neg d3] at hv'
      simp only [w, true_and, e_P_workOf_100]
      rw [s_Ledger_isBuilt L.1 (PB I) (by omega)]
      by_cases b : v ∈ s.1.2
      · rw [if_pos b, if_neg (by decide)]
        rw [if_pos b] at hv'
        exact hv'
      · rw [if_neg b, if_pos rfl]
        rw [if_neg b] at hv'
        exact hv'
    · rw [if_neg c2]
      have := hr c2 h (FT_refl h)
      rw [oth_n2 c2] at this
      exact ⟨w.1, this⟩
def v_oldest (bo : List Nat) (z : Int32) : Int32 := if bo.length = 0 then -9 else if z = 0 then nI (bo.getD 0 0) else nI (bo.getD (bo.length - 1) 0)
theorem t_P_oldest (o : okS s) (z : Int32) : PQ m_P_oldest [.int z] s (othN z 1) (v_oldest (zB s) z) := by
  intro h k I hr hv
  have w := pw I.1
  have L := PL I
  have B := PB I
  have hl := B.1
  rw [c_P_oldest, s_P_otherThan]
  by_cases c : othN z 1 = 0
  · have hv' := hv c h (FT_refl h)
    rw [if_pos c]
    unfold v_oldest at hv'
    simp only [w, true_and, e_P_oldest_36]
    rw [u_Ledger_builtAs L.1 B, u_Ledger_builtAs L.1 B, B.2.2.1]
    by_cases e : (zB s).length = 0
    · rw [if_pos e] at hv'
      rw [e]
      have n1 : offN (nI 0 - 1) 0 := Or.inl (by decide)
      have n2 : offN 0 0 := Or.inr (by decide)
      rw [if_pos n1, if_pos n2]
      split
      · exact hv'
      · exact hv'
    · rw [if_neg e] at hv'
      obtain ⟨m, hm⟩ : ∃ m, (zB s).length = m + 1 := ⟨(zB s).length - 1, by omega⟩
      rw [hm, nI_pred]
      rw [hm] at hv' hl
      have n1 : ¬ offN (nI m) (m + 1) := nI_on (by omega) (by omega)
      have n2 : ¬ offN 0 (m + 1) := nI_on (i := 0) (by omega) (by omega)
      rw [if_neg n1, if_neg n2, ix_nI (by omega)]
      by_cases d : z = 0
      · rw [if_neg (fun q => q d)]
        rw [if_pos d] at hv'
        exact hv'
      · rw [if_pos d]
        rw [if_neg d] at hv'
        exact hv'
  · rw [if_neg c]
    have := hr c h (FT_refl h)
    rw [oth_n2 c] at this
    exact ⟨w.1, this⟩
theorem s_allHeads (L : Led h 3 c) (k : PH → Int32 → Prop) : ccI m_Ledger_headsOf h [.ref 3, .int (nI (2 ^ Cf c - 1))] k = k h (headsC c) := by
  have h5 := L.2.1.1
  rw [s_Ledger_headsOf L.1 L.2.2.1.1 h5]
  congr 1
  exact sumN_c fun i hi => by rw [bt_every h5 (by omega), if_pos (decide_eq_true hi), L.2.2.2.1 i hi 0 (by decide)]
def v_sgn (c : Core) (w : Nat) : Int32 := sumN (fun f => if up (shareC c (Ck c w) f) (Cm c f 0) ≤ up (Ck c w 2) (headsC c) then Cm c f 0 else 0) (Cf c)
def v_signature (c : Core) (x z : Int32) : Int32 := if z = 0 then v_sgn c (ix x) else if 2 * v_sgn c (ix x) ≤ headsC c then 0 else 1
theorem t_P_signature (o : okS s) (x z : Int32) : PQ m_P_signature [.int x, .int z] s (th (nW (zC s) x) (othN z 1)) (v_signature (zC s) x z) := by
  intro h k I hr hv
  have w := pw I.1
  have L := PL I
  have h5 := okf o
  have h6 := okw o
  rw [c_P_signature]
  simp only [w, true_and]
  by_cases c1 : offN x (Cw (zC s))
  · rw [s_Ledger_workAt_off L.1 L.2.2.1.2.1 c1, if_neg (fun z => z rfl)]
    have e : th (nW (zC s) x) (othN z 1) = -1 := by unfold th nW; rw [if_pos c1]; rfl
    rw [e] at hr
    exact ⟨w.1, hr (by decide) h (FT_refl h)⟩
  · obtain ⟨v, hv1, rfl⟩ := on_nI (by omega) c1
    have W := L.2.2.2.2 v hv1
    have e : th (nW (zC s) (nI v)) (othN z 1) = othN z 1 := by unfold th nW; rw [if_neg c1]; rfl
    rw [e] at hr hv
    rw [s_Ledger_workAt L.1 L.2.2.1.2.1 h6 hv1, if_pos (by have := W.1.1; omega), s_P_otherThan]
    by_cases c2 : othN z 1 = 0
    · have hv' := hv c2
      unfold v_signature at hv'
      rw [ix_nI (show v < 2 ^ 31 by omega)] at hv'
      rw [if_pos c2]
      simp only [w, true_and]
      rw [s_Ledger_everybody L.1 L.2.2.1.1 h5]
      simp only [w, true_and]
      rw [s_allHeads L, s_P_up, W.2.2.2]
      refine ⟨by rw [W.2.1]; exact wtag_in _, ?_⟩
      generalize gR h (3 + 7) v = p
      refine hp (A := fun j h' => FT h h') (X := fun j h' => ∀ q, wp m_P_signature h' 67 [some (.ref 2), some (.int (nI v)), some (.int z), some (.ref p), some (.int (headsC (zC s))), some (.int (up (Ck (zC s) v 2) (headsC (zC s)))), some (.int (sumN (fun f => if up (shareC (zC s) (Ck (zC s) v) f) (Cm (zC s) f 0) ≤ up (Ck (zC s) v 2) (headsC (zC s)) then Cm (zC s) f 0 else 0) j)), some (.int (nI j)), q] [] (tyI k)) (Cf (zC s)) ?_ ?_ 0 (Nat.zero_le _) h (FT_refl h) none
      · intro h' F' q
        have hv2 := hv' h' F'
        have I' := IP_FT I F'
        have w' := pw I'.1
        rw [e_P_signature_67]
        simp only [w', true_and]
        rw [(PL I').2.2.1.1, if_pos (Int32.le_refl _)]
        simp only [e_P_signature_147]
        by_cases d : z = 0
        · rw [if_neg (fun q => q d)]
          rw [if_pos d] at hv2
          exact hv2
        · rw [if_pos d]
          rw [if_neg d] at hv2
          by_cases d2 : 2 * v_sgn (zC s) v ≤ headsC (zC s)
          · rw [if_pos d2] at hv2
            have d3 := d2
            unfold v_sgn at d3
            rw [if_pos d3]
            exact hv2
          · rw [if_neg d2] at hv2
            have d3 := d2
            unfold v_sgn at d3
            rw [if_neg d3]
            exact hv2
      · intro j hj h' F' ih q
        have I' := IP_FT I F'
        have w' := pw I'.1
        have L' := PL I'
        rw [e_P_signature_67]
        simp only [w', true_and]
        rw [L'.2.2.1.1, if_neg (nI_ge hj (by omega)), Led_at L' (by omega)]
        simp only [w', Led_tgf L' (show j < 5 by omega), true_and]
        rw [L'.2.2.2.1 j hj 0 (by decide)]
        refine s_share I F' o hv1 hj fun h2 F2 _ _ => ?_
        rw [s_P_up]
        simp only [e_P_signature_120, nI_1]
        have ih' := ih h2 F2
        simp only [sumN] at ih'
        by_cases d : up (shareC (zC s) (Ck (zC s) v) j) (Cm (zC s) j 0) ≤ up (Ck (zC s) v 2) (headsC (zC s))
        · rw [if_neg (Int32.not_lt.mpr d)]
          rw [if_pos d] at ih'
          exact ih' _
        · rw [if_pos (Int32.not_le.mp d)]
          rw [if_neg d, Int32.add_zero] at ih'
          exact ih' _
    · rw [if_neg c2]
      have := hr c2 h (FT_refl h)
      rw [oth_n2 c2] at this
      exact ⟨w.1, this⟩
end P7
def costN (c : Core) (B : Int32) : Int32 := sumN (fun w => if bt B w = true then Ck c w 2 else 0) (Cw c)
def overN (c : Core) (n : Nat) (v : Int32) (B : Int32) : Bool := anyN (fun f => decide (¬ hoR (Cm (goC n (chargeN B c (Cw c))) f) ≤ v)) (Cf c)
def bldN (z : Zl) (n : Nat) (v : Int32) : Nat → Int32 × Int32
  | 0 => (-9, -9)
  | m + 1 => if nI m &&& bm (fun w => decide (w ∈ z.2)) 6 = 0 ∧ (bldN z n v m).2 < costN z.1 (nI m) ∧ overN z.1 n v (nI m) = false then (nI m, costN z.1 (nI m)) else bldN z n v m
def zeroC (c : Core) : Core := cM c (fun f => rs (Cm c f) 1 0)
def tld (x : Int32) : Int32 := if x < 99 then x else 99
def notTold (c : Core) (r : Row) (B : Int32) : Bool := anyN (fun f => decide (¬ r f = tld (Cm (chargeN B (zeroC c) (Cw c)) f 1))) (Cf c)
def whoN (c : Core) (r : Row) : Nat → Int32 × Int32
  | 0 => (0, -9)
  | m + 1 => if notTold c r (nI m) = true then whoN c r m else ((whoN c r m).1 + 1, if (whoN c r m).1 = 0 then nI m else (whoN c r m).2)
theorem okC_zero {c : Core} (o : okC c) : okC (zeroC c) := ⟨o.1, o.2.1, fun f hf => ⟨(o.2.2.1 f hf).1, bd_nI (n := 0) (by omega) (by omega) (by decide), (o.2.2.1 f hf).2.2⟩, o.2.2.2⟩
theorem anyN_f {p : Nat → Bool} : ∀ {n}, anyN p n = false ↔ ∀ i, i < n → p i = false
  | 0 => ⟨fun _ i hi => absurd hi (by omega), fun _ => rfl⟩
  | n + 1 => by
    unfold anyN
    rw [Bool.or_eq_false_iff, anyN_f (n := n)]
    constructor
    · intro ⟨a, b⟩ i hi
      by_cases c : i = n
      · rw [c]; exact b
      · exact a i (by omega)
    · intro a; exact ⟨fun i hi => a i (by omega), a n (by omega)⟩
section P8
variable {h h0 : PH} {s : Sta} {c : Core} {f n p : Nat} {r : Row}
theorem t_P_isBearable (I : IP h0 s) (o : okS s) (F : FT h0 h) (B : Int32) (hn : n < 2 ^ 30) (v : Int32) {k : PH → Int32 → Prop} (hk : ∀ h', FT h0 h' → k h' (if overN (zC s) n v B = true then 0 else 1)) : ccI m_P_isBearable h [.ref 2, .int B, .int (nI n), .int v] k := by
  have w := pw (IP_FT I F).1
  have h5 := okf o
  rw [c_P_isBearable]
  simp only [w, true_and]
  refine t_mind_copy I F fun h1 F1 L1 _ => ?_
  have w1 := pw (IP_FT I F1).1
  simp only [w1, true_and]
  refine t_mind_chargeSet F1 L1 o.1.1 B fun h2 F2 L2 => ?_
  have w2 := pw (IP_FT I F2).1
  simp only [w2, true_and]
  refine t_mind_years F2 L2 hn fun h3 F3 L3 => ?_
  have w3 := pw (IP_FT I F3).1
  have ck := chargeN_k B (zC s) (Cw (zC s))
  have c3 : gI h3 13 0 = nI (Cf (zC s)) := by
    have : gI h3 13 0 = nI (Cf (chargeN B (zC s) (Cw (zC s)))) := L3.2.2.1.1
    rw [this, ck.2.1]
  have hk' := hk h3 F3
  unfold overN at hk'
  generalize hp' : (fun f => decide (¬ hoR (Cm (goC n (chargeN B (zC s) (Cw (zC s)))) f) ≤ v)) = p at hk'
  have key : ∀ d i, i + d = Cf (zC s) → anyN p i = false → wp m_P_isBearable h3 30 [some (.ref 2), some (.int B), some (.int (nI n)), some (.int v), some (.int (nI i))] [] (tyI k) := by
    intro d
    induction d with
    | zero =>
      intro i e ne
      rw [e_P_isBearable_30]
      simp only [w3, true_and]
      rw [c3, if_pos (nI_le (by omega) (by omega))]
      rw [show Cf (zC s) = i by omega, ne] at hk'
      exact ⟨by decide, hk'⟩
    | succ d ih =>
      intro i e ne
      rw [e_P_isBearable_30]
      simp only [w3, true_and]
      have hi : i < Cf (goC n (chargeN B (zC s) (Cw (zC s)))) := by
        show i < Cf (chargeN B (zC s) (Cw (zC s)))
        rw [ck.2.1]; omega
      rw [c3, if_neg (nI_ge (by omega) (by omega)), Led_at L3 (by omega)]
      simp only [Led_tgf L3 (show i < 5 by omega), true_and]
      rw [s_mind_head L3 hi, nI_1]
      have hpi : p i = decide (¬ hoR (Cm (goC n (chargeN B (zC s) (Cw (zC s)))) i) ≤ v) := by rw [← hp']
      by_cases d1 : hoR (Cm (goC n (chargeN B (zC s) (Cw (zC s)))) i) ≤ v
      · rw [if_pos d1]
        exact ih (i + 1) (by omega) (by unfold anyN; rw [ne, hpi, decide_eq_false (fun z => z d1)]; rfl)
      · rw [if_neg d1]
        rw [anyN_pos (i := i) (by omega) (by rw [hpi]; exact decide_eq_true d1), if_pos rfl] at hk'
        exact ⟨by decide, hk'⟩
  exact key (Cf (zC s)) 0 (by omega) rfl
theorem s_costOf (L : Led h 3 c) (B : Int32) (k : PH → Int32 → Prop) : ccI m_Ledger_costOf h [.ref 3, .int B] k = k h (costN c B) := by
  rw [s_Ledger_costOf L.1 L.2.2.1.2.1 L.2.1.2 (fun w hw => ⟨by have := (L.2.2.2.2 w hw).1.1; omega, by rw [(L.2.2.2.2 w hw).2.1]; exact wtag_in _⟩)]
  congr 1
  exact sumN_c fun w hw => by rw [(L.2.2.2.2 w hw).2.2.2]
def v_building (z : Zl) (x y t : Int32) : Int32 := if t = 0 then (bldN z (ix x) y (2 ^ Cw z.1)).1 else (bldN z (ix x) y (2 ^ Cw z.1)).2
theorem t_P_building (o : okS s) (x y z : Int32) : PQ m_P_building [.int x, .int y, .int z] s (th (eith x 100 y 999) (othN z 1)) (v_building s.1 x y z) := by
  intro h k I hr hv
  have w := pw I.1
  have h6 := okw o
  have hp2 := p2_6 h6
  rw [c_P_building, s_P_eitherOutside]
  simp only [s_P_otherThan]
  refine th_if (X := fun t => wp m_P_building h 24 [some (.ref 2), some (.int x), some (.int y), some (.int z), some (.int t), none, none, none, none] [] (tyI k)) ?_
  rw [e_P_building_24]
  by_cases c : th (eith x 100 y 999) (othN z 1) = 0
  · obtain ⟨n, v, hn, _, rfl, rfl⟩ := eith_0 (M := 100) (N := 999) (by decide) (by decide) (th_0.mp c).1
    have hv' := hv c
    unfold v_building at hv'
    rw [ix_nI (show n < 2 ^ 31 by omega)] at hv'
    rw [if_pos c]
    generalize th (eith (nI n) 100 (nI v) 999) (othN z 1) = t
    refine hp (A := fun j h' => FT h h') (X := fun j h' => ∀ q, wp m_P_building h' 47 [some (.ref 2), some (.int (nI n)), some (.int (nI v)), some (.int z), some (.int t), some (.int (bldN s.1 n (nI v) j).1), some (.int (bldN s.1 n (nI v) j).2), some (.int (nI j)), q] [] (tyI k)) (2 ^ Cw (zC s)) ?_ ?_ 0 (Nat.zero_le _) h (FT_refl h) none
    · intro h' F' q
      have hv2 := hv' h' F'
      have I' := IP_FT I F'
      have w' := pw I'.1
      have L' := PL I'
      rw [e_P_building_47]
      simp only [w', true_and]
      rw [s_Ledger_sets L'.1 L'.2.2.1.2.1 h6, if_pos (Int32.le_refl _)]
      simp only [e_P_building_126]
      by_cases d : z = 0
      · rw [if_neg (fun q => q d)]
        rw [if_pos d] at hv2
        exact hv2
      · rw [if_pos d]
        rw [if_neg d] at hv2
        exact hv2
    · intro j hj h' F' ih q
      have I' := IP_FT I F'
      have w' := pw I'.1
      have L' := PL I'
      rw [e_P_building_47]
      simp only [w', true_and]
      rw [s_Ledger_sets L'.1 L'.2.2.1.2.1 h6, if_neg (nI_ge hj (by omega))]
      simp only [w', true_and]
      rw [s_costOf L']
      simp only [w', true_and, e_P_building_109, nI_1]
      rw [(PB I').2.1]
      by_cases d1 : nI j &&& bm (fun w => decide (w ∈ zB s)) 6 = 0
      · rw [if_neg (fun z => z d1)]
        by_cases d2 : (bldN s.1 n (nI v) j).2 < costN (zC s) (nI j)
        · rw [if_neg (Int32.not_le.mpr d2)]
          refine t_P_isBearable I o F' _ (by omega) _ fun h2 F2 => ?_
          have ih' := ih h2 F2
          simp only [bldN] at ih'
          by_cases d3 : overN (zC s) n (nI v) (nI j) = true
          · rw [if_pos d3, if_pos rfl]
            rw [if_neg (fun z => by rw [z.2.2] at d3; exact absurd d3 (by decide))] at ih'
            exact ih' _
          · rw [if_neg d3, if_neg (by decide)]
            rw [if_pos ⟨d1, d2, by simpa using d3⟩] at ih'
            exact ih' _
        · rw [if_pos (Int32.not_lt.mp d2)]
          have ih' := ih h' F'
          simp only [bldN] at ih'
          rw [if_neg (fun z => d2 z.2.1)] at ih'
          exact ih' _
      · rw [if_pos d1]
        have ih' := ih h' F'
        simp only [bldN] at ih'
        rw [if_neg (fun z => d1 z.1)] at ih'
        exact ih' _
  · rw [if_neg c]
    exact ⟨w.1, hr c h (FT_refl h)⟩
theorem s_P_isTold (I : IP h s) {i : Nat} (hi : i < 12) (x : Int32) (k : PH → Int32 → Prop) : ccI m_P_isTold h [.ref 2, .int (nI i), .int x] k = k h (if gI h 117 i = tld x then 1 else 0) := by
  have w := pw I.1
  rw [c_P_isTold, if_neg (nI_pos (by omega))]
  simp only [w, true_and, true_or, e_P_isTold_32, e_P_isTold_33]
  rw [show Int32.ofNat 12 = nI 12 from rfl, if_neg (nI_ge hi (by decide)), ix_nI (by omega)]
  simp only [inb_nI hi (show 12 < 2 ^ 31 by decide), true_and]
  unfold tld
  by_cases c : gI h 117 i = if x < 99 then x else 99
  · rw [if_neg (fun z => z c), if_pos c]; simp
  · rw [if_pos c, if_neg c]; simp
theorem t_P_isToldBy (I : IP h0 s) (o : okS s) (F : FT h0 h) (B : Int32) (hT : (zT s).1 = Cf (zC s)) {k : PH → Int32 → Prop} (hk : ∀ h', FT h0 h' → k h' (if notTold (zC s) (zT s).2 B = true then 0 else 1)) : ccI m_P_isToldBy h [.ref 2, .int B] k := by
  have w := pw (IP_FT I F).1
  have h5 := okf o
  rw [c_P_isToldBy]
  simp only [w, true_and]
  refine t_mind_copy I F fun h1 F1 L1 _ => ?_
  refine hp (A := fun i h' => FT h0 h' ∧ Led h' 13 (cM (zC s) (fun f => if f < i then rs (Cm (zC s) f) 1 0 else Cm (zC s) f))) (X := fun i h' => wp m_P_isToldBy h' 13 [some (.ref 2), some (.int B), some (.int (nI i))] [] (tyI k)) (Cf (zC s)) ?_ ?_ 0 (Nat.zero_le _) h1 ⟨F1, Led_ext L1 rfl rfl rfl rfl (fun f _ => ?_) (fun _ _ => rfl)⟩
  · intro h2 ⟨F2, L2⟩
    have w2 := pw (IP_FT I F2).1
    have q0 : gI h2 13 0 = nI (Cf (zC s)) := L2.2.2.1.1
    rw [e_P_isToldBy_13]
    simp only [w2, true_and]
    rw [q0, if_pos (Int32.le_refl _)]
    have L2' : Led h2 13 (zeroC (zC s)) := Led_ext L2 rfl rfl rfl rfl (fun f hf => by
      show Ew 4 (if f < Cf (zC s) then _ else _) _
      rw [if_pos (show f < Cf (zC s) from hf)]; exact Ew_refl _ _) (fun _ _ => rfl)
    refine t_mind_chargeSet F2 L2' (okC_zero o.1.1) B fun h3 F3 L3 => ?_
    have I3 := IP_FT I F3
    have w3 := pw I3.1
    have ck := chargeN_k B (zeroC (zC s)) (Cw (zC s))
    have c3 : gI h3 13 0 = nI (Cf (zC s)) := by
      have : gI h3 13 0 = nI (Cf (chargeN B (zeroC (zC s)) (Cw (zC s)))) := L3.2.2.1.1
      rw [this, ck.2.1]; rfl
    have hk' := hk h3 F3
    unfold notTold at hk'
    generalize hp' : (fun f => decide (¬ (zT s).2 f = tld (Cm (chargeN B (zeroC (zC s)) (Cw (zC s))) f 1))) = p at hk'
    have key : ∀ d i, i + d = Cf (zC s) → anyN p i = false → wp m_P_isToldBy h3 52 [some (.ref 2), some (.int B), some (.int (nI i))] [] (tyI k) := by
      intro d
      induction d with
      | zero =>
        intro i e ne
        rw [e_P_isToldBy_52]
        simp only [w3, true_and]
        rw [c3, if_pos (nI_le (by omega) (by omega))]
        rw [show Cf (zC s) = i by omega, ne] at hk'
        exact ⟨by decide, hk'⟩
      | succ d ih =>
        intro i e ne
        rw [e_P_isToldBy_52]
        simp only [w3, true_and]
        have hi : i < Cf (chargeN B (zeroC (zC s)) (Cw (zC s))) := by
          rw [ck.2.1]; show i < Cf (zC s); omega
        rw [c3, if_neg (nI_ge (by omega) (by omega)), Led_at L3 (by omega)]
        simp only [Led_tgf L3 (show i < 5 by omega), w3, true_and]
        have hd : gI h3 (13 + 2 + i) 1 = Cm (chargeN B (zeroC (zC s)) (Cw (zC s))) i 1 := L3.2.2.2.1 i hi 1 (by decide)
        have ht : gI h3 117 i = (zT s).2 i := I3.2.2.2.2.2.2.2.1.2 i (by omega)
        rw [hd, s_P_isTold I3 (by omega), ht, nI_1]
        have hpi : p i = decide (¬ (zT s).2 i = tld (Cm (chargeN B (zeroC (zC s)) (Cw (zC s))) i 1)) := by rw [← hp']
        by_cases d1 : (zT s).2 i = tld (Cm (chargeN B (zeroC (zC s)) (Cw (zC s))) i 1)
        · rw [if_pos d1, if_pos (by decide)]
          exact ih (i + 1) (by omega) (by unfold anyN; rw [ne, hpi, decide_eq_false (fun z => z d1)]; rfl)
        · rw [if_neg d1, if_neg (fun z => z rfl)]
          rw [anyN_pos (i := i) (by omega) (by rw [hpi]; exact decide_eq_true d1), if_pos rfl] at hk'
          exact ⟨by decide, hk'⟩
    exact key (Cf (zC s)) 0 (by omega) rfl
  · intro i hi h2 ⟨F2, L2⟩ ih2
    have w2 := pw (IP_FT I F2).1
    have q0 : gI h2 13 0 = nI (Cf (zC s)) := L2.2.2.1.1
    rw [e_P_isToldBy_13]
    simp only [w2, true_and]
    rw [q0, if_neg (nI_ge hi (by omega)), Led_at L2 (by omega)]
    have q3 := mind_set F2 L2 (f := i) hi 1 0
    simp only [Led_tgf L2 (show i < 5 by omega), true_and, nI_1]
    refine ih2 _ ⟨q3.1, Led_ext q3.2 rfl rfl rfl rfl (fun f _ => ?_) (fun _ _ => rfl)⟩
    show Ew 4 (setM (fun f => if f < i then rs (Cm (zC s) f) 1 0 else Cm (zC s) f) i (rs (if i < i then rs (Cm (zC s) i) 1 0 else Cm (zC s) i) 1 0) f) (if f < i + 1 then rs (Cm (zC s) f) 1 0 else Cm (zC s) f)
    unfold setM
    rw [if_neg (Nat.lt_irrefl i)]
    by_cases c1 : f = i
    · subst c1; rw [if_pos rfl, if_pos (Nat.lt_succ_self _)]; exact Ew_refl _ _
    · rw [if_neg c1]
      dsimp only
      by_cases c2 : f < i
      · rw [if_pos c2, if_pos (by omega)]; exact Ew_refl _ _
      · rw [if_neg c2, if_neg (by omega)]; exact Ew_refl _ _
  · show Ew 4 (Cm (zC s) f) (if f < 0 then rs (Cm (zC s) f) 1 0 else Cm (zC s) f)
    rw [if_neg (by omega)]; exact Ew_refl _ _
def v_who (s : Sta) (z : Int32) : Int32 := if z = 0 then (whoN (zC s) (zT s).2 (2 ^ Cw (zC s))).1 else (whoN (zC s) (zT s).2 (2 ^ Cw (zC s))).2
theorem t_P_whoBuilt (o : okS s) (z : Int32) : PQ m_P_whoBuilt [.int z] s (th (othN z 1) (if (zT s).1 = Cf (zC s) then 0 else -3)) (v_who s z) := by
  intro h k I hr hv
  have w := pw I.1
  have h5 := okf o
  have h6 := okw o
  have hp2 := p2_6 h6
  have h12 := o.2.2.2.2.2
  rw [c_P_whoBuilt, s_P_otherThan]
  by_cases c : othN z 1 = 0
  · have e : th (othN z 1) (if (zT s).1 = Cf (zC s) then 0 else -3) = if (zT s).1 = Cf (zC s) then 0 else -3 := by unfold th; rw [if_pos c]
    rw [e] at hr hv
    rw [if_pos c]
    simp only [w, true_and]
    rw [I.2.2.2.2.2.2.2.1.1, (PL I).2.2.1.1]
    by_cases hT : (zT s).1 = Cf (zC s)
    · rw [if_pos hT] at hv
      have hv' := hv rfl
      unfold v_who at hv'
      rw [hT, if_pos rfl]
      refine hp (A := fun j h' => FT h h') (X := fun j h' => wp m_P_whoBuilt h' 44 [some (.ref 2), some (.int z), some (.int (whoN (zC s) (zT s).2 j).1), some (.int (whoN (zC s) (zT s).2 j).2), some (.int (nI j))] [] (tyI k)) (2 ^ Cw (zC s)) ?_ ?_ 0 (Nat.zero_le _) h (FT_refl h)
      · intro h' F'
        have hv2 := hv' h' F'
        have I' := IP_FT I F'
        have w' := pw I'.1
        have L' := PL I'
        rw [e_P_whoBuilt_44]
        simp only [w', true_and]
        rw [s_Ledger_sets L'.1 L'.2.2.1.2.1 h6, if_pos (Int32.le_refl _)]
        simp only [e_P_whoBuilt_93]
        by_cases d : z = 0
        · rw [if_neg (fun q => q d)]
          rw [if_pos d] at hv2
          exact hv2
        · rw [if_pos d]
          rw [if_neg d] at hv2
          exact hv2
      · intro j hj h' F' ih
        have I' := IP_FT I F'
        have w' := pw I'.1
        have L' := PL I'
        rw [e_P_whoBuilt_44]
        simp only [w', true_and]
        rw [s_Ledger_sets L'.1 L'.2.2.1.2.1 h6, if_neg (nI_ge hj (by omega))]
        simp only [w', true_and]
        refine t_P_isToldBy I o F' _ hT fun h2 F2 => ?_
        have ih' := ih h2 F2
        simp only [whoN] at ih'
        simp only [e_P_whoBuilt_75, e_P_whoBuilt_78, nI_1]
        by_cases d : notTold (zC s) (zT s).2 (nI j) = true
        · rw [if_pos d, if_neg (fun z => z rfl)]
          rw [if_pos d] at ih'
          exact ih'
        · rw [if_neg d, if_pos (by decide)]
          rw [if_neg d] at ih'
          by_cases d2 : (whoN (zC s) (zT s).2 j).1 = 0
          · rw [if_neg (fun z => z d2)]
            rw [if_pos d2] at ih'
            exact ih'
          · rw [if_pos d2]
            rw [if_neg d2] at ih'
            exact ih'
    · rw [if_neg hT] at hr
      rw [if_neg (fun z => hT ((nI_eq (by omega) (by omega)).mp z))]
      exact hr (by decide) h (FT_refl h)
  · have e : th (othN z 1) (if (zT s).1 = Cf (zC s) then 0 else -3) = othN z 1 := by unfold th; rw [if_neg c]
    rw [e] at hr
    rw [if_neg c]
    have := hr c h (FT_refl h)
    rw [oth_n2 c] at this
    exact ⟨w.1, this⟩
end P8
