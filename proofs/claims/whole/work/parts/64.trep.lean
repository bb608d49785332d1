/-! ===== the class: treasuries ===== -/
def Tx (h : PH) (t : Nat × Row) : Prop := (tg h 115 = 8 ∧ gR h 115 0 = 116 ∧ tg h 116 = 100 ∧ ln h 116 = 96) ∧ gI h 115 1 = nI t.1 ∧ (∀ i, i < t.1 → gI h 116 i = t.2 i) ∧ t.1 ≤ 96
def frA (L : Nat → Int32) : Bool × Nat → Int32
  | (false, k) => -1000 - nI (ftP L (plN L k))
  | (true, _) => 0
theorem neg_i (a : Int32) (ha : a = -1000 ∨ a = -2000) {q : Nat} (hq : q < 2 ^ 20) : a - nI q < 0 := by
  have e : (nI q).toInt = (q : Int) := nI_toInt (by omega)
  have e1 : (-1000 : Int32).toInt = -1000 := by decide
  have e2 : (-2000 : Int32).toInt = -2000 := by decide
  have e0 : (0 : Int32).toInt = 0 := by decide
  apply Int32.lt_iff_toInt_lt.mpr
  rw [Int32.toInt_sub, e, e0]
  rcases ha with rfl | rfl
  · rw [e1, Int.bmod_eq_of_le (by omega) (by omega)]; omega
  · rw [e2, Int.bmod_eq_of_le (by omega) (by omega)]; omega
theorem frm_no {t : Nat × Row} (hm : t.1 ≤ 96) : ∀ f k, k + f = 97 → 3 * k ≤ plN (ltA t) k → (k = 0 ∨ plN (ltA t) k < t.1) → ∀ n, frmN (ltA t) t.1 f k = (false, n) → plN (ltA t) n ≤ 96 ∧ gdS (ltA t) (plN (ltA t) n) = false ∧ k ≤ n ∧ 3 * n ≤ plN (ltA t) n ∧ ∀ j, k ≤ j → j < n → gdS (ltA t) (plN (ltA t) j) = true ∧ plN (ltA t) (j + 1) < t.1
  | 0, k, e, h3, hp, _, _ => by omega
  | f + 1, k, e, h3, hp, n, hn => by
    unfold frmN at hn
    by_cases c : gdS (ltA t) (plN (ltA t) k) = true
    · rw [if_pos c] at hn
      have g1 := gd_m c
      have g2 := gd_ge c
      have ps : plN (ltA t) (k + 1) = plN (ltA t) k + dgN (ltA t (plN (ltA t) k)) + 2 := rfl
      by_cases c2 : t.1 ≤ plN (ltA t) (k + 1)
      · rw [if_pos c2] at hn
        injection hn with q _
        exact absurd q (by decide)
      · rw [if_neg c2] at hn
        obtain ⟨a, b, d, e', r⟩ := frm_no hm f (k + 1) (by omega) (by omega) (Or.inr (by omega)) n hn
        refine ⟨a, b, by omega, e', fun j h1 h2 => ?_⟩
        by_cases z : j = k
        · rw [z]; exact ⟨c, by omega⟩
        · exact r j (by omega) h2
    · rw [if_neg c] at hn
      have : n = k := by injection hn with _ q; exact q.symm
      subst this
      refine ⟨?_, by simpa using c, Nat.le_refl _, h3, fun j h1 h2 => by omega⟩
      rcases hp with z | z
      · subst z; show (0 : Nat) ≤ 96; decide
      · omega
theorem frm_ft {t : Nat × Row} (hm : t.1 ≤ 96) {n : Nat} (e : frmN (ltA t) t.1 97 0 = (false, n)) : ftP (ltA t) (plN (ltA t) n) < 2 ^ 20 := by
  have h1 := (frm_no hm 97 0 (by omega) (Nat.le_refl 0) (Or.inl rfl) n e).1
  have h6 := dgN_le (ltA t (plN (ltA t) n))
  have := dgE_le (ltA t) (dgN (ltA t (plN (ltA t) n))) (plN (ltA t) n + 1)
  unfold ftP
  split <;> omega
section TreP
variable {h h' h0 h1 h2 h3 : PH} {s : Sta} {t : Nat × Row} {p : Nat}
theorem Tx_IP (I : IP h s) (o : okS s) : Tx h (zL s) := by
  have w := pw I.1
  have st := I.2.2.2.2.2.2.1
  exact ⟨⟨w.2.2.2.1.1, w.2.2.2.1.2.1, w.2.2.2.1.2.2.1, w.2.2.2.1.2.2.2⟩, st.1, st.2, o.2.2.2.2.1⟩
theorem s_T_at (X : Tx h t) (hp : p < 2 ^ 30) (k : PH → Int32 → Prop) : ccI m_Text_letterAt h [.ref 115, .int (nI p)] k = k h (ltA t p) := by
  obtain ⟨w, e1, e2, e3⟩ := X
  rw [c_Text_letterAt, if_neg (nI_pos (by omega))]
  simp only [w, true_and, true_or, e_Text_letterAt_30, e_Text_letterAt_31, e1]
  unfold ltA
  by_cases c : p < t.1
  · rw [if_pos c, if_neg (nI_ge c (by omega)), show Int32.ofNat 96 = nI 96 from rfl, if_neg (nI_ge (by omega) (by decide)), ix_nI (by omega), e2 p c]
    simp [inb_nI (show p < 96 by omega)]
  · rw [if_neg c, if_pos (nI_le (by omega) (by omega))]
theorem s_T_dig (x : Int32) (k : PH → Int32 → Prop) : ccI m_Text_digitsBehind h [.int x] k = k h (nI (dgN x)) := by
  rw [c_Text_digitsBehind, e_Text_digitsBehind_1]
  unfold dgN
  by_cases c1 : x = 98
  · rw [if_pos c1, if_pos c1]; rfl
  rw [if_neg c1, if_neg c1]
  by_cases c2 : x = 100
  · rw [if_pos c2, if_pos c2]; rfl
  rw [if_neg c2, if_neg c2]
  by_cases c3 : x = 102
  · rw [if_pos c3, if_pos c3]; rfl
  rw [if_neg c3, if_neg c3]
  by_cases c4 : x = 114
  · rw [if_pos c4, if_pos c4]; rfl
  rw [if_neg c4, if_neg c4]
  by_cases c5 : x = 119
  · rw [if_pos c5, if_pos c5]; rfl
  rw [if_neg c5, if_neg c5]
  by_cases c6 : x = 121
  · rw [if_pos c6, if_pos c6]; rfl
  rw [if_neg c6, if_neg c6]; rfl
theorem s_T_isDig (x : Int32) (k : PH → Int32 → Prop) : ccI m_Text_isDigit h [.int x] k = k h (if isDg x = true then 1 else 0) := by
  rw [c_Text_isDigit]
  simp only [e_Text_isDigit_16, e_Text_isDigit_17]
  unfold isDg
  by_cases c : x < 48
  · rw [if_pos c, if_neg (by simp [c])]; simp
  · rw [if_neg c]
    by_cases d : 57 < x
    · rw [if_pos d, if_neg (by simp [d])]; simp
    · rw [if_neg d, if_pos (decide_eq_true ⟨c, d⟩)]; simp
theorem s_T_num (X : Tx h t) {d : Nat} (hp : p + d < 2 ^ 30) (k : PH → Int32 → Prop) : ccI m_Text_number h [.ref 115, .int (nI p), .int (nI d)] k = k h (nuI (ltA t) d p 0) := by
  rw [c_Text_number]
  have key : ∀ e j v, j + e = d → wp m_Text_number h 5 [some (.ref 115), some (.int (nI p)), some (.int (nI d)), some (.int v), some (.int (nI j))] [] (tyI k) = k h (nuI (ltA t) e (p + j) v) := by
    intro e
    induction e with
    | zero =>
      intro j v hj
      rw [e_Text_number_5, if_pos (nI_le (by omega) (by omega))]
      rfl
    | succ e ih =>
      intro j v hj
      rw [e_Text_number_5, if_neg (nI_ge (by omega) (by omega)), nI_add, s_T_at X (by omega), nI_1]
      simp only [X.1.1, true_and]
      rw [ih (j + 1) _ (by omega)]
      rfl
  exact key d 0 0 (by omega)
theorem s_T_place (X : Tx h t) (hp : p < 2 ^ 20) (k : PH → Int32 → Prop) : ccI m_Text_placeBehind h [.ref 115, .int (nI p)] k = k h (if gdS (ltA t) p = true then nI (p + dgN (ltA t p) + 2) else -1000 - nI (ftP (ltA t) p)) := by
  rw [c_Text_placeBehind, s_T_at X (by omega), s_T_dig]
  simp only [X.1.1, true_and]
  have h6 := dgN_le (ltA t p)
  unfold gdS ftP
  generalize dgN (ltA t p) = d at h6 ⊢
  by_cases z : d = 0
  · subst z
    rw [if_neg (fun z => z rfl), if_neg (by simp), if_pos rfl]
  · rw [if_pos (nI_ne0 (by omega) (by omega)), if_neg z]
    have key : ∀ r j, j + r = d + 1 → wp m_Text_placeBehind h 21 [some (.ref 115), some (.int (nI p)), some (.int (nI d)), some (.int (nI j))] [] (tyI k) = k h (if dgE (ltA t) r (p + j) = p + j + r ∧ ltA t (p + 1 + d) = 59 then nI (p + d + 2) else -1000 - nI (dgE (ltA t) r (p + j))) := by
      intro r
      induction r with
      | zero =>
        intro j hj
        rw [e_Text_placeBehind_21, if_pos (nI_lt (by omega) (by omega)), nI_add, nI_1, s_T_at X (by omega)]
        simp only [X.1.1, true_and, e_Text_placeBehind_80, nI_1]
        rw [show p + d + 1 = p + 1 + d by omega]
        have e : dgE (ltA t) 0 (p + j) = p + j + 0 := rfl
        rw [e]
        by_cases c : ltA t (p + 1 + d) = 59
        · rw [if_neg (fun q => q c), if_pos ⟨rfl, c⟩, show p + 1 + d + 1 = p + d + 2 by omega]
        · rw [if_pos c, if_neg (fun q => c q.2), show p + 1 + d = p + j + 0 by omega]
      | succ r ih =>
        intro j hj
        rw [e_Text_placeBehind_21, if_neg (nI_nlt (by omega) (by omega)), nI_add, s_T_at X (by omega), s_T_isDig, nI_1]
        simp only [X.1.1, true_and]
        by_cases c : isDg (ltA t (p + j)) = true
        · have e : dgE (ltA t) (r + 1) (p + j) = dgE (ltA t) r (p + (j + 1)) := if_pos c
          rw [if_pos c, if_pos (by decide), ih (j + 1) (by omega), e, show p + (j + 1) + r = p + j + (r + 1) by omega]
        · have e : dgE (ltA t) (r + 1) (p + j) = p + j := if_neg c
          rw [if_neg c, if_neg (fun q => q rfl), e, if_neg (fun q => by have := q.1; omega)]
    have := key d 1 (by omega)
    rw [show (1 : Int32) = nI 1 from rfl, this]
    congr 1
    by_cases c : dgE (ltA t) d (p + 1) = p + 1 + d ∧ ltA t (p + 1 + d) = 59
    · rw [if_pos c, if_pos (decide_eq_true ⟨z, c.1, c.2⟩)]
    · rw [if_neg c, if_neg (fun q => c (of_decide_eq_true q).2)]
theorem s_T_form (X : Tx h t) (k : PH → Int32 → Prop) : ccI m_Text_faultOfForm h [.ref 115] k = k h (frA (ltA t) (frmN (ltA t) t.1 97 0)) := by
  have hm := X.2.2.2
  rw [c_Text_faultOfForm]
  have key : ∀ f j, j + f = 97 → 3 * j ≤ plN (ltA t) j → (j = 0 ∨ plN (ltA t) j < t.1) → wp m_Text_faultOfForm h 4 [some (.ref 115), some (.int (nI (plN (ltA t) j))), some (.int (nI j))] [] (tyI k) = k h (frA (ltA t) (frmN (ltA t) t.1 f j)) := by
    intro f
    induction f with
    | zero => intro j e h3 hp; exfalso; omega
    | succ f ih =>
      intro j e h3 hp
      have ps : plN (ltA t) (j + 1) = plN (ltA t) j + dgN (ltA t (plN (ltA t) j)) + 2 := rfl
      have hpl : plN (ltA t) j < 97 := by
        rcases hp with z | z
        · subst z; show (0 : Nat) < 97; decide
        · omega
      have h6 := dgN_le (ltA t (plN (ltA t) j))
      have hft : ftP (ltA t) (plN (ltA t) j) < 2 ^ 20 := by
        have := dgE_le (ltA t) (dgN (ltA t (plN (ltA t) j))) (plN (ltA t) j + 1)
        unfold ftP
        split <;> omega
      rw [e_Text_faultOfForm_4, if_neg (show ¬ (96 : Int32) < nI j from nI_nlt (a := 96) (by omega) (by decide)), s_T_place X (by omega)]
      simp only [X.1.1, true_and, e_Text_faultOfForm_39, X.2.1]
      unfold frmN
      by_cases c : gdS (ltA t) (plN (ltA t) j) = true
      · have g2 := gd_ge c
        have g1 := gd_m c
        rw [if_pos c, if_pos c, if_pos (nI_pos' (by omega)), ← ps, nI_1]
        by_cases c2 : t.1 ≤ plN (ltA t) (j + 1)
        · rw [if_pos c2, if_neg (nI_nlt (by omega) (by omega))]; rfl
        · rw [if_neg c2, if_pos (nI_lt (by omega) (by omega))]
          exact ih (j + 1) (by omega) (by omega) (Or.inr (by omega))
      · rw [if_neg c, if_neg c, if_neg (Int32.not_le.mpr (neg_i _ (Or.inl rfl) hft))]
        rfl
  exact key 97 0 (by omega) (Nat.le_refl 0) (Or.inl rfl)
theorem s_T_len (X : Tx h t) (hp : p < 2 ^ 20) (k : PH → Int32 → Prop) : ccI m_Text_lengthAt h [.ref 115, .int (nI p)] k = k h (nI (dgN (ltA t p) + 2)) := by
  rw [c_Text_lengthAt, s_T_at X (by omega), s_T_dig]
  simp only [X.1.1, true_and]
  rw [show (2 : Int32) = nI 2 from rfl, nI_add]
def OgM (h h' : PH) : Prop := Og (fun b => 13 ≤ b ∧ b ≤ 22) (fun b => b = 20) h h'
theorem t_enact (X : Tx h t) (hn : 147 ≤ nx h) {z : Zl} (Z : LZ h 13 z) (oz : okZ z) (hp : p < 100) (g : gdS (ltA t) p = true) {k : PH → Int32 → Prop} (hno : ∀ v, noSt (ltA t) z p ≠ 0 → v < 0 → k h v)
    (hk : ∀ h' v, noSt (ltA t) z p = 0 → 0 ≤ v → OgM h h' → nx h' + Cw z.1 = nx h + Cw (nxZ (ltA t) z p).1 → sl h' + 2 * Cw z.1 = sl h + 2 * Cw (nxZ (ltA t) z p).1 → LZ h' 13 (nxZ (ltA t) z p) → k h' v) : ccI m_Text_enact h [.ref 115, .int (nI p), .ref 13] k := by
  have h5 := oz.1.1.1
  have h6 := oz.1.1.2
  have L := Z.1
  have t13 := L.1.1
  have n1 : nI p + 1 = nI (p + 1) := nI_1 p
  have n2 : nI p + 2 = nI (p + 2) := by rw [show (2 : Int32) = nI 2 from rfl, nI_add]
  have n3 : nI p + 3 = nI (p + 3) := by rw [show (3 : Int32) = nI 3 from rfl, nI_add]
  have n4 : nI p + 4 = nI (p + 4) := by rw [show (4 : Int32) = nI 4 from rfl, nI_add]
  have N1 : ∀ q, q < 200 → ∀ k, ccI m_Text_number h [.ref 115, .int (nI q), .int 1] k = k h (nuI (ltA t) 1 q 0) := fun q hq k => s_T_num (d := 1) X (by omega) k
  have N2 : ∀ q, q < 200 → ∀ k, ccI m_Text_number h [.ref 115, .int (nI q), .int 2] k = k h (nuI (ltA t) 2 q 0) := fun q hq k => s_T_num (d := 2) X (by omega) k
  have N3 : ∀ q, q < 200 → ∀ k, ccI m_Text_number h [.ref 115, .int (nI q), .int 3] k = k h (nuI (ltA t) 3 q 0) := fun q hq k => s_T_num (d := 3) X (by omega) k
  have N5 : ∀ q, q < 200 → ∀ k, ccI m_Text_number h [.ref 115, .int (nI q), .int 5] k = k h (nuI (ltA t) 5 q 0) := fun q hq k => s_T_num (d := 5) X (by omega) k
  have og : ∀ {S R : Nat → Prop} {h'}, Fr S R h h' → (∀ b, S b → 13 ≤ b ∧ b ≤ 22) → (∀ b, R b → b = 20) → OgM h h' := fun f a b => Og_mono (Og_fr f) (fun c _ x => a c x) (fun c _ x => b c x)
  have same : ∀ {S R : Nat → Prop} {h'}, Fr S R h h' → ∀ m, nx h' + m = nx h + m ∧ sl h' + 2 * m = sl h + 2 * m := fun f m => ⟨by rw [Fr_nx f], by rw [Fr_sl f]⟩
  rw [c_Text_enact, s_T_at X (by omega), e_Text_enact_5]
  simp only [X.1.1, true_and, n1, n2, n3, n4]
  by_cases c1 : ltA t p = 98
  · have e1 : noSt (ltA t) z p = noB z (nuI (ltA t) 1 (p + 1) 0) := by unfold noSt; rw [if_pos c1]
    have e2 : nxZ (ltA t) z p = (chargeC z.1 (Ck z.1 (ix (nuI (ltA t) 1 (p + 1) 0))), z.2 ++ [ix (nuI (ltA t) 1 (p + 1) 0)]) := by unfold nxZ; rw [if_pos c1]
    rw [e1] at hno hk
    rw [e2] at hk
    rw [if_pos c1, N1 _ (by omega)]
    refine ⟨t13, t_Ledger_buildX L oz.1 Z.2 oz.2 _ (fun v e n => ?_) fun w h' ew hw hn fr L' B' => ?_⟩
    · subst e; exact hno _ n (noK_neg (nK_B _ _ n))
    · have e0 : noB z (nuI (ltA t) 1 (p + 1) 0) = 0 := by
        unfold noB
        rw [ew, if_neg (nI_on (by omega) hw), ix_nI (by omega), if_neg hn]
      rw [ew, ix_nI (by omega)] at hk
      rw [ew] at e0
      exact hk h' _ e0 (bd_ge0 (debts_bd (okC_charge oz.1 (oz.1.2.2.2 w hw))) (by decide)) (og fr (fun b x => by omega) (fun b x => x.elim)) (same fr _).1 (same fr _).2 ⟨L', B'⟩
  rw [if_neg c1]
  by_cases c2 : ltA t p = 100
  · have e1 : noSt (ltA t) z p = noD z.1 (nuI (ltA t) 1 (p + 1) 0) (nuI (ltA t) 5 (p + 2) 0) := by unfold noSt; rw [if_neg c1, if_pos c2]
    have e2 : nxZ (ltA t) z p = (cM z.1 (setM (Cm z.1) (ix (nuI (ltA t) 1 (p + 1) 0)) (rs (Cm z.1 (ix (nuI (ltA t) 1 (p + 1) 0))) 1 (nuI (ltA t) 5 (p + 2) 0))), z.2) := by unfold nxZ; rw [if_neg c1, if_pos c2]
    rw [e1] at hno hk
    rw [e2] at hk
    rw [if_pos c2, N1 _ (by omega)]
    refine ⟨X.1.1, ?_⟩
    rw [N5 _ (by omega)]
    refine ⟨t13, t_Ledger_takeDebt L _ _ (fun v e n => ?_) fun f h' ef hf e3 fr L' => ?_⟩
    · have e : v = noD z.1 (nuI (ltA t) 1 (p + 1) 0) (nuI (ltA t) 5 (p + 2) 0) := e
      subst e; exact hno _ n (noK_neg (nK_D _ _ _ n))
    · have e0 : noD z.1 (nuI (ltA t) 1 (p + 1) 0) (nuI (ltA t) 5 (p + 2) 0) = 0 := by
        unfold noD
        rw [ef, if_neg (nI_on (by omega) hf), e3]
      rw [ef, ix_nI (by omega)] at hk
      rw [ef] at e0
      exact hk h' _ e0 (bd_ge0 (oz.1.2.2.1 f hf).2.1 (by decide)) (og fr (fun b x => by omega) (fun b x => x.elim)) (same fr _).1 (same fr _).2 ⟨L', LedB_fr Z.2 fr (by omega) (by omega)⟩
  rw [if_neg c2]
  by_cases c3 : ltA t p = 102
  · have e1 : noSt (ltA t) z p = noFam z.1 (nuI (ltA t) 2 (p + 1) 0) (nuI (ltA t) 1 (p + 3) 0) (nuI (ltA t) 1 (p + 4) 0) := by unfold noSt; rw [if_neg c1, if_neg c2, if_pos c3]
    have e2 : nxZ (ltA t) z p = (addFam z.1 (nuI (ltA t) 2 (p + 1) 0) (nuI (ltA t) 1 (p + 3) 0) (nuI (ltA t) 1 (p + 4) 0), z.2) := by unfold nxZ; rw [if_neg c1, if_neg c2, if_pos c3]
    rw [e1] at hno hk
    rw [e2] at hk
    rw [if_pos c3, N2 _ (by omega)]
    refine ⟨X.1.1, ?_⟩
    rw [N1 _ (by omega)]
    refine ⟨X.1.1, ?_⟩
    rw [N1 _ (by omega)]
    refine ⟨t13, t_Ledger_takeFamily L _ _ _ (fun v e n => ?_) fun h' e0 fr L' ke => ?_⟩
    · subst e; exact hno _ n (noK_neg (nK_Fam _ _ _ _ n))
    · exact hk h' _ e0 (nI_pos' (by omega)) (og fr (fun b x => by omega) (fun b x => x.elim)) (same fr _).1 (same fr _).2 ⟨L', LedB_k Z.2 (ke 4 (by decide)) (ke 5 (by decide)) (fun i => fr.2.2.2 _ (by omega) i)⟩
  rw [if_neg c3]
  by_cases c4 : ltA t p = 114
  · have e1 : noSt (ltA t) z p = outN (nuI (ltA t) 2 (p + 1) 0) 0 20 := by unfold noSt; rw [if_neg c1, if_neg c2, if_neg c3, if_pos c4]
    have e2 : nxZ (ltA t) z p = (cR z.1 (nuI (ltA t) 2 (p + 1) 0), z.2) := by unfold nxZ; rw [if_neg c1, if_neg c2, if_neg c3, if_pos c4]
    rw [e1] at hno hk
    rw [e2] at hk
    rw [if_pos c4, N2 _ (by omega)]
    refine ⟨t13, t_Ledger_takeRate L _ (fun v e n => ?_) fun h' fr L' ke e0 => ?_⟩
    · subst e; exact hno _ n (noK_neg (nK_out _ _ _ n))
    · exact hk h' _ e0 (bd_ge0 oz.1.2.1 (by decide)) (og fr (fun b x => by omega) (fun b x => x.elim)) (same fr _).1 (same fr _).2 ⟨L', LedB_k Z.2 (ke 4 (by decide)) (ke 5 (by decide)) (fun i => fr.2.2.2 _ (by omega) i)⟩
  rw [if_neg c4]
  by_cases c5 : ltA t p = 119
  · have e1 : noSt (ltA t) z p = noWork z.1 (nuI (ltA t) 1 (p + 1) 0) (nuI (ltA t) 1 (p + 2) 0) (nuI (ltA t) 3 (p + 3) 0) := by unfold noSt; rw [if_neg c1, if_neg c2, if_neg c3, if_neg c4, if_pos c5]
    have e2 : nxZ (ltA t) z p = (addWork z.1 (wkRow (nuI (ltA t) 1 (p + 1) 0) (nuI (ltA t) 1 (p + 2) 0) (nuI (ltA t) 3 (p + 3) 0)), z.2) := by unfold nxZ; rw [if_neg c1, if_neg c2, if_neg c3, if_neg c4, if_pos c5]
    rw [e1] at hno hk
    rw [e2] at hk
    rw [if_pos c5, N1 _ (by omega)]
    refine ⟨X.1.1, ?_⟩
    rw [N1 _ (by omega)]
    refine ⟨X.1.1, ?_⟩
    rw [N3 _ (by omega)]
    refine ⟨t13, t_Ledger_takeWork L hn _ _ _ (fun v e n => ?_) fun h' e0 fr nx' sl' L' ke kr => ?_⟩
    · subst e; exact hno _ n (noK_neg (nK_Work _ _ _ _ n))
    · refine hk h' _ e0 (nI_pos' (by omega)) (Og_mono fr (fun c _ x => by omega) (fun c _ x => by omega)) ?_ ?_ ⟨L', LedB_k Z.2 (ke 4 (by decide)) (ke 5 (by decide)) (fun i => (fr.2 21 (by omega)).2.2.2 (by omega) i)⟩
      · show nx h' + Cw z.1 = nx h + (Cw z.1 + 1); omega
      · show sl h' + 2 * Cw z.1 = sl h + 2 * (Cw z.1 + 1); omega
  rw [if_neg c5]
  by_cases c6 : ltA t p = 121
  · have e1 : noSt (ltA t) z p = noY z.1 (nuI (ltA t) 2 (p + 1) 0) := by unfold noSt; rw [if_neg c1, if_neg c2, if_neg c3, if_neg c4, if_neg c5]
    have e2 : nxZ (ltA t) z p = (goC (ix (nuI (ltA t) 2 (p + 1) 0)) z.1, z.2) := by unfold nxZ; rw [if_neg c1, if_neg c2, if_neg c3, if_neg c4, if_neg c5]
    rw [e1] at hno hk
    rw [e2] at hk
    rw [if_pos c6, N2 _ (by omega)]
    refine ⟨t13, t_Ledger_takeYears L _ (fun v e n => ?_) fun n h' en q1 q2 q3 fr L' ke => ?_⟩
    · have e : v = noY z.1 (nuI (ltA t) 2 (p + 1) 0) := e
      subst e; exact hno _ n (noK_neg (nK_Y _ _ n))
    · have e0 : noY z.1 (nuI (ltA t) 2 (p + 1) 0) = 0 := by
        unfold noY
        have : outN (nuI (ltA t) 2 (p + 1) 0) 1 60 = 0 := by
          rw [en]; unfold outN
          rw [if_neg (show ¬ nI n < 1 from nI_nlt (b := 1) (by omega) (by omega)), if_neg (show ¬ (60 : Int32) < nI n from nI_nlt (a := 60) (by omega) (by decide))]
        rw [if_pos this, if_pos q3]
      rw [en, ix_nI (by omega)] at hk
      rw [en] at e0
      exact hk h' _ e0 (bd_ge0 (debts_bd (okC_go oz.1 n)) (by decide)) (og fr (fun b x => by omega) (fun b x => x.elim)) (same fr _).1 (same fr _).2 ⟨L', LedB_k Z.2 (ke 4 (by decide)) (ke 5 (by decide)) (fun i => fr.2.2.2 _ (by omega) i)⟩
  · exfalso
    have := gd_ge g
    unfold dgN at this
    rw [if_neg c1, if_neg c2, if_neg c3, if_neg c4, if_neg c5, if_neg c6] at this
    omega
theorem IP_ogM (I : IP h s) (f : OgM h h') : IP h' s := by
  have L : LZ h' 3 s.1 := LZ_og I.2.2.1 f I.2.1 (fun b x => by omega) (fun b x => by omega)
  exact IP_now (z := s.1) I f (fun b x => Or.inl (by omega)) (fun b x => Or.inr x) L
theorem IP_noL (I : IP h s) : IP (sI h 115 1 0) (noL s) :=
  IP_ltr I (Fr_sI _ _ _ _ (Or.inl rfl)) (gI_sI_eq _ _ _ _) (fun i hi => absurd hi (Nat.not_lt_zero _))
theorem t_P_treasury (o : okS s) : PO m_P_treasury [] s (r_treasury s) := by
  intro h k I hk
  have w := pw I.1
  have h6 := okw o
  rw [c_P_treasury]
  simp only [w, true_and]
  refine t_mind_copy I (FT_refl h) fun h1 F1 L1 B1 => ?_
  have I1 := IP_FT I F1
  have w1 := pw I1.1
  have X1 := Tx_IP I1 o
  have hm := X1.2.2.2
  simp only [w1, true_and]
  rw [s_T_form X1]
  unfold r_treasury at hk
  -- what is behind a fault
  have bad : ∀ (h' : PH) (v : Int32) (l2 l3 : Int32) (q4 : Option Value), OgM h1 h' → nx h' ≤ nx h1 + 6 → sl h' ≤ sl h1 + 12 → v < 0 → (∀ h2, IP h2 (noL s) → KQ h h2 → k h2 v) → wp m_P_treasury h' 23 [some (.ref 2), some (.int v), some (.int l2), some (.int l3), q4] [] (tyI k) := by
    intro h' v l2 l3 q4 og n1 n2 hv hk2
    have I' := IP_ogM I1 og
    have w' := pw I'.1
    rw [e_P_treasury_23, if_pos hv, ite_self, e_P_treasury_100]
    simp only [w', true_and]
    rw [c_Text_empty]
    refine ⟨w'.2.2.2.1.1, ?_⟩
    rw [if_pos (Int32.le_of_lt hv), e_P_treasury_129]
    refine hk2 _ (IP_noL I') ?_
    have k1 : KQ h1 h' := KQ_og og I1.2.1 (fun b x => by omega) (fun b x => by omega) n1 n2
    exact KQ_pre F1 (fun b x => by omega) (fun b x => by omega) (KQ_tr k1 (KQ_cell 115 1 0 (by omega)) n1 n2)
  cases hf : frmN (ltA (zL s)) (zL s).1 97 0 with
  | mk b n =>
    rw [hf] at hk
    cases b with
    | false =>
      have hft : ftP (ltA (zL s)) (plN (ltA (zL s)) n) < 2 ^ 20 := frm_ft hm hf
      exact bad h1 _ 0 0 none (Og_fr (Fr_refl _ _ _)) (by omega) (by omega) (neg_i _ (Or.inl rfl) hft) hk
    | true =>
      obtain ⟨f1, f2, f3, f4⟩ := frm_ok hm 97 0 (by omega) (Nat.le_refl 0) (Or.inl rfl) n hf
      have hk : ∀ h', IP h' (treB s n (enN (ltA (zL s)) s.1 n 0)).2 → KQ h h' → k h' (treB s n (enN (ltA (zL s)) s.1 n 0)).1 := hk
      generalize hT : ltA (zL s) = L at *
      refine hp (A := fun j h' => OgM h1 h' ∧ (nx h' + Cw s.1.1 = nx h1 + Cw (zzN L s.1 j).1 ∧ sl h' + 2 * Cw s.1.1 = sl h1 + 2 * Cw (zzN L s.1 j).1) ∧ LZ h' 13 (zzN L s.1 j) ∧ okZ (zzN L s.1 j) ∧ enN L s.1 n 0 = enN L s.1 (n - j) j) (X := fun j h' => ∀ q4, wp m_P_treasury h' 23 [some (.ref 2), some (.int (nI j)), some (.int (nI (plN L j))), some (.int (nI j)), q4] [] (tyI k)) n ?_ ?_ 0 (Nat.zero_le _) h1 ⟨Og_fr (Fr_refl _ _ _), ⟨rfl, rfl⟩, ⟨L1, B1⟩, o.1, rfl⟩ none
      · intro h' ⟨og, nn, Z', oz, en⟩ q3
        rw [Nat.sub_self] at en
        rw [en] at hk
        have hk : ∀ h', IP h' (pastS (nowS (noL s) (zzN (ltA (zL s)) s.1 n)) []) → KQ h h' → k h' (nI n) := hk
        rw [hT] at hk
        have I' := IP_ogM I1 og
        have w' := pw I'.1
        have hpl : plN L n < 2 ^ 20 := by
          obtain ⟨m, rfl⟩ : ∃ m, n = m + 1 := ⟨n - 1, by omega⟩
          have := (f3 m (by omega) (by omega)).2
          have h6 := dgN_le (L (plN L m))
          show plN L m + dgN (L (plN L m)) + 2 < _
          omega
        rw [e_P_treasury_23, if_neg (show ¬ (96 : Int32) ≤ nI n from nI_ge (a := n) (b := 96) (by omega) (by decide)), if_neg (nI_pos (by omega))]
        simp only [w', true_and]
        rw [(Tx_IP I' o).2.1, if_pos (nI_le f4 (by omega)), e_P_treasury_100]
        simp only [w', true_and]
        rw [c_Text_empty]
        refine ⟨w'.2.2.2.1.1, ?_⟩
        have I2 := IP_noL I'
        have fr2 : Fr (fun b => b = 115) (fun _ => False) h' (sI h' 115 1 0) := Fr_sI _ _ _ _ rfl
        have Z2 : LZ (sI h' 115 1 0) 13 (zzN L s.1 n) := LZ_fr Z' fr2 (fun b x => by omega) (fun b x => x.elim)
        generalize sI h' 115 1 0 = h2 at I2 fr2 Z2 ⊢
        have w2 := pw I2.1
        rw [if_neg (nI_nle (by omega) (by omega))]
        simp only [w2, true_and]
        refine t_Ledger_copy Z2.1 Z2.2 I2.1.2.2.2.2.2.2.1.1 (Or.inl (by decide)) fun h3 fr3 L3 B3 => ?_
        have I3 : IP h3 (nowS (noL s) (zzN L s.1 n)) := IP_now I2 (Og_fr fr3) (fun b x => Or.inl (by omega)) (fun b x => Or.inl (by omega)) ⟨L3, B3⟩
        have w3 := pw I3.1
        simp only [w3, true_and]
        rw [c_Past_forget]
        refine ⟨w3.2.2.1.1, ?_⟩
        rw [e_P_treasury_129]
        refine hk _ (IP_forget I3) ?_
        have b6 : Cw (zzN L s.1 n).1 ≤ 6 := oz.1.1.2
        have k1 : KQ h1 h' := KQ_og og I1.2.1 (fun b x => by omega) (fun b x => by omega) (by omega) (by omega)
        have e2n := Fr_nx fr2
        have e2s := Fr_sl fr2
        have e3n := Fr_nx fr3
        have e3s := Fr_sl fr3
        have k2 : KQ h1 h2 := KQ_suf k1 fr2 (fun b x => by omega) (fun b x => x.elim)
        have k3 : KQ h1 h3 := KQ_suf k2 fr3 (fun b x => by omega) (fun b x => by omega)
        have k4 : KQ h1 (sI h3 33 2 0) := KQ_suf k3 (Fr_sI (S := fun b => b = 33) (R := fun _ => False) _ _ _ _ rfl) (fun b x => by omega) (fun b x => x.elim)
        exact KQ_pre F1 (fun b x => by omega) (fun b x => by omega) k4
      · intro j hj h' ⟨og, nn, Z', oz, en⟩ ih q3
        have I' := IP_ogM I1 og
        have w' := pw I'.1
        have X' := Tx_IP I' o
        rw [← hT] at f3
        obtain ⟨g1, g2⟩ := f3 j (Nat.zero_le _) hj
        rw [hT] at f3
        obtain ⟨d, hd⟩ : ∃ d, n - j = d + 1 := ⟨n - j - 1, by omega⟩
        rw [hd] at en
        have en : enN L s.1 n 0 = if noSt L (zzN L s.1 j) (plN L j) = 0 then enN L s.1 d (j + 1) else some j := en
        have b6 : Cw (zzN L s.1 j).1 ≤ 6 := oz.1.1.2
        have g2' : plN L j < (zL s).1 := by rw [← hT]; exact g2
        rw [e_P_treasury_23, if_neg (show ¬ (96 : Int32) ≤ nI j from nI_ge (a := j) (b := 96) (by omega) (by decide)), if_neg (nI_pos (by omega))]
        simp only [w', true_and]
        rw [X'.2.1, if_neg (nI_ge g2' (by omega))]
        rw [← hT] at en ih nn Z' oz ⊢
        refine t_enact X' (by have := I'.2.1; exact this) Z' oz (by omega) g1 (fun v ne hv => ?_) fun h2 v e0 hv og2 n2 s2 Z2 => ?_
        · rw [if_neg ne] at en
          rw [if_pos hv]
          simp only [e_P_treasury_64, e_P_treasury_82]
          rw [if_pos trivial]
          simp only [w', true_and]
          rw [s_T_len X' (by omega)]
          rw [hT] at en
          rw [en] at hk
          have hk : ∀ h', IP h' (noL s) → KQ h h' → k h' (-2000 - nI (plN (ltA (zL s)) j)) := hk
          refine bad h' _ _ _ _ og ?_ ?_ (neg_i _ (Or.inr rfl) (by omega)) hk
          · have := nn.1; rw [hT] at this; omega
          · have := nn.2; rw [hT] at this; omega
        · rw [if_pos e0] at en
          rw [if_neg (Int32.not_lt.mpr hv)]
          have og3 : OgM h1 h2 := Og_trans og og2
          have I2 := IP_ogM I1 og3
          have w2 := pw I2.1
          have X2 := Tx_IP I2 o
          simp only [e_P_treasury_64, e_P_treasury_82]
          rw [if_neg (by decide)]
          simp only [w2, true_and]
          rw [s_T_len X2 (by omega), nI_1, nI_add]
          refine ih h2 ⟨og3, ⟨?_, ?_⟩, Z2, okZ_nx oz e0, ?_⟩ _
          · have a := nn.1
            show nx h2 + _ = nx h1 + Cw (nxZ (ltA (zL s)) (zzN (ltA (zL s)) s.1 j) (plN (ltA (zL s)) j)).1
            omega
          · have a := nn.2
            show sl h2 + _ = sl h1 + 2 * Cw (nxZ (ltA (zL s)) (zzN (ltA (zL s)) s.1 j) (plN (ltA (zL s)) j)).1
            omega
          · rw [show n - (j + 1) = d by omega]; exact en
end TreP
