/-! ===== the class thinks: helpers ===== -/
def eith (x M y N : Int32) : Int32 := if x < 0 ∨ y < 0 then -4 else if M < x ∨ N < y then -6 else 0
theorem nK_eith (x M y N : Int32) : eith x M y N ≠ 0 → noK (eith x M y N) := by
  unfold eith noK
  split
  · intro _; simp
  · split
    · intro _; simp
    · intro z; exact absurd rfl z
theorem eith_0 {x y : Int32} {M N : Nat} (hM : M < 2 ^ 31) (hN : N < 2 ^ 31) (e : eith x (nI M) y (nI N) = 0) : ∃ m n, m ≤ M ∧ n ≤ N ∧ x = nI m ∧ y = nI n := by
  unfold eith at e
  by_cases c : x < 0 ∨ y < 0
  · rw [if_pos c] at e; exact absurd e (by decide)
  · rw [if_neg c] at e
    by_cases d : nI M < x ∨ nI N < y
    · rw [if_pos d] at e; exact absurd e (by decide)
    · obtain ⟨m, hm, rfl⟩ := nI_of (x := x) (fun z => c (Or.inl z))
      obtain ⟨n, hn, rfl⟩ := nI_of (x := y) (fun z => c (Or.inr z))
      exact ⟨m, n, Nat.le_of_not_lt fun z => d (Or.inl (nI_lt z hm)), Nat.le_of_not_lt fun z => d (Or.inr (nI_lt z hn)), rfl, rfl⟩
theorem th_if {X : Int32 → Prop} {a b : Int32} (h : X (th a b)) : if ¬ a = 0 then X a else X b := by
  unfold th at h
  by_cases c : a = 0
  · rw [if_neg (fun z => z c)]; rw [if_pos c] at h; exact h
  · rw [if_pos c]; rw [if_neg c] at h; exact h
theorem th_if2 {X : Int32 → Prop} {a b : Int32} (h : X (th a b)) : if a = 0 then X b else X a := by
  unfold th at h
  by_cases c : a = 0
  · rw [if_pos c]; rw [if_pos c] at h; exact h
  · rw [if_neg c]; rw [if_neg c] at h; exact h
section PHelp
variable {h h0 : PH} {s : Sta} {c : Core} {r : Row} {f n : Nat}
theorem PL (I : IP h s) : Led h 3 (zC s) := I.2.2.1.1
theorem PB (I : IP h s) : LedB h 3 (zB s) := I.2.2.1.2
theorem s_P_noFamilyAhead (I : IP h s) (x y : Int32) (k : PH → Int32 → Prop) : ccI m_P_noFamilyAhead h [.ref 2, .int x, .int y] k = k h (th (nF (zC s) x) (outN y 0 100)) := by
  have w := pw I.1
  have L := PL I
  rw [c_P_noFamilyAhead]
  simp only [w, true_and]
  rw [s_Ledger_lacksFamily L.1 L.2.2.1.1]
  simp only [s_P_notAhead, e_P_noFamilyAhead_21]
  unfold th nF
  split <;> rfl
theorem s_P_noTwoAhead (I : IP h s) (x y z : Int32) (k : PH → Int32 → Prop) : ccI m_P_noTwoAhead h [.ref 2, .int x, .int y, .int z] k = k h (th (nTwo (zC s) x y) (outN z 0 100)) := by
  have w := pw I.1
  have L := PL I
  rw [c_P_noTwoAhead]
  simp only [w, true_and]
  rw [s_Ledger_lacksTwo L.1 L.2.2.1.1]
  simp only [s_P_notAhead, e_P_noTwoAhead_25]
  unfold th nTwo
  split <;> rfl
theorem s_P_eitherOutside (h : PH) (x M y N : Int32) (k : PH → Int32 → Prop) : ccI m_P_eitherOutside h [.int x, .int M, .int y, .int N] k = k h (eith x M y N) := by
  rw [c_P_eitherOutside]
  simp only [e_P_eitherOutside_8, e_P_eitherOutside_21, e_P_eitherOutside_27, eith]
  by_cases c1 : x < 0
  · rw [if_pos c1, if_pos (Or.inl c1)]
  rw [if_neg c1]
  by_cases c2 : y < 0
  · rw [if_neg (Int32.not_le.mpr c2), if_pos (Or.inr c2)]
  have n1 : ¬ (x < 0 ∨ y < 0) := fun z => z.elim c1 c2
  rw [if_pos (Int32.not_lt.mp c2), if_neg n1]
  by_cases c3 : M < x
  · rw [if_pos c3, if_pos (Or.inl c3)]
  rw [if_neg c3]
  by_cases c4 : N < y
  · rw [if_neg (Int32.not_le.mpr c4), if_pos (Or.inr c4)]
  have n2 : ¬ (M < x ∨ N < y) := fun z => z.elim c3 c4
  rw [if_pos (Int32.not_lt.mp c4), if_neg n2]
theorem FT_im (F : FT h0 h) (r : Row) : FT h0 (wR h 119 r) := Fr_trans F (Fr_wR _ _ _ (Or.inr (Or.inr ⟨by decide, by decide⟩)))
theorem FT_im2 (F : FT h0 h) (r : Row) : FT h0 (wR h 120 r) := Fr_trans F (Fr_wR _ _ _ (Or.inr (Or.inr ⟨by decide, by decide⟩)))
theorem t_im_copy (I : IP h0 s) (F : FT h0 h) (hf : f < Cf (zC s)) {k : PH → Prop} (hk : ∀ h', FT h0 h' → Ew 7 (gI h' 119) (fz (Cm (zC s) f)) → gI h' 120 = gI h 120 → k h') : ccV m_Family_copy h [.ref 119, .ref (3 + 2 + f)] k := by
  have I1 := IP_FT I F
  have L := PL I1
  have h5 := L.2.1.1
  rw [s_Family_copy (pw I1.1).2.2.2.2.1.2.2.2.2.1 (Led_tgf L (by omega)) (by omega)]
  refine hk _ (FT_im F _) ?_ (gI_wR_ne _ _ (by decide))
  rw [gI_wR]
  exact Ew_trans (rCopy_e _ _) (fz_c (L.2.2.2.1 f hf))
theorem t_im_years (I : IP h0 s) (F : FT h0 h) (e : Ew 7 (gI h 119) r) (hn : n < 2 ^ 30) {x y : Int32} {k : PH → Prop} (hk : ∀ h', FT h0 h' → Ew 7 (gI h' 119) (rYears x y n r) → gI h' 120 = gI h 120 → k h') : ccV m_Family_passYears h [.ref 119, .int x, .int y, .int (nI n)] k := by
  have I1 := IP_FT I F
  rw [s_Family_passYears (pw I1.1).2.2.2.2.1.2.2.2.2.1 _ _ hn]
  refine hk _ (FT_im F _) ?_ (gI_wR_ne _ _ (by decide))
  rw [gI_wR]
  exact rYears_e e _ _ (Or.inr rfl) n
theorem t_im_year (I : IP h0 s) (F : FT h0 h) (e : Ew 7 (gI h 119) r) {x y : Int32} {k : PH → Prop} (hk : ∀ h', FT h0 h' → Ew 7 (gI h' 119) (rYear x y r) → k h') : ccV m_Family_passYear h [.ref 119, .int x, .int y] k := by
  have I1 := IP_FT I F
  rw [s_Family_passYear (pw I1.1).2.2.2.2.1.2.2.2.2.1]
  refine hk _ (FT_im F _) ?_
  rw [gI_wR]
  exact rYear_e e _ _ (Or.inr rfl)
theorem t_im_pay (I : IP h0 s) (F : FT h0 h) (e : Ew 7 (gI h 119) r) {x : Int32} {k : PH → Prop} (hk : ∀ h', FT h0 h' → Ew 7 (gI h' 119) (rPay x r) → k h') : ccV m_Family_pay h [.ref 119, .int x] k := by
  have I1 := IP_FT I F
  rw [s_Family_pay (pw I1.1).2.2.2.2.1.2.2.2.2.1]
  refine hk _ (FT_im F _) ?_
  rw [gI_wR]
  exact rPay_e (by decide) e _ (by omega)
theorem t_im_owe (I : IP h0 s) (F : FT h0 h) (e : Ew 7 (gI h 119) r) {x : Int32} {k : PH → Prop} (hk : ∀ h', FT h0 h' → Ew 7 (gI h' 119) (rOwe x r) → k h') : ccV m_Family_owe h [.ref 119, .int x] k := by
  have I1 := IP_FT I F
  rw [s_Family_owe (pw I1.1).2.2.2.2.1.2.2.2.2.1]
  refine hk _ (FT_im F _) ?_
  rw [gI_wR]
  exact rOwe_e (by decide) e _
theorem t_im_settle (I : IP h0 s) (F : FT h0 h) (e : Ew 7 (gI h 119) r) {x : Int32} {k : PH → Prop} (hk : ∀ h', FT h0 h' → Ew 7 (gI h' 119) (rSettle x r) → k h') : ccV m_Family_settle h [.ref 119, .int x] k := by
  have I1 := IP_FT I F
  rw [s_Family_settle (pw I1.1).2.2.2.2.1.2.2.2.2.1]
  refine hk _ (FT_im F _) ?_
  rw [gI_wR]
  exact rSettle_e (by decide) e _ (Or.inr rfl)
theorem t_im_bear (I : IP h0 s) (F : FT h0 h) (e : Ew 7 (gI h 119) r) {k : PH → Prop} (hk : ∀ h', FT h0 h' → Ew 7 (gI h' 119) (rBear r) → k h') : ccV m_Family_bear h [.ref 119] k := by
  have I1 := IP_FT I F
  rw [s_Family_bear (pw I1.1).2.2.2.2.1.2.2.2.2.1]
  refine hk _ (FT_im F _) ?_
  rw [gI_wR]
  exact rBear_e (by decide) e (Or.inr rfl)
theorem im_set (F : FT h0 h) (e : Ew 7 (gI h 119) r) (j : Nat) (x : Int32) : FT h0 (sI h 119 j x) ∧ Ew 7 (gI (sI h 119 j x) 119) (rs r j x) := by
  rw [sI_wR]
  exact ⟨FT_im F _, by rw [gI_wR]; exact Ew_rs e j rfl⟩
theorem s_im_head (I : IP h s) (e : Ew 7 (gI h 119) r) (k : PH → Int32 → Prop) : ccI m_Family_headOwes h [.ref 119] k = k h (hoR r) := by
  rw [s_Family_headOwes (pw I.1).2.2.2.2.1.2.2.2.2.1, e 0 (by decide), e 1 (by decide)]
  rfl
theorem e4_go (e : Ew 7 r (rYears (Cr c) (Cy c) n (fz (Cm c f)))) : Ew 4 r (Cm (goC n c) f) := Ew_trans (Ew_le (by decide) e) (rYears_e (fz_e _) _ _ (Or.inl rfl) n)
theorem t_P_ahead (I : IP h0 s) (F : FT h0 h) (hf : f < Cf (zC s)) (hn : n < 2 ^ 30) {k : PH → Prop} (hk : ∀ h', FT h0 h' → Ew 7 (gI h' 119) (rYears (Cr (zC s)) (Cy (zC s)) n (fz (Cm (zC s) f))) → gI h' 120 = gI h 120 → k h') : ccV m_P_ahead h [.ref 2, .int (nI f), .int (nI n)] k := by
  have I1 := IP_FT I F
  have w := pw I1.1
  have L := PL I1
  have h5 := L.2.1.1
  rw [c_P_ahead]
  simp only [w, true_and]
  rw [Led_at L (by omega)]
  simp only [w, true_and]
  refine t_im_copy I F hf fun h2 F2 e2 g2 => ?_
  have I2 := IP_FT I F2
  have w2 := pw I2.1
  have L2 := PL I2
  simp only [w2, true_and]
  rw [L2.2.2.1.2.2.1, L2.2.2.1.2.2.2]
  exact t_im_years I F2 e2 hn fun h3 F3 e3 g3 => hk h3 F3 e3 (g3.trans g2)
theorem s_P_headOwesBehind (I : IP h0 s) (F : FT h0 h) (hf : f < Cf (zC s)) (hn : n < 2 ^ 30) {k : PH → Int32 → Prop} (hk : ∀ h', FT h0 h' → k h' (hoR (Cm (goC n (zC s)) f))) : ccI m_P_headOwesBehind h [.ref 2, .int (nI f), .int (nI n)] k := by
  have I1 := IP_FT I F
  rw [c_P_headOwesBehind]
  refine ⟨(pw I1.1).1, t_P_ahead I F hf hn fun h1 F1 e1 _ => ?_⟩
  have I2 := IP_FT I F1
  have w2 := pw I2.1
  simp only [w2, true_and]
  rw [s_im_head I2 e1, hoR_e (Ew_trans (Ew_refl 4 _) (rYears_e (fz_e _) _ _ (Or.inl rfl) n))]
  exact hk h1 F1
theorem t_mind_copy (I : IP h0 s) (F : FT h0 h) {k : PH → Prop} (hk : ∀ h', FT h0 h' → Led h' 13 (zC s) → LedB h' 13 (zB s) → k h') : ccV m_Ledger_copy h [.ref 13, .ref 3] k := by
  have I1 := IP_FT I F
  exact t_Ledger_copy (PL I1) (PB I1) I1.1.2.2.2.2.2.2.1.2.1 (Or.inr (by decide)) fun h' fr L' B' => hk h' (Fr_trans F (Fr_mono fr (fun b x => by omega) (fun b x => by omega))) L' B'
theorem t_mind_years (F : FT h0 h) (L : Led h 13 c) (hn : n < 2 ^ 30) {k : PH → Prop} (hk : ∀ h', FT h0 h' → Led h' 13 (goC n c) → k h') : ccV m_Ledger_passYears h [.ref 13, .int (nI n)] k :=
  t_Ledger_passYears L hn fun h' fr L' _ => hk h' (Fr_trans F (Fr_mono fr (fun b x => by omega) (fun b x => x.elim))) L'
theorem t_mind_year (F : FT h0 h) (L : Led h 13 c) {k : PH → Prop} (hk : ∀ h', FT h0 h' → Led h' 13 (goC 1 c) → k h') : ccV m_Ledger_passYear h [.ref 13] k :=
  t_Ledger_passYear L fun h' fr L' _ => hk h' (Fr_trans F (Fr_mono fr (fun b x => by omega) (fun b x => x.elim))) L'
theorem t_mind_behind (F : FT h0 h) (L : Led h 13 c) (hn : n < 2 ^ 30) {k : PH → Int32 → Prop} (hk : ∀ h', FT h0 h' → Led h' 13 (goC n c) → k h' (debtsC (goC n c))) : ccI m_Ledger_allDebtsBehind h [.ref 13, .int (nI n)] k :=
  t_Ledger_allDebtsBehind L hn fun h' fr L' _ => hk h' (Fr_trans F (Fr_mono fr (fun b x => by omega) (fun b x => x.elim))) L'
theorem t_mind_charge (F : FT h0 h) (L : Led h 13 c) (o : okC c) {w : Nat} (hw : w < Cw c) {k : PH → Prop} (hk : ∀ h', FT h0 h' → Led h' 13 (chargeC c (Ck c w)) → k h') : ccV m_Ledger_charge h [.ref 13, .int (nI w)] k :=
  t_Ledger_charge L o hw fun h' fr L' => hk h' (Fr_trans F (Fr_mono fr (fun b x => by omega) (fun b x => x.elim))) L'
theorem t_mind_chargeSet (F : FT h0 h) (L : Led h 13 c) (o : okC c) (B : Int32) {k : PH → Prop} (hk : ∀ h', FT h0 h' → Led h' 13 (chargeN B c (Cw c)) → k h') : ccV m_Ledger_chargeSet h [.ref 13, .int B] k :=
  t_Ledger_chargeSet L o B fun h' fr L' => hk h' (Fr_trans F (Fr_mono fr (fun b x => by omega) (fun b x => x.elim))) L'
theorem mind_set (F : FT h0 h) (L : Led h 13 c) (hf : f < Cf c) (j : Nat) (x : Int32) : FT h0 (sI h (13 + 2 + f) j x) ∧ Led (sI h (13 + 2 + f) j x) 13 (cM c (setM (Cm c) f (rs (Cm c f) j x))) := by
  have h5 := L.2.1.1
  rw [sI_wR]
  exact ⟨Fr_trans F (Fr_wR _ _ _ (by omega)), Led_wR L (by omega) (Ew_rs (L.2.2.2.1 f hf) j rfl)⟩
theorem mind_rate (F : FT h0 h) (L : Led h 13 c) (x : Int32) : FT h0 (sI h 13 3 x) ∧ Led (sI h 13 3 x) 13 (cR c x) := ⟨Fr_trans F (Fr_sI _ _ _ _ (by omega)), Led_rt L x⟩
theorem s_mind_head {a : Nat} (L : Led h a c) (hf : f < Cf c) (k : PH → Int32 → Prop) : ccI m_Family_headOwes h [.ref (a + 2 + f)] k = k h (hoR (Cm c f)) := by
  have h5 := L.2.1.1
  rw [s_Family_headOwes (Led_tgf L (by omega)), L.2.2.2.1 f hf 0 (by decide), L.2.2.2.1 f hf 1 (by decide)]
  rfl
theorem s_share (I : IP h0 s) (F : FT h0 h) (o : okS s) {w : Nat} (hw : w < Cw (zC s)) (hf : f < Cf (zC s)) {k : PH → Int32 → Prop} (hk : ∀ h', FT h0 h' → gI h' 119 = gI h 119 → gI h' 120 = gI h 120 → k h' (shareC (zC s) (Ck (zC s) w) f)) : ccI m_Ledger_shareOf h [.ref 3, .int (nI w), .int (nI f)] k := by
  have I1 := IP_FT I F
  have h5 := (PL I1).2.1.1
  exact t_Ledger_shareOf (PL I1) o.1.1 hw (by omega) fun h' fr => hk h' (Fr_trans F (Fr_mono fr (fun b x => by omega) (fun b x => x.elim))) (funext fun j => fr.2.2.2 119 (by omega) j) (funext fun j => fr.2.2.2 120 (by omega) j)
end PHelp
