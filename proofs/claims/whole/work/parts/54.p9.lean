/-! ===== the class: rate, years, debt, builds, family, work, back ===== -/
theorem bd_ge0 {x : Int32} {lo hi : Nat} (b : bd x lo hi) (h : hi < 2 ^ 31) : 0 ≤ x := by
  obtain ⟨n, e, _, h2⟩ := bd_of b
  rw [e]; exact nI_pos' (by omega)
theorem LedB_k {h h' : PH} {a : Nat} {bo : List Nat} (B : LedB h a bo) (e4 : gI h' a 4 = gI h a 4) (e5 : gI h' a 5 = gI h a 5) (e8 : ∀ i, gI h' (a + 8) i = gI h (a + 8) i) : LedB h' a bo :=
  ⟨B.1, e4.trans B.2.1, e5.trans B.2.2.1, fun i hi => (e8 i).trans (B.2.2.2 i hi)⟩
/-- now is z, and how it was is kept -/
def doS (s : Sta) (z : Zl) : Sta := pastS (nowS s z) (keepL (zP s) s.1)
theorem okS_do {s : Sta} (o : okS s) {z : Zl} (oz : okZ z) : okS (doS s z) := by
  have hl := keepL_len (zP s) s.1 o.2.2.2.1
  refine ⟨oz, o.2.1, fun j x hx => ?_, ?_, o.2.2.2.2.1, o.2.2.2.2.2⟩
  · rcases keepL_get o.2.2.2.1 hx with ⟨_, e⟩ | ⟨_, e⟩
    · rw [e]; exact o.1
    · exact o.2.2.1 _ x e
  · show (keepL (zP s) s.1).length ≤ 8
    have := o.2.2.2.1
    rw [hl]; split <;> omega
theorem okS_no {s : Sta} (o : okS s) {z : Zl} (oz : okZ z) : okS (pastS (nowS s z) []) :=
  ⟨oz, o.2.1, fun j x hx => by have q : ([] : List Zl)[j]? = some x := hx; simp at q, Nat.zero_le _, o.2.2.2.2.1, o.2.2.2.2.2⟩
-- refusals
def noY (c : Core) (x : Int32) : Int32 := if outN x 1 60 = 0 then (if Cy c + x ≤ 999 then 0 else -6) else outN x 1 60
def noD (c : Core) (x y : Int32) : Int32 := if offN x (Cf c) then -1 else outN y 0 99999
def noB (z : Zl) (x : Int32) : Int32 := if offN x (Cw z.1) then -1 else if ix x ∈ z.2 then -3 else 0
theorem nK_Y (c : Core) (x : Int32) : noY c x ≠ 0 → noK (noY c x) := by
  unfold noY
  split
  · split
    · intro z; exact absurd rfl z
    · intro _; unfold noK; simp
  · exact nK_out _ _ _
theorem nK_D (c : Core) (x y : Int32) : noD c x y ≠ 0 → noK (noD c x y) := by
  unfold noD
  split
  · intro _; unfold noK; simp
  · exact nK_out _ _ _
theorem nK_B (z : Zl) (x : Int32) : noB z x ≠ 0 → noK (noB z x) := by
  unfold noB noK
  split
  · intro _; simp
  · split
    · intro _; simp
    · intro z; exact absurd rfl z
theorem nK_Fam (c : Core) (x y z : Int32) : noFam c x y z ≠ 0 → noK (noFam c x y z) := by
  unfold noFam noK
  split
  · intro _; simp
  · split
    · intro _; simp
    · intro z; exact absurd rfl z
theorem nK_Work (c : Core) (x y z : Int32) : noWork c x y z ≠ 0 → noK (noWork c x y z) := by
  unfold noWork noK
  split
  · intro _; simp
  · split
    · intro _; simp
    · split
      · intro _; simp
      · intro z; exact absurd rfl z
theorem noB_0 {z : Zl} {x : Int32} (h6 : Cw z.1 ≤ 6) (e : noB z x = 0) : ∃ w, w < Cw z.1 ∧ x = nI w ∧ w ∉ z.2 := by
  unfold noB at e
  by_cases d : offN x (Cw z.1)
  · rw [if_pos d] at e; exact absurd e (by decide)
  · rw [if_neg d] at e
    obtain ⟨w, hw, rfl⟩ := on_nI (by omega) d
    rw [ix_nI (by omega)] at e
    by_cases d2 : w ∈ z.2
    · rw [if_pos d2] at e; exact absurd e (by decide)
    · exact ⟨w, hw, rfl, d2⟩
-- answers and what is then
def r_rate (s : Sta) (x : Int32) : Int32 × Sta := if outN x 0 20 = 0 then (Cr (zC s), doS s (cR (zC s) x, zB s)) else refR s (outN x 0 20)
def r_years (s : Sta) (x : Int32) : Int32 × Sta := if noY (zC s) x = 0 then (debtsC (goC (ix x) (zC s)), doS s (goC (ix x) (zC s), zB s)) else refR s (noY (zC s) x)
def r_debt (s : Sta) (x y : Int32) : Int32 × Sta := if noD (zC s) x y = 0 then (Cm (zC s) (ix x) 1, doS s (cM (zC s) (setM (Cm (zC s)) (ix x) (rs (Cm (zC s) (ix x)) 1 y)), zB s)) else refR s (noD (zC s) x y)
def r_builds (s : Sta) (x : Int32) : Int32 × Sta := if noB s.1 x = 0 then (debtsC (chargeC (zC s) (Ck (zC s) (ix x))), doS s (chargeC (zC s) (Ck (zC s) (ix x)), zB s ++ [ix x])) else refR s (noB s.1 x)
def r_family (s : Sta) (x y z : Int32) : Int32 × Sta := if noFam (zC s) x y z = 0 then (nI (Cf (zC s)), pastS (nowS s (addFam (zC s) x y z, zB s)) []) else refR s (noFam (zC s) x y z)
def r_work (s : Sta) (x y z : Int32) : Int32 × Sta := if noWork (zC s) x y z = 0 then (nI (Cw (zC s)), pastS (nowS s (addWork (zC s) (wkRow x y z), zB s)) []) else refR s (noWork (zC s) x y z)
-- what is then is as it must be
theorem okC_rt {c : Core} (o : okC c) {x : Int32} (b : bd x 0 20) : okC (cR c x) := ⟨o.1, b, o.2.2⟩
theorem outN_bd {x : Int32} {lo hi : Nat} (hl : lo < 2 ^ 31) (e : outN x (nI lo) (nI hi) = 0) : bd x lo hi := by
  obtain ⟨n, hn, rfl, h1, h2⟩ := outN_0 hl e
  unfold bd
  rw [ix_nI hn]
  exact ⟨rfl, h1, h2⟩
theorem noFam_0 {c : Core} {x y z : Int32} (e : noFam c x y z = 0) : bd x 1 20 ∧ bd y 0 9 ∧ bd z 0 9 ∧ Cf c ≠ 5 := by
  unfold noFam at e
  by_cases d : x < 1 ∨ y < 0 ∨ z < 0
  · rw [if_pos d] at e; exact absurd e (by decide)
  · rw [if_neg d] at e
    by_cases d2 : 20 < x ∨ 9 < y ∨ 9 < z ∨ Cf c = 5
    · rw [if_pos d2] at e; exact absurd e (by decide)
    · have key : ∀ (v : Int32) (lo hi : Nat), lo < 2 ^ 31 → ¬ v < nI lo → ¬ nI hi < v → bd v lo hi := fun v lo hi hl a b => outN_bd hl (by unfold outN; rw [if_neg a, if_neg b])
      exact ⟨key x 1 20 (by decide) (fun q => d (Or.inl q)) (fun q => d2 (Or.inl q)), key y 0 9 (by decide) (fun q => d (Or.inr (Or.inl q))) (fun q => d2 (Or.inr (Or.inl q))), key z 0 9 (by decide) (fun q => d (Or.inr (Or.inr q))) (fun q => d2 (Or.inr (Or.inr (Or.inl q)))), fun q => d2 (Or.inr (Or.inr (Or.inr q)))⟩
theorem noWork_0 {c : Core} {x y z : Int32} (e : noWork c x y z = 0) : bd x 0 5 ∧ bd y 0 9 ∧ bd z 1 999 ∧ Cw c ≠ 6 := by
  unfold noWork at e
  by_cases d0 : othN x 5 ≠ 0
  · rw [if_pos d0] at e; exact absurd e (by decide)
  · rw [if_neg d0] at e
    have d0' : othN x 5 = 0 := by
      by_cases q : othN x 5 = 0
      · exact q
      · exact absurd q d0
    obtain ⟨m, hm, ex⟩ := oth_0 (m := 5) (by decide) d0'
    by_cases d : y < 0 ∨ z < 1
    · rw [if_pos d] at e; exact absurd e (by decide)
    · rw [if_neg d] at e
      by_cases d2 : 9 < y ∨ 999 < z ∨ Cw c = 6
      · rw [if_pos d2] at e; exact absurd e (by decide)
      · have key : ∀ (v : Int32) (lo hi : Nat), lo < 2 ^ 31 → ¬ v < nI lo → ¬ nI hi < v → bd v lo hi := fun v lo hi hl a b => outN_bd hl (by unfold outN; rw [if_neg a, if_neg b])
        exact ⟨by rw [ex]; exact bd_nI (by omega) hm (by decide), key y 0 9 (by decide) (fun q => d (Or.inl q)) (fun q => d2 (Or.inl q)), key z 1 999 (by decide) (fun q => d (Or.inr q)) (fun q => d2 (Or.inr (Or.inl q))), fun q => d2 (Or.inr (Or.inr q))⟩
theorem okC_fam {c : Core} (o : okC c) {x y z : Int32} (e : noFam c x y z = 0) : okC (addFam c x y z) := by
  obtain ⟨h1, h2, h3, h4⟩ := noFam_0 e
  refine ⟨⟨by have := o.1.1; show Cf c + 1 ≤ 5; omega, o.1.2⟩, o.2.1, fun g hg => ?_, o.2.2.2⟩
  show RgF (setM (Cm c) (Cf c) (famRow x y z) g)
  unfold setM
  split
  · exact ⟨h1, bd_nI (n := 0) (by omega) (by omega) (by decide), h2, h3⟩
  · exact o.2.2.1 g (by have q : g < Cf c + 1 := hg; omega)
theorem okC_wk {c : Core} (o : okC c) {x y z : Int32} (e : noWork c x y z = 0) : okC (addWork c (wkRow x y z)) := by
  obtain ⟨h1, h2, h3, h4⟩ := noWork_0 e
  refine ⟨⟨o.1.1, by have := o.1.2; show Cw c + 1 ≤ 6; omega⟩, o.2.1, o.2.2.1, fun w hw => ?_⟩
  show RgW (setM (Ck c) (Cw c) (wkRow x y z) w)
  unfold setM
  split
  · exact ⟨h1, h2, h3⟩
  · exact o.2.2.2 w (by have q : w < Cw c + 1 := hw; omega)
theorem okB_le {bo : List Nat} {m n : Nat} (o : okB bo m) (h : m ≤ n) : okB bo n := ⟨o.1, fun w hw => Nat.lt_of_lt_of_le (o.2 w hw) h⟩
section P9b
variable {h h' h0 h1 h2 h3 : PH} {s : Sta} {S R : Nat → Prop}
theorem t_P_done (I : IP h0 s) (o : okS s) (F : FT h0 h1) (M : LZ h1 13 s.1) (fr : Fr S R h1 h2) (hS : ∀ b, S b → 3 ≤ b ∧ b ≤ 12) (hR : ∀ b, ¬ R b) {z : Zl} (L : LZ h2 3 z) {x : Int32} (hx : 0 ≤ x) {k : PH → Int32 → Prop} (hk : ∀ h', IP h' (doS s z) → KQ h0 h' → k h' x) : ccI m_P_withPast h2 [.ref 2, .int x] k := by
  have I2 : IP h2 (nowS s z) := IP_now (IP_FT I F) (Og_fr fr) (fun b x => Or.inl (by have := hS b x; omega)) (fun b x => absurd x (hR b)) L
  have M2 : LZ h2 13 s.1 := LZ_fr M fr (fun b x => by have := hS b x; omega) (fun b x => absurd x (hR b))
  refine t_P_withPast I2 o.2.2.2.1 M2 hx fun h3 I3 K3 _ _ => hk h3 I3 ?_
  exact KQ_pre F (fun b x => by omega) (fun b x => by omega) (KQ_pre fr (fun b x => by have := hS b x; omega) (fun b x => absurd x (hR b)) K3)
theorem t_P_not (I : IP h0 s) (F : FT h0 h1) {no : Int32} (hn : noK no) {k : PH → Int32 → Prop} (hk : ∀ h', IP h' (refS s no) → KQ h0 h' → k h' no) : tg h1 2 = 11 ∧ ccI m_P_withPast h1 [.ref 2, .int no] k :=
  ⟨(IP_FT I F).1.1, t_P_withNo (IP_FT I F) hn fun h3 I3 K3 => hk h3 I3 (KQ_pre F (fun b x => by omega) (fun b x => by omega) K3)⟩
theorem t_P_rate (o : okS s) (x : Int32) : PO m_P_rate [.int x] s (r_rate s x) := by
  intro h k I hk
  have w := pw I.1
  rw [c_P_rate]
  simp only [w, true_and]
  refine t_mind_copy I (FT_refl h) fun h1 F1 L1 B1 => ?_
  have I1 := IP_FT I F1
  have w1 := pw I1.1
  simp only [w1, true_and]
  unfold r_rate at hk
  refine t_Ledger_takeRate (PL I1) x (fun v e n => ?_) fun h2 fr L2 ke e => ?_
  · subst e
    rw [if_neg n] at hk
    exact t_P_not I F1 (nK_out _ _ _ n) hk
  · rw [if_pos e] at hk
    refine ⟨(Fr_tg fr 2).trans w1.1, t_P_done I o F1 ⟨L1, B1⟩ fr (fun b x => by omega) (fun b x => x) (z := (cR (zC s) x, zB s)) ⟨L2, LedB_k (PB I1) (ke 4 (by decide)) (ke 5 (by decide)) (fun i => fr.2.2.2 _ (by omega) i)⟩ (bd_ge0 o.1.1.2.1 (by decide)) hk⟩
theorem t_P_years (o : okS s) (x : Int32) : PO m_P_years [.int x] s (r_years s x) := by
  intro h k I hk
  have w := pw I.1
  rw [c_P_years]
  simp only [w, true_and]
  refine t_mind_copy I (FT_refl h) fun h1 F1 L1 B1 => ?_
  have I1 := IP_FT I F1
  have w1 := pw I1.1
  simp only [w1, true_and]
  unfold r_years at hk
  refine t_Ledger_takeYears (PL I1) x (fun v e n => ?_) fun n h2 e1 e2 e3 e4 fr L2 ke => ?_
  · have e : v = noY (zC s) x := e
    subst e
    rw [if_neg n] at hk
    exact t_P_not I F1 (nK_Y _ _ n) hk
  · have e : noY (zC s) x = 0 := by
      unfold noY
      have : outN x 1 60 = 0 := by
        rw [e1]; unfold outN
        rw [if_neg (show ¬ nI n < 1 from nI_nlt (b := 1) (by omega) (by omega)), if_neg (show ¬ (60 : Int32) < nI n from nI_nlt (a := 60) (by omega) (by decide))]
      rw [if_pos this, if_pos e4]
    rw [if_pos e, e1, ix_nI (by omega)] at hk
    refine ⟨(Fr_tg fr 2).trans w1.1, t_P_done I o F1 ⟨L1, B1⟩ fr (fun b x => by omega) (fun b x => x) (z := (goC n (zC s), zB s)) ⟨L2, LedB_k (PB I1) (ke 4 (by decide)) (ke 5 (by decide)) (fun i => fr.2.2.2 _ (by omega) i)⟩ (bd_ge0 (debts_bd (okC_go o.1.1 n)) (by decide)) hk⟩
theorem t_P_debt (o : okS s) (x y : Int32) : PO m_P_debt [.int x, .int y] s (r_debt s x y) := by
  intro h k I hk
  have w := pw I.1
  have h5 := okf o
  rw [c_P_debt]
  simp only [w, true_and]
  refine t_mind_copy I (FT_refl h) fun h1 F1 L1 B1 => ?_
  have I1 := IP_FT I F1
  have w1 := pw I1.1
  simp only [w1, true_and]
  unfold r_debt at hk
  refine t_Ledger_takeDebt (PL I1) x y (fun v e n => ?_) fun f h2 e1 e2 e3 fr L2 => ?_
  · have e : v = noD (zC s) x y := e
    subst e
    rw [if_neg n] at hk
    exact t_P_not I F1 (nK_D _ _ _ n) hk
  · have e : noD (zC s) x y = 0 := by
      unfold noD
      rw [e1, if_neg (nI_on (by omega) e2), e3]
    rw [if_pos e, e1, ix_nI (by omega)] at hk
    refine ⟨(Fr_tg fr 2).trans w1.1, t_P_done I o F1 ⟨L1, B1⟩ fr (fun b x => by omega) (fun b x => x) (z := (cM (zC s) (setM (Cm (zC s)) f (rs (Cm (zC s) f) 1 y)), zB s)) ⟨L2, LedB_fr (PB I1) fr (by omega) (by omega)⟩ (bd_ge0 (o.1.1.2.2.1 f e2).2.1 (by decide)) hk⟩
theorem t_Ledger_buildX {h : PH} {a : Nat} {c : Core} {bo : List Nat} (L : Led h a c) (o : okC c) (B : LedB h a bo) (ob : okB bo (Cw c)) (x : Int32) {k : PH → Int32 → Prop} (hno : ∀ v, v = noB (c, bo) x → v ≠ 0 → k h v)
    (hk : ∀ w h', x = nI w → w < Cw c → w ∉ bo → Fr (fun x => a ≤ x ∧ x ≤ a + 9) (fun _ => False) h h' → Led h' a (chargeC c (Ck c w)) → LedB h' a (bo ++ [w]) → k h' (debtsC (chargeC c (Ck c w)))) : ccI m_Ledger_build h [.ref a, .int x] k := by
  have h6 := o.1.2
  by_cases d : offN x (Cw c)
  · rw [c_Ledger_build]
    refine ⟨L.1.1, ?_⟩
    rw [s_Ledger_workAt_off L.1 L.2.2.1.2.1 d, if_neg (fun z => z rfl)]
    exact hno _ (by unfold noB; rw [if_pos d]) (by decide)
  · obtain ⟨w, hw, rfl⟩ := on_nI (by omega) d
    by_cases e : w ∈ bo
    · have hp0 : ¬ gR h (a + 7) w = 0 := by have := (L.2.2.2.2 w hw).1.1; omega
      rw [c_Ledger_build]
      refine ⟨L.1.1, ?_⟩
      rw [s_Ledger_workAt L.1 L.2.2.1.2.1 L.2.1.2 hw, if_pos hp0]
      refine ⟨L.1.1, ?_⟩
      rw [s_Ledger_isBuilt L.1 B (by omega), if_pos e, if_neg (by decide)]
      exact hno _ (by unfold noB; rw [if_neg d, ix_nI (by omega), if_pos e]) (by decide)
    · exact t_Ledger_build L o B ob hw e fun h' fr L' B' => hk w h' rfl hw e fr L' B'
theorem t_P_builds (o : okS s) (x : Int32) : PO m_P_builds [.int x] s (r_builds s x) := by
  intro h k I hk
  have w := pw I.1
  have h6 := okw o
  rw [c_P_builds]
  simp only [w, true_and]
  refine t_mind_copy I (FT_refl h) fun h1 F1 L1 B1 => ?_
  have I1 := IP_FT I F1
  have w1 := pw I1.1
  simp only [w1, true_and]
  unfold r_builds at hk
  refine t_Ledger_buildX (PL I1) o.1.1 (PB I1) o.1.2 x (fun v e n => ?_) fun f h2 e1 e2 e3 fr L2 B2 => ?_
  · have e : v = noB s.1 x := e
    subst e
    rw [if_neg n] at hk
    exact t_P_not I F1 (nK_B _ _ n) hk
  · have e : noB s.1 x = 0 := by
      unfold noB
      rw [e1, if_neg (nI_on (by omega) e2), ix_nI (by omega), if_neg e3]
    rw [if_pos e, e1, ix_nI (by omega)] at hk
    refine ⟨(Fr_tg fr 2).trans w1.1, t_P_done I o F1 ⟨L1, B1⟩ fr (fun b x => by omega) (fun b x => x) (z := (chargeC (zC s) (Ck (zC s) f), zB s ++ [f])) ⟨L2, B2⟩ (bd_ge0 (debts_bd (okC_charge o.1.1 (o.1.1.2.2.2 f e2))) (by decide)) hk⟩
theorem t_P_family (o : okS s) (x y z : Int32) : PO m_P_family [.int x, .int y, .int z] s (r_family s x y z) := by
  intro h k I hk
  have w := pw I.1
  have h5 := okf o
  rw [c_P_family]
  simp only [w, true_and]
  unfold r_family at hk
  refine t_Ledger_takeFamily (PL I) x y z (fun v e n => ?_) fun h2 e fr L2 ke => ?_
  · subst e
    rw [if_neg n] at hk
    exact ⟨I.1.1, t_P_withoutNo I (nK_Fam _ _ _ _ n) hk⟩
  · rw [if_pos e] at hk
    have B2 : LedB h2 3 (zB s) := LedB_k (PB I) (ke 4 (by decide)) (ke 5 (by decide)) (fun i => fr.2.2.2 _ (by omega) i)
    have I2 : IP h2 (nowS s (addFam (zC s) x y z, zB s)) := IP_now I (Og_fr fr) (fun b x => Or.inl (by omega)) (fun b x => x.elim) ⟨L2, B2⟩
    refine ⟨I2.1.1, t_P_withoutPast I2 (nI_pos' (by omega)) (hk _ (IP_forget I2) ?_)⟩
    exact KQ_pre fr (fun b x => by omega) (fun b x => x.elim) (KQ_cell 33 2 0 (by omega))
theorem t_P_work (o : okS s) (x y z : Int32) : PO m_P_work [.int x, .int y, .int z] s (r_work s x y z) := by
  intro h k I hk
  have w := pw I.1
  have h6 := okw o
  have hn := I.2.1
  rw [c_P_work]
  simp only [w, true_and]
  unfold r_work at hk
  refine t_Ledger_takeWork (PL I) hn x y z (fun v e n => ?_) fun h2 e og n2 s2 L2 ke kr => ?_
  · subst e
    rw [if_neg n] at hk
    exact ⟨I.1.1, t_P_withoutNo I (nK_Work _ _ _ _ n) hk⟩
  · rw [if_pos e] at hk
    have B2 : LedB h2 3 (zB s) := LedB_k (PB I) (ke 4 (by decide)) (ke 5 (by decide)) (fun i => (og.2 11 (by omega)).2.2.2 (by omega) i)
    have I2 : IP h2 (nowS s (addWork (zC s) (wkRow x y z), zB s)) := IP_now I og (fun b x => Or.inl (by omega)) (fun b x => Or.inl (by omega)) ⟨L2, B2⟩
    refine ⟨I2.1.1, t_P_withoutPast I2 (nI_pos' (by omega)) (hk _ (IP_forget I2) ?_)⟩
    have k1 : KQ h h2 := KQ_og og hn (fun b x => by omega) (fun b x => by omega) (by omega) (by omega)
    exact KQ_tr k1 (KQ_cell 33 2 0 (by omega)) (by show nx h2 ≤ nx h + 6; omega) (by show sl h2 ≤ sl h + 12; omega)
/-- the latest that was kept -/
def r_back (s : Sta) : Int32 × Sta := match (zP s).getLast? with
  | none => refR s (-3)
  | some z => (nI ((zP s).length - 1), pastS (nowS s z) (zP s).dropLast)
theorem t_P_back (o : okS s) : PO m_P_back [] s (r_back s) := by
  intro h k I hk
  have w := pw I.1
  have st := I.2.2.2
  have h8 := o.2.2.2.1
  obtain ⟨n, hn, n1, n2, n3⟩ := st.2.2.1
  rw [c_P_back]
  simp only [w, true_and]
  rw [n2]
  unfold r_back at hk
  cases hl : (zP s).getLast? with
  | none =>
    rw [hl] at hk
    have e0 : (zP s).length = 0 := by rw [List.getLast?_eq_none_iff.mp hl]; rfl
    rw [e0, if_neg (fun z => z rfl)]
    exact t_P_refused I (by unfold noK; simp) hk
  | some z =>
    rw [hl] at hk
    have hz : (zP s)[(zP s).length - 1]? = some z := by rw [← List.getLast?_eq_getElem?]; exact hl
    have h1 : 1 ≤ (zP s).length := by have := (List.getElem?_eq_some_iff.mp hz).1; omega
    have oz := o.2.2.1 _ z hz
    rw [if_pos (nI_ne0 (by omega) (by omega)), c_Past_takeBack]
    simp only [w, true_and, tg_sI, gI_sI_eq]
    rw [n1, (next_dec ⟨n, hn⟩).2]
    generalize hm : (n + 7) % 8 = m
    have hm8 : m < 8 := by omega
    have em : nI ((((⟨n, hn⟩ : Fin 8) : Nat) + 7) % 8) = nI m := by rw [← hm]
    have fr1 : Fr (fun b => b = 33) (fun _ => False) h (sI h 33 1 (nI m)) := Fr_sI _ _ _ _ rfl
    refine ⟨by decide, ?_⟩
    have kept : ∀ k : PH → Nat → Prop, ccA m_Past_kept (sI h 33 1 (nI m)) [.ref 33, .int (nI m)] k = k (sI h 33 1 (nI m)) (35 + 10 * m) := fun k => by
      rw [c_Past_kept, if_neg (nI_pos (by omega))]
      simp only [tg_sI, gR_sI, ln_sI, w, true_and, e_Past_kept_21, e_Past_kept_22]
      rw [show Int32.ofNat 8 = nI 8 from rfl, if_neg (nI_ge hm8 (by decide)), ix_nI (by omega), (I.1.2.2.2.2.2.2.2 m hm8).1]
      simp [inb_nI hm8]
    rw [kept]
    have em2 : pl n (zP s).length ((zP s).length - 1) = 35 + 10 * m := by unfold pl; rw [← hm]; omega
    have Z := n3 _ z hz
    rw [em2] at Z
    have Z1 : LZ (sI h 33 1 (nI m)) (35 + 10 * m) z := LZ_fr Z fr1 (fun b x => by omega) (fun b x => x.elim)
    have I1L : isLed (sI h 33 1 (nI m)) 3 := isLed_fr I.2.2.1.1.1 fr1 (fun x => x) (fun x => x)
    refine ⟨w.2.2.2.2.2.1, t_Ledger_copy Z1.1 Z1.2 I1L (Or.inl (by omega)) fun h2 fr2 L2 B2 => ?_⟩
    have t2 : tg h2 33 = 5 := (Fr_tg fr2 33).trans w.2.2.1.1
    have e2 : gI h2 33 2 = nI (zP s).length := by rw [fr2.2.2.2 33 (by omega), gI_sI_ne _ _ _ _ (by omega)]; exact n2
    have e1 : gI h2 33 1 = nI m := by rw [fr2.2.2.2 33 (by omega), gI_sI_eq]
    have eR : ∀ j, gR h2 2 j = gR h 2 j := fun j => fr2.2.2.1 2 (by omega) j
    rw [e2, show nI (zP s).length - 1 = nI ((zP s).length - 1) from nI_subI h1]
    refine ⟨t2, t2, ?_⟩
    generalize hF : sI h2 33 2 (nI ((zP s).length - 1)) = h3
    have fr3 : Fr (fun b => b = 33) (fun _ => False) h2 h3 := by rw [← hF]; exact Fr_sI _ _ _ _ rfl
    have frA : Fr (fun b => (3 ≤ b ∧ b ≤ 11) ∨ b = 33) (fun b => b = 10) h h3 := Fr_trans (Fr_mono fr1 (fun b x => Or.inr x) (fun b x => x.elim)) (Fr_trans (Fr_mono fr2 (fun b x => Or.inl x) (fun b x => x)) (Fr_mono fr3 (fun b x => Or.inr x) (fun b x => x.elim)))
    have e3b : gI h3 33 2 = nI ((zP s).length - 1) := by rw [← hF, gI_sI_eq]
    have e3a : gI h3 33 1 = nI m := by rw [← hF, gI_sI_ne _ _ _ _ (by omega)]; exact e1
    have ne : ∀ b, ¬ ((3 ≤ b ∧ b ≤ 11) ∨ b = 33) → gI h3 b = gI h b := fun b hb => funext fun j => frA.2.2.2 b hb j
    have lz : ∀ a y, LZ h a y → 13 ≤ a → ¬ (a ≤ 33 ∧ 33 ≤ a + 8) → LZ h3 a y := fun a y l d d2 => LZ_fr l frA (fun b x => by omega) (fun b x => by omega)
    have ip : isP h3 := isP_fr I.1 frA (fun b x => by omega)
    have w3 := pw ip
    simp only [w3, true_and]
    rw [e3b]
    refine ⟨(Fr_tg fr2 2).trans w.1, t2, hk h3 ⟨ip, by rw [Fr_nx frA]; exact I.2.1, LZ_fr ⟨L2, B2⟩ fr3 (fun b x => by omega) (fun b x => x.elim), ?_, fun y hy => lz 23 y (st.2.1 y hy) (by omega) (by omega), ?_, ?_, ?_, ?_⟩ (KQ_fr frA (fun b x => by omega) (fun b x => by omega))⟩
    · rw [ne 2 (by omega)]; exact st.1
    · refine ⟨m, hm8, e3a, ?_, fun j y hy => ?_⟩
      · show gI h3 33 2 = nI (zP s).dropLast.length
        rw [List.length_dropLast]; exact e3b
      · have hy : (zP s).dropLast[j]? = some y := hy
        have hj := (List.getElem?_eq_some_iff.mp hy).1
        rw [List.length_dropLast] at hj
        rw [List.getElem?_dropLast, if_pos hj] at hy
        have h4 := n3 j y hy
        have : pl m (pastS (nowS s z) (zP s).dropLast).2.2.1.length j = pl n (zP s).length j := by
          show 35 + 10 * ((m + 8 - (zP s).dropLast.length + j) % 8) = 35 + 10 * ((n + 8 - (zP s).length + j) % 8)
          rw [List.length_dropLast, ← hm]
          omega
        rw [this]
        exact lz _ y h4 (by unfold pl; omega) (by unfold pl; omega)
    · rw [ne 115 (by omega), ne 116 (by omega)]; exact st.2.2.2.1
    · rw [ne 2 (by omega), ne 117 (by omega)]; exact st.2.2.2.2.1
    · rw [ne 118 (by omega)]; exact st.2.2.2.2.2
end P9b
