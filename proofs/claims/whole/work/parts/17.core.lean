/-! ===== what a ledger holds, apart from where it lies; frames ===== -/
/-- rows that agree below n -/
def Ew (n : Nat) (r r' : Row) : Prop := ∀ j, j < n → r j = r' j
theorem Ew_refl (n : Nat) (r : Row) : Ew n r r := fun _ _ => rfl
theorem Ew_sym {n : Nat} {r r' : Row} (e : Ew n r r') : Ew n r' r := fun j hj => (e j hj).symm
theorem Ew_trans {n : Nat} {r r' r'' : Row} (e : Ew n r r') (e' : Ew n r' r'') : Ew n r r'' := fun j hj => (e j hj).trans (e' j hj)
theorem Ew_le {m n : Nat} (hm : m ≤ n) {r r' : Row} (e : Ew n r r') : Ew m r r' := fun j hj => e j (by omega)
theorem Ew_rs {n : Nat} {r r' : Row} (e : Ew n r r') (j : Nat) {x x' : Int32} (hx : x = x') : Ew n (rs r j x) (rs r' j x') := by
  intro i hi
  unfold rs
  split
  · exact hx
  · exact e i hi
section Cong
variable {n : Nat} {r r' : Row}
theorem rOwe_e (hn : 4 ≤ n) (e : Ew n r r') (x : Int32) : Ew n (rOwe x r) (rOwe x r') := by
  unfold rOwe
  rw [e 1 (by omega)]
  exact Ew_rs e 1 rfl
/-- the sixth is told apart: what was paid is a sum beside -/
theorem rPay_e (hn : 4 ≤ n) (e : Ew n r r') (x : Int32) (h5 : n ≤ 5 ∨ 5 < n) : Ew n (rPay x r) (rPay x r') := by
  intro j hj
  unfold rPay rs
  rw [e 1 (by omega)]
  by_cases c : j = 5
  · subst c
    rw [if_pos rfl, if_pos rfl, e 5 hj]
  · rw [if_neg c, if_neg c, e j hj]
theorem rSettle_e (hn : 4 ≤ n) (e : Ew n r r') (rate : Int32) (h4 : n = 4 ∨ n = 7) : Ew n (rSettle rate r) (rSettle rate r') := by
  have e1 : Ew n (rOwe (r 1 * rate / 100) r) (rOwe (r' 1 * rate / 100) r') := by rw [e 1 (by omega)]; exact rOwe_e hn e _
  have e2 : Ew n (rs (rOwe (r 1 * rate / 100) r) 4 (rOwe (r 1 * rate / 100) r 4 + (rOwe (r 1 * rate / 100) r 1 - r 1))) (rs (rOwe (r' 1 * rate / 100) r') 4 (rOwe (r' 1 * rate / 100) r' 4 + (rOwe (r' 1 * rate / 100) r' 1 - r' 1))) := by
    rcases h4 with h4 | h4
    · subst h4
      intro j hj
      rw [rs_ne _ _ (by omega), rs_ne _ _ (by omega)]
      exact e1 j hj
    · exact Ew_rs e1 4 (by rw [e1 4 (by omega), e1 1 (by omega), e 1 (by omega)])
  unfold rSettle
  dsimp only
  rw [e2 2 (by omega), e2 0 (by omega)]
  exact rPay_e hn e2 _ (by omega)
theorem rBear_e (hn : 4 ≤ n) (e : Ew n r r') (h4 : n = 4 ∨ n = 7) : Ew n (rBear r) (rBear r') := by
  unfold rBear
  rw [e 0 (by omega), e 1 (by omega)]
  split
  · split
    · rcases h4 with h4 | h4
      · subst h4
        intro j hj
        have := Ew_rs e 0 (rfl : r' 0 + 1 = r' 0 + 1) j hj
        rw [rs_ne (i := j) (j := 6) _ _ (by omega), rs_ne (i := j) (j := 6) _ _ (by omega)]
        exact this
      · exact Ew_rs (Ew_rs e 0 rfl) 6 (by rw [e 6 (by omega)])
    · exact Ew_rs e 0 rfl
  · exact e
theorem rYear_e (e : Ew n r r') (rate y : Int32) (h4 : n = 4 ∨ n = 7) : Ew n (rYear rate y r) (rYear rate y r') := by
  have e1 := rSettle_e (by omega) e rate h4
  unfold rYear
  dsimp only
  rw [e1 3 (by omega)]
  split
  · exact e1
  · split
    · exact rBear_e (by omega) e1 h4
    · exact e1
theorem rYears_e (e : Ew n r r') (rate y : Int32) (h4 : n = 4 ∨ n = 7) : ∀ m, Ew n (rYears rate y m r) (rYears rate y m r')
  | 0 => e
  | m + 1 => rYear_e (rYears_e e rate y h4 m) rate _ h4
end Cong
/-- families, works, year, rate; the rows of the families (heads, debt, pays, births), of the works (kind, figure, cost) -/
abbrev Core : Type := Nat × Nat × Int32 × Int32 × (Nat → Row) × (Nat → Row)
abbrev Cf (c : Core) : Nat := c.1
abbrev Cw (c : Core) : Nat := c.2.1
abbrev Cy (c : Core) : Int32 := c.2.2.1
abbrev Cr (c : Core) : Int32 := c.2.2.2.1
abbrev Cm (c : Core) : Nat → Row := c.2.2.2.2.1
abbrev Ck (c : Core) : Nat → Row := c.2.2.2.2.2
def cY (c : Core) (y : Int32) : Core := (c.1, c.2.1, y, c.2.2.2.1, c.2.2.2.2.1, c.2.2.2.2.2)
def cR (c : Core) (x : Int32) : Core := (c.1, c.2.1, c.2.2.1, x, c.2.2.2.2.1, c.2.2.2.2.2)
def cM (c : Core) (F : Nat → Row) : Core := (c.1, c.2.1, c.2.2.1, c.2.2.2.1, F, c.2.2.2.2.2)
def setM (F : Nat → Row) (f : Nat) (r : Row) : Nat → Row := fun g => if g = f then r else F g
/-- which class a kind of work is -/
def wtag (x : Int32) : Nat := if x = 1 then 1 else if x = 2 then 9 else if x = 3 then 2 else if x = 4 then 6 else if x = 5 then 7 else 10
theorem wtag_in (x : Int32) : memB (wtag x) [1, 2, 6, 7, 9, 10] = true := by
  unfold wtag
  split <;> (try rfl)
  split <;> (try rfl)
  split <;> (try rfl)
  split <;> (try rfl)
  split <;> rfl
def isWk (h : PH) (p : Nat) (r : Row) : Prop := (147 ≤ p ∧ p < nx h) ∧ tg h p = wtag (r 0) ∧ gI h p 0 = r 1 ∧ gI h p 1 = r 2
def Led (h : PH) (a : Nat) (c : Core) : Prop := isLed h a ∧ (Cf c ≤ 5 ∧ Cw c ≤ 6) ∧ (gI h a 0 = nI (Cf c) ∧ gI h a 1 = nI (Cw c) ∧ gI h a 2 = Cy c ∧ gI h a 3 = Cr c) ∧
  (∀ f, f < Cf c → Ew 4 (gI h (a + 2 + f)) (Cm c f)) ∧ (∀ w, w < Cw c → isWk h (gR h (a + 7) w) (Ck c w))
/-- all but the whole numbers in the rows of S and the references in the rows of R is as it was -/
def Fr (S R : Nat → Prop) (h h' : PH) : Prop := h'.1 = h.1 ∧ h'.2.1 = h.2.1 ∧ (∀ b, ¬ R b → ∀ j, gR h' b j = gR h b j) ∧ (∀ b, ¬ S b → ∀ j, gI h' b j = gI h b j)
section Frames
variable {S S' R R' : Nat → Prop} {h h' h'' : PH} {a : Nat} {c : Core}
theorem Fr_refl (S R : Nat → Prop) (h : PH) : Fr S R h h := ⟨rfl, rfl, fun _ _ _ => rfl, fun _ _ _ => rfl⟩
theorem Fr_mono (f : Fr S R h h') (hS : ∀ b, S b → S' b) (hR : ∀ b, R b → R' b) : Fr S' R' h h' := ⟨f.1, f.2.1, fun b n => f.2.2.1 b (fun x => n (hR b x)), fun b n => f.2.2.2 b (fun x => n (hS b x))⟩
theorem Fr_trans (f : Fr S R h h') (g : Fr S R h' h'') : Fr S R h h'' := ⟨g.1.trans f.1, g.2.1.trans f.2.1, fun b n j => (g.2.2.1 b n j).trans (f.2.2.1 b n j), fun b n j => (g.2.2.2 b n j).trans (f.2.2.2 b n j)⟩
theorem Fr_wR (h : PH) (b : Nat) (r : Row) (hS : S b) : Fr S R h (wR h b r) := ⟨rfl, rfl, fun _ _ _ => rfl, fun x n j => by rw [gI_wR_ne h r (fun e => n (by rw [e]; exact hS))]⟩
theorem Fr_sI (h : PH) (b j : Nat) (x : Int32) (hS : S b) : Fr S R h (sI h b j x) := by rw [sI_wR]; exact Fr_wR h b _ hS
theorem Fr_sR (h : PH) (b j x : Nat) (hR : R b) : Fr S R h (sR h b j x) := ⟨rfl, rfl, fun y n i => by
  unfold gR sR; exact if_neg (fun e => n (by rw [e.1]; exact hR)), fun _ _ _ => rfl⟩
theorem Fr_nx (f : Fr S R h h') : nx h' = nx h := by unfold nx; rw [f.1]
theorem Fr_sl (f : Fr S R h h') : sl h' = sl h := by unfold sl; rw [f.1]
theorem Fr_tg (f : Fr S R h h') (b : Nat) : tg h' b = tg h b := by unfold tg; rw [f.2.1]
theorem Fr_ln (f : Fr S R h h') (b : Nat) : ln h' b = ln h b := by unfold ln; rw [f.2.1]
theorem isLed_fr (L : isLed h a) (f : Fr S R h h') (ha : ¬ R a) (ha1 : ¬ R (a + 1)) : isLed h' a := by
  unfold isLed
  simp only [Fr_tg f, Fr_ln f, f.2.2.1 a ha, f.2.2.1 (a + 1) ha1]
  exact L
theorem isWk_fr {p : Nat} {r : Row} (w : isWk h p r) (f : Fr S R h h') (hp : ¬ S p) : isWk h' p r := by
  unfold isWk
  rw [Fr_nx f, Fr_tg f, f.2.2.2 p hp, f.2.2.2 p hp]
  exact w
theorem Led_fr (L : Led h a c) (f : Fr S R h h') (hS : ∀ b, S b → ¬ (a ≤ b ∧ b ≤ a + 6) ∧ b < 147) (hR : ∀ b, R b → ¬ (b = a ∨ b = a + 1 ∨ b = a + 7)) : Led h' a c := by
  refine ⟨isLed_fr L.1 f (fun x => hR _ x (Or.inl rfl)) (fun x => hR _ x (Or.inr (Or.inl rfl))), L.2.1, ?_, fun g hg => ?_, fun w hw => ?_⟩
  · have : ¬ S a := fun x => (hS _ x).1 ⟨Nat.le_refl _, by omega⟩
    rw [f.2.2.2 a this, f.2.2.2 a this, f.2.2.2 a this, f.2.2.2 a this]
    exact L.2.2.1
  · have : ¬ S (a + 2 + g) := fun x => (hS _ x).1 ⟨by omega, by have := L.2.1.1; omega⟩
    intro j hj
    rw [f.2.2.2 _ this]
    exact L.2.2.2.1 g hg j hj
  · rw [f.2.2.1 _ (fun x => hR _ x (Or.inr (Or.inr rfl)))]
    exact isWk_fr (L.2.2.2.2 w hw) f (fun x => by have := (hS _ x).2; have := (L.2.2.2.2 w hw).1.1; omega)
end Frames
section LedOps
variable {h : PH} {a : Nat} {c : Core}
theorem Led_at (L : Led h a c) {f : Nat} (hf : f < 5) (k : PH → Nat → Prop) : ccA m_Ledger_at h [.ref a, .int (nI f)] k = k h (a + 2 + f) := s_Ledger_at L.1 hf k
theorem Led_tgf (L : Led h a c) {f : Nat} (hf : f < 5) : tg h (a + 2 + f) = 3 := (L.1.2.2.2.1 f hf).2
/-- a family is written over -/
theorem Led_wR (L : Led h a c) {f : Nat} (hf : f < 5) {r r' : Row} (e : Ew 4 r r') : Led (wR h (a + 2 + f) r) a (cM c (setM (Cm c) f r')) := by
  have hlt := L.1.2.2.2.2.2.2.2.1
  have fr : Fr (fun b => b = a + 2 + f) (fun _ => False) h (wR h (a + 2 + f) r) := Fr_wR h _ r rfl
  refine ⟨isLed_fr L.1 fr (fun x => x) (fun x => x), L.2.1, ?_, fun g hg => ?_, fun w hw => ?_⟩
  · have : a ≠ a + 2 + f := by omega
    rw [gI_wR_ne h r this]
    exact L.2.2.1
  · show Ew 4 _ (setM (Cm c) f r' g)
    unfold setM
    by_cases c : g = f
    · subst c; rw [gI_wR, if_pos rfl]; exact e
    · rw [gI_wR_ne h r (by omega), if_neg c]; exact L.2.2.2.1 g hg
  · rw [gR_wR]
    have := L.2.2.2.2 w hw
    exact isWk_fr this fr (by have := this.1.1; omega)
theorem Led_yr (L : Led h a c) (x : Int32) : Led (sI h a 2 x) a (cY c x) := by
  have hlt := L.1.2.2.2.2.2.2.2.1
  have fr : Fr (fun b => b = a) (fun _ => False) h (sI h a 2 x) := Fr_sI h a 2 x rfl
  rw [sI_wR] at fr ⊢
  refine ⟨isLed_fr L.1 fr (fun x => x) (fun x => x), L.2.1, ?_, fun g hg => ?_, fun w hw => ?_⟩
  · rw [gI_wR, rs_ne _ _ (by decide), rs_ne _ _ (by decide), rs_eq, rs_ne _ _ (by decide)]
    exact ⟨L.2.2.1.1, L.2.2.1.2.1, rfl, L.2.2.1.2.2.2⟩
  · rw [gI_wR_ne h _ (by omega)]; exact L.2.2.2.1 g hg
  · rw [gR_wR]
    have := L.2.2.2.2 w hw
    exact isWk_fr this fr (by have := this.1.1; omega)
theorem Led_rt (L : Led h a c) (x : Int32) : Led (sI h a 3 x) a (cR c x) := by
  have hlt := L.1.2.2.2.2.2.2.2.1
  have fr : Fr (fun b => b = a) (fun _ => False) h (sI h a 3 x) := Fr_sI h a 3 x rfl
  rw [sI_wR] at fr ⊢
  refine ⟨isLed_fr L.1 fr (fun x => x) (fun x => x), L.2.1, ?_, fun g hg => ?_, fun w hw => ?_⟩
  · rw [gI_wR, rs_ne _ _ (by decide), rs_ne _ _ (by decide), rs_eq, rs_ne _ _ (by decide)]
    exact ⟨L.2.2.1.1, L.2.2.1.2.1, L.2.2.1.2.2.1, rfl⟩
  · rw [gI_wR_ne h _ (by omega)]; exact L.2.2.2.1 g hg
  · rw [gR_wR]
    have := L.2.2.2.2 w hw
    exact isWk_fr this fr (by have := this.1.1; omega)
theorem Led_ext {c' : Core} (L : Led h a c) (h1 : Cf c' = Cf c) (h2 : Cw c' = Cw c) (h3 : Cy c' = Cy c) (h4 : Cr c' = Cr c) (h5 : ∀ f, f < Cf c → Ew 4 (Cm c f) (Cm c' f)) (h6 : ∀ w, w < Cw c → Ck c w = Ck c' w) : Led h a c' := by
  refine ⟨L.1, ?_, ?_, ?_, ?_⟩
  · rw [h1, h2]; exact L.2.1
  · rw [h1, h2, h3, h4]; exact L.2.2.1
  · intro f hf; rw [h1] at hf; exact Ew_trans (L.2.2.2.1 f hf) (h5 f hf)
  · intro w hw; rw [h2] at hw; rw [← h6 w hw]; exact L.2.2.2.2 w hw
end LedOps
/-- n years on -/
def goC (n : Nat) (c : Core) : Core := cM (cY c (Cy c + nI n)) (fun f => rYears (Cr c) (Cy c) n (Cm c f))
