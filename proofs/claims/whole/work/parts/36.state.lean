/-! ===== all that there is of both ===== -/
/-- a ledger with the order of building -/
abbrev Zl : Type := Core × List Nat
/-- now; the image; what can be taken back, the oldest first; letters; the row; refusals -/
abbrev Sta : Type := Zl × Option Zl × List Zl × (Nat × Row) × (Nat × Row) × Row
abbrev zC (s : Sta) : Core := s.1.1
abbrev zB (s : Sta) : List Nat := s.1.2
abbrev zI (s : Sta) : Option Zl := s.2.1
abbrev zP (s : Sta) : List Zl := s.2.2.1
abbrev zL (s : Sta) : Nat × Row := s.2.2.2.1
abbrev zT (s : Sta) : Nat × Row := s.2.2.2.2.1
abbrev zN (s : Sta) : Row := s.2.2.2.2.2
def okZ (z : Zl) : Prop := okC z.1 ∧ okB z.2 (Cw z.1)
def okS (s : Sta) : Prop := okZ s.1 ∧ (∀ x, zI s = some x → okZ x) ∧ (∀ (j : Nat) (x : Zl), (zP s)[j]? = some x → okZ x) ∧ (zP s).length ≤ 8 ∧ (zL s).1 ≤ 96 ∧ (zT s).1 ≤ 12
/-- where the class lies -/
def isP (h : PH) : Prop := tg h 2 = 11 ∧ (gR h 2 0 = 3 ∧ gR h 2 1 = 13 ∧ gR h 2 2 = 23 ∧ gR h 2 4 = 33 ∧ gR h 2 5 = 115 ∧ gR h 2 6 = 117 ∧ gR h 2 8 = 118 ∧ gR h 2 9 = 119 ∧ gR h 2 10 = 120 ∧ gR h 2 11 = 121 ∧ gR h 2 12 = 122) ∧
  (tg h 33 = 5 ∧ gR h 33 0 = 34 ∧ tg h 34 = 204 ∧ ln h 34 = 8) ∧ (tg h 115 = 8 ∧ gR h 115 0 = 116 ∧ tg h 116 = 100 ∧ ln h 116 = 96) ∧
  (tg h 117 = 100 ∧ ln h 117 = 12 ∧ tg h 118 = 100 ∧ ln h 118 = 7 ∧ tg h 119 = 3 ∧ tg h 120 = 3 ∧ tg h 121 = 100 ∧ ln h 121 = 5 ∧ tg h 122 = 100 ∧ ln h 122 = 5) ∧ (tg h 3 = 4 ∧ tg h 13 = 4 ∧ tg h 23 = 4) ∧
  (isLed h 3 ∧ isLed h 13 ∧ isLed h 23) ∧ ∀ k, k < 8 → gR h 34 k = 35 + 10 * k ∧ isLed h (35 + 10 * k)
theorem pw {h : PH} (q : isP h) : tg h 2 = 11 ∧ (gR h 2 0 = 3 ∧ gR h 2 1 = 13 ∧ gR h 2 2 = 23 ∧ gR h 2 4 = 33 ∧ gR h 2 5 = 115 ∧ gR h 2 6 = 117 ∧ gR h 2 8 = 118 ∧ gR h 2 9 = 119 ∧ gR h 2 10 = 120 ∧ gR h 2 11 = 121 ∧ gR h 2 12 = 122) ∧
  (tg h 33 = 5 ∧ gR h 33 0 = 34 ∧ tg h 34 = 204 ∧ ln h 34 = 8) ∧ (tg h 115 = 8 ∧ gR h 115 0 = 116 ∧ tg h 116 = 100 ∧ ln h 116 = 96) ∧
  (tg h 117 = 100 ∧ ln h 117 = 12 ∧ tg h 118 = 100 ∧ ln h 118 = 7 ∧ tg h 119 = 3 ∧ tg h 120 = 3 ∧ tg h 121 = 100 ∧ ln h 121 = 5 ∧ tg h 122 = 100 ∧ ln h 122 = 5) ∧ (tg h 3 = 4 ∧ tg h 13 = 4 ∧ tg h 23 = 4) := ⟨q.1, q.2.1, q.2.2.1, q.2.2.2.1, q.2.2.2.2.1, q.2.2.2.2.2.1⟩
def LZ (h : PH) (a : Nat) (z : Zl) : Prop := Led h a z.1 ∧ LedB h a z.2
theorem LZ_fr {S R : Nat → Prop} {h h' : PH} {a : Nat} {z : Zl} (L : LZ h a z) (f : Fr S R h h') (hS : ∀ b, S b → ¬ (a ≤ b ∧ b ≤ a + 8) ∧ b < 147) (hR : ∀ b, R b → ¬ (b = a ∨ b = a + 1 ∨ b = a + 7)) : LZ h' a z :=
  ⟨Led_fr L.1 f (fun b s => by have := hS b s; omega) hR, LedB_fr L.2 f (fun s => by have := hS _ s; omega) (fun s => by have := hS _ s; omega)⟩
/-- the ledger that keeps the j-th of m, if the next goes to n -/
def pl (n m j : Nat) : Nat := 35 + 10 * ((n + 8 - m + j) % 8)
def IPst (h : PH) (s : Sta) : Prop := (gI h 2 3 = if (zI s).isSome = true then 1 else 0) ∧ (∀ x, zI s = some x → LZ h 23 x) ∧
  (∃ n, n < 8 ∧ gI h 33 1 = nI n ∧ gI h 33 2 = nI (zP s).length ∧ ∀ (j : Nat) (x : Zl), (zP s)[j]? = some x → LZ h (pl n (zP s).length j) x) ∧
  (gI h 115 1 = nI (zL s).1 ∧ ∀ i, i < (zL s).1 → gI h 116 i = (zL s).2 i) ∧ (gI h 2 7 = nI (zT s).1 ∧ ∀ i, i < (zT s).1 → gI h 117 i = (zT s).2 i) ∧ ∀ i, i < 7 → gI h 118 i = zN s i
def IP (h : PH) (s : Sta) : Prop := isP h ∧ 147 ≤ nx h ∧ LZ h 3 s.1 ∧ IPst h s
/-- what thinking changes in the class -/
def FT (h h' : PH) : Prop := Fr (fun b => b = 12 ∨ (13 ≤ b ∧ b ≤ 22) ∨ (119 ≤ b ∧ b ≤ 122)) (fun b => b = 20) h h'
/-- the reference, and the script, are as they were -/
def KQ (h h' : PH) : Prop := (nx h ≤ nx h' ∧ nx h' ≤ nx h + 6 ∧ sl h' ≤ sl h + 12) ∧ ∀ b, (b = 1 ∨ (123 ≤ b ∧ b < 147)) → tg h' b = tg h b ∧ ln h' b = ln h b ∧ (∀ j, gR h' b j = gR h b j) ∧ ∀ j, gI h' b j = gI h b j
/-- all but the reference is as it was -/
def KP (h h' : PH) : Prop := h'.1 = h.1 ∧ h'.2.1 = h.2.1 ∧ ∀ b, ¬ (123 ≤ b ∧ b < 147) → (∀ j, gR h' b j = gR h b j) ∧ ∀ j, gI h' b j = gI h b j
section State
variable {h h' h'' : PH} {s : Sta}
theorem isP_fr {S R : Nat → Prop} (q : isP h) (f : Fr S R h h') (hR : ∀ b, R b → b = 10 ∨ b = 20 ∨ b = 30 ∨ ∃ k, k < 8 ∧ b = 42 + 10 * k) : isP h' := by
  have n2 : ¬ R 2 := fun r => by have := hR _ r; omega
  have n33 : ¬ R 33 := fun r => by have := hR _ r; omega
  have n34 : ¬ R 34 := fun r => by have := hR _ r; omega
  have n115 : ¬ R 115 := fun r => by have := hR _ r; omega
  unfold isP
  simp only [Fr_tg f, Fr_ln f, f.2.2.1 2 n2, f.2.2.1 33 n33, f.2.2.1 34 n34, f.2.2.1 115 n115]
  refine ⟨q.1, q.2.1, q.2.2.1, q.2.2.2.1, q.2.2.2.2.1, q.2.2.2.2.2.1, ⟨?_, ?_, ?_⟩, fun k hk => ⟨(q.2.2.2.2.2.2.2 k hk).1, ?_⟩⟩
  · exact isLed_fr q.2.2.2.2.2.2.1.1 f (fun r => by have := hR _ r; omega) (fun r => by have := hR _ r; omega)
  · exact isLed_fr q.2.2.2.2.2.2.1.2.1 f (fun r => by have := hR _ r; omega) (fun r => by have := hR _ r; omega)
  · exact isLed_fr q.2.2.2.2.2.2.1.2.2 f (fun r => by have := hR _ r; omega) (fun r => by have := hR _ r; omega)
  · exact isLed_fr (q.2.2.2.2.2.2.2 k hk).2 f (fun r => by have := hR _ r; omega) (fun r => by have := hR _ r; omega)
theorem IPst_fr {S R : Nat → Prop} (q : IPst h s) (f : Fr S R h h') (hS : ∀ b, S b → ¬ b = 2 ∧ ¬ (23 ≤ b ∧ b ≤ 31) ∧ ¬ b = 33 ∧ ¬ (35 ≤ b ∧ b ≤ 118) ∧ b < 147) (hR : ∀ b, R b → b = 10 ∨ b = 20) : IPst h' s := by
  have e : ∀ b, (b = 2 ∨ (23 ≤ b ∧ b ≤ 31) ∨ b = 33 ∨ (35 ≤ b ∧ b ≤ 118)) → ∀ j, gI h' b j = gI h b j := fun b hb j => f.2.2.2 b (fun x => by have := hS b x; omega) j
  refine ⟨?_, fun x hx => ?_, ?_, ?_, ?_, ?_⟩
  · rw [e 2 (by omega)]; exact q.1
  · exact LZ_fr (q.2.1 x hx) f (fun b x => by have := hS b x; omega) (fun b x => by have := hR b x; omega)
  · obtain ⟨n, hn, n1, n2, n3⟩ := q.2.2.1
    refine ⟨n, hn, ?_, ?_, fun j x hx => ?_⟩
    · rw [e 33 (by omega)]; exact n1
    · rw [e 33 (by omega)]; exact n2
    · have : pl n (zP s).length j = 35 + 10 * ((n + 8 - (zP s).length + j) % 8) := rfl
      exact LZ_fr (n3 j x hx) f (fun b x => by have := hS b x; omega) (fun b x => by have := hR b x; omega)
  · rw [e 115 (by omega)]
    exact ⟨q.2.2.2.1.1, fun i hi => by rw [e 116 (by omega)]; exact q.2.2.2.1.2 i hi⟩
  · rw [e 2 (by omega)]
    exact ⟨q.2.2.2.2.1.1, fun i hi => by rw [e 117 (by omega)]; exact q.2.2.2.2.1.2 i hi⟩
  · exact fun i hi => by rw [e 118 (by omega)]; exact q.2.2.2.2.2 i hi
theorem IP_FT (I : IP h s) (f : FT h h') : IP h' s :=
  ⟨isP_fr I.1 f (fun b r => by omega), by rw [Fr_nx f]; exact I.2.1, LZ_fr I.2.2.1 f (fun b x => by omega) (fun b x => by omega), IPst_fr I.2.2.2 f (fun b x => by omega) (fun b x => by omega)⟩
theorem FT_refl (h : PH) : FT h h := Fr_refl _ _ _
theorem FT_trans (f : FT h h') (g : FT h' h'') : FT h h'' := Fr_trans f g
theorem FT_of {S R : Nat → Prop} (f : Fr S R h h') (hS : ∀ b, S b → b = 12 ∨ (13 ≤ b ∧ b ≤ 22) ∨ (119 ≤ b ∧ b ≤ 122)) (hR : ∀ b, R b → b = 20) : FT h h' := Fr_mono f hS hR
theorem KQ_fr {S R : Nat → Prop} (f : Fr S R h h') (hS : ∀ b, S b → ¬ (b = 1 ∨ (123 ≤ b ∧ b < 147))) (hR : ∀ b, R b → ¬ (b = 1 ∨ (123 ≤ b ∧ b < 147))) : KQ h h' :=
  ⟨⟨by rw [Fr_nx f]; exact Nat.le_refl _, by rw [Fr_nx f]; omega, by rw [Fr_sl f]; omega⟩, fun b hb => ⟨Fr_tg f b, Fr_ln f b, f.2.2.1 b (fun r => hR b r hb), f.2.2.2 b (fun x => hS b x hb)⟩⟩
theorem KQ_FT (f : FT h h') : KQ h h' := KQ_fr f (fun b x => by omega) (fun b x => by omega)
theorem KQ_pre {S R : Nat → Prop} (f : Fr S R h h') (hS : ∀ b, S b → ¬ (b = 1 ∨ (123 ≤ b ∧ b < 147))) (hR : ∀ b, R b → ¬ (b = 1 ∨ (123 ≤ b ∧ b < 147))) (g : KQ h' h'') : KQ h h'' := by
  have q := KQ_fr f hS hR
  have e1 := Fr_nx f
  have e2 := Fr_sl f
  refine ⟨⟨by have := g.1.1; omega, by have := g.1.2.1; omega, by have := g.1.2.2; omega⟩, fun b hb => ?_⟩
  have a1 := q.2 b hb
  have a2 := g.2 b hb
  exact ⟨a2.1.trans a1.1, a2.2.1.trans a1.2.1, fun j => (a2.2.2.1 j).trans (a1.2.2.1 j), fun j => (a2.2.2.2 j).trans (a1.2.2.2 j)⟩
theorem KQ_suf {S R : Nat → Prop} (g : KQ h h') (f : Fr S R h' h'') (hS : ∀ b, S b → ¬ (b = 1 ∨ (123 ≤ b ∧ b < 147))) (hR : ∀ b, R b → ¬ (b = 1 ∨ (123 ≤ b ∧ b < 147))) : KQ h h'' := by
  have q := KQ_fr f hS hR
  have e1 := Fr_nx f
  have e2 := Fr_sl f
  refine ⟨⟨by have := g.1.1; omega, by have := g.1.2.1; omega, by have := g.1.2.2; omega⟩, fun b hb => ?_⟩
  have a2 := q.2 b hb
  have a1 := g.2 b hb
  exact ⟨a2.1.trans a1.1, a2.2.1.trans a1.2.1, fun j => (a2.2.2.1 j).trans (a1.2.2.1 j), fun j => (a2.2.2.2 j).trans (a1.2.2.2 j)⟩
theorem KP_fs {S : Nat → Nat → Prop} (f : Fs S h h') (hS : ∀ b j, S b j → 123 ≤ b ∧ b < 147) : KP h h' :=
  ⟨f.1, f.2.1, fun b hb => ⟨fun j => f.2.2.1 b j (by omega), fun j => f.2.2.2 b j (fun x => hb (hS b j x))⟩⟩
theorem KP_trans (f : KP h h') (g : KP h' h'') : KP h h'' := ⟨g.1.trans f.1, g.2.1.trans f.2.1, fun b hb => ⟨fun j => ((g.2.2 b hb).1 j).trans ((f.2.2 b hb).1 j), fun j => ((g.2.2 b hb).2 j).trans ((f.2.2 b hb).2 j)⟩⟩
theorem KP_Fr (f : KP h h') : Fr (fun b => 123 ≤ b ∧ b < 147) (fun b => 123 ≤ b ∧ b < 147) h h' := ⟨f.1, f.2.1, fun b hb j => (f.2.2 b hb).1 j, fun b hb j => (f.2.2 b hb).2 j⟩
theorem IP_KP (I : IP h s) (f : KP h h') : IP h' s := by
  have g := KP_Fr f
  obtain ⟨q, hn, L, st⟩ := I
  have e : ∀ b, b < 123 → (∀ j, gR h' b j = gR h b j) ∧ ∀ j, gI h' b j = gI h b j := fun b hb => f.2.2 b (by omega)
  have lz : ∀ a z, LZ h a z → a + 9 < 123 → LZ h' a z := fun a z l ha => LZ_fr l g (fun b x => by omega) (fun b x => by omega)
  refine ⟨?_, by rw [Fr_nx g]; exact hn, lz 3 _ L (by omega), ?_, fun x hx => lz 23 _ (st.2.1 x hx) (by omega), ?_, ?_, ?_, ?_⟩
  · have r := fun b hb => funext (e b hb).1
    unfold isP
    simp only [Fr_tg g, Fr_ln g, r 2 (by omega), r 33 (by omega), r 34 (by omega), r 115 (by omega)]
    refine ⟨q.1, q.2.1, q.2.2.1, q.2.2.2.1, q.2.2.2.2.1, q.2.2.2.2.2.1, ⟨?_, ?_, ?_⟩, fun k hk => ⟨(q.2.2.2.2.2.2.2 k hk).1, ?_⟩⟩
    · exact isLed_fr q.2.2.2.2.2.2.1.1 g (by omega) (by omega)
    · exact isLed_fr q.2.2.2.2.2.2.1.2.1 g (by omega) (by omega)
    · exact isLed_fr q.2.2.2.2.2.2.1.2.2 g (by omega) (by omega)
    · exact isLed_fr (q.2.2.2.2.2.2.2 k hk).2 g (by omega) (by omega)
  · rw [(e 2 (by omega)).2]; exact st.1
  · obtain ⟨n, hn, n1, n2, n3⟩ := st.2.2.1
    refine ⟨n, hn, by rw [(e 33 (by omega)).2]; exact n1, by rw [(e 33 (by omega)).2]; exact n2, fun j x hx => lz _ _ (n3 j x hx) (by unfold pl; omega)⟩
  · rw [(e 115 (by omega)).2]
    exact ⟨st.2.2.2.1.1, fun i hi => by rw [(e 116 (by omega)).2]; exact st.2.2.2.1.2 i hi⟩
  · rw [(e 2 (by omega)).2]
    exact ⟨st.2.2.2.2.1.1, fun i hi => by rw [(e 117 (by omega)).2]; exact st.2.2.2.2.1.2 i hi⟩
  · exact fun i hi => by rw [(e 118 (by omega)).2]; exact st.2.2.2.2.2 i hi
/-- when a work was built -/
def bF (bo : List Nat) (w : Nat) : Int32 := if w ∈ bo then nI (bo.idxOf w + 1) else 0
def IQst (h : PH) (s : Sta) : Prop := (gI h 123 28 = if (zI s).isSome = true then 1 else 0) ∧ (∀ x, zI s = some x → Kp h 141 x.1 (bF x.2)) ∧
  (gI h 123 34 = nI (zP s).length ∧ ∀ (j : Nat) (x : Zl), (zP s)[j]? = some x → KpV (fun i => gI h 142 (48 * j + i)) x.1 (bF x.2)) ∧
  (gI h 123 19 = nI (zL s).1 ∧ ∀ i, i < (zL s).1 → gI h 136 i = (zL s).2 i) ∧ (gI h 123 36 = nI (zT s).1 ∧ ∀ i, i < (zT s).1 → gI h 144 i = (zT s).2 i) ∧ ∀ i, i < 7 → gI h 132 i = zN s i
def IQ (h : PH) (s : Sta) : Prop := Liv h (zC s) ∧ (∀ w, w < Cw (zC s) → gI h 131 w = bF (zB s) w) ∧ IQst h s
/-- what thinking changes in the reference -/
def Tq (b j : Nat) : Prop := (b = 123 ∧ ¬ (j = 19 ∨ j = 28 ∨ j = 34 ∨ j = 36)) ∨ (124 ≤ b ∧ b ≤ 131) ∨ (133 ≤ b ∧ b ≤ 135) ∨ (137 ≤ b ∧ b ≤ 140) ∨ b = 143 ∨ b = 145 ∨ b = 146
theorem IQst_c (q : IQst h s) (e : ∀ b j, ((b = 123 ∧ (j = 19 ∨ j = 28 ∨ j = 34 ∨ j = 36)) ∨ b = 132 ∨ b = 136 ∨ b = 141 ∨ b = 142 ∨ b = 144) → gI h' b j = gI h b j) : IQst h' s := by
  refine ⟨?_, fun x hx => ?_, ⟨?_, fun j x hx => ?_⟩, ⟨?_, fun i hi => ?_⟩, ⟨?_, fun i hi => ?_⟩, fun i hi => ?_⟩
  · rw [e 123 28 (by omega)]; exact q.1
  · have : gI h' 141 = gI h 141 := funext fun j => e 141 j (by omega)
    unfold Kp; rw [this]; exact q.2.1 x hx
  · rw [e 123 34 (by omega)]; exact q.2.2.1.1
  · have : gI h' 142 = gI h 142 := funext fun j => e 142 j (by omega)
    rw [this]; exact q.2.2.1.2 j x hx
  · rw [e 123 19 (by omega)]; exact q.2.2.2.1.1
  · rw [e 136 i (by omega)]; exact q.2.2.2.1.2 i hi
  · rw [e 123 36 (by omega)]; exact q.2.2.2.2.1.1
  · rw [e 144 i (by omega)]; exact q.2.2.2.2.1.2 i hi
  · rw [e 132 i (by omega)]; exact q.2.2.2.2.2 i hi
theorem IQ_KQ (I : IQ h s) (f : KQ h h') : IQ h' s := by
  have e : ∀ b, (123 ≤ b ∧ b < 147) → _ := fun b hb => f.2 b (Or.inr hb)
  obtain ⟨L, B, st⟩ := I
  refine ⟨⟨?_, L.2.1, ?_, fun g hg => ?_, fun w hw => ?_⟩, fun w hw => ?_, IQst_c st (fun b j hb => (e b (by omega)).2.2.2 j)⟩
  · have q := L.1
    have r := funext (e 123 (by omega)).2.2.1
    unfold isQ at q ⊢
    simp only [r, fun b hb => (e b hb).1, (e 123 (by omega)).1, (e 124 (by omega)).1, (e 125 (by omega)).1, (e 126 (by omega)).1, (e 127 (by omega)).1, (e 128 (by omega)).1, (e 129 (by omega)).1, (e 130 (by omega)).1, (e 131 (by omega)).1, (e 132 (by omega)).1, (e 133 (by omega)).1, (e 134 (by omega)).1, (e 135 (by omega)).1, (e 136 (by omega)).1, (e 137 (by omega)).1, (e 138 (by omega)).1, (e 139 (by omega)).1, (e 140 (by omega)).1, (e 141 (by omega)).1, (e 142 (by omega)).1, (e 143 (by omega)).1, (e 144 (by omega)).1, (e 145 (by omega)).1, (e 146 (by omega)).1,
      (e 124 (by omega)).2.1, (e 125 (by omega)).2.1, (e 126 (by omega)).2.1, (e 127 (by omega)).2.1, (e 128 (by omega)).2.1, (e 129 (by omega)).2.1, (e 130 (by omega)).2.1, (e 131 (by omega)).2.1, (e 132 (by omega)).2.1, (e 133 (by omega)).2.1, (e 134 (by omega)).2.1, (e 135 (by omega)).2.1, (e 136 (by omega)).2.1, (e 137 (by omega)).2.1, (e 138 (by omega)).2.1, (e 139 (by omega)).2.1, (e 140 (by omega)).2.1, (e 141 (by omega)).2.1, (e 142 (by omega)).2.1, (e 143 (by omega)).2.1, (e 144 (by omega)).2.1, (e 145 (by omega)).2.1, (e 146 (by omega)).2.1]
    exact q
  · rw [(e 123 (by omega)).2.2.2, (e 123 (by omega)).2.2.2, (e 123 (by omega)).2.2.2, (e 123 (by omega)).2.2.2]
    exact L.2.2.1
  · rw [(e 124 (by omega)).2.2.2, (e 125 (by omega)).2.2.2, (e 126 (by omega)).2.2.2, (e 127 (by omega)).2.2.2]
    exact L.2.2.2.1 g hg
  · rw [(e 128 (by omega)).2.2.2, (e 129 (by omega)).2.2.2, (e 130 (by omega)).2.2.2]
    exact L.2.2.2.2 w hw
  · rw [(e 131 (by omega)).2.2.2]
    exact B w hw
theorem KP_Tq (f : Fs Tq h h') : KP h h' := KP_fs f (fun b j x => by unfold Tq at x; omega)
/-- on the way of a thinking that began at h0 -/
def TK (s : Sta) (h0 h : PH) (c : Core) : Prop := Fs Tq h0 h ∧ Liv h c ∧ Kp h 140 (zC s) (bF (zB s))
def TB (s : Sta) (h : PH) : Prop := ∀ w, w < Cw (zC s) → gI h 131 w = bF (zB s) w
theorem Kp_fs {S : Nat → Nat → Prop} {b : Nat} {c : Core} {F : Nat → Int32} (K : Kp h b c F) (f : Fs S h h') (hS : ∀ j, ¬ S b j) : Kp h' b c F := by
  have : gI h' b = gI h b := funext fun j => f.2.2.2 b j (hS j)
  unfold Kp; rw [this]; exact K
theorem IQ_back {h0 : PH} (I : IQ h0 s) (t : TK s h0 h (zC s)) (B : TB s h) : IQ h s :=
  ⟨t.2.1, B, IQst_c I.2.2 (fun b j hb => t.1.2.2.2 b j (by unfold Tq; omega))⟩
theorem IQ_Tq (I : IQ h s) (f : Fs Tq h h') (e : ∀ b j, (LRg b j ∨ b = 131) → gI h' b j = gI h b j) : IQ h' s := by
  refine ⟨?_, fun w hw => by rw [e 131 w (Or.inr rfl)]; exact I.2.1 w hw, IQst_c I.2.2 (fun b j hb => f.2.2.2 b j (by unfold Tq; omega))⟩
  have fr : Fs (fun b j => Tq b j ∧ ¬ LRg b j) h h' := ⟨f.1, f.2.1, f.2.2.1, fun b j n => by
    by_cases c : LRg b j
    · exact e b j (Or.inl c)
    · exact f.2.2.2 b j (fun x => n ⟨x, c⟩)⟩
  exact Liv_fs I.1 fr (fun b j x => x.2)
theorem IQ_12 (I : IQ h s) : IQ (sI h 123 12 0) s := IQ_Tq I (Fs_sI _ _ _ _ (by unfold Tq; omega)) (fun b j hb => gI_sI_ne _ _ _ _ (by unfold LRg at hb; omega))
theorem KP_12 (h : PH) : KP h (sI h 123 12 0) := KP_fs (S := fun b _ => b = 123) (Fs_sI _ _ _ _ rfl) (fun b j x => by omega)
variable {h0 : PH} {c : Core}
theorem t_think (I : IQ h s) {k : PH → Prop} (hk : ∀ h', TK s h h' (zC s) → TB s h' → k h') : ccV m_Q_think h [.ref 123] k := by
  have w := qw I.1.1
  rw [c_Q_think]
  simp only [w, true_and]
  exact t_Q_take I.1 I.2.1 (Or.inl rfl) fun h' fr L' B' K' => hk h' ⟨Fs_mono fr (fun b j x => by unfold SC at x; unfold Tq; omega), L', K'⟩ B'
theorem t_again (t : TK s h0 h c) (o : okS s) {k : PH → Prop} (hk : ∀ h', TK s h0 h' (zC s) → TB s h' → gI h' 123 16 = gI h 123 16 → (∀ b, b = 145 ∨ b = 146 → gI h' b = gI h b) → gI h' 123 39 = gI h 123 39 → k h') : ccV m_Q_again h [.ref 123] k := by
  have w := qw t.2.1.1
  rw [c_Q_again]
  simp only [w, true_and]
  exact t_Q_put t.2.1.1 o.1.1.1 (Or.inl rfl) t.2.2 fun h' fr L' B' K' => hk h' ⟨Fs_trans t.1 (Fs_mono fr (fun b j x => by unfold SC at x; unfold Tq; omega)), L', K'⟩ B'
    (fr.2.2.2 123 16 (by unfold SC; omega)) (fun b hb => funext fun j => fr.2.2.2 b j (by unfold SC; omega)) (fr.2.2.2 123 39 (by unfold SC; omega))
theorem t_go (t : TK s h0 h c) (o : okC c) {n : Nat} (hn : n < 2 ^ 30) {k : PH → Prop} (hk : ∀ h', TK s h0 h' (goC n c) → Fs SY h h' → (∀ f, f < Cf c → gI h' 135 f = paidN n c f) → gI h' 123 16 = bornN n c → k h') : ccV m_Q_goYears h [.ref 123, .int (nI n)] k :=
  t_Q_goYears t.2.1 o hn fun h' fr L' p b => hk h' ⟨Fs_trans t.1 (Fs_mono fr (fun b j x => by unfold SY at x; unfold Tq; omega)), L', Kp_fs t.2.2 fr (fun j x => by unfold SY at x; omega)⟩ fr p b
theorem t_yearOn (t : TK s h0 h c) (o : okC c) {k : PH → Prop} (hk : ∀ h', TK s h0 h' (goC 1 c) → Fs SY h h' → k h') : ccV m_Q_yearOn h [.ref 123] k :=
  t_Q_yearOn t.2.1 o fun h' fr L' p b => hk h' ⟨Fs_trans t.1 (Fs_mono fr (fun b j x => by unfold SY at x; unfold Tq; omega)), L', Kp_fs t.2.2 fr (fun j x => by unfold SY at x; omega)⟩ fr
theorem t_build (t : TK s h0 h c) (o : okC c) {w : Nat} (hw : w < Cw c) {k : PH → Prop} (hk : ∀ h', TK s h0 h' (chargeC c (Ck c w)) → Fs (fun b j => b = 125 ∨ b = 133 ∨ b = 134 ∨ (b = 131 ∧ j = w)) h h' → k h') : ccV m_Q_build h [.ref 123, .int (nI w)] k :=
  t_Q_build t.2.1 o hw fun h' fr L' _ => hk h' ⟨Fs_trans t.1 (Fs_mono fr (fun b j x => by unfold Tq; omega)), L', Kp_fs t.2.2 fr (fun j x => by omega)⟩ fr
end State
