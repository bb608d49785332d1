/-! ===== both are made ===== -/
theorem tg_mkc (h : PH) (t n w c : Nat) : tg (mkc h t n w) c = if c = nx h then t else tg h c := by
  unfold tg mkc nx
  dsimp only
  split <;> rfl
theorem ln_mkc (h : PH) (t n w c : Nat) : ln (mkc h t n w) c = if c = nx h then n else ln h c := by
  unfold ln mkc nx
  dsimp only
  split <;> rfl
theorem gI_mkc (h : PH) (t n w c j : Nat) : gI (mkc h t n w) c j = if c = nx h then 0 else gI h c j := rfl
theorem gR_mkc (h : PH) (t n w c j : Nat) : gR (mkc h t n w) c j = if c = nx h then 0 else gR h c j := rfl
theorem nx_mkc (h : PH) (t n w : Nat) : nx (mkc h t n w) = nx h + 1 := rfl
theorem sl_mkc (h : PH) (t n w : Nat) : sl (mkc h t n w) = sl h + w := rfl
theorem nx_sR (h : PH) (a j x : Nat) : nx (sR h a j x) = nx h := rfl
theorem sl_sR (h : PH) (a j x : Nat) : sl (sR h a j x) = sl h := rfl
theorem nx_sI (h : PH) (a j : Nat) (x : Int32) : nx (sI h a j x) = nx h := rfl
theorem sl_sI (h : PH) (a j : Nat) (x : Int32) : sl (sI h a j x) = sl h := rfl
theorem gR_if (h : PH) (a j x b i : Nat) : gR (sR h a j x) b i = if b = a ∧ i = j then x else gR h b i := rfl
/-- the cells below n are as they were -/
def Un (n : Nat) (h h' : PH) : Prop := (nx h ≤ nx h' ∧ n ≤ nx h) ∧ ∀ b, b < n → (tg h' b = tg h b ∧ ln h' b = ln h b) ∧ (∀ j, gR h' b j = gR h b j) ∧ ∀ j, gI h' b j = gI h b j
theorem Un_refl {n : Nat} {h : PH} (hn : n ≤ nx h) : Un n h h := ⟨⟨Nat.le_refl _, hn⟩, fun _ _ => ⟨⟨rfl, rfl⟩, fun _ => rfl, fun _ => rfl⟩⟩
theorem Un_tr {n m : Nat} {h1 h2 h3 : PH} (f : Un n h1 h2) (g : Un m h2 h3) (hm : n ≤ m) : Un n h1 h3 :=
  ⟨⟨Nat.le_trans f.1.1 g.1.1, f.1.2⟩, fun b hb => by
    have a := f.2 b hb
    have c := g.2 b (by omega)
    exact ⟨⟨c.1.1.trans a.1.1, c.1.2.trans a.1.2⟩, fun j => (c.2.1 j).trans (a.2.1 j), fun j => (c.2.2 j).trans (a.2.2 j)⟩⟩
theorem Un_mkc {n : Nat} (h : PH) (t l w : Nat) (hn : n ≤ nx h) : Un n h (mkc h t l w) :=
  ⟨⟨Nat.le_succ _, hn⟩, fun b hb => by
    have e : ¬ b = nx h := by omega
    refine ⟨⟨?_, ?_⟩, fun j => ?_, fun j => ?_⟩
    · rw [tg_mkc, if_neg e]
    · rw [ln_mkc, if_neg e]
    · rw [gR_mkc, if_neg e]
    · rw [gI_mkc, if_neg e]⟩
theorem Un_sR {n : Nat} (h : PH) (a j x : Nat) (hn : n ≤ nx h) (ha : n ≤ a) : Un n h (sR h a j x) :=
  ⟨⟨Nat.le_refl _, hn⟩, fun b hb => ⟨⟨rfl, rfl⟩, fun i => by rw [gR_if, if_neg (fun z => by omega)], fun i => rfl⟩⟩
theorem Un_sI {n : Nat} (h : PH) (a j : Nat) (x : Int32) (hn : n ≤ nx h) (ha : n ≤ a) : Un n h (sI h a j x) :=
  ⟨⟨Nat.le_refl _, hn⟩, fun b hb => ⟨⟨rfl, rfl⟩, fun i => rfl, fun i => by rw [gI_if, if_neg (fun z => by omega)]⟩⟩
/-- a ledger that was made -/
def L0 (h : PH) (a : Nat) : Prop := isLed h a ∧ ∀ j, gI h a j = if j = 3 then 5 else 0
theorem L0_un {h h' : PH} {a n : Nat} (L : L0 h a) (u : Un n h h') (ha : a + 9 < n) : L0 h' a := by
  have q := fun b (hb : b ≤ a + 9) => u.2 b (by omega)
  obtain ⟨I, z⟩ := L
  refine ⟨?_, fun j => by rw [(q a (by omega)).2.2]; exact z j⟩
  unfold isLed
  rw [(q a (by omega)).1.1, (q a (by omega)).2.1, (q a (by omega)).2.1, (q a (by omega)).2.1, (q a (by omega)).2.1, (q (a + 1) (by omega)).1.1, (q (a + 1) (by omega)).1.2, (q (a + 7) (by omega)).1.1, (q (a + 7) (by omega)).1.2, (q (a + 8) (by omega)).1.1, (q (a + 8) (by omega)).1.2, (q (a + 9) (by omega)).1.1, (q (a + 9) (by omega)).1.2]
  refine ⟨I.1, I.2.1, I.2.2.1, fun f hf => ?_, I.2.2.2.2⟩
  rw [(q (a + 1) (by omega)).2.1, (q (a + 2 + f) (by omega)).1.1]
  exact I.2.2.2.1 f hf
def z0 : Zl := ((0, 0, 0, 5, (fun _ _ => 0), fun _ _ => 0), [])
theorem L0_LZ {h : PH} {a : Nat} (L : L0 h a) : LZ h a z0 := by
  obtain ⟨I, z⟩ := L
  refine ⟨⟨I, ⟨by decide, by decide⟩, ⟨?_, ?_, ?_, ?_⟩, fun f hf => absurd hf (Nat.not_lt_zero _), fun w hw => absurd hw (Nat.not_lt_zero _)⟩, ⟨by decide, ?_, ?_, fun i hi => absurd hi (Nat.not_lt_zero _)⟩⟩
  · rw [z]; rfl
  · rw [z]; rfl
  · rw [z]; rfl
  · rw [z]; rfl
  · rw [z]; decide
  · rw [z]; rfl
section Init
variable {h h' h0 h1 h2 h3 : PH} {a n : Nat}
theorem ixv : ix 5 = 5 ∧ ix 6 = 6 ∧ ix 7 = 7 ∧ ix 8 = 8 ∧ ix 12 = 12 ∧ ix 48 = 48 ∧ ix 49 = 49 ∧ ix 96 = 96 ∧ ix 147 = 147 ∧ ix 384 = 384 := by decide
theorem t_Led_init (hn : nx h = a + 1) (ht : tg h a = 4) (hz : ∀ j, gI h a j = 0) (ha : 2 ≤ a) (ha2 : a + 9 < 147) {k : PH → Prop} (hk : ∀ h', Un a h h' → nx h' = a + 10 → sl h' = sl h + 57 → L0 h' a → k h') : ccV m_Ledger_init h [.ref a] k := by
  rw [c_Ledger_init]
  simp only [ixv, nx_sI, hn]
  refine ⟨by omega, ht, ⟨by decide, by decide⟩, by rw [tg_mkc, if_neg (by rw [nx_sI, hn]; omega)]; exact ht, ?_⟩
  refine hp (A := fun i h' => Un a h h' ∧ (nx h' = a + 2 + i ∧ sl h' = sl h + 5 + 7 * i) ∧ tg h' a = 4 ∧ gR h' a 6 = a + 1 ∧ (tg h' (a + 1) = 203 ∧ ln h' (a + 1) = 5) ∧ (∀ f, f < i → gR h' (a + 1) f = a + 2 + f ∧ tg h' (a + 2 + f) = 3) ∧ ∀ j, gI h' a j = if j = 3 then 5 else 0)
    (X := fun i h' => wp m_Ledger_init h' 19 [some (.ref a), some (.int (nI i))] [] (tyV k)) 5 ?_ ?_ 0 (Nat.zero_le _) _ ⟨?_, ⟨?_, ?_⟩, ?_, ?_, ⟨?_, ?_⟩, fun f hf => absurd hf (Nat.not_lt_zero _), fun j => ?_⟩
  · intro h' ⟨u, ⟨n1, s1⟩, t1, r6, ⟨ta, la⟩, fm, zz⟩
    rw [e_Ledger_init_19, t1, r6, ta, la]
    simp only [ixv, true_and, e_Ledger_init_71, nx_sR, nx_mkc, n1]
    rw [if_pos (by decide)]
    have m1 : ∀ t l w, tg (mkc h' t l w) a = 4 := fun t l w => by rw [tg_mkc, if_neg (by omega)]; exact t1
    refine ⟨by decide, ⟨by decide, by decide⟩, m1 _ _ _, ⟨by decide, by decide⟩, ?_, ⟨by decide, by decide⟩, ?_, ?_⟩
    · rw [tg_mkc, if_neg (by rw [nx_sR, nx_mkc]; omega), tg_sR]; exact m1 _ _ _
    · rw [tg_mkc, if_neg (by rw [nx_sR, nx_mkc, nx_sR, nx_mkc]; omega), tg_sR, tg_mkc, if_neg (by rw [nx_sR, nx_mkc]; omega), tg_sR]; exact m1 _ _ _
    generalize hF : sR (mkc (sR (mkc (sR (mkc h' 210 6 6) a 7 (a + 2 + 5)) 100 6 6) a 8 (a + 2 + 5 + 1)) 100 5 5) a 9 (a + 2 + 5 + 1 + 1) = H
    have eT : ∀ c, tg H c = if c = a + 9 then 100 else if c = a + 8 then 100 else if c = a + 7 then 210 else tg h' c := fun c => by
      rw [← hF, tg_sR, tg_mkc, tg_sR, tg_mkc, tg_sR, tg_mkc]; simp only [nx_sR, nx_mkc, n1]
    have eL : ∀ c, ln H c = if c = a + 9 then 5 else if c = a + 8 then 6 else if c = a + 7 then 6 else ln h' c := fun c => by
      rw [← hF, ln_sR, ln_mkc, ln_sR, ln_mkc, ln_sR, ln_mkc]; simp only [nx_sR, nx_mkc, n1]
    have eR : ∀ c j, c < a + 7 → gR H c j = if c = a ∧ j = 9 then a + 9 else if c = a ∧ j = 8 then a + 8 else if c = a ∧ j = 7 then a + 7 else gR h' c j := fun c j hc => by
      rw [← hF, gR_if, gR_mkc, if_neg (show ¬ c = nx (sR (mkc (sR (mkc h' 210 6 6) a 7 (a + 2 + 5)) 100 6 6) a 8 (a + 2 + 5 + 1)) by rw [nx_sR, nx_mkc, nx_sR, nx_mkc]; omega), gR_if, gR_mkc, if_neg (show ¬ c = nx (sR (mkc h' 210 6 6) a 7 (a + 2 + 5)) by rw [nx_sR, nx_mkc]; omega), gR_if, gR_mkc, if_neg (show ¬ c = nx h' by omega)]
    have eI : ∀ c j, c < a + 7 → gI H c j = gI h' c j := fun c j hc => by
      rw [← hF, gI_sR, gI_mkc, if_neg (show ¬ c = nx (sR (mkc (sR (mkc h' 210 6 6) a 7 (a + 2 + 5)) 100 6 6) a 8 (a + 2 + 5 + 1)) by rw [nx_sR, nx_mkc, nx_sR, nx_mkc]; omega), gI_sR, gI_mkc, if_neg (show ¬ c = nx (sR (mkc h' 210 6 6) a 7 (a + 2 + 5)) by rw [nx_sR, nx_mkc]; omega), gI_sR, gI_mkc, if_neg (show ¬ c = nx h' by omega)]
    have eN : nx H = a + 10 := by rw [← hF]; simp only [nx_sR, nx_mkc, n1]
    have eS : sl H = sl h + 57 := by rw [← hF]; simp only [sl_sR, sl_mkc, s1]
    have uH : Un a h' H := ⟨⟨by omega, by omega⟩, fun b hb => ⟨⟨by rw [eT, if_neg (by omega), if_neg (by omega), if_neg (by omega)], by rw [eL, if_neg (by omega), if_neg (by omega), if_neg (by omega)]⟩, fun j => by rw [eR b j (by omega), if_neg (by omega), if_neg (by omega), if_neg (by omega)], fun j => eI b j (by omega)⟩⟩
    refine hk H (Un_tr u uH (Nat.le_refl _)) eN eS ⟨⟨?_, ⟨?_, ?_, ?_, ?_⟩, ⟨?_, ?_⟩, fun f hf => ⟨?_, ?_⟩, ⟨?_, ?_⟩, ⟨?_, ?_⟩, ⟨?_, ?_⟩, ha2, ha⟩, fun j => ?_⟩
    · rw [eT, if_neg (by omega), if_neg (by omega), if_neg (by omega)]; exact t1
    · rw [eR a 6 (by omega), if_neg (by omega), if_neg (by omega), if_neg (by omega)]; exact r6
    · rw [eR a 7 (by omega), if_neg (by omega), if_neg (by omega), if_pos ⟨rfl, rfl⟩]
    · rw [eR a 8 (by omega), if_neg (by omega), if_pos ⟨rfl, rfl⟩]
    · rw [eR a 9 (by omega), if_pos ⟨rfl, rfl⟩]
    · rw [eT, if_neg (by omega), if_neg (by omega), if_neg (by omega)]; exact ta
    · rw [eL, if_neg (by omega), if_neg (by omega), if_neg (by omega)]; exact la
    · rw [eR (a + 1) f (by omega), if_neg (by omega), if_neg (by omega), if_neg (by omega)]; exact (fm f hf).1
    · rw [eT, if_neg (by omega), if_neg (by omega), if_neg (by omega)]; exact (fm f hf).2
    · rw [eT, if_neg (by omega), if_neg (by omega), if_pos rfl]
    · rw [eL, if_neg (by omega), if_neg (by omega), if_pos rfl]
    · rw [eT, if_neg (by omega), if_pos rfl]
    · rw [eL, if_neg (by omega), if_pos rfl]
    · rw [eT, if_pos rfl]
    · rw [eL, if_pos rfl]
    · rw [eI a j (by omega)]; exact zz j
  · intro i hi h' ⟨u, ⟨n1, s1⟩, t1, r6, ⟨ta, la⟩, fm, zz⟩ ih
    rw [e_Ledger_init_19, t1, r6, ta, la, show Int32.ofNat 5 = nI 5 from rfl, if_neg (nI_ge hi (by decide)), c_Family_init, n1]
    have e1 : ¬ a + 1 = nx h' := by omega
    have e0 : ¬ a = nx h' := by omega
    have e1' : ¬ a + 1 = a + 2 + i := by omega
    simp only [tg_mkc, ln_mkc, n1, if_neg e1', ta, la, if_true]
    refine ⟨trivial, by decide, trivial, by omega, by omega, ⟨by decide, inb_nI hi (by decide), Or.inr rfl⟩, ?_⟩
    rw [ix_nI (by omega), nI_1]
    have uM : Un (a + 2 + i) h' (mkc h' 3 0 7) := Un_mkc h' 3 0 7 (by omega)
    have uS : Un (a + 1) (mkc h' 3 0 7) (sR (mkc h' 3 0 7) (a + 1) i (a + 2 + i)) := Un_sR _ _ _ _ (by rw [nx_mkc]; omega) (Nat.le_refl _)
    refine ih _ ⟨Un_tr u (Un_tr (n := a) (m := a + 1) ⟨⟨uM.1.1, by omega⟩, fun b hb => uM.2 b (by omega)⟩ uS (by omega)) (Nat.le_refl _), ⟨by rw [nx_sR, nx_mkc]; omega, by rw [sl_sR, sl_mkc]; omega⟩, ?_, ?_, ⟨?_, ?_⟩, fun f hf => ⟨?_, ?_⟩, fun j => ?_⟩
    · rw [tg_sR, tg_mkc, if_neg e0]; exact t1
    · rw [gR_if, if_neg (by omega), gR_mkc, if_neg e0]; exact r6
    · rw [tg_sR, tg_mkc, if_neg e1]; exact ta
    · rw [ln_sR, ln_mkc, if_neg e1]; exact la
    · by_cases d : f = i
      · subst d; rw [gR_if, if_pos ⟨rfl, rfl⟩]
      · rw [gR_if, if_neg (fun z => d z.2), gR_mkc, if_neg e1]; exact (fm f (by omega)).1
    · rw [tg_sR, tg_mkc]
      by_cases d : f = i
      · subst d; rw [if_pos n1.symm]
      · rw [if_neg (by omega)]; exact (fm f (by omega)).2
    · rw [gI_sR, gI_mkc, if_neg e0]; exact zz j
  · refine Un_tr (Un_sI h a 3 5 (by omega) (Nat.le_refl _)) (Un_tr (n := a) (m := a) (Un_mkc _ _ _ _ (by rw [nx_sI]; omega)) (Un_sR _ _ _ _ (by rw [nx_mkc, nx_sI]; omega) (Nat.le_refl _)) (Nat.le_refl _)) (Nat.le_refl _)
  · rw [nx_sR, nx_mkc, nx_sI, hn]
  · rw [sl_sR, sl_mkc, sl_sI]
  · rw [tg_sR, tg_mkc, if_neg (by rw [nx_sI]; omega)]; exact ht
  · rw [gR_if, if_pos ⟨rfl, rfl⟩]
  · rw [tg_sR, tg_mkc, if_pos (by rw [nx_sI, hn])]
  · rw [ln_sR, ln_mkc, if_pos (by rw [nx_sI, hn])]
  · rw [gI_sR, gI_mkc, if_neg (by rw [nx_sI]; omega), gI_if]
    by_cases d : j = 3
    · rw [if_pos ⟨rfl, d⟩, if_pos d]
    · rw [if_neg (fun z => d z.2), if_neg d]; exact hz j
theorem t_Past_init (hn : nx h = 34) (ht : tg h 33 = 5) (hz : ∀ j, gI h 33 j = 0) {k : PH → Prop} (hk : ∀ h', Un 33 h h' → nx h' = 115 → sl h' = sl h + 544 → (tg h' 33 = 5 ∧ gR h' 33 0 = 34 ∧ tg h' 34 = 204 ∧ ln h' 34 = 8) → (∀ j, gI h' 33 j = 0) → (∀ i, i < 8 → gR h' 34 i = 35 + 10 * i ∧ L0 h' (35 + 10 * i)) → k h') : ccV m_Past_init h [.ref 33] k := by
  rw [c_Past_init]
  simp only [ixv, hn]
  refine ⟨by decide, ⟨by decide, by decide⟩, by rw [tg_mkc, if_neg (by omega)]; exact ht, ?_⟩
  refine hp (A := fun i h' => Un 33 h h' ∧ (nx h' = 35 + 10 * i ∧ sl h' = sl h + 8 + 67 * i) ∧ (tg h' 33 = 5 ∧ gR h' 33 0 = 34 ∧ tg h' 34 = 204 ∧ ln h' 34 = 8) ∧ (∀ j, gI h' 33 j = 0) ∧ (∀ i', i' < i → gR h' 34 i' = 35 + 10 * i' ∧ L0 h' (35 + 10 * i')))
    (X := fun i h' => wp m_Past_init h' 15 [some (.ref 33), some (.int (nI i))] [] (tyV k)) 8 ?_ ?_ 0 (Nat.zero_le _) _ ⟨?_, ⟨?_, ?_⟩, ⟨?_, ?_, ?_, ?_⟩, fun j => ?_, fun f hf => absurd hf (Nat.not_lt_zero _)⟩
  · intro h' ⟨u, ⟨n1, s1⟩, ⟨t1, r0, ta, la⟩, zz, fm⟩
    rw [e_Past_init_15, t1, r0, ta, la, if_pos (by decide)]
    exact ⟨rfl, by decide, hk h' u n1 (by omega) ⟨t1, r0, ta, la⟩ zz fm⟩
  · intro i hi h' ⟨u, ⟨n1, s1⟩, ⟨t1, r0, ta, la⟩, zz, fm⟩ ih
    rw [e_Past_init_15, t1, r0, ta, la, show Int32.ofNat 8 = nI 8 from rfl, if_neg (nI_ge hi (by decide)), n1]
    refine ⟨rfl, by decide, rfl, by omega, ?_⟩
    refine t_Led_init (a := 35 + 10 * i) (by rw [nx_mkc, n1]) (by rw [tg_mkc, if_pos n1.symm]) (fun j => by rw [gI_mkc, if_pos n1.symm]) (by omega) (by omega) fun h2 u2 n2 s2 L2 => ?_
    have uM : Un (35 + 10 * i) h' (mkc h' 4 0 10) := Un_mkc h' 4 0 10 (by omega)
    have u3 := Un_tr uM u2 (Nat.le_refl _)
    have e34 := u3.2 34 (by omega)
    have e33 := u3.2 33 (by omega)
    have e4 := u3.1.1
    rw [e34.1.1, e34.1.2, ta, la, L2.1.1]
    refine ⟨⟨by decide, inb_nI hi (by decide), Or.inr rfl⟩, ?_⟩
    rw [ix_nI (by omega), nI_1]
    have uS : Un 34 h2 (sR h2 34 i (35 + 10 * i)) := Un_sR _ _ _ _ (by omega) (Nat.le_refl _)
    have l0 : ∀ b, 34 < b → ∀ j, gR (sR h2 34 i (35 + 10 * i)) b j = gR h2 b j := fun b hb j => by rw [gR_if, if_neg (by omega)]
    have LS : ∀ b, 35 ≤ b → L0 h2 b → L0 (sR h2 34 i (35 + 10 * i)) b := fun b hb L => by
      obtain ⟨I, z⟩ := L
      refine ⟨?_, z⟩
      unfold isLed
      simp only [tg_sR, ln_sR, l0 b (by omega), l0 (b + 1) (by omega)]
      exact I
    refine ih _ ⟨Un_tr u (Un_tr (n := 33) (m := 34) (Un_tr (n := 33) (m := 35 + 10 * i) (Un_refl (by omega)) u3 (by omega)) uS (by omega)) (Nat.le_refl _), ⟨by rw [nx_sR]; omega, by rw [sl_sR, s2, sl_mkc]; omega⟩, ⟨?_, ?_, ?_, ?_⟩, fun j => ?_, fun i' hi' => ?_⟩
    · rw [tg_sR, e33.1.1]; exact t1
    · rw [gR_if, if_neg (by omega), e33.2.1]; exact r0
    · rw [tg_sR, e34.1.1]; exact ta
    · rw [ln_sR, e34.1.2]; exact la
    · rw [gI_sR, e33.2.2]; exact zz j
    · by_cases d : i' = i
      · subst d
        exact ⟨by rw [gR_if, if_pos ⟨rfl, rfl⟩], LS _ (by omega) L2⟩
      · obtain ⟨r1, r2⟩ := fm i' (by omega)
        refine ⟨by rw [gR_if, if_neg (fun z => d z.2), e34.2.1]; exact r1, LS _ (by omega) (L0_un r2 u3 (by omega))⟩
  · exact Un_tr (n := 33) (m := 33) (Un_mkc _ _ _ _ (by omega)) (Un_sR _ _ _ _ (by rw [nx_mkc]; omega) (Nat.le_refl _)) (Nat.le_refl _)
  · rw [nx_sR, nx_mkc, hn]
  · rw [sl_sR, sl_mkc]
  · rw [tg_sR, tg_mkc, if_neg (by omega)]; exact ht
  · rw [gR_if, if_pos ⟨rfl, rfl⟩]
  · rw [tg_sR, tg_mkc, if_pos hn.symm]
  · rw [ln_sR, ln_mkc, if_pos hn.symm]
  · rw [gI_sR, gI_mkc, if_neg (by omega)]; exact hz j
end Init
