/-! ===== both are made: what holds at the start ===== -/
def s00 : Sta := (z0, none, [], (0, fun _ => 0), (0, fun _ => 0), fun _ => 0)
/-- the cells below n but 2 are as they were -/
def Vn (n : Nat) (h h' : PH) : Prop := (nx h ≤ nx h' ∧ n ≤ nx h) ∧ ∀ b, b < n → b ≠ 2 → (tg h' b = tg h b ∧ ln h' b = ln h b) ∧ (∀ j, gR h' b j = gR h b j) ∧ ∀ j, gI h' b j = gI h b j
theorem Vn_tr {n m : Nat} {h1 h2 h3 : PH} (f : Vn n h1 h2) (g : Vn m h2 h3) (hm : n ≤ m) : Vn n h1 h3 :=
  ⟨⟨Nat.le_trans f.1.1 g.1.1, f.1.2⟩, fun b hb h2 => by
    have a := f.2 b hb h2
    have c := g.2 b (by omega) h2
    exact ⟨⟨c.1.1.trans a.1.1, c.1.2.trans a.1.2⟩, fun j => (c.2.1 j).trans (a.2.1 j), fun j => (c.2.2 j).trans (a.2.2 j)⟩⟩
theorem Vn_un {n : Nat} {h h' : PH} (u : Un n h h') : Vn n h h' := ⟨u.1, fun b hb _ => u.2 b hb⟩
theorem Vn_s2 {n : Nat} (h : PH) (j x : Nat) (hn : n ≤ nx h) : Vn n h (sR h 2 j x) := ⟨⟨Nat.le_refl _, hn⟩, fun b hb h2 => ⟨⟨rfl, rfl⟩, fun i => by rw [gR_if, if_neg (fun z => h2 z.1)], fun i => rfl⟩⟩
theorem Vn_le {n m : Nat} {h h' : PH} (u : Vn n h h') (hm : m ≤ n) : Vn m h h' := ⟨⟨u.1.1, Nat.le_trans hm u.1.2⟩, fun b hb h2 => u.2 b (by omega) h2⟩
theorem L0_v {h h' : PH} {a n : Nat} (L : L0 h a) (u : Vn n h h') (ha : a + 9 < n) (h3 : 3 ≤ a) : L0 h' a := by
  have q := fun b (hb : b ≤ a + 9) (h2 : a ≤ b) => u.2 b (by omega) (by omega)
  obtain ⟨I, z⟩ := L
  refine ⟨?_, fun j => by rw [(q a (by omega) (by omega)).2.2]; exact z j⟩
  unfold isLed
  rw [(q a (by omega) (by omega)).1.1, (q a (by omega) (by omega)).2.1, (q a (by omega) (by omega)).2.1, (q a (by omega) (by omega)).2.1, (q a (by omega) (by omega)).2.1, (q (a + 1) (by omega) (by omega)).1.1, (q (a + 1) (by omega) (by omega)).1.2, (q (a + 7) (by omega) (by omega)).1.1, (q (a + 7) (by omega) (by omega)).1.2, (q (a + 8) (by omega) (by omega)).1.1, (q (a + 8) (by omega) (by omega)).1.2, (q (a + 9) (by omega) (by omega)).1.1, (q (a + 9) (by omega) (by omega)).1.2]
  refine ⟨I.1, I.2.1, I.2.2.1, fun f hf => ?_, I.2.2.2.2⟩
  rw [(q (a + 1) (by omega) (by omega)).2.1, (q (a + 2 + f) (by omega) (by omega)).1.1]
  exact I.2.2.2.1 f hf
def IP0 (h : PH) : Prop := tg h 2 = 11 ∧ (gR h 2 0 = 3 ∧ gR h 2 1 = 13 ∧ gR h 2 2 = 23 ∧ gR h 2 4 = 33 ∧ gR h 2 5 = 115 ∧ gR h 2 6 = 117 ∧ gR h 2 8 = 118 ∧ gR h 2 9 = 119 ∧ gR h 2 10 = 120 ∧ gR h 2 11 = 121 ∧ gR h 2 12 = 122) ∧
  (tg h 33 = 5 ∧ gR h 33 0 = 34 ∧ tg h 34 = 204 ∧ ln h 34 = 8) ∧ (tg h 115 = 8 ∧ gR h 115 0 = 116 ∧ tg h 116 = 100 ∧ ln h 116 = 96) ∧
  (tg h 117 = 100 ∧ ln h 117 = 12 ∧ tg h 118 = 100 ∧ ln h 118 = 7 ∧ tg h 119 = 3 ∧ tg h 120 = 3 ∧ tg h 121 = 100 ∧ ln h 121 = 5 ∧ tg h 122 = 100 ∧ ln h 122 = 5) ∧
  (L0 h 3 ∧ L0 h 13 ∧ L0 h 23) ∧ (∀ k, k < 8 → gR h 34 k = 35 + 10 * k ∧ L0 h (35 + 10 * k)) ∧ (gI h 2 3 = 0 ∧ gI h 2 7 = 0 ∧ gI h 33 1 = 0 ∧ gI h 33 2 = 0 ∧ gI h 115 1 = 0 ∧ ∀ i, gI h 118 i = 0)
theorem IP0_un {h h' : PH} (q : IP0 h) (u : Un 123 h h') : IP0 h' := by
  obtain ⟨a1, a2, a3, a4, a5, a6, a7, a8⟩ := q
  have r := fun b (hb : b < 123) => u.2 b hb
  unfold IP0
  simp only [(r 2 (by omega)).1.1, (r 2 (by omega)).2.1, (r 2 (by omega)).2.2, (r 33 (by omega)).1.1, (r 33 (by omega)).2.1, (r 33 (by omega)).2.2, (r 34 (by omega)).1.1, (r 34 (by omega)).1.2, (r 34 (by omega)).2.1, (r 115 (by omega)).1.1, (r 115 (by omega)).2.1, (r 115 (by omega)).2.2, (r 116 (by omega)).1.1, (r 116 (by omega)).1.2, (r 117 (by omega)).1.1, (r 117 (by omega)).1.2, (r 118 (by omega)).1.1, (r 118 (by omega)).1.2, (r 118 (by omega)).2.2, (r 119 (by omega)).1.1, (r 120 (by omega)).1.1, (r 121 (by omega)).1.1, (r 121 (by omega)).1.2, (r 122 (by omega)).1.1, (r 122 (by omega)).1.2]
  exact ⟨a1, a2, a3, a4, a5, ⟨L0_un a6.1 u (by omega), L0_un a6.2.1 u (by omega), L0_un a6.2.2 u (by omega)⟩, fun k hk => ⟨(a7 k hk).1, L0_un (a7 k hk).2 u (by omega)⟩, a8⟩
theorem IP_start {h : PH} (q : IP0 h) (hn : 147 ≤ nx h) : IP h s00 := by
  obtain ⟨a1, a2, a3, a4, a5, a6, a7, a8⟩ := q
  refine ⟨⟨a1, a2, a3, a4, a5, ⟨a6.1.1.1, a6.2.1.1.1, a6.2.2.1.1⟩, ⟨a6.1.1, a6.2.1.1, a6.2.2.1⟩, fun k hk => ⟨(a7 k hk).1, (a7 k hk).2.1⟩⟩, hn, L0_LZ a6.1, ?_, fun x hx => ?_, ⟨0, by decide, ?_, ?_, fun j x hx => ?_⟩, ⟨?_, fun i hi => absurd hi (Nat.not_lt_zero _)⟩, ⟨?_, fun i hi => absurd hi (Nat.not_lt_zero _)⟩, fun i hi => a8.2.2.2.2.2 i⟩
  · rw [a8.1]; rfl
  · have q : (none : Option Zl) = some x := hx
    exact absurd q (by simp)
  · rw [a8.2.2.1]; rfl
  · rw [a8.2.2.2.1]; rfl
  · have q : ([] : List Zl)[j]? = some x := hx
    simp at q
  · rw [a8.2.2.2.2.1]; rfl
  · rw [a8.2.1]; rfl
section Made
variable {h h' h0 h1 h2 h3 : PH} {a n : Nat}
theorem t_P_init (hn : nx h = 3) (ht : tg h 2 = 11) (hz : ∀ j, gI h 2 j = 0) {k : PH → Prop} (hk : ∀ h', Un 2 h h' → nx h' = 123 → sl h' ≤ sl h + 1000 → IP0 h' → k h') : ccV m_P_init h [.ref 2] k := by
  rw [c_P_init]
  simp only [hn]
  refine ⟨by decide, by decide, t_Led_init (a := 3) (by rw [nx_mkc, hn]) (by rw [tg_mkc, if_pos hn.symm]) (fun j => by rw [gI_mkc, if_pos hn.symm]) (by decide) (by decide) fun h1 u1 n1 s1 L1 => ?_⟩
  have v1 : Un 3 h h1 := Un_tr (Un_mkc _ _ _ _ (by omega)) u1 (Nat.le_refl _)
  have c1 := v1.2 2 (by omega)
  have t1 : tg h1 2 = 11 := c1.1.1.trans ht
  simp only [nx_sR, n1, t1, true_and]
  have N1 : nx (sR h1 2 0 3) = 13 := n1
  refine ⟨by decide, t_Led_init (a := 13) (by rw [nx_mkc, N1]) (by rw [tg_mkc, if_pos N1.symm]) (fun j => by rw [gI_mkc, if_pos N1.symm]) (by decide) (by decide) fun h2 u2 n2 s2 L2 => ?_⟩
  have v2 : Un 13 (sR h1 2 0 3) h2 := Un_tr (Un_mkc _ _ _ _ (by rw [N1]; omega)) u2 (Nat.le_refl _)
  have c2 := v2.2 2 (by omega)
  have t2 : tg h2 2 = 11 := c2.1.1.trans t1
  simp only [n2, t2, true_and]
  have N2 : nx (sR h2 2 1 13) = 23 := n2
  refine ⟨by decide, t_Led_init (a := 23) (by rw [nx_mkc, N2]) (by rw [tg_mkc, if_pos N2.symm]) (fun j => by rw [gI_mkc, if_pos N2.symm]) (by decide) (by decide) fun h3 u3 n3 s3 L3 => ?_⟩
  have v3 : Un 23 (sR h2 2 1 13) h3 := Un_tr (Un_mkc _ _ _ _ (by rw [N2]; omega)) u3 (Nat.le_refl _)
  have c3 := v3.2 2 (by omega)
  have t3 : tg h3 2 = 11 := c3.1.1.trans t2
  simp only [n3, t3, true_and]
  have N3 : nx (sR h3 2 2 23) = 33 := n3
  refine ⟨by decide, t_Past_init (by rw [nx_mkc, N3]) (by rw [tg_mkc, if_pos N3.symm]) (fun j => by rw [gI_mkc, if_pos N3.symm]) fun h4 u4 n4 s4 pa pz pl => ?_⟩
  have v4 : Un 33 (sR h3 2 2 23) h4 := Un_tr (Un_mkc _ _ _ _ (by rw [N3]; omega)) u4 (Nat.le_refl _)
  have c4 := v4.2 2 (by omega)
  have t4 : tg h4 2 = 11 := c4.1.1.trans t3
  -- what holds of cell 2, of the ledgers, of what was there before
  have r0 : gR h4 2 0 = 3 := by rw [c4.2.1, gR_if, if_neg (by omega), c3.2.1, gR_if, if_neg (by omega), c2.2.1, gR_if, if_pos ⟨rfl, rfl⟩]
  have r1 : gR h4 2 1 = 13 := by rw [c4.2.1, gR_if, if_neg (by omega), c3.2.1, gR_if, if_pos ⟨rfl, rfl⟩]
  have r2 : gR h4 2 2 = 23 := by rw [c4.2.1, gR_if, if_pos ⟨rfl, rfl⟩]
  have z4 : ∀ j, gI h4 2 j = 0 := fun j => by rw [c4.2.2, gI_sR, c3.2.2, gI_sR, c2.2.2, gI_sR, c1.2.2]; exact hz j
  have L1' : L0 h4 3 := L0_v (L0_v (L0_v (L0_v L1 (Vn_tr (Vn_s2 (n := 13) h1 0 3 (by omega)) (Vn_un v2) (Nat.le_refl _)) (by decide) (by decide)) (Vn_tr (Vn_s2 (n := 23) h2 1 13 (by omega)) (Vn_un v3) (Nat.le_refl _)) (by decide) (by decide)) (Vn_s2 (n := 33) h3 2 23 (by omega)) (by decide) (by decide)) (Vn_un v4) (by decide) (by decide)
  have L2' : L0 h4 13 := L0_v (L0_v (L0_v L2 (Vn_tr (Vn_s2 (n := 23) h2 1 13 (by omega)) (Vn_un v3) (Nat.le_refl _)) (by decide) (by decide)) (Vn_s2 (n := 33) h3 2 23 (by omega)) (by decide) (by decide)) (Vn_un v4) (by decide) (by decide)
  have L3' : L0 h4 23 := L0_v (L0_v L3 (Vn_s2 (n := 33) h3 2 23 (by omega)) (by decide) (by decide)) (Vn_un v4) (by decide) (by decide)
  have w4 : Un 2 h h4 := Un_tr (Un_tr (Un_tr (Un_tr (n := 2) (Un_tr (n := 2) (m := 3) (Un_refl (by omega)) v1 (by omega)) (Un_sR h1 2 0 3 (by omega) (Nat.le_refl 2)) (Nat.le_refl _)) (Un_tr (n := 2) (Un_tr (n := 2) (m := 13) (Un_refl (by rw [N1]; omega)) v2 (by omega)) (Un_sR h2 2 1 13 (by omega) (Nat.le_refl 2)) (Nat.le_refl _)) (Nat.le_refl _)) (Un_tr (n := 2) (Un_tr (n := 2) (m := 23) (Un_refl (by rw [N2]; omega)) v3 (by omega)) (Un_sR h3 2 2 23 (by omega) (Nat.le_refl 2)) (Nat.le_refl _)) (Nat.le_refl _)) v4 (by omega)
  have S4 : sl h4 = sl h + 748 := by rw [s4, sl_mkc, sl_sR, s3, sl_mkc, sl_sR, s2, sl_mkc, sl_sR, s1, sl_mkc]
  clear c1 c2 c3 c4 v1 v2 v3 v4 u1 u2 u3 u4 L1 L2 L3 s1 s2 s3 s4
  simp only [n4, t4, true_and]
  rw [c_Text_init]
  simp only [ixv, nx_mkc, nx_sR, n4, e_P_init_67, e_P_init_104, c_Family_init, tg_sR, tg_mkc, t4]
  refine ⟨by decide, by decide, ⟨by decide, by decide⟩, ?_⟩
  generalize hF : sR (mkc (sR (mkc (sR (mkc (sR (mkc (sR (mkc (sR (mkc (sR (sR (mkc (mkc (sR h4 2 4 33) 8 0 2) 100 96 96) 115 0 116) 2 5 115) 100 12 12) 2 6 117) 100 7 7) 2 8 118) 3 0 7) 2 9 119) 3 0 7) 2 10 120) 100 5 5) 2 11 121) 100 5 5) 2 12 122 = H
  have V : ∀ b, b < 115 → b ≠ 2 → (tg H b = tg h4 b ∧ ln H b = ln h4 b) ∧ (∀ j, gR H b j = gR h4 b j) ∧ ∀ j, gI H b j = gI h4 b j := by
    intro b hb h2
    rw [← hF]
    refine ⟨⟨?_, ?_⟩, fun j => ?_, fun j => ?_⟩
    · simp only [tg_sR, tg_mkc, nx_sR, nx_mkc, n4]
      repeat rw [if_neg (by omega)]
    · simp only [ln_sR, ln_mkc, nx_sR, nx_mkc, n4]
      repeat rw [if_neg (by omega)]
    · simp only [gR_if, gR_mkc, nx_sR, nx_mkc, n4]
      repeat rw [if_neg (by omega)]
    · simp only [gI_sR, gI_mkc, nx_sR, nx_mkc, n4]
      repeat rw [if_neg (by omega)]
  have N : nx H = 123 := by rw [← hF]; simp only [nx_sR, nx_mkc, n4]
  have S : sl H = sl h + 889 := by rw [← hF]; simp only [sl_sR, sl_mkc, S4]
  have VH : Vn 115 h4 H := ⟨⟨by omega, by omega⟩, V⟩
  refine ⟨by rw [if_neg (by decide), if_pos trivial], by decide, ⟨by decide, by decide⟩, by decide, ⟨by decide, by decide⟩, by decide, by decide, by decide, by decide, by decide, by decide, by decide, ⟨by decide, by decide⟩, by decide, ⟨by decide, by decide⟩, by decide, ?_⟩
  refine hk H ⟨⟨by omega, by omega⟩, fun b hb => ?_⟩ N (by omega) ⟨?_, ⟨?_, ?_, ?_, ?_, ?_, ?_, ?_, ?_, ?_, ?_, ?_⟩, ⟨?_, ?_, ?_, ?_⟩, ⟨?_, ?_, ?_, ?_⟩, ⟨?_, ?_, ?_, ?_, ?_, ?_, ?_, ?_, ?_, ?_⟩, ⟨L0_v L1' VH (by decide) (by decide), L0_v L2' VH (by decide) (by decide), L0_v L3' VH (by decide) (by decide)⟩, fun i hi => ⟨?_, L0_v (pl i hi).2 VH (by omega) (by omega)⟩, ⟨?_, ?_, ?_, ?_, ?_, fun i => ?_⟩⟩
  · have a := V b (by omega) (by omega)
    have c := w4.2 b hb
    exact ⟨⟨a.1.1.trans c.1.1, a.1.2.trans c.1.2⟩, fun j => (a.2.1 j).trans (c.2.1 j), fun j => (a.2.2 j).trans (c.2.2 j)⟩
  · rw [← hF]; simp [tg_sR, tg_mkc, nx_sR, nx_mkc, n4, t4]
  · rw [← hF]; simp [gR_if, gR_mkc, nx_sR, nx_mkc, n4, r0]
  · rw [← hF]; simp [gR_if, gR_mkc, nx_sR, nx_mkc, n4, r1]
  · rw [← hF]; simp [gR_if, gR_mkc, nx_sR, nx_mkc, n4, r2]
  · rw [← hF]; simp [gR_if, gR_mkc, nx_sR, nx_mkc, n4]
  · rw [← hF]; simp [gR_if, gR_mkc, nx_sR, nx_mkc, n4]
  · rw [← hF]; simp [gR_if, gR_mkc, nx_sR, nx_mkc, n4]
  · rw [← hF]; simp [gR_if, gR_mkc, nx_sR, nx_mkc, n4]
  · rw [← hF]; simp [gR_if, gR_mkc, nx_sR, nx_mkc, n4]
  · rw [← hF]; simp [gR_if, gR_mkc, nx_sR, nx_mkc, n4]
  · rw [← hF]; simp [gR_if, gR_mkc, nx_sR, nx_mkc, n4]
  · rw [← hF]; simp [gR_if, gR_mkc, nx_sR, nx_mkc, n4]
  · rw [(V 33 (by decide) (by decide)).1.1]; exact pa.1
  · rw [(V 33 (by decide) (by decide)).2.1]; exact pa.2.1
  · rw [(V 34 (by decide) (by decide)).1.1]; exact pa.2.2.1
  · rw [(V 34 (by decide) (by decide)).1.2]; exact pa.2.2.2
  · rw [← hF]; simp [tg_sR, tg_mkc, nx_sR, nx_mkc, n4]
  · rw [← hF]; simp [gR_if, gR_mkc, nx_sR, nx_mkc, n4]
  · rw [← hF]; simp [tg_sR, tg_mkc, nx_sR, nx_mkc, n4]
  · rw [← hF]; simp [ln_sR, ln_mkc, nx_sR, nx_mkc, n4]
  · rw [← hF]; simp [tg_sR, tg_mkc, nx_sR, nx_mkc, n4]
  · rw [← hF]; simp [ln_sR, ln_mkc, nx_sR, nx_mkc, n4]
  · rw [← hF]; simp [tg_sR, tg_mkc, nx_sR, nx_mkc, n4]
  · rw [← hF]; simp [ln_sR, ln_mkc, nx_sR, nx_mkc, n4]
  · rw [← hF]; simp [tg_sR, tg_mkc, nx_sR, nx_mkc, n4]
  · rw [← hF]; simp [tg_sR, tg_mkc, nx_sR, nx_mkc, n4]
  · rw [← hF]; simp [tg_sR, tg_mkc, nx_sR, nx_mkc, n4]
  · rw [← hF]; simp [ln_sR, ln_mkc, nx_sR, nx_mkc, n4]
  · rw [← hF]; simp [tg_sR, tg_mkc, nx_sR, nx_mkc, n4]
  · rw [← hF]; simp [ln_sR, ln_mkc, nx_sR, nx_mkc, n4]
  · rw [(V 34 (by decide) (by decide)).2.1]; exact (pl i hi).1
  · rw [← hF]; simp [gI_sR, gI_mkc, nx_sR, nx_mkc, n4, z4]
  · rw [← hF]; simp [gI_sR, gI_mkc, nx_sR, nx_mkc, n4, z4]
  · rw [(V 33 (by decide) (by decide)).2.2]; exact pz 1
  · rw [(V 33 (by decide) (by decide)).2.2]; exact pz 2
  · rw [← hF]; simp [gI_sR, gI_mkc, nx_sR, nx_mkc, n4]
  · rw [← hF]; simp [gI_sR, gI_mkc, nx_sR, nx_mkc, n4]
/-- on the way of making the reference -/
def Qs (h1 h : PH) (n : Nat) (F : List (Nat × Nat × Nat)) (v : Int32) : Prop := (nx h = n ∧ 124 ≤ n ∧ tg h 123 = 12 ∧ sl h ≤ sl h1 + 384 * (n - 124)) ∧ Un 123 h1 h ∧ (∀ x, x ∈ F → gR h 123 x.1 = x.2.1 ∧ tg h x.2.1 = 100 ∧ ln h x.2.1 = x.2.2 ∧ 124 ≤ x.2.1 ∧ x.2.1 < n) ∧ (∀ b, 124 ≤ b → b < n → ∀ j, gI h b j = 0) ∧ ∀ j, gI h 123 j = if j = 5 then v else 0
theorem qs_tg {n : Nat} {F : List (Nat × Nat × Nat)} {v : Int32} (q : Qs h1 h n F v) (l : Nat) : tg (mkc h 100 l l) 123 = 12 := by
  rw [tg_mkc, if_neg (by have := q.1.1; have := q.1.2.1; omega)]; exact q.1.2.2.1
theorem qs_step {n : Nat} {F : List (Nat × Nat × Nat)} {v : Int32} (q : Qs h1 h n F v) (f l : Nat) (hl : l ≤ 384) (hf : ∀ x, x ∈ F → x.1 ≠ f) : Qs h1 (sR (mkc h 100 l l) 123 f (nx h)) (n + 1) ((f, n, l) :: F) v := by
  obtain ⟨⟨e1, e2, e3, e4⟩, u, a, z, y⟩ := q
  have ne : ¬ 123 = nx h := by omega
  refine ⟨⟨by rw [nx_sR, nx_mkc, e1], by omega, by rw [tg_sR, tg_mkc, if_neg ne]; exact e3, by rw [sl_sR, sl_mkc]; omega⟩, Un_tr u (Un_tr (n := 123) (m := 123) (Un_mkc _ _ _ _ (by omega)) (Un_sR _ _ _ _ (by rw [nx_mkc]; omega) (Nat.le_refl _)) (Nat.le_refl _)) (Nat.le_refl _), fun x hx => ?_, fun b hb hb2 j => ?_, fun j => ?_⟩
  · rcases List.mem_cons.mp hx with rfl | hx
    · refine ⟨by rw [gR_if, if_pos ⟨rfl, rfl⟩, e1], by rw [tg_sR, tg_mkc, if_pos e1.symm], by rw [ln_sR, ln_mkc, if_pos e1.symm], e2, Nat.lt_succ_self _⟩
    · obtain ⟨x1, x2, x3, x4, x5⟩ := a x hx
      have nb : ¬ x.2.1 = nx h := by omega
      exact ⟨by rw [gR_if, if_neg (fun w => hf x hx w.2), gR_mkc, if_neg ne]; exact x1, by rw [tg_sR, tg_mkc, if_neg nb]; exact x2, by rw [ln_sR, ln_mkc, if_neg nb]; exact x3, x4, by omega⟩
  · rw [gI_sR, gI_mkc]
    by_cases d : b = nx h
    · rw [if_pos d]
    · rw [if_neg d]; exact z b hb (by omega) j
  · rw [gI_sR, gI_mkc, if_neg ne]; exact y j
theorem qs_5 {n : Nat} {F : List (Nat × Nat × Nat)} {v : Int32} (q : Qs h1 h n F v) (x : Int32) : Qs h1 (sI h 123 5 x) n F x := by
  obtain ⟨⟨e1, e2, e3, e4⟩, u, a, z, y⟩ := q
  refine ⟨⟨e1, e2, e3, e4⟩, Un_tr u (Un_sI _ _ _ _ (by omega) (Nat.le_refl _)) (Nat.le_refl _), a, fun b hb hb2 i => by rw [gI_if, if_neg (by omega)]; exact z b hb hb2 i, fun i => ?_⟩
  rw [gI_if]
  by_cases d : i = 5
  · rw [if_pos ⟨rfl, d⟩, if_pos d]
  · rw [if_neg (fun w => d w.2), if_neg d, y i, if_neg d]
theorem qs_0 {n : Nat} {F : List (Nat × Nat × Nat)} {v : Int32} (q : Qs h1 h n F v) : Qs h1 (sI h 123 12 0) n F v := by
  obtain ⟨⟨e1, e2, e3, e4⟩, u, a, z, y⟩ := q
  refine ⟨⟨e1, e2, e3, e4⟩, Un_tr u (Un_sI _ _ _ _ (by omega) (Nat.le_refl _)) (Nat.le_refl _), a, fun b hb hb2 i => by rw [gI_if, if_neg (by omega)]; exact z b hb hb2 i, fun i => ?_⟩
  rw [gI_if]
  by_cases d : i = 12
  · rw [if_pos ⟨rfl, d⟩, if_neg (by omega)]
  · rw [if_neg (fun w => d w.2)]; exact y i
theorem t_Q_init (hn : nx h = 124) (ht : tg h 123 = 12) (hz : ∀ j, gI h 123 j = 0) {k : PH → Prop} (hk : ∀ h', Un 123 h h' → nx h' = 147 → sl h' ≤ sl h + 8832 → IQ h' s00 → k h') : ccV m_Q_init h [.ref 123] k := by
  have q0 : Qs h h 124 [] 0 := ⟨⟨hn, Nat.le_refl _, ht, Nat.le_add_right _ _⟩, Un_refl (by omega), fun x hx => by simp at hx, fun b hb hb2 => absurd hb (by omega), fun j => by rw [hz]; split <;> rfl⟩
  have q1 := qs_step q0 1 5 (by decide) (by decide)
  have q2 := qs_step q1 2 5 (by decide) (by decide)
  have q3 := qs_step q2 3 5 (by decide) (by decide)
  have q4 := qs_step q3 4 5 (by decide) (by decide)
  have q5 := qs_5 q4 5
  have q6 := qs_step q5 8 6 (by decide) (by decide)
  have q7 := qs_step q6 9 6 (by decide) (by decide)
  have q8 := qs_step q7 10 6 (by decide) (by decide)
  have q9 := qs_step q8 11 6 (by decide) (by decide)
  have q10 := qs_step q9 13 7 (by decide) (by decide)
  have q11 := qs_step q10 14 5 (by decide) (by decide)
  have q12 := qs_step q11 15 5 (by decide) (by decide)
  have q13 := qs_step q12 17 5 (by decide) (by decide)
  have q14 := qs_step q13 18 96 (by decide) (by decide)
  have q15 := qs_step q14 23 49 (by decide) (by decide)
  have q16 := qs_step q15 24 49 (by decide) (by decide)
  have q17 := qs_step q16 25 147 (by decide) (by decide)
  have q18 := qs_step q17 26 48 (by decide) (by decide)
  have q19 := qs_step q18 27 48 (by decide) (by decide)
  have q20 := qs_step q19 32 384 (by decide) (by decide)
  have q21 := qs_step q20 33 48 (by decide) (by decide)
  have q22 := qs_step q21 35 12 (by decide) (by decide)
  have q23 := qs_step q22 37 6 (by decide) (by decide)
  have q24 := qs_step q23 38 6 (by decide) (by decide)
  have q25 := qs_0 q24
  have d5 : (0 ≤ (5 : Int32) ∧ 5 ≤ 1000) := by decide
  rw [c_Q_init]
  simp only [ixv]
  refine ⟨by decide, ⟨by decide, by decide⟩, qs_tg q0 5, ⟨by decide, by decide⟩, qs_tg q1 5, ⟨by decide, by decide⟩, qs_tg q2 5, ?_⟩
  rw [e_Q_init_25]
  simp only [ixv]
  refine ⟨⟨by decide, by decide⟩, qs_tg q3 5, q4.1.2.2.1, ⟨by decide, by decide⟩, qs_tg q5 6, ⟨by decide, by decide⟩, qs_tg q6 6, ?_⟩
  rw [e_Q_init_53]
  simp only [ixv]
  refine ⟨⟨by decide, by decide⟩, qs_tg q7 6, ⟨by decide, by decide⟩, qs_tg q8 6, ⟨by decide, by decide⟩, qs_tg q9 7, ?_⟩
  rw [e_Q_init_77]
  simp only [ixv]
  refine ⟨⟨by decide, by decide⟩, qs_tg q10 5, ⟨by decide, by decide⟩, qs_tg q11 5, ⟨by decide, by decide⟩, qs_tg q12 5, ?_⟩
  rw [e_Q_init_98]
  simp only [ixv]
  refine ⟨⟨by decide, by decide⟩, qs_tg q13 96, ⟨by decide, by decide⟩, qs_tg q14 49, ⟨by decide, by decide⟩, qs_tg q15 49, ?_⟩
  rw [e_Q_init_122]
  simp only [ixv]
  refine ⟨⟨by decide, by decide⟩, qs_tg q16 147, ⟨by decide, by decide⟩, qs_tg q17 48, ⟨by decide, by decide⟩, qs_tg q18 48, ?_⟩
  rw [e_Q_init_147]
  simp only [ixv]
  refine ⟨⟨by decide, by decide⟩, qs_tg q19 384, ⟨by decide, by decide⟩, qs_tg q20 48, ⟨by decide, by decide⟩, qs_tg q21 12, ?_⟩
  rw [e_Q_init_172]
  simp only [ixv]
  refine ⟨⟨by decide, by decide⟩, qs_tg q22 6, ⟨by decide, by decide⟩, qs_tg q23 6, q24.1.2.2.1, ?_⟩
  clear q0 q1 q2 q3 q4 q5 q6 q7 q8 q9 q10 q11 q12 q13 q14 q15 q16 q17 q18 q19 q20 q21 q22 q23 q24
  generalize sI (sR (mkc _ 100 6 6) 123 38 _) 123 12 0 = H at q25 ⊢
  obtain ⟨⟨e1, e2, e3, e4⟩, u, a, z, y⟩ := q25
  have q : isQ H := by
    unfold isQ
    refine ⟨e3, ⟨?_, ?_, ?_, ?_, ?_, ?_, ?_, ?_, ?_, ?_, ?_, ?_, ?_, ?_, ?_, ?_, ?_, ?_, ?_, ?_, ?_, ?_, ?_⟩, ⟨?_, ?_, ?_, ?_, ?_, ?_, ?_, ?_, ?_, ?_, ?_, ?_, ?_, ?_, ?_, ?_, ?_, ?_, ?_, ?_, ?_, ?_, ?_⟩, ⟨?_, ?_, ?_, ?_, ?_, ?_, ?_, ?_, ?_, ?_, ?_, ?_, ?_, ?_, ?_, ?_, ?_, ?_, ?_, ?_, ?_, ?_, ?_⟩⟩
    · exact (a (1, 124, 5) (by decide)).1
    · exact (a (2, 125, 5) (by decide)).1
    · exact (a (3, 126, 5) (by decide)).1
    · exact (a (4, 127, 5) (by decide)).1
    · exact (a (8, 128, 6) (by decide)).1
    · exact (a (9, 129, 6) (by decide)).1
    · exact (a (10, 130, 6) (by decide)).1
    · exact (a (11, 131, 6) (by decide)).1
    · exact (a (13, 132, 7) (by decide)).1
    · exact (a (14, 133, 5) (by decide)).1
    · exact (a (15, 134, 5) (by decide)).1
    · exact (a (17, 135, 5) (by decide)).1
    · exact (a (18, 136, 96) (by decide)).1
    · exact (a (23, 137, 49) (by decide)).1
    · exact (a (24, 138, 49) (by decide)).1
    · exact (a (25, 139, 147) (by decide)).1
    · exact (a (26, 140, 48) (by decide)).1
    · exact (a (27, 141, 48) (by decide)).1
    · exact (a (32, 142, 384) (by decide)).1
    · exact (a (33, 143, 48) (by decide)).1
    · exact (a (35, 144, 12) (by decide)).1
    · exact (a (37, 145, 6) (by decide)).1
    · exact (a (38, 146, 6) (by decide)).1
    · exact (a (1, 124, 5) (by decide)).2.1
    · exact (a (2, 125, 5) (by decide)).2.1
    · exact (a (3, 126, 5) (by decide)).2.1
    · exact (a (4, 127, 5) (by decide)).2.1
    · exact (a (8, 128, 6) (by decide)).2.1
    · exact (a (9, 129, 6) (by decide)).2.1
    · exact (a (10, 130, 6) (by decide)).2.1
    · exact (a (11, 131, 6) (by decide)).2.1
    · exact (a (13, 132, 7) (by decide)).2.1
    · exact (a (14, 133, 5) (by decide)).2.1
    · exact (a (15, 134, 5) (by decide)).2.1
    · exact (a (17, 135, 5) (by decide)).2.1
    · exact (a (18, 136, 96) (by decide)).2.1
    · exact (a (23, 137, 49) (by decide)).2.1
    · exact (a (24, 138, 49) (by decide)).2.1
    · exact (a (25, 139, 147) (by decide)).2.1
    · exact (a (26, 140, 48) (by decide)).2.1
    · exact (a (27, 141, 48) (by decide)).2.1
    · exact (a (32, 142, 384) (by decide)).2.1
    · exact (a (33, 143, 48) (by decide)).2.1
    · exact (a (35, 144, 12) (by decide)).2.1
    · exact (a (37, 145, 6) (by decide)).2.1
    · exact (a (38, 146, 6) (by decide)).2.1
    · exact (a (1, 124, 5) (by decide)).2.2.1
    · exact (a (2, 125, 5) (by decide)).2.2.1
    · exact (a (3, 126, 5) (by decide)).2.2.1
    · exact (a (4, 127, 5) (by decide)).2.2.1
    · exact (a (8, 128, 6) (by decide)).2.2.1
    · exact (a (9, 129, 6) (by decide)).2.2.1
    · exact (a (10, 130, 6) (by decide)).2.2.1
    · exact (a (11, 131, 6) (by decide)).2.2.1
    · exact (a (13, 132, 7) (by decide)).2.2.1
    · exact (a (14, 133, 5) (by decide)).2.2.1
    · exact (a (15, 134, 5) (by decide)).2.2.1
    · exact (a (17, 135, 5) (by decide)).2.2.1
    · exact (a (18, 136, 96) (by decide)).2.2.1
    · exact (a (23, 137, 49) (by decide)).2.2.1
    · exact (a (24, 138, 49) (by decide)).2.2.1
    · exact (a (25, 139, 147) (by decide)).2.2.1
    · exact (a (26, 140, 48) (by decide)).2.2.1
    · exact (a (27, 141, 48) (by decide)).2.2.1
    · exact (a (32, 142, 384) (by decide)).2.2.1
    · exact (a (33, 143, 48) (by decide)).2.2.1
    · exact (a (35, 144, 12) (by decide)).2.2.1
    · exact (a (37, 145, 6) (by decide)).2.2.1
    · exact (a (38, 146, 6) (by decide)).2.2.1
  have y0 : ∀ j, j ≠ 5 → gI H 123 j = 0 := fun j hj => by rw [y, if_neg hj]
  have y5 : gI H 123 5 = 5 := by rw [y, if_pos rfl]
  refine hk H u e1 e4 ⟨⟨q, ⟨by decide, by decide⟩, ⟨y0 0 (by decide), y0 7 (by decide), y0 6 (by decide), y5⟩, fun f hf => absurd hf (Nat.not_lt_zero _), fun w hw => absurd hw (Nat.not_lt_zero _)⟩, fun w hw => absurd hw (Nat.not_lt_zero _), ?_, fun x hx => ?_, ⟨y0 34 (by decide), fun j x hx => ?_⟩, ⟨y0 19 (by decide), fun i hi => absurd hi (Nat.not_lt_zero _)⟩, ⟨y0 36 (by decide), fun i hi => absurd hi (Nat.not_lt_zero _)⟩, fun i hi => z 132 (by decide) (by decide) i⟩
  · rw [y0 28 (by decide)]; rfl
  · have q : (none : Option Zl) = some x := hx
    exact absurd q (by simp)
  · have q : ([] : List Zl)[j]? = some x := hx
    simp at q
end Made
