/-! ===== a work comes ===== -/
/-- cells that were there are as they were, but for the whole numbers in S and the references in R -/
def Og (S R : Nat → Prop) (h h' : PH) : Prop := nx h ≤ nx h' ∧ ∀ b, b < nx h → tg h' b = tg h b ∧ ln h' b = ln h b ∧ (¬ R b → ∀ j, gR h' b j = gR h b j) ∧ (¬ S b → ∀ j, gI h' b j = gI h b j)
theorem Og_mkc (S R : Nat → Prop) (h : PH) (t n w : Nat) : Og S R h (mkc h t n w) := by
  refine ⟨Nat.le_succ _, fun b hb => ?_⟩
  have e : b ≠ h.1.1 := Nat.ne_of_lt hb
  unfold tg ln gI gR mkc
  simp only [e, if_false]
  exact ⟨trivial, trivial, fun _ _ => trivial, fun _ _ => trivial⟩
theorem Og_fr {S R : Nat → Prop} {h h' : PH} (f : Fr S R h h') : Og S R h h' := ⟨Nat.le_of_eq (Fr_nx f).symm, fun b _ => ⟨Fr_tg f b, Fr_ln f b, f.2.2.1 b, f.2.2.2 b⟩⟩
theorem Og_trans {S R : Nat → Prop} {h h' h'' : PH} (f : Og S R h h') (g : Og S R h' h'') : Og S R h h'' := by
  refine ⟨Nat.le_trans f.1 g.1, fun b hb => ?_⟩
  have h1 := f.2 b hb
  have h2 := g.2 b (Nat.lt_of_lt_of_le hb f.1)
  exact ⟨h2.1.trans h1.1, h2.2.1.trans h1.2.1, fun n j => (h2.2.2.1 n j).trans (h1.2.2.1 n j), fun n j => (h2.2.2.2 n j).trans (h1.2.2.2 n j)⟩
theorem Og_mono {S S' R R' : Nat → Prop} {h h' : PH} (f : Og S R h h') (hS : ∀ b, b < nx h → S b → S' b) (hR : ∀ b, b < nx h → R b → R' b) : Og S' R' h h' :=
  ⟨f.1, fun b hb => ⟨(f.2 b hb).1, (f.2 b hb).2.1, fun n => (f.2 b hb).2.2.1 (fun x => n (hR b hb x)), fun n => (f.2 b hb).2.2.2 (fun x => n (hS b hb x))⟩⟩
theorem Og_wk {S R : Nat → Prop} {h h' : PH} {p : Nat} {r : Row} (w : isWk h p r) (f : Og S R h h') (hp : ¬ S p) : isWk h' p r := by
  have q := f.2 p w.1.2
  unfold isWk
  rw [q.1, q.2.2.2 hp, q.2.2.2 hp]
  exact ⟨⟨w.1.1, Nat.lt_of_lt_of_le w.1.2 f.1⟩, w.2⟩
theorem Og_isLed {S R : Nat → Prop} {h h' : PH} {a : Nat} (L : isLed h a) (f : Og S R h h') (hn : 147 ≤ nx h) (ha : ¬ R a) (ha1 : ¬ R (a + 1)) : isLed h' a := by
  have hla := L.2.2.2.2.2.2.2.1
  have q := fun b (hb : b ≤ a + 9) => f.2 b (by omega)
  unfold isLed
  rw [(q a (by omega)).1, (q a (by omega)).2.2.1 ha, (q a (by omega)).2.2.1 ha, (q a (by omega)).2.2.1 ha, (q a (by omega)).2.2.1 ha, (q (a + 1) (by omega)).1, (q (a + 1) (by omega)).2.1, (q (a + 7) (by omega)).1, (q (a + 7) (by omega)).2.1, (q (a + 8) (by omega)).1, (q (a + 8) (by omega)).2.1, (q (a + 9) (by omega)).1, (q (a + 9) (by omega)).2.1]
  refine ⟨L.1, L.2.1, L.2.2.1, fun f' hf => ?_, L.2.2.2.2⟩
  rw [(q (a + 1) (by omega)).2.2.1 ha1, (q (a + 2 + f') (by omega)).1]
  exact L.2.2.2.1 f' hf
theorem Og_Led {S R : Nat → Prop} {h h' : PH} {a : Nat} {c : Core} (L : Led h a c) (f : Og S R h h') (hn : 147 ≤ nx h) (hS : ∀ b, S b → ¬ (a ≤ b ∧ b ≤ a + 6) ∧ b < 147) (hR : ∀ b, R b → ¬ (b = a ∨ b = a + 1 ∨ b = a + 7)) : Led h' a c := by
  have hla := L.1.2.2.2.2.2.2.2.1
  refine ⟨Og_isLed L.1 f hn (fun x => hR _ x (Or.inl rfl)) (fun x => hR _ x (Or.inr (Or.inl rfl))), L.2.1, ?_, fun g hg => ?_, fun w hw => ?_⟩
  · have : ¬ S a := fun x => (hS _ x).1 ⟨Nat.le_refl _, by omega⟩
    have q := (f.2 a (by omega)).2.2.2 this
    rw [q, q, q, q]
    exact L.2.2.1
  · have h5 := L.2.1.1
    have : ¬ S (a + 2 + g) := fun x => (hS _ x).1 ⟨by omega, by omega⟩
    intro j hj
    rw [(f.2 (a + 2 + g) (by omega)).2.2.2 this]
    exact L.2.2.2.1 g hg j hj
  · rw [(f.2 (a + 7) (by omega)).2.2.1 (fun x => hR _ x (Or.inr (Or.inr rfl)))]
    exact Og_wk (L.2.2.2.2 w hw) f (fun x => by have := (hS _ x).2; have := (L.2.2.2.2 w hw).1.1; omega)
def wkRow (x y z : Int32) : Row := fun j => if j = 0 then x else if j = 1 then y else z
section New
variable {h : PH}
theorem t_newWork (hn : 147 ≤ nx h) {x y z : Int32} (hx : othN x 5 = 0) {k : PH → Nat → Prop}
    (hk : ∀ h', Og (fun _ => False) (fun _ => False) h h' → nx h' = nx h + 1 → sl h' = sl h + 2 → isWk h' (nx h) (wkRow x y z) → k h' (nx h)) : ccA m_Ledger_newWork h [.int x, .int y, .int z] k := by
  have key : ∀ t, memB t [1, 2, 6, 7, 9, 10] = true → wtag x = t → memB (tg (mkc h t 0 2) (nx h)) [1, 2, 6, 7, 9, 10] = true ∧ memB (tg (sI (mkc h t 0 2) (nx h) 0 y) (nx h)) [1, 2, 6, 7, 9, 10] = true ∧ k (sI (sI (mkc h t 0 2) (nx h) 0 y) (nx h) 1 z) (nx h) := by
    intro t ht hw
    have e : tg (mkc h t 0 2) (nx h) = t := by unfold tg mkc nx; simp
    have e2 : tg (sI (mkc h t 0 2) (nx h) 0 y) (nx h) = t := by rw [sI_wR, tg_wR, e]
    rw [e, e2]
    refine ⟨ht, ht, hk _ ?_ rfl rfl ?_⟩
    · have fr : Fr (fun b => b = nx h) (fun _ => False) (mkc h t 0 2) (sI (sI (mkc h t 0 2) (nx h) 0 y) (nx h) 1 z) := Fr_trans (Fr_sI _ _ _ _ rfl) (Fr_sI _ _ _ _ rfl)
      exact Og_mono (Og_trans (Og_mkc (fun b => b = nx h) (fun _ => False) h t 0 2) (Og_fr fr)) (fun b hb q => absurd q (Nat.ne_of_lt hb)) (fun _ _ q => q)
    · refine ⟨⟨hn, Nat.lt_succ_self _⟩, ?_, ?_, ?_⟩
      · rw [sI_wR, tg_wR, e2]; exact hw.symm
      · rw [sI_wR, sI_wR, gI_wR, rs_ne _ _ (by decide), gI_wR, rs_eq]; rfl
      · rw [sI_wR, sI_wR, gI_wR, rs_eq]; rfl
  have h0 : nx h ≠ 0 := by omega
  rw [c_Ledger_newWork, e_Ledger_newWork_1]
  unfold wtag at key
  by_cases c1 : x = 1
  · rw [if_pos c1, c_Bridge_init, c_Work_init]
    exact ⟨h0, h0, h0, key 1 rfl (by rw [if_pos c1])⟩
  rw [if_neg c1]
  by_cases c2 : x = 2
  · rw [if_pos c2, c_War_init, c_Work_init]
    exact ⟨h0, h0, h0, key 9 rfl (by rw [if_neg c1, if_pos c2])⟩
  rw [if_neg c2]
  by_cases c3 : x = 3
  · rw [if_pos c3, c_Cradle_init, c_Bridge_init, c_Work_init]
    exact ⟨h0, h0, h0, h0, key 2 rfl (by rw [if_neg c1, if_neg c2, if_pos c3])⟩
  rw [if_neg c3]
  by_cases c4 : x = 4
  · rw [if_pos c4, c_Pen_init, c_War_init, c_Work_init]
    exact ⟨h0, h0, h0, h0, key 6 rfl (by rw [if_neg c1, if_neg c2, if_neg c3, if_pos c4])⟩
  rw [if_neg c4]
  by_cases c5 : x = 5
  · rw [if_pos c5, c_Ruin_init, c_Bridge_init, c_Work_init]
    exact ⟨h0, h0, h0, h0, key 7 rfl (by rw [if_neg c1, if_neg c2, if_neg c3, if_neg c4, if_pos c5])⟩
  rw [if_neg c5, c_Work_init]
  exact ⟨h0, h0, key 10 rfl (by rw [if_neg c1, if_neg c2, if_neg c3, if_neg c4, if_neg c5])⟩
end New
