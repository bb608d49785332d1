/-! ===== loops; a ledger of the class: what is read ===== -/
theorem lp_from (X : Nat → Prop) : ∀ (d i : Nat), (∀ j, i ≤ j → j < i + d → X j = X (j + 1)) → X i = X (i + d)
  | 0, _, _ => rfl
  | d + 1, i, hs => (hs i (Nat.le_refl _) (by omega)).trans (by
      have := lp_from X d (i + 1) (fun j h1 h2 => hs j (by omega) (by omega))
      rw [this]; congr 1; omega)
theorem lp (X : Nat → Prop) (n : Nat) (hs : ∀ j, j < n → X j = X (j + 1)) : X 0 = X n := by
  have := lp_from X n 0 (fun j _ h2 => hs j (by omega))
  rw [this]; congr 1; omega
theorem lpOne (X : Nat → Prop) (n : Nat) (hn : 1 ≤ n) (hs : ∀ j, 1 ≤ j → j < n → X j = X (j + 1)) : X 1 = X n := by
  have := lp_from X (n - 1) 1 (fun j h1 h2 => hs j h1 (by omega))
  rw [this]; congr 1; omega
/-- the same for what is shown, with what holds on the way -/
theorem hp {A : Nat → PH → Prop} {X : Nat → PH → Prop} (n : Nat) (he : ∀ h, A n h → X n h) (hs : ∀ j, j < n → ∀ h, A j h → (∀ h', A (j + 1) h' → X (j + 1) h') → X j h) : ∀ j, j ≤ n → ∀ h, A j h → X j h := by
  intro j hj
  have key : ∀ d j, j + d = n → ∀ h, A j h → X j h := by
    intro d
    induction d with
    | zero => intro j e h ha; have : j = n := by omega
              subst this; exact he h ha
    | succ d ih => intro j e h ha; exact hs j (by omega) h ha (fun h' ha' => ih (j + 1) (by omega) h' ha')
  exact key (n - j) j (by omega)
def sumN (g : Nat → Int32) : Nat → Int32
  | 0 => 0
  | n + 1 => sumN g n + g n
/-- the first of the best: r i j says that i is better than j -/
def bst (r : Nat → Nat → Bool) : Nat → Nat
  | 0 => 0
  | n + 1 => if r n (bst r n) = true then n else bst r n
theorem bst_lt (r : Nat → Nat → Bool) : ∀ n, bst r n < n + 1
  | 0 => Nat.zero_lt_one
  | n + 1 => by unfold bst; split; omega; have := bst_lt r n; omega
theorem bst_lt1 (r : Nat → Nat → Bool) : ∀ n, 0 < n → bst r n < n
  | n + 1, _ => by unfold bst; split; omega; have := bst_lt r n; omega
theorem sumN_c {g g' : Nat → Int32} : ∀ {n : Nat}, (∀ i, i < n → g i = g' i) → sumN g n = sumN g' n
  | 0, _ => rfl
  | n + 1, e => by unfold sumN; rw [sumN_c (fun i hi => e i (by omega)), e n (by omega)]
theorem bst_c {r r' : Nat → Nat → Bool} : ∀ {n : Nat}, (∀ i j, i < n → j ≤ i → r i j = r' i j) → bst r n = bst r' n
  | 0, _ => rfl
  | n + 1, e => by
    have ih := bst_c (n := n) (fun i j hi hj => e i j (by omega) hj)
    unfold bst
    rw [ih, e n (bst r' n) (by omega) (by have := bst_lt r' n; omega)]
def anyN (p : Nat → Bool) : Nat → Bool
  | 0 => false
  | n + 1 => anyN p n || p n
theorem anyN_pos {p : Nat → Bool} {i : Nat} : ∀ {n : Nat}, i < n → p i = true → anyN p n = true
  | n + 1, h, e => by
    unfold anyN
    rcases Nat.eq_or_lt_of_le (Nat.lt_succ_iff.mp h) with c | c
    · subst c; simp [e]
    · simp [anyN_pos c e]
theorem anyN_c {p p' : Nat → Bool} : ∀ {n : Nat}, (∀ i, i < n → p i = p' i) → anyN p n = anyN p' n
  | 0, _ => rfl
  | n + 1, e => by unfold anyN; rw [anyN_c (fun i hi => e i (by omega)), e n (by omega)]
/-- bit f of B -/
def bt (B : Int32) (f : Nat) : Bool := decide (((B >>> (nI f &&& 31)) &&& 1) = 1)
/-- the numbers below n for which p, as bits -/
def bm (p : Nat → Bool) : Nat → Int32
  | 0 => 0
  | n + 1 => if p n = true then bm p n ||| (1 <<< (nI n &&& 31)) else bm p n
theorem bm_c {p p' : Nat → Bool} : ∀ {n : Nat}, (∀ i, i < n → p i = p' i) → bm p n = bm p' n
  | 0, _ => rfl
  | n + 1, e => by unfold bm; rw [bm_c (fun i hi => e i (by omega)), e n (by omega)]
def nm (p : Nat → Bool) : Nat → Nat
  | 0 => 0
  | n + 1 => if p n = true then nm p n ||| 2 ^ n else nm p n
theorem nm_lt (p : Nat → Bool) : ∀ n, nm p n < 2 ^ n
  | 0 => Nat.zero_lt_one
  | n + 1 => by
    have := nm_lt p n
    unfold nm
    split
    · exact Nat.or_lt_two_pow (Nat.lt_of_lt_of_le this (Nat.pow_le_pow_right (by decide) (by omega))) (Nat.pow_lt_pow_right (by decide) (by omega))
    · exact Nat.lt_of_lt_of_le this (Nat.pow_le_pow_right (by decide) (by omega))
theorem nm_bit (p : Nat → Bool) (f : Nat) : ∀ n, (nm p n).testBit f = (decide (f < n) && p f)
  | 0 => by simp [nm]
  | n + 1 => by
    unfold nm
    by_cases c : p n = true
    · rw [if_pos c, Nat.testBit_or, nm_bit p f n, Nat.testBit_two_pow]
      by_cases e : f = n
      · subst e; simp [c]
      · have : decide (n = f) = false := by simp; omega
        rw [this, Bool.or_false]
        congr 1
        simp; omega
    · rw [if_neg c, nm_bit p f n]
      by_cases e : f = n
      · subst e; simp [c]
      · congr 1; simp; omega
theorem or_dec : ∀ m : Fin 64, ∀ i : Fin 6, nI m.1 ||| (1 <<< (nI i.1 &&& 31)) = nI (m.1 ||| 2 ^ i.1) := by decide +kernel
theorem bt_dec : ∀ m : Fin 64, ∀ i : Fin 6, bt (nI m.1) i.1 = m.1.testBit i.1 := by decide +kernel
theorem p2_6 {n : Nat} (hn : n ≤ 6) : 2 ^ n ≤ 64 := Nat.pow_le_pow_right (by decide) hn
theorem bm_nm (p : Nat → Bool) : ∀ n, n ≤ 6 → bm p n = nI (nm p n)
  | 0, _ => rfl
  | n + 1, h => by
    have ih := bm_nm p n (by omega)
    unfold bm nm
    rw [ih]
    split
    · exact or_dec ⟨nm p n, Nat.lt_of_lt_of_le (nm_lt p n) (p2_6 (by omega))⟩ ⟨n, by omega⟩
    · rfl
theorem bt_nI {m f : Nat} (hm : m < 64) (hf : f < 6) : bt (nI m) f = m.testBit f := bt_dec ⟨m, hm⟩ ⟨f, hf⟩
theorem bt_bm (p : Nat → Bool) {n f : Nat} (hn : n ≤ 6) (hf : f < 6) : bt (bm p n) f = (decide (f < n) && p f) := by
  rw [bm_nm p n hn, bt_nI (Nat.lt_of_lt_of_le (nm_lt p n) (p2_6 hn)) hf, nm_bit]
theorem every_dec : ∀ n : Fin 7, ((1 : Int32) <<< (nI n.1 &&& 31)) - 1 = nI (2 ^ n.1 - 1) ∧ ((1 : Int32) <<< (nI n.1 &&& 31)) = nI (2 ^ n.1) := by decide +kernel
theorem inb_nI {f n : Nat} (h : f < n) (hn : n < 2 ^ 31) : inb (nI f) n := ⟨nI_pos' (by omega), by rw [nI_clamp (by omega)]; exact h⟩
theorem ix_nI {f : Nat} (h : f < 2 ^ 31) : ix (nI f) = f := nI_clamp h
/-- where a ledger lies -/
def isLed (h : PH) (a : Nat) : Prop := tg h a = 4 ∧ (gR h a 6 = a + 1 ∧ gR h a 7 = a + 7 ∧ gR h a 8 = a + 8 ∧ gR h a 9 = a + 9) ∧ (tg h (a + 1) = 203 ∧ ln h (a + 1) = 5) ∧
  (∀ f, f < 5 → gR h (a + 1) f = a + 2 + f ∧ tg h (a + 2 + f) = 3) ∧ (tg h (a + 7) = 210 ∧ ln h (a + 7) = 6) ∧ (tg h (a + 8) = 100 ∧ ln h (a + 8) = 6) ∧ (tg h (a + 9) = 100 ∧ ln h (a + 9) = 5) ∧ a + 9 < 147 ∧ 2 ≤ a
section Led
variable {h : PH} {a nf nw : Nat}
theorem s_Ledger_at (L : isLed h a) {f : Nat} (hf : f < 5) (k : PH → Nat → Prop) : ccA m_Ledger_at h [.ref a, .int (nI f)] k = k h (a + 2 + f) := by
  obtain ⟨t, ⟨r6, _⟩, ⟨t1, l1⟩, hf5, _⟩ := L
  rw [c_Ledger_at]
  simp only [t, true_and, r6, t1, l1, e_Ledger_at_22, e_Ledger_at_21]
  rw [if_neg (nI_pos (by omega)), show Int32.ofNat 5 = nI 5 from rfl, if_neg (nI_ge hf (by decide)), ix_nI (by omega), (hf5 f hf).1]
  simp [inb_nI hf]
theorem s_Ledger_workAt (L : isLed h a) (h1 : gI h a 1 = nI nw) (hw : nw ≤ 6) {w : Nat} (c : w < nw) (k : PH → Nat → Prop) : ccA m_Ledger_workAt h [.ref a, .int (nI w)] k = k h (gR h (a + 7) w) := by
  obtain ⟨t, ⟨_, r7, _⟩, _, _, ⟨t7, l7⟩, _⟩ := L
  rw [c_Ledger_workAt]
  simp only [t, true_and, r7, t7, l7, h1, e_Ledger_workAt_30, e_Ledger_workAt_31]
  rw [if_neg (nI_pos (by omega)), if_neg (nI_ge c (by omega)), show Int32.ofNat 6 = nI 6 from rfl, if_neg (nI_ge (by omega) (by decide)), ix_nI (by omega)]
  simp [inb_nI (show w < 6 by omega)]
/-- no such number below n -/
abbrev offN (x : Int32) (n : Nat) : Prop := x < 0 ∨ nI n ≤ x
theorem on_nI {x : Int32} {n : Nat} (hn : n < 2 ^ 31) (c : ¬ offN x n) : ∃ i, i < n ∧ x = nI i := by
  obtain ⟨j, hj, rfl⟩ := nI_of (fun e => c (Or.inl e))
  exact ⟨j, Nat.lt_of_not_le (fun e => c (Or.inr (nI_le e hj))), rfl⟩
theorem nI_on {i n : Nat} (hn : n < 2 ^ 31) (hi : i < n) : ¬ offN (nI i) n := fun e => e.elim (nI_pos (by omega)) (nI_ge hi hn)
theorem s_Ledger_workAt_off (L : isLed h a) (h1 : gI h a 1 = nI nw) {x : Int32} (c : offN x nw) (k : PH → Nat → Prop) : ccA m_Ledger_workAt h [.ref a, .int x] k = k h 0 := by
  obtain ⟨t, _⟩ := L
  rw [c_Ledger_workAt]
  simp only [t, true_and, h1, e_Ledger_workAt_30, e_Ledger_workAt_31]
  by_cases e : x < 0
  · rw [if_pos e]
  · rw [if_neg e, if_pos (c.resolve_left e)]
theorem s_Ledger_lacksFamily (L : isLed h a) (h0 : gI h a 0 = nI nf) (x : Int32) (k : PH → Int32 → Prop) : ccI m_Ledger_lacksFamily h [.ref a, .int x] k = k h (if offN x nf then -1 else 0) := by
  obtain ⟨t, _⟩ := L
  rw [c_Ledger_lacksFamily]
  simp only [t, true_and, h0, e_Ledger_lacksFamily_12, e_Ledger_lacksFamily_17]
  unfold offN
  by_cases e : x < 0
  · simp [e]
  · by_cases e2 : x < nI nf
    · simp [e, e2, Int32.not_le.mpr e2]
    · simp [e, e2, Int32.not_lt.mp e2]
theorem s_Ledger_lacksTwo (L : isLed h a) (h0 : gI h a 0 = nI nf) (x y : Int32) (k : PH → Int32 → Prop) : ccI m_Ledger_lacksTwo h [.ref a, .int x, .int y] k = k h (if x = y ∨ offN x nf ∨ offN y nf then -1 else 0) := by
  have t := L.1
  rw [c_Ledger_lacksTwo]
  simp only [t, true_and, s_Ledger_lacksFamily L h0, e_Ledger_lacksTwo_13, e_Ledger_lacksTwo_22]
  by_cases e : x = y
  · simp [e]
  · by_cases e1 : offN x nf
    · simp [e, e1]
    · simp [e, e1]
theorem s_Ledger_lacksEither (L : isLed h a) (h0 : gI h a 0 = nI nf) (h1 : gI h a 1 = nI nw) (hw : nw ≤ 6) (hr : ∀ w, w < nw → gR h (a + 7) w ≠ 0) (x y : Int32) (k : PH → Int32 → Prop) : ccI m_Ledger_lacksEither h [.ref a, .int x, .int y] k = k h (if offN x nw ∨ offN y nf then -1 else 0) := by
  have t := L.1
  rw [c_Ledger_lacksEither]
  simp only [t, true_and, e_Ledger_lacksEither_17]
  by_cases e : offN x nw
  · rw [s_Ledger_workAt_off L h1 e]; simp [e]
  · obtain ⟨w, c, rfl⟩ := on_nI (by omega) e
    rw [s_Ledger_workAt L h1 hw c]
    simp [e, hr w c, s_Ledger_lacksFamily L h0, t]
theorem s_Ledger_everybody (L : isLed h a) (h0 : gI h a 0 = nI nf) (hn : nf ≤ 5) (k : PH → Int32 → Prop) : ccI m_Ledger_everybody h [.ref a] k = k h (nI (2 ^ nf - 1)) := by
  have t := L.1
  rw [c_Ledger_everybody]
  simp only [t, true_and, h0]
  rw [(every_dec ⟨nf, by omega⟩).1]
theorem s_Ledger_allDebts (L : isLed h a) (h0 : gI h a 0 = nI nf) (hn : nf ≤ 5) (k : PH → Int32 → Prop) : ccI m_Ledger_allDebts h [.ref a] k = k h (sumN (fun f => gI h (a + 2 + f) 1) nf) := by
  have t := L.1
  rw [c_Ledger_allDebts]
  refine (lp (fun i => wp m_Ledger_allDebts h 4 [some (.ref a), some (.int (sumN (fun f => gI h (a + 2 + f) 1) i)), some (.int (nI i))] [] (tyI k)) nf fun i hi => ?_).trans ?_
  · rw [e_Ledger_allDebts_4, h0, if_neg (nI_ge hi (by omega)), s_Ledger_at L (by omega), nI_1]
    simp only [t, (L.2.2.2.1 i (by omega)).2, true_and]
    rfl
  · rw [e_Ledger_allDebts_4, h0, if_pos (Int32.le_refl _)]
    simp only [t, true_and]
theorem s_Ledger_oweNothing (L : isLed h a) (h0 : gI h a 0 = nI nf) (hn : nf ≤ 5) (k : PH → Int32 → Prop) : ccI m_Ledger_oweNothing h [.ref a] k = k h (sumN (fun f => if gI h (a + 2 + f) 1 = 0 then 1 else 0) nf) := by
  have t := L.1
  rw [c_Ledger_oweNothing]
  refine (lp (fun i => wp m_Ledger_oweNothing h 4 [some (.ref a), some (.int (sumN (fun f => if gI h (a + 2 + f) 1 = 0 then 1 else 0) i)), some (.int (nI i))] [] (tyI k)) nf fun i hi => ?_).trans ?_
  · rw [e_Ledger_oweNothing_4, h0, if_neg (nI_ge hi (by omega)), s_Ledger_at L (by omega)]
    simp only [t, (L.2.2.2.1 i (by omega)).2, true_and, e_Ledger_oweNothing_26, nI_1, sumN]
    by_cases c : gI h (a + 2 + i) 1 = 0 <;> simp [c]
  · rw [e_Ledger_oweNothing_4, h0, if_pos (Int32.le_refl _)]
    simp only [t, true_and]
theorem s_Ledger_bearing (L : isLed h a) (h0 : gI h a 0 = nI nf) (hn : nf ≤ 5) (k : PH → Int32 → Prop) : ccI m_Ledger_bearing h [.ref a] k = k h (bm (fun f => decide (¬ gI h (a + 2 + f) 3 ≤ 0)) nf) := by
  have t := L.1
  rw [c_Ledger_bearing]
  refine (lp (fun i => wp m_Ledger_bearing h 4 [some (.ref a), some (.int (bm (fun f => decide (¬ gI h (a + 2 + f) 3 ≤ 0)) i)), some (.int (nI i))] [] (tyI k)) nf fun i hi => ?_).trans ?_
  · rw [e_Ledger_bearing_4, h0, if_neg (nI_ge hi (by omega)), s_Ledger_at L (by omega)]
    simp only [t, (L.2.2.2.1 i (by omega)).2, true_and, e_Ledger_bearing_29, nI_1, bm]
    by_cases c : gI h (a + 2 + i) 3 ≤ 0 <;> simp [c]
  · rw [e_Ledger_bearing_4, h0, if_pos (Int32.le_refl _)]
    simp only [t, true_and]
theorem s_Ledger_headsOf (L : isLed h a) (h0 : gI h a 0 = nI nf) (hn : nf ≤ 5) (B : Int32) (k : PH → Int32 → Prop) : ccI m_Ledger_headsOf h [.ref a, .int B] k = k h (sumN (fun f => if bt B f = true then gI h (a + 2 + f) 0 else 0) nf) := by
  have t := L.1
  rw [c_Ledger_headsOf]
  refine (lp (fun i => wp m_Ledger_headsOf h 4 [some (.ref a), some (.int B), some (.int (sumN (fun f => if bt B f = true then gI h (a + 2 + f) 0 else 0) i)), some (.int (nI i))] [] (tyI k)) nf fun i hi => ?_).trans ?_
  · rw [e_Ledger_headsOf_4, h0, if_neg (nI_ge hi (by omega)), s_Ledger_at L (by omega)]
    simp only [t, (L.2.2.2.1 i (by omega)).2, true_and, e_Ledger_headsOf_32, nI_1, sumN, bt]
    by_cases c : B >>> (nI i &&& 31) &&& 1 = 1 <;> simp [c]
  · rw [e_Ledger_headsOf_4, h0, if_pos (Int32.le_refl _)]
    simp only [t, true_and]
theorem s_Ledger_mostHeads (L : isLed h a) (h0 : gI h a 0 = nI nf) (hn : nf ≤ 5) (k : PH → Int32 → Prop) : ccI m_Ledger_mostHeads h [.ref a] k = k h (nI (bst (fun i j => decide (¬ gI h (a + 2 + i) 0 ≤ gI h (a + 2 + j) 0)) nf)) := by
  have t := L.1
  rw [c_Ledger_mostHeads]
  generalize hr : (fun i j => decide (¬ gI h (a + 2 + i) 0 ≤ gI h (a + 2 + j) 0)) = r
  have r0 : bst r 1 = 0 := by subst hr; simp [bst]
  by_cases hz : 1 ≤ nf
  · refine Eq.trans ?_ ((lpOne (fun i => wp m_Ledger_mostHeads h 4 [some (.ref a), some (.int (nI (bst r i))), some (.int (nI i))] [] (tyI k)) nf hz fun i h1 hi => ?_).trans ?_)
    · rw [r0]; rfl
    · have hb := bst_lt1 r i h1
      rw [e_Ledger_mostHeads_4, h0, if_neg (nI_ge hi (by omega)), s_Ledger_at L (by omega), s_Ledger_at L (by omega)]
      simp only [t, (L.2.2.2.1 i (by omega)).2, (L.2.2.2.1 (bst r i) (by omega)).2, true_and, e_Ledger_mostHeads_33, nI_1, bst]
      have : r i (bst r i) = decide (¬ gI h (a + 2 + i) 0 ≤ gI h (a + 2 + bst r i) 0) := by rw [← hr]
      rw [this]
      by_cases c : gI h (a + 2 + i) 0 ≤ gI h (a + 2 + bst r i) 0 <;> simp [c]
    · rw [e_Ledger_mostHeads_4, h0, if_pos (Int32.le_refl _)]
      simp only [t, true_and]
  · have : nf = 0 := by omega
    subst this
    rw [e_Ledger_mostHeads_4, h0, if_pos (by decide)]
    simp only [t, true_and, bst]; rfl
theorem s_Ledger_leastDebt (L : isLed h a) (h0 : gI h a 0 = nI nf) (hn : nf ≤ 5) (k : PH → Int32 → Prop) : ccI m_Ledger_leastDebt h [.ref a] k = k h (nI (bst (fun i j => decide (¬ gI h (a + 2 + j) 1 ≤ gI h (a + 2 + i) 1)) nf)) := by
  have t := L.1
  rw [c_Ledger_leastDebt]
  generalize hr : (fun i j => decide (¬ gI h (a + 2 + j) 1 ≤ gI h (a + 2 + i) 1)) = r
  have r0 : bst r 1 = 0 := by subst hr; simp [bst]
  by_cases hz : 1 ≤ nf
  · refine Eq.trans ?_ ((lpOne (fun i => wp m_Ledger_leastDebt h 4 [some (.ref a), some (.int (nI (bst r i))), some (.int (nI i))] [] (tyI k)) nf hz fun i h1 hi => ?_).trans ?_)
    · rw [r0]; rfl
    · have hb := bst_lt1 r i h1
      rw [e_Ledger_leastDebt_4, h0, if_neg (nI_ge hi (by omega)), s_Ledger_at L (by omega), s_Ledger_at L (by omega)]
      simp only [t, (L.2.2.2.1 i (by omega)).2, (L.2.2.2.1 (bst r i) (by omega)).2, true_and, e_Ledger_leastDebt_33, nI_1, bst]
      have : r i (bst r i) = decide (¬ gI h (a + 2 + bst r i) 1 ≤ gI h (a + 2 + i) 1) := by rw [← hr]
      rw [this]
      by_cases c : gI h (a + 2 + bst r i) 1 ≤ gI h (a + 2 + i) 1 <;> simp [c]
    · rw [e_Ledger_leastDebt_4, h0, if_pos (Int32.le_refl _)]
      simp only [t, true_and]
  · have : nf = 0 := by omega
    subst this
    rw [e_Ledger_leastDebt_4, h0, if_pos (by decide)]
    simp only [t, true_and, bst]; rfl
theorem s_Ledger_isStuck (L : isLed h a) (h0 : gI h a 0 = nI nf) (hn : nf ≤ 5) (k : PH → Int32 → Prop) : ccI m_Ledger_isStuck h [.ref a] k = k h (if anyN (fun f => decide (gI h (a + 2 + f) 1 = 99999)) nf = true then 1 else 0) := by
  have t := L.1
  rw [c_Ledger_isStuck]
  generalize hp : (fun f => decide (gI h (a + 2 + f) 1 = 99999)) = p
  have key : ∀ d i, i + d = nf → anyN p i = false → wp m_Ledger_isStuck h 2 [some (.ref a), some (.int (nI i))] [] (tyI k) = k h (if anyN p nf = true then 1 else 0) := by
    intro d
    induction d with
    | zero =>
      intro i e n
      have e' : i = nf := by omega
      subst e'
      rw [e_Ledger_isStuck_2, h0, if_pos (Int32.le_refl _), n]
      simp [t]
    | succ d ih =>
      intro i e n
      rw [e_Ledger_isStuck_2, h0, if_neg (nI_ge (by omega) (by omega)), s_Ledger_at L (by omega)]
      simp only [t, (L.2.2.2.1 i (by omega)).2, true_and, nI_1]
      have hpi : p i = decide (gI h (a + 2 + i) 1 = 99999) := by rw [← hp]
      by_cases c : gI h (a + 2 + i) 1 = 99999
      · rw [if_neg (by simp [c]), anyN_pos (i := i) (by omega) (by simp [hpi, c])]; simp
      · rw [if_pos c]
        exact ih (i + 1) (by omega) (by simp [anyN, n, hpi, c])
  exact key nf 0 (by omega) rfl
theorem s_Ledger_sets (L : isLed h a) (h1 : gI h a 1 = nI nw) (hn : nw ≤ 6) (k : PH → Int32 → Prop) : ccI m_Ledger_sets h [.ref a] k = k h (nI (2 ^ nw)) := by
  have t := L.1
  rw [c_Ledger_sets]
  simp only [t, true_and, h1]
  rw [(every_dec ⟨nw, by omega⟩).2]
theorem s_Ledger_costOf (L : isLed h a) (h1 : gI h a 1 = nI nw) (hn : nw ≤ 6) (hr : ∀ w, w < nw → gR h (a + 7) w ≠ 0 ∧ memB (tg h (gR h (a + 7) w)) [1, 2, 6, 7, 9, 10] = true) (B : Int32) (k : PH → Int32 → Prop) :
    ccI m_Ledger_costOf h [.ref a, .int B] k = k h (sumN (fun w => if bt B w = true then gI h (gR h (a + 7) w) 1 else 0) nw) := by
  have t := L.1
  rw [c_Ledger_costOf]
  have key : ∀ d i q, i + d = nw → wp m_Ledger_costOf h 4 [some (.ref a), some (.int B), some (.int (sumN (fun w => if bt B w = true then gI h (gR h (a + 7) w) 1 else 0) i)), some (.int (nI i)), q] [] (tyI k) = k h (sumN (fun w => if bt B w = true then gI h (gR h (a + 7) w) 1 else 0) nw) := by
    intro d
    induction d with
    | zero =>
      intro i q e
      have e' : i = nw := by omega
      subst e'
      rw [e_Ledger_costOf_4, h1, if_pos (Int32.le_refl _)]
      simp only [t, true_and]
    | succ d ih =>
      intro i q e
      rw [e_Ledger_costOf_4, h1, if_neg (nI_ge (by omega) (by omega)), s_Ledger_workAt L h1 hn (by omega)]
      simp only [t, (hr i (by omega)).1, (hr i (by omega)).2, true_and, e_Ledger_costOf_41, nI_1, if_false]
      have := fun q => ih (i + 1) q (by omega)
      simp only [sumN, bt] at this ⊢
      by_cases c : B >>> (nI i &&& 31) &&& 1 = 1
      · simp only [c, not_true_eq_false, if_false, decide_true, if_true] at this ⊢; exact this _
      · simp only [c, not_false_eq_true, if_true, decide_false, if_false, Int32.add_zero, Bool.false_eq_true] at this ⊢; exact this _
  exact key nw 0 none (by omega)
end Led
