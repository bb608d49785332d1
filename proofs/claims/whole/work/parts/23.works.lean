/-! ===== what a work costs each family ===== -/
def dueW (r : Row) : Int32 := if r 0 = 1 then r 2 + r 1 else if r 0 = 2 then 2 * r 2 else if r 0 = 3 then (r 2 + r 1) / 2 else if r 0 = 4 then (if 1 < 2 * r 2 - r 1 then 2 * r 2 - r 1 else 1) else if r 0 = 5 then r 2 + r 1 + r 2 else r 2
def mostC (c : Core) : Nat := bst (fun i j => decide (¬ Cm c i 0 ≤ Cm c j 0)) (Cf c)
def leastC (c : Core) : Nat := bst (fun i j => decide (¬ Cm c j 1 ≤ Cm c i 1)) (Cf c)
def withC (c : Core) : Int32 := sumN (fun f => if Cm c f 3 ≤ 0 then 0 else Cm c f 0) (Cf c)
def ptC (c : Core) (r : Row) (f : Nat) : Int32 := if f < Cf c then (if r 0 = 0 then 1 else if r 0 = 2 then (if f = mostC c then 1 else 0) else if r 0 = 4 then (if f = leastC c then 1 else 0) else if r 0 = 3 ∧ ¬ withC c = 0 ∧ Cm c f 3 ≤ 0 then 0 else Cm c f 0) else 0
def allP (c : Core) (r : Row) : Int32 := sumN (ptC c r) 5
def baseC (c : Core) (r : Row) (f : Nat) : Int32 := if allP c r = 0 then 0 else dueW r * ptC c r f / allP c r
def getsC (c : Core) (r : Row) (f : Nat) : Bool := decide (¬ allP c r ≤ 0 ∧ ¬ ptC c r f ≤ 0)
def shareC (c : Core) (r : Row) (f : Nat) : Int32 := shr (baseC c r) (getsC c r) (dueW r) f
section Works
variable {c : Core} {r : Row}
theorem shr_heads (o : okC c) {m : Nat} {hd : Int32} {s : Nat → Int32} (hbt : ∀ f, f < 5 → bt (nI m) f = true → f < Cf c) (hpt : ∀ f, f < 5 → ptC c r f = if bt (nI m) f = true then Cm c f 0 else 0)
    (hhd : hd = sumN (fun f => if bt (nI m) f = true then Cm c f 0 else 0) (Cf c)) (hs : ∀ f, f < 5 → s f = if bt (nI m) f = true ∧ ¬ hd ≤ 0 then dueW r * Cm c f 0 / hd else 0) {f : Nat} (hf : f < 5) :
    shr s (bt (nI m)) (dueW r) f = shareC c r f := by
  have h5 := o.1.1
  have hall : allP c r = hd := by
    rw [hhd, ← sumN_cut5 _ h5]
    refine sumN_c fun i hi => ?_
    rw [hpt i hi]
    by_cases e : bt (nI m) i = true
    · rw [if_pos (hbt i hi e)]
    · rw [if_neg e]; split <;> rfl
  have hpos : ∀ f, f < 5 → bt (nI m) f = true → ¬ hd ≤ 0 ∧ ¬ Cm c f 0 ≤ 0 := by
    intro f hf e
    have hfn := hbt f hf e
    have hG : ∀ i, i < Cf c → (if bt (nI m) i = true then Cm c i 0 else 0) = nI (if bt (nI m) i = true then ix (Cm c i 0) else 0) := by
      intro i hi
      by_cases e : bt (nI m) i = true
      · rw [if_pos e, if_pos e]; exact (o.2.2.1 i hi).1.1
      · rw [if_neg e, if_neg e]; rfl
    have hge := sumT_ge (G := fun i => if bt (nI m) i = true then ix (Cm c i 0) else 0) hfn
    have hle := sumT_le (G := fun i => if bt (nI m) i = true then ix (Cm c i 0) else 0) (B := 20) (n := Cf c) (fun i hi => by
      split
      · exact (o.2.2.1 i hi).1.2.2
      · omega)
    rw [if_pos e] at hge
    have hb := (o.2.2.1 f hfn).1
    rw [hhd, sumN_nI hG]
    refine ⟨nI_nle (by have := hb.2.1; omega) (by omega), ?_⟩
    rw [hb.1]
    exact nI_nle (by have := hb.2.1; omega) (by have := hb.2.2; omega)
  refine shr_c (fun i hi => ?_) (fun i hi => ?_) hf
  · unfold baseC
    rw [hs i hi, hall, hpt i hi]
    by_cases e : bt (nI m) i = true
    · have q := (hpos i hi e).1
      rw [if_pos ⟨e, q⟩, if_neg (fun z => q (by rw [z]; exact Int32.le_refl _)), if_pos e]
    · rw [if_neg (fun z => e z.1), if_neg e, Int32.mul_zero, Int32.zero_div]
      split <;> rfl
  · unfold getsC
    rw [hall, hpt i hi]
    by_cases e : bt (nI m) i = true
    · have q := hpos i hi e
      rw [e, if_pos rfl]
      exact (decide_eq_true ⟨q.1, q.2⟩).symm
    · rw [if_neg e]
      have e' : bt (nI m) i = false := by cases hq : bt (nI m) i; rfl; exact absurd hq e
      rw [e']
      exact (decide_eq_false (fun z => z.2 (by decide))).symm
theorem bt_every {n f : Nat} (hn : n ≤ 5) (hf : f < 5) : bt (nI (2 ^ n - 1)) f = decide (f < n) := by
  have := p2_6 (show n ≤ 6 by omega)
  rw [bt_nI (by omega) (by omega), Nat.testBit_two_pow_sub_one]
theorem shr_alike (o : okC c) (h0 : r 0 = 0) {each : Int32} (he : each = if Cf c = 0 then 0 else dueW r / nI (Cf c)) {f : Nat} (hf : f < 5) :
    (if f < Cf c then each else 0) + oneN (bt (nI (2 ^ Cf c - 1))) (dueW r - each * nI (Cf c)) f = shareC c r f := by
  have h5 := o.1.1
  have hpt : ∀ f, ptC c r f = if f < Cf c then 1 else 0 := by
    intro f
    unfold ptC
    rw [if_pos h0]
  have hall : allP c r = nI (Cf c) := by
    unfold allP
    rw [sumN_c (g' := fun f => if f < Cf c then (fun _ => (1 : Int32)) f else 0) (fun i _ => hpt i), sumN_cut5 _ h5, sumN_nI (g := fun _ => (1 : Int32)) (G := fun _ => 1) (fun _ _ => rfl)]
    have : ∀ n, sumT (fun _ => 1) n = n := fun n => by induction n with
      | zero => rfl
      | succ n ih => unfold sumT; rw [ih]
    rw [this]
  have hb : ∀ i, i < 5 → baseC c r i = if i < Cf c then each else 0 := by
    intro i hi
    unfold baseC
    rw [hall, hpt, he]
    by_cases e : Cf c = 0
    · rw [if_pos (by rw [e]; rfl), if_pos e]; split <;> rfl
    · rw [if_neg (nI_ne0 (by omega) (by omega)), if_neg e]
      split
      · rw [Int32.mul_one]
      · rw [Int32.mul_zero, Int32.zero_div]
  have hg : ∀ i, i < 5 → getsC c r i = bt (nI (2 ^ Cf c - 1)) i := by
    intro i hi
    rw [bt_every h5 hi]
    unfold getsC
    rw [hall, hpt]
    by_cases e : i < Cf c
    · rw [if_pos e, decide_eq_true e]
      exact decide_eq_true ⟨nI_nle (by omega) (by omega), by decide⟩
    · rw [if_neg e, decide_eq_false e]
      exact decide_eq_false (fun z => z.2 (by decide))
  have hl : lftN (baseC c r) (dueW r) 5 = dueW r - each * nI (Cf c) := by
    have key : ∀ n, n ≤ 5 → lftN (baseC c r) (dueW r) n = dueW r - each * nI (min n (Cf c)) := by
      intro n hn
      induction n with
      | zero => rw [Nat.zero_min, nI_0, Int32.mul_zero, Int32.sub_zero]; rfl
      | succ n ih =>
        rw [lftN, ih (by omega), hb n (by omega)]
        by_cases e : n < Cf c
        · rw [if_pos e, Nat.min_eq_left (by omega), Nat.min_eq_left (by omega), ← nI_1, Int32.mul_add, Int32.mul_one, Int32.sub_eq_add_neg, Int32.sub_eq_add_neg, Int32.sub_eq_add_neg, Int32.neg_add, Int32.sub_eq_add_neg, Int32.add_assoc]
        · rw [if_neg e, Nat.min_eq_right (by omega), Nat.min_eq_right (by omega), Int32.sub_zero]
    rw [key 5 (Nat.le_refl _), Nat.min_eq_right h5]
  unfold shareC shr
  rw [hb f hf, hl, oneN_c (fun i hi => hg i (by omega))]
theorem shr_one (o : okC c) {p : Nat} (hpt : ∀ f, f < 5 → ptC c r f = if f < Cf c then (if f = p then 1 else 0) else 0) (hp5 : p < 5) {f : Nat} (hf : f < 5) :
    (if f = p ∧ f < Cf c then dueW r else 0) = shareC c r f := by
  have h5 := o.1.1
  have hall : allP c r = if p < Cf c then 1 else 0 := by
    unfold allP
    rw [sumN_c (n := 5) hpt]
    have : p = 0 ∨ p = 1 ∨ p = 2 ∨ p = 3 ∨ p = 4 := by omega
    rcases this with rfl | rfl | rfl | rfl | rfl <;> simp [sumN]
  have hb : ∀ i, i < 5 → baseC c r i = if i = p ∧ i < Cf c then dueW r else 0 := by
    intro i hi
    unfold baseC
    rw [hall, hpt i hi]
    by_cases e : i < Cf c
    · rw [if_pos e]
      by_cases e2 : i = p
      · rw [if_pos e2, ← e2, if_pos e, if_neg (by decide), if_pos ⟨rfl, e⟩, Int32.mul_one, Int32.div_one]
      · rw [if_neg e2, if_neg (show ¬ (i = p ∧ i < Cf c) from fun z => e2 z.1), Int32.mul_zero, Int32.zero_div]; split <;> rfl
    · rw [if_neg e, if_neg (show ¬ (i = p ∧ i < Cf c) from fun z => e z.2), Int32.mul_zero, Int32.zero_div]; split <;> rfl
  have hl : p < Cf c → lftN (baseC c r) (dueW r) 5 = 0 := by
    intro hp
    rw [lftN_c hb]
    have : p = 0 ∨ p = 1 ∨ p = 2 ∨ p = 3 ∨ p = 4 := by omega
    rcases this with rfl | rfl | rfl | rfl | rfl <;> simp [lftN, hp]
  unfold shareC shr
  rw [hb f hf]
  have : oneN (getsC c r) (lftN (baseC c r) (dueW r) 5) f = 0 := by
    by_cases hp : p < Cf c
    · rw [hl hp]
      exact rst_none (i := 0) (by show (0 : Int32) ≤ 0; decide) (Nat.zero_le _)
    · unfold oneN getsC
      rw [hall, if_neg hp]
      simp
  rw [this, Int32.add_zero]
end Works
