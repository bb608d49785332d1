/-! ===== numbers that are small ===== -/
theorem nI_mul (a b : Nat) : nI a * nI b = nI (a * b) := (Int32.ofNat_mul a b).symm
theorem nI_subI {a b : Nat} (h : b ≤ a) : nI a - nI b = nI (a - b) := by
  obtain ⟨d, rfl⟩ := Nat.le.dest h
  rw [← nI_add, Nat.add_sub_cancel_left, Int32.add_comm, Int32.add_sub_cancel]
theorem nI_div {a b : Nat} (ha : a < 2 ^ 31) (hb : b < 2 ^ 31) : nI a / nI b = nI (a / b) := by
  apply Int32.toInt_inj.mp
  have hab : a / b < 2 ^ 31 := Nat.lt_of_le_of_lt (Nat.div_le_self a b) ha
  rw [Int32.toInt_div, nI_toInt ha, nI_toInt hb, nI_toInt hab]
  rw [show (a : Int).tdiv (b : Int) = ((a / b : Nat) : Int) from rfl]
  generalize a / b = q at hab ⊢
  exact Int.bmod_eq_of_le (by omega) (by omega)
/-- a number from lo to hi -/
def bd (x : Int32) (lo hi : Nat) : Prop := x = nI (ix x) ∧ lo ≤ ix x ∧ ix x ≤ hi
theorem bd_nI {n lo hi : Nat} (h1 : lo ≤ n) (h2 : n ≤ hi) (h3 : hi < 2 ^ 31) : bd (nI n) lo hi := by
  unfold bd
  rw [ix_nI (by omega)]
  exact ⟨rfl, h1, h2⟩
theorem bd_of {x : Int32} {lo hi : Nat} (b : bd x lo hi) : ∃ n, x = nI n ∧ lo ≤ n ∧ n ≤ hi := ⟨ix x, b.1, b.2.1, b.2.2⟩
theorem bd_le {x : Int32} {lo hi hi' : Nat} (b : bd x lo hi) (h : hi ≤ hi') : bd x lo hi' := ⟨b.1, b.2.1, by have := b.2.2; omega⟩
theorem bd_add {x y : Int32} {m n p q : Nat} (b : bd x m n) (b' : bd y p q) (h : n + q < 2 ^ 31) : bd (x + y) (m + p) (n + q) := by
  obtain ⟨i, rfl, h1, h2⟩ := bd_of b
  obtain ⟨j, rfl, h3, h4⟩ := bd_of b'
  rw [nI_add]
  exact bd_nI (by omega) (by omega) h
theorem bd_ite {x y : Int32} {m n : Nat} {P : Prop} [Decidable P] (b : P → bd x m n) (b' : ¬ P → bd y m n) : bd (if P then x else y) m n := by
  split
  · next c => exact b c
  · next c => exact b' c
/-- a family as the document wants it -/
def RgF (r : Row) : Prop := bd (r 0) 1 20 ∧ bd (r 1) 0 99999 ∧ bd (r 2) 0 9 ∧ bd (r 3) 0 9
def RgW (r : Row) : Prop := bd (r 0) 0 5 ∧ bd (r 1) 0 9 ∧ bd (r 2) 1 999
theorem RgF_e {r r' : Row} (e : Ew 4 r r') (R : RgF r) : RgF r' := by
  unfold RgF
  rw [← e 0 (by decide), ← e 1 (by decide), ← e 2 (by decide), ← e 3 (by decide)]
  exact R
theorem RgF_owe {r : Row} (R : RgF r) {x : Int32} {m : Nat} (b : bd x 0 m) (hm : m < 2 ^ 30) : RgF (rOwe x r) := by
  refine ⟨R.1, ?_, R.2.2.1, R.2.2.2⟩
  unfold rOwe
  rw [rs_eq]
  obtain ⟨d, hd, _, h2⟩ := bd_of R.2.1
  obtain ⟨y, rfl, _, h4⟩ := bd_of b
  rw [hd, nI_add]
  refine bd_ite (fun c => ?_) (fun _ => bd_nI (n := 99999) (by omega) (by omega) (by decide))
  have := (nI_leI (a := d + y) (b := 99999) (by omega) (by omega)).mp c
  exact bd_nI (by omega) this (by decide)
theorem RgF_pay {r : Row} (R : RgF r) {x : Int32} {m : Nat} (b : bd x 0 m) (hm : m < 2 ^ 31) : RgF (rPay x r) := by
  refine ⟨R.1, ?_, R.2.2.1, R.2.2.2⟩
  unfold rPay
  rw [rs_ne _ _ (by decide), rs_eq]
  obtain ⟨d, hd, _, h2⟩ := bd_of R.2.1
  obtain ⟨y, rfl, _, h4⟩ := bd_of b
  rw [hd]
  by_cases c : nI y ≤ nI d
  · rw [if_pos c, nI_subI ((nI_leI (by omega) (by omega)).mp c)]
    exact bd_nI (by omega) (by omega) (by decide)
  · rw [if_neg c, nI_subI (Nat.le_refl _)]
    exact bd_nI (by omega) (by omega) (by decide)
theorem bd_interest {D x : Int32} (b : bd D 0 99999) (b' : bd x 0 20) : bd (D * x / 100) 0 19999 := by
  obtain ⟨d, rfl, _, h2⟩ := bd_of b
  obtain ⟨t, rfl, _, h4⟩ := bd_of b'
  have hm : d * t ≤ 99999 * 20 := Nat.mul_le_mul h2 h4
  rw [nI_mul, show (100 : Int32) = nI 100 from rfl, nI_div (by omega) (by decide)]
  exact bd_nI (by omega) (by omega) (by decide)
theorem RgF_settle {r : Row} (R : RgF r) {x : Int32} (b : bd x 0 20) : RgF (rSettle x r) := by
  have R1 := RgF_owe R (bd_interest R.2.1 b) (by decide)
  have R2 : RgF (rs (rOwe (r 1 * x / 100) r) 4 (rOwe (r 1 * x / 100) r 4 + (rOwe (r 1 * x / 100) r 1 - r 1))) := R1
  unfold rSettle
  dsimp only
  have hb : bd (rs (rOwe (r 1 * x / 100) r) 4 (rOwe (r 1 * x / 100) r 4 + (rOwe (r 1 * x / 100) r 1 - r 1)) 2 * rs (rOwe (r 1 * x / 100) r) 4 (rOwe (r 1 * x / 100) r 4 + (rOwe (r 1 * x / 100) r 1 - r 1)) 0) 0 180 := by
    obtain ⟨p, hp, _, h2⟩ := bd_of R2.2.2.1
    obtain ⟨q, hq, _, h4⟩ := bd_of R2.1
    have hm : p * q ≤ 9 * 20 := Nat.mul_le_mul h2 h4
    rw [hp, hq, nI_mul]
    exact bd_nI (by omega) (by omega) (by decide)
  exact RgF_pay R2 hb (by decide)
theorem RgF_bear {r : Row} (R : RgF r) : RgF (rBear r) := by
  unfold rBear
  by_cases c : r 0 < 20
  · have h0 : bd (r 0 + 1) 1 20 := by
      obtain ⟨q, hq, h1, h2⟩ := bd_of R.1
      rw [hq] at c ⊢
      have := (nI_ltI (a := q) (b := 20) (by omega) (by omega)).mp c
      rw [nI_1]
      exact bd_nI (by omega) (by omega) (by decide)
    rw [if_pos c]
    split
    · exact ⟨h0, R.2.1, R.2.2.1, R.2.2.2⟩
    · exact ⟨h0, R.2.1, R.2.2.1, R.2.2.2⟩
  · rw [if_neg c]; exact R
theorem RgF_year {r : Row} (R : RgF r) {x y : Int32} (b : bd x 0 20) : RgF (rYear x y r) := by
  have R1 := RgF_settle R b
  unfold rYear
  dsimp only
  split
  · exact R1
  · split
    · exact RgF_bear R1
    · exact R1
theorem RgF_years {r : Row} (R : RgF r) {x y : Int32} (b : bd x 0 20) : ∀ n, RgF (rYears x y n r)
  | 0 => R
  | n + 1 => RgF_year (RgF_years R b n) b
/-- all is as the document wants it -/
def okC (c : Core) : Prop := (Cf c ≤ 5 ∧ Cw c ≤ 6) ∧ bd (Cr c) 0 20 ∧ (∀ f, f < Cf c → RgF (Cm c f)) ∧ ∀ w, w < Cw c → RgW (Ck c w)
theorem okC_go {c : Core} (o : okC c) (n : Nat) : okC (goC n c) := ⟨o.1, o.2.1, fun f hf => RgF_years (o.2.2.1 f hf) o.2.1 n, o.2.2.2⟩
/-- sums of small numbers -/
def sumT (G : Nat → Nat) : Nat → Nat
  | 0 => 0
  | n + 1 => sumT G n + G n
theorem sumN_nI {g : Nat → Int32} {G : Nat → Nat} : ∀ {n : Nat}, (∀ i, i < n → g i = nI (G i)) → sumN g n = nI (sumT G n)
  | 0, _ => rfl
  | n + 1, e => by unfold sumN sumT; rw [sumN_nI (fun i hi => e i (by omega)), e n (by omega), nI_add]
theorem sumT_le {G : Nat → Nat} {B : Nat} : ∀ {n : Nat}, (∀ i, i < n → G i ≤ B) → sumT G n ≤ n * B
  | 0, _ => by simp [sumT]
  | n + 1, e => by
    have h1 := sumT_le (n := n) (fun i hi => e i (by omega))
    have h2 := e n (by omega)
    unfold sumT
    rw [Nat.add_mul, Nat.one_mul]
    omega
theorem sumT_ge {G : Nat → Nat} {i : Nat} : ∀ {n : Nat}, i < n → G i ≤ sumT G n
  | n + 1, h => by
    unfold sumT
    rcases Nat.eq_or_lt_of_le (Nat.lt_succ_iff.mp h) with c | c
    · subst c; omega
    · have := sumT_ge (G := G) c; omega
theorem sumN_bd {g : Nat → Int32} {lo B n : Nat} (e : ∀ i, i < n → bd (g i) lo B) (hB : n * B < 2 ^ 31) : bd (sumN g n) 0 (n * B) := by
  rw [sumN_nI (G := fun i => ix (g i)) (fun i hi => (e i hi).1)]
  exact bd_nI (Nat.zero_le _) (sumT_le fun i hi => (e i hi).2.2) hB
theorem sumN_cut (g : Nat → Int32) {n : Nat} : ∀ d, sumN (fun f => if f < n then g f else 0) (n + d) = sumN g n
  | 0 => sumN_c fun i hi => by rw [if_pos (by omega)]
  | d + 1 => by
    show sumN _ (n + d) + (if n + d < n then g (n + d) else 0) = _
    rw [sumN_cut g d, if_neg (by omega), Int32.add_zero]
theorem sumN_cut5 (g : Nat → Int32) {n : Nat} (h : n ≤ 5) : sumN (fun f => if f < n then g f else 0) 5 = sumN g n := by
  obtain ⟨d, e⟩ := Nat.le.dest h
  rw [← e]; exact sumN_cut g d
theorem debts_bd {c : Core} (o : okC c) : bd (debtsC c) 0 499995 := by
  have h5 := o.1.1
  have := sumN_bd (g := fun f => Cm c f 1) (lo := 0) (B := 99999) (n := Cf c) (fun i hi => (o.2.2.1 i hi).2.1) (by omega)
  exact bd_le this (by omega)
/-- what a head owes -/
def hoR (r : Row) : Int32 := up (r 1) (r 0)
theorem hoR_e {r r' : Row} (e : Ew 4 r r') : hoR r = hoR r' := by unfold hoR; rw [e 0 (by decide), e 1 (by decide)]
theorem hoR_eq {r : Row} (R : RgF r) : hoR r = (r 1 + r 0 - 1) / r 0 := by
  unfold hoR up
  obtain ⟨q, hq, h1, h2⟩ := bd_of R.1
  rw [if_pos]
  rw [hq]
  exact nI_le (a := 1) h1 (by omega)
theorem hoR_bd {r : Row} (R : RgF r) : bd (hoR r) 0 100018 := by
  rw [hoR_eq R]
  obtain ⟨q, hq, h1, h2⟩ := bd_of R.1
  obtain ⟨d, hd, h3, h4⟩ := bd_of R.2.1
  rw [hq, hd, nI_add, show (1 : Int32) = nI 1 from rfl, nI_subI (by omega), nI_div (by omega) (by omega)]
  have : (d + q - 1) / q ≤ d + q - 1 := Nat.div_le_self _ _
  generalize (d + q - 1) / q = z at this ⊢
  exact bd_nI (by omega) (by omega) (by decide)
theorem RgF_h0 {r : Row} (R : RgF r) : ¬ r 0 = 0 := by
  obtain ⟨q, hq, h1, h2⟩ := bd_of R.1
  rw [hq]; exact nI_ne0 (by omega) (by omega)
