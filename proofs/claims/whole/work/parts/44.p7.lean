/-! ===== fractions, births by chance, lots ===== -/
theorem lT {n : Nat} (h : n < 2 ^ 63) : (lN n).toInt = (n : Int) := lg_ofNat_toInt h
theorem lN_div {a b : Nat} (ha : a < 2 ^ 62) (hb : b < 2 ^ 62) : lN a / lN b = lN (a / b) := by
  apply Int64.toInt_inj.mp
  have hab : a / b < 2 ^ 62 := Nat.lt_of_le_of_lt (Nat.div_le_self a b) ha
  rw [Int64.toInt_div, lT (by omega), lT (by omega), lT (by omega)]
  rw [show (a : Int).tdiv (b : Int) = ((a / b : Nat) : Int) from rfl]
  generalize a / b = q at hab ⊢
  exact Int.bmod_eq_of_le (by omega) (by omega)
theorem lN_mod {a b : Nat} (ha : a < 2 ^ 62) (hb : b < 2 ^ 62) : lN a - lN a / lN b * lN b = lN (a % b) := by
  have h := Nat.div_add_mod' a b
  rw [lN_div ha hb, lN_mul, lN_sub (by omega)]
  congr 1
  omega
theorem lN_0 {y : Nat} (h : y < 2 ^ 62) : lN y = 0 ↔ y = 0 := by
  rw [show (0 : Int64) = lN 0 from rfl, ← Int64.toInt_inj, lT (by omega), lT (by decide)]
  omega
theorem half_mod {x y : Nat} (hr : 0 < x % y) (hy : 0 < y) : 2 * (y % (x % y)) < y := by
  have h1 := Nat.mod_lt x hy
  have h2 := Nat.mod_lt y hr
  have h3 := Nat.div_add_mod y (x % y)
  have h4 : 1 ≤ y / (x % y) := Nat.div_pos (Nat.le_of_lt h1) hr
  have h5 : x % y ≤ (x % y) * (y / (x % y)) := Nat.le_mul_of_pos_right _ h4
  omega
/-- a fraction in lowest terms -/
def frN (a b : Nat) (part : Int32) : Int64 := if part = 0 then lN (a / Nat.gcd a b) else lN (b / Nat.gcd a b)
section Frac
variable {h : PH} {k : PH → Int64 → Prop}
theorem s_P_gcd : ∀ (j x y i : Nat), y < 2 ^ j → x < 2 ^ 62 → y < 2 ^ 62 → i + 2 * j + 1 ≤ 1000 → ∀ (a0 a2 : Int64) (q q' : Option Value),
    wp m_P_commonDivisor h 9 [some (.long a0), none, some (.long a2), none, some (.long (lN x)), none, some (.long (lN y)), none, some (.int (nI i)), q, q'] [] (tyL k) = k h (lN (Nat.gcd x y)) := by
  intro j
  have stop : ∀ (x i : Nat), i < 1000 → ∀ (a0 a2 : Int64) (q q' : Option Value), wp m_P_commonDivisor h 9 [some (.long a0), none, some (.long a2), none, some (.long (lN x)), none, some (.long (lN 0)), none, some (.int (nI i)), q, q'] [] (tyL k) = k h (lN (Nat.gcd x 0)) := by
    intro x i hi a0 a2 q q'
    rw [e_P_commonDivisor_9, if_neg (show ¬ (1000 : Int32) ≤ nI i from nI_ge (b := 1000) (by omega) (by decide)), if_pos (show lg_cmp (lN 0) 0 = 0 from (lg_cmp_eq _ _).mpr rfl), e_P_commonDivisor_45, Nat.gcd_zero_right]
  have step : ∀ (x y i : Nat), 0 < y → x < 2 ^ 62 → y < 2 ^ 62 → i < 1000 → ∀ (a0 a2 : Int64) (q q' : Option Value), ∃ q'', wp m_P_commonDivisor h 9 [some (.long a0), none, some (.long a2), none, some (.long (lN x)), none, some (.long (lN y)), none, some (.int (nI i)), q, q'] [] (tyL k) =
      wp m_P_commonDivisor h 9 [some (.long a0), none, some (.long a2), none, some (.long (lN y)), none, some (.long (lN (x % y))), none, some (.int (nI (i + 1))), q'', none] [] (tyL k) := by
    intro x y i hy hx hy2 hi a0 a2 q q'
    have hn : ¬ lN y = 0 := fun z => by have := (lN_0 hy2).mp z; omega
    refine ⟨some (.long (lN (x % y))), ?_⟩
    · rw [e_P_commonDivisor_9, if_neg (show ¬ (1000 : Int32) ≤ nI i from nI_ge (b := 1000) (by omega) (by decide)), if_neg (fun z => hn ((lg_cmp_eq _ _).mp z)), lN_mod hx hy2, nI_1]
      exact propext ⟨fun z => z.2, fun z => ⟨hn, z⟩⟩
  induction j with
  | zero =>
    intro x y i hy hx hy2 hi a0 a2 q q'
    have : y = 0 := by omega
    subst this
    exact stop x i (by omega) a0 a2 q q'
  | succ j ih =>
    intro x y i hy hx hy2 hi a0 a2 q q'
    by_cases hy0 : y = 0
    · subst hy0; exact stop x i (by omega) a0 a2 q q'
    · obtain ⟨q1, e1⟩ := step x y i (by omega) hx hy2 (by omega) a0 a2 q q'
      rw [e1, show Nat.gcd x y = Nat.gcd y (x % y) by rw [Nat.gcd_comm x y, Nat.gcd_rec y x, Nat.gcd_comm]]
      have hm := Nat.mod_lt x (show 0 < y by omega)
      by_cases hr0 : x % y = 0
      · rw [hr0]; exact stop y (i + 1) (by omega) a0 a2 q1 none
      · obtain ⟨q2, e2⟩ := step y (x % y) (i + 1) (by omega) hy2 (by omega) (by omega) a0 a2 q1 none
        rw [e2, show Nat.gcd y (x % y) = Nat.gcd (x % y) (y % (x % y)) by rw [Nat.gcd_comm y (x % y), Nat.gcd_rec (x % y) y, Nat.gcd_comm]]
        have hh := half_mod (x := x) (y := y) (by omega) (by omega)
        rw [Nat.pow_succ] at hy
        exact ih (x % y) (y % (x % y)) (i + 1 + 1) (by omega) (by omega) (by omega) (by omega) a0 a2 q2 none
theorem s_P_frac {a b : Nat} (ha : a < 2 ^ 62) (hb : b < 2 ^ 62) (hb1 : 1 ≤ b) (part : Int32) : ccL m_P_inLowestTerms h [.long (lN a), .long (lN b), .int part] k = k h (frN a b part) := by
  have hg : 0 < Nat.gcd a b := Nat.gcd_pos_of_pos_right a (by omega)
  have hg2 : Nat.gcd a b ≤ b := Nat.gcd_le_right a (by omega)
  have hn : ¬ lN (Nat.gcd a b) = 0 := fun z => by have := (lN_0 (by omega)).mp z; omega
  have h1 : 0 ≤ lg_cmp (lN (Nat.gcd a b)) 1 := by
    rw [lg_cmp_ge, show (1 : Int64) = lN 1 from rfl, Int64.le_iff_toInt_le, lT (by decide), lT (by omega)]
    omega
  have e : ∀ k' : PH → Int64 → Prop, ccL m_P_commonDivisor h [.long (lN a), .long (lN b)] k' = k' h (lN (Nat.gcd a b)) := fun k' => by
    rw [c_P_commonDivisor]
    exact s_P_gcd 62 a b 0 (by omega) ha hb (by decide) _ _ none none
  rw [c_P_inLowestTerms, e, if_pos h1]
  simp only [e_P_inLowestTerms_35]
  unfold frN
  by_cases c : part = 0
  · rw [if_neg (fun z => z c), if_pos c, lN_div ha (by omega)]
    exact propext ⟨fun z => z.2, fun z => ⟨hn, z⟩⟩
  · rw [if_pos c, if_neg c, lN_div hb (by omega)]
    exact propext ⟨fun z => z.2, fun z => ⟨hn, z⟩⟩
theorem s_Q_gcd : ∀ (n x y : Nat), y < n → x < 2 ^ 62 → y < 2 ^ 62 → ∀ (a0 a2 : Int64) (q q' : Option Value),
    wp m_Q_divisor h 6 [some (.long a0), none, some (.long a2), none, some (.long (lN x)), none, some (.long (lN y)), none, q, q'] [] (tyL k) = k h (lN (Nat.gcd x y)) := by
  intro n
  induction n with
  | zero => intro x y hy; omega
  | succ n ih =>
    intro x y hy hx hy2 a0 a2 q q'
    rw [e_Q_divisor_6]
    by_cases c : y = 0
    · subst c
      rw [if_pos (show lg_cmp (lN 0) 0 = 0 from (lg_cmp_eq _ _).mpr rfl), Nat.gcd_zero_right]
    · have hn : ¬ lN y = 0 := fun z => c ((lN_0 hy2).mp z)
      have hm := Nat.mod_lt x (show 0 < y by omega)
      rw [if_neg (fun z => hn ((lg_cmp_eq _ _).mp z)), lN_mod hx hy2, show Nat.gcd x y = Nat.gcd y (x % y) by rw [Nat.gcd_comm x y, Nat.gcd_rec y x, Nat.gcd_comm]]
      have := ih y (x % y) (by omega) hy2 (by omega) a0 a2 (some (.long (lN (x % y)))) none
      rw [← this]
      exact propext ⟨fun z => z.2, fun z => ⟨hn, z⟩⟩
theorem s_Q_frac {a b : Nat} (ha : a < 2 ^ 62) (hb : b < 2 ^ 62) (hb1 : 1 ≤ b) {part : Int32} (hp : part = 0 ∨ part = 1) : ccL m_Q_partOf h [.long (lN a), .long (lN b), .int part] k = k h (frN a b part) := by
  have hg : 0 < Nat.gcd a b := Nat.gcd_pos_of_pos_right a (by omega)
  have hg2 : Nat.gcd a b ≤ b := Nat.gcd_le_right a (by omega)
  have hn : ¬ lN (Nat.gcd a b) = 0 := fun z => by have := (lN_0 (by omega)).mp z; omega
  have e : ∀ k' : PH → Int64 → Prop, ccL m_Q_divisor h [.long (lN a), .long (lN b)] k' = k' h (lN (Nat.gcd a b)) := fun k' => by
    rw [c_Q_divisor]
    exact s_Q_gcd (b + 1) a b (by omega) ha hb _ _ none none
  rw [c_Q_partOf, e]
  simp only [e_Q_partOf_33]
  unfold frN
  by_cases c0 : a = 0
  · subst c0
    rw [if_neg (fun z => z (show lg_cmp (lN 0) 0 = 0 from (lg_cmp_eq _ _).mpr rfl)), Nat.gcd_zero_left]
    rcases hp with rfl | rfl
    · rw [if_pos rfl, Nat.zero_div]; rfl
    · rw [if_neg (by decide), Nat.div_self (by omega)]; rfl
  · rw [if_pos (fun z => c0 ((lN_0 ha).mp ((lg_cmp_eq _ _).mp z)))]
    by_cases c : part = 0
    · rw [if_neg (fun z => z c), if_pos c, lN_div ha (by omega)]
      exact propext ⟨fun z => z.2, fun z => ⟨hn, z⟩⟩
    · rw [if_pos c, if_neg c, lN_div hb (by omega)]
      exact propext ⟨fun z => z.2, fun z => ⟨hn, z⟩⟩
end Frac
def v_child (c : Core) (x z : Int32) : Int64 := frN (ix (Cm c (ix x) 1)) (ix (Cm c (ix x) 0)) z
def wayN (B t : Nat) : Nat → Nat
  | 0 => 1
  | k + 1 => if B.testBit k = true then wayN B t k else wayN B t k * (t - 1)
def chR (c : Core) (f B : Nat) : Nat → Row
  | 0 => Cm c f
  | k + 1 => if B.testBit k = true then rBear (rSettle (Cr c) (chR c f B k)) else rSettle (Cr c) (chR c f B k)
def goodN (c : Core) (f n : Nat) (v : Int32) (t : Nat) (B : Nat) : Nat := if v < hoR (chR c f B n) then 0 else wayN B t n
theorem sumT_add (f : Nat → Nat) (a : Nat) : ∀ b, sumT f (a + b) = sumT f a + sumT (fun i => f (a + i)) b
  | 0 => rfl
  | b + 1 => by
    show sumT f (a + b) + f (a + b) = sumT f a + (sumT (fun i => f (a + i)) b + f (a + b))
    rw [sumT_add f a b]; omega
theorem sumT_mul (f : Nat → Nat) (x : Nat) : ∀ n, sumT (fun i => f i * x) n = sumT f n * x
  | 0 => by simp [sumT]
  | n + 1 => by
    show sumT (fun i => f i * x) n + f n * x = (sumT f n + f n) * x
    rw [sumT_mul f x n, Nat.add_mul]
theorem sumT_c {f g : Nat → Nat} : ∀ {n : Nat}, (∀ i, i < n → f i = g i) → sumT f n = sumT g n
  | 0, _ => rfl
  | n + 1, e => by unfold sumT; rw [sumT_c (fun i hi => e i (by omega)), e n (by omega)]
theorem sumT_mono {f g : Nat → Nat} : ∀ {n : Nat}, (∀ i, i < n → f i ≤ g i) → sumT f n ≤ sumT g n
  | 0, _ => Nat.le_refl _
  | n + 1, e => by
    have := sumT_mono (n := n) (fun i hi => e i (by omega))
    have := e n (by omega)
    unfold sumT; omega
theorem wayN_up (B t a : Nat) : ∀ n, n ≤ a → wayN (2 ^ a + B) t n = wayN B t n
  | 0, _ => rfl
  | n + 1, h => by unfold wayN; rw [wayN_up B t a n (by omega), Nat.testBit_two_pow_add_gt (by omega)]
theorem every_pow {t : Nat} (ht : 1 ≤ t) : ∀ n, sumT (fun B => wayN B t n) (2 ^ n) = t ^ n
  | 0 => rfl
  | n + 1 => by
    have ih := every_pow ht n
    rw [show 2 ^ (n + 1) = 2 ^ n + 2 ^ n by rw [Nat.pow_succ]; omega, sumT_add]
    have e1 : sumT (fun B => wayN B t (n + 1)) (2 ^ n) = t ^ n * (t - 1) := by
      rw [← ih, ← sumT_mul]
      refine sumT_c fun i hi => ?_
      show (if i.testBit n = true then wayN i t n else wayN i t n * (t - 1)) = _
      rw [Nat.testBit_lt_two_pow hi, if_neg (by decide)]
    have e2 : sumT (fun i => wayN (2 ^ n + i) t (n + 1)) (2 ^ n) = t ^ n := by
      rw [← ih]
      refine sumT_c fun i hi => ?_
      show (if (2 ^ n + i).testBit n = true then wayN (2 ^ n + i) t n else wayN (2 ^ n + i) t n * (t - 1)) = _
      rw [Nat.testBit_two_pow_add_eq, Nat.testBit_lt_two_pow hi, if_pos (by decide), wayN_up _ _ _ _ (Nat.le_refl _)]
    rw [e1, e2, Nat.pow_succ]
    obtain ⟨u, rfl⟩ := Nat.le.dest ht
    rw [Nat.add_comm 1 u, Nat.add_sub_cancel, Nat.mul_add, Nat.mul_one]
theorem good_le {c : Core} {f n : Nat} {v : Int32} {t : Nat} (ht : 1 ≤ t) {m : Nat} (hm : m ≤ 2 ^ n) : sumT (goodN c f n v t) m ≤ t ^ n := by
  rw [← every_pow ht n]
  have h1 : sumT (goodN c f n v t) m ≤ sumT (fun B => wayN B t n) m := sumT_mono fun i _ => by unfold goodN; split <;> omega
  obtain ⟨d, e⟩ := Nat.le.dest hm
  rw [← e, sumT_add]
  omega
theorem pow_bd {t n : Nat} (ht : t ≤ 20) (hn : n ≤ 8) : t ^ n ≤ 25600000000 :=
  Nat.le_trans (Nat.pow_le_pow_left ht n) (Nat.le_trans (Nat.pow_le_pow_right (by decide) hn) (by decide))
theorem bit8 : ∀ B : Fin 256, ∀ k : Fin 8, ((nI B.1 >>> (nI k.1 &&& 31)) &&& 1) = if B.1.testBit k.1 = true then 1 else 0 := by decide +kernel
theorem shl9 : ∀ n : Fin 9, ((1 : Int32) <<< (nI n.1 &&& 31)) = nI (2 ^ n.1) := by decide +kernel
def b3 (n v t : Int32) : Int32 := if n < 0 ∨ v < 0 ∨ t < 2 then -4 else if 8 < n ∨ 999 < v ∨ 20 < t then -6 else 0
theorem nK_b3 (n v t : Int32) : b3 n v t ≠ 0 → noK (b3 n v t) := by
  unfold b3 noK
  split
  · intro _; simp
  · split
    · intro _; simp
    · intro z; exact absurd rfl z
theorem b3_0 {x y z : Int32} (e : b3 x y z = 0) : ∃ n v t, n ≤ 8 ∧ v ≤ 999 ∧ 2 ≤ t ∧ t ≤ 20 ∧ x = nI n ∧ y = nI v ∧ z = nI t := by
  unfold b3 at e
  by_cases c : x < 0 ∨ y < 0 ∨ z < 2
  · rw [if_pos c] at e; exact absurd e (by decide)
  · rw [if_neg c] at e
    by_cases d : 8 < x ∨ 999 < y ∨ 20 < z
    · rw [if_pos d] at e; exact absurd e (by decide)
    · obtain ⟨n, hn, rfl⟩ := nI_of (x := x) (fun q => c (Or.inl q))
      obtain ⟨v, hv, rfl⟩ := nI_of (x := y) (fun q => c (Or.inr (Or.inl q)))
      have hz : ¬ z < 0 := fun q => c (Or.inr (Or.inr (Int32.lt_of_lt_of_le q (by decide))))
      obtain ⟨t, ht, rfl⟩ := nI_of (x := z) hz
      exact ⟨n, v, t, Nat.le_of_not_lt fun q => d (Or.inl (nI_lt (a := 8) q hn)), Nat.le_of_not_lt fun q => d (Or.inr (Or.inl (nI_lt (a := 999) q hv))), Nat.le_of_not_lt fun q => c (Or.inr (Or.inr (nI_lt (b := 2) q (by decide)))), Nat.le_of_not_lt fun q => d (Or.inr (Or.inr (nI_lt (a := 20) q ht))), rfl, rfl, rfl⟩
def v_births2 (c : Core) (x n v t z : Int32) : Int64 := frN (sumT (goodN c (ix x) (ix n) v (ix t)) (2 ^ ix n)) (ix t ^ ix n) z
section P9
variable {h h0 : PH} {s : Sta} {c : Core} {f n p : Nat} {r : Row}
theorem t_P_child (o : okS s) (x z : Int32) : PQL m_P_child [.int x, .int z] s (th (nF (zC s) x) (othN z 1)) (v_child (zC s) x z) := by
  intro h k I hr hv
  have w := pw I.1
  have L := PL I
  rw [c_P_child]
  simp only [w, true_and]
  rw [s_Ledger_lacksFamily L.1 L.2.2.1.1]
  simp only [s_P_otherThan]
  refine th_if (X := fun t => wp m_P_child h 19 [some (.ref 2), some (.int x), some (.int z), some (.int t)] [] (tyL k)) ?_
  show wp m_P_child h 19 [some (.ref 2), some (.int x), some (.int z), some (.int (th (nF (zC s) x) (othN z 1)))] [] (tyL k)
  rw [e_P_child_19]
  by_cases c : th (nF (zC s) x) (othN z 1) = 0
  · obtain ⟨f, hf, rfl⟩ := nF_0 (okf o) (th_0.mp c).1
    have h5 := okf o
    have hv' := hv c h (FT_refl h)
    unfold v_child at hv'
    rw [ix_nI (show f < 2 ^ 31 by omega)] at hv'
    have R := o.1.1.2.2.1 f hf
    obtain ⟨q, hq, q1, q2⟩ := bd_of R.1
    obtain ⟨d, hd, d1, d2⟩ := bd_of R.2.1
    rw [if_pos c]
    simp only [w, true_and]
    rw [Led_at L (by omega)]
    simp only [w, Led_tgf L (show f < 5 by omega), true_and]
    rw [Led_at L (by omega)]
    simp only [Led_tgf L (show f < 5 by omega), true_and]
    rw [L.2.2.2.1 f hf 0 (by decide), L.2.2.2.1 f hf 1 (by decide), hq, hd, nI_l (by omega), nI_l (by omega), s_P_frac (by omega) (by omega) q1]
    rw [hq, hd, ix_nI (by omega), ix_nI (by omega)] at hv'
    exact hv'
  · rw [if_neg c]
    exact ⟨w.1, hr c h (FT_refl h)⟩
theorem s_P_waysOf {B n t : Nat} (hB : B < 256) (hn : n ≤ 8) (ht : 1 ≤ t) (ht2 : t ≤ 20) (k : PH → Int64 → Prop) : ccL m_P_waysOf h [.int (nI B), .int (nI n), .int (nI t)] k = k h (lN (wayN B t n)) := by
  rw [c_P_waysOf]
  refine (lp (fun i => wp m_P_waysOf h 5 [some (.int (nI B)), some (.int (nI n)), some (.int (nI t)), some (.long (lN (wayN B t i))), none, some (.int (nI i))] [] (tyL k)) n fun i hi => ?_).trans ?_
  · rw [e_P_waysOf_5, if_neg (nI_ge hi (by omega)), bit8 ⟨B, hB⟩ ⟨i, by omega⟩]
    simp only [e_P_waysOf_27, nI_1, wayN]
    by_cases c : B.testBit i = true
    · simp only [c, if_true]
      rw [if_pos (by decide)]
    · simp only [c]
      rw [if_neg (fun z => z rfl), show (1 : Int32) = nI 1 from rfl, nI_subI ht, nI_l (by omega), lN_mul]
      rfl
  · rw [e_P_waysOf_5, if_pos (Int32.le_refl _)]
theorem t_P_bear (I : IP h0 s) (F : FT h0 h) (hf : f < Cf (zC s)) {B : Nat} (hB : B < 256) (hn : n ≤ 8) {k : PH → Prop} (hk : ∀ h', FT h0 h' → Ew 4 (gI h' 119) (chR (zC s) f B n) → k h') : ccV m_P_bearByChance h [.ref 2, .int (nI f), .int (nI B), .int (nI n)] k := by
  have I1 := IP_FT I F
  have w := pw I1.1
  have L := PL I1
  have h5 := L.2.1.1
  rw [c_P_bearByChance]
  simp only [w, true_and]
  rw [Led_at L (by omega)]
  simp only [w, true_and]
  refine t_im_copy I F hf fun h2 F2 e2 _ => ?_
  refine hp (A := fun j h' => FT h0 h' ∧ ∃ r, Ew 7 (gI h' 119) r ∧ Ew 4 r (chR (zC s) f B j)) (X := fun j h' => wp m_P_bearByChance h' 18 [some (.ref 2), some (.int (nI f)), some (.int (nI B)), some (.int (nI n)), some (.int (nI j))] [] (tyV k)) n ?_ ?_ 0 (Nat.zero_le _) h2 ⟨F2, _, e2, fz_e _⟩
  · intro h' ⟨F', r, e1, e4⟩
    rw [e_P_bearByChance_18, if_pos (Int32.le_refl _)]
    exact hk h' F' (Ew_trans (Ew_le (by decide) e1) e4)
  · intro j hj h' ⟨F', r, e1, e4⟩ ih
    have I' := IP_FT I F'
    have w' := pw I'.1
    rw [e_P_bearByChance_18, if_neg (nI_ge hj (by omega))]
    simp only [w', true_and]
    rw [(PL I').2.2.1.2.2.2]
    refine t_im_settle I F' e1 fun h3 F3 e3 => ?_
    have w3 := pw (IP_FT I F3).1
    have e5 := rSettle_e (n := 4) (by decide) e4 (Cr (zC s)) (Or.inl rfl)
    rw [bit8 ⟨B, hB⟩ ⟨j, by omega⟩]
    simp only [e_P_bearByChance_55, nI_1, w3, true_and]
    by_cases c : B.testBit j = true
    · rw [if_neg (by simp [c])]
      refine t_im_bear I F3 e3 fun h4 F4 e6 => ih h4 ⟨F4, _, e6, ?_⟩
      unfold chR
      rw [if_pos c]
      exact rBear_e (by decide) e5 (Or.inl rfl)
    · rw [if_pos (by simp [c])]
      refine ih h3 ⟨F3, _, e3, ?_⟩
      unfold chR
      rw [if_neg c]
      exact e5
theorem t_P_births (o : okS s) (x y v t z : Int32) : PQL m_P_births [.int x, .int y, .int v, .int t, .int z] s (th (th (nF (zC s) x) (b3 y v t)) (othN z 1)) (v_births2 (zC s) x y v t z) := by
  intro h k I hr hv
  have w := pw I.1
  have L := PL I
  have h5 := okf o
  have e75 : wp m_P_births h 75 [some (.ref 2), some (.int x), some (.int y), some (.int v), some (.int t), some (.int z), some (.int (th (th (nF (zC s) x) (b3 y v t)) (othN z 1))), none, none, none, none, none, none, none] [] (tyL k) := by
    rw [e_P_births_75]
    by_cases c : th (th (nF (zC s) x) (b3 y v t)) (othN z 1) = 0
    · have c1 := th_0.mp (th_0.mp c).1
      obtain ⟨f, hf, rfl⟩ := nF_0 (okf o) c1.1
      obtain ⟨n, v', t', hn, hv2, ht1, ht2, rfl, rfl, rfl⟩ := b3_0 c1.2
      have hv' := hv c
      unfold v_births2 at hv'
      rw [ix_nI (show f < 2 ^ 31 by omega), ix_nI (show n < 2 ^ 31 by omega), ix_nI (show t' < 2 ^ 31 by omega)] at hv'
      rw [if_pos c]
      generalize th (th (nF (zC s) (nI f)) (b3 (nI n) (nI v') (nI t'))) (othN z 1) = u
      have hp2 : 2 ^ n ≤ 256 := Nat.le_trans (show 2 ^ n ≤ 2 ^ 8 from Nat.pow_le_pow_right (by decide) hn) (by decide)
      have hpw := pow_bd ht2 hn
      refine hp (A := fun j h' => FT h h') (X := fun j h' => ∀ q q', wp m_P_births h' 101 [some (.ref 2), some (.int (nI f)), some (.int (nI n)), some (.int (nI v')), some (.int (nI t')), some (.int z), some (.int u), some (.long (lN (sumT (goodN (zC s) f n (nI v') t') j))), none, some (.long (lN (sumT (fun B => wayN B t' n) j))), none, some (.int (nI j)), q, q'] [] (tyL k)) (2 ^ n) ?_ ?_ 0 (Nat.zero_le _) h (FT_refl h) none none
      · intro h' F' q q'
        have hg := good_le (c := zC s) (f := f) (n := n) (v := nI v') (t := t') (by omega) (Nat.le_refl (2 ^ n))
        have hpos : 1 ≤ t' ^ n := by have q1 := Nat.pow_le_pow_left (show 1 ≤ t' by omega) n; rw [Nat.one_pow] at q1; exact q1
        rw [e_P_births_101, shl9 ⟨n, by omega⟩, if_pos (Int32.le_refl _), every_pow (by omega), s_P_frac (by omega) (by omega) hpos]
        exact hv' h' F'
      · intro j hj h' F' ih q q'
        have w' := pw (IP_FT I F').1
        rw [e_P_births_101, shl9 ⟨n, by omega⟩, if_neg (nI_ge (show j < 2 ^ n from hj) (by omega)), s_P_waysOf (by omega) hn (by omega) ht2]
        refine ⟨w'.1, t_P_bear I F' hf (by omega) hn fun h2 F2 e2 => ?_⟩
        have I2 := IP_FT I F2
        have w2 := pw I2.1
        simp only [w2, true_and]
        rw [s_Family_headOwes w2.2.2.2.2.1.2.2.2.2.1, e2 0 (by decide), e2 1 (by decide)]
        have ih' := ih h2 F2
        simp only [sumT, goodN] at ih'
        simp only [e_P_births_152, nI_1]
        show if nI v' < hoR (chR (zC s) f j n) then _ else _
        by_cases d : nI v' < hoR (chR (zC s) f j n)
        · rw [if_pos d, lN_add]
          rw [if_pos d, Nat.add_zero] at ih'
          exact ih' _ _
        · rw [if_neg d, lN_add, lN_add]
          rw [if_neg d] at ih'
          exact ih' _ _
    · rw [if_neg c]
      exact ⟨w.1, hr c h (FT_refl h)⟩
  have e62 : wp m_P_births h 62 [some (.ref 2), some (.int x), some (.int y), some (.int v), some (.int t), some (.int z), some (.int (th (nF (zC s) x) (b3 y v t))), none, none, none, none, none, none, none] [] (tyL k) := by
    rw [e_P_births_62]
    simp only [s_P_otherThan]
    exact th_if (X := fun u => wp m_P_births h 75 [some (.ref 2), some (.int x), some (.int y), some (.int v), some (.int t), some (.int z), some (.int u), none, none, none, none, none, none, none] [] (tyL k)) e75
  rw [c_P_births]
  simp only [w, true_and]
  rw [s_Ledger_lacksFamily L.1 L.2.2.1.1]
  show if ¬ nF (zC s) x = 0 then wp m_P_births h 33 [some (.ref 2), some (.int x), some (.int y), some (.int v), some (.int t), some (.int z), some (.int (nF (zC s) x)), none, none, none, none, none, none, none] [] (tyL k) else _
  simp only [e_P_births_29, e_P_births_33, e_P_births_58]
  unfold th at e62
  by_cases c0 : nF (zC s) x = 0
  · rw [if_neg (fun q => q c0)]
    rw [if_pos c0] at e62
    have e0 : ∀ u, (u = 0 → wp m_P_births h 62 [some (.ref 2), some (.int x), some (.int y), some (.int v), some (.int t), some (.int z), some (.int u), none, none, none, none, none, none, none] [] (tyL k)) → True := fun _ _ => trivial
    show (if y < 0 then _ else if v < 0 then _ else if (2 : Int32) ≤ t then (if ¬ (if offN x (Cf (zC s)) then (-1 : Int32) else 0) = 0 then _ else _) else _)
    have e1 : (if offN x (Cf (zC s)) then (-1 : Int32) else 0) = 0 := c0
    rw [e1]
    unfold b3 at e62
    by_cases d1 : y < 0
    · rw [if_pos d1, if_pos (by decide)]
      rw [if_pos (Or.inl d1)] at e62
      exact e62
    rw [if_neg d1]
    by_cases d2 : v < 0
    · rw [if_pos d2, if_pos (by decide)]
      rw [if_pos (Or.inr (Or.inl d2))] at e62
      exact e62
    rw [if_neg d2]
    by_cases d3 : t < 2
    · rw [if_neg (Int32.not_le.mpr d3), if_pos (by decide)]
      rw [if_pos (Or.inr (Or.inr d3))] at e62
      exact e62
    rw [if_pos (Int32.not_lt.mp d3), if_neg (fun q => q rfl)]
    rw [if_neg (fun q => q.elim d1 (fun q => q.elim d2 d3))] at e62
    by_cases d4 : 8 < y
    · rw [if_pos d4]
      rw [if_pos (Or.inl d4)] at e62
      exact e62
    rw [if_neg d4]
    by_cases d5 : 999 < v
    · rw [if_pos d5]
      rw [if_pos (Or.inr (Or.inl d5))] at e62
      exact e62
    rw [if_neg d5]
    by_cases d6 : 20 < t
    · rw [if_neg (Int32.not_le.mpr d6)]
      rw [if_pos (Or.inr (Or.inr d6))] at e62
      exact e62
    rw [if_pos (Int32.not_lt.mp d6)]
    rw [if_neg (fun q => q.elim d4 (fun q => q.elim d5 d6))] at e62
    exact e62
  · rw [if_pos c0, if_pos c0]
    rw [if_neg c0] at e62
    exact e62
end P9
def nxs (z : Int32) : Int32 := z * 1103515245 + 12345
def drw (z : Int32) : Int32 := ((z &&& 2147483647) / 65536) % 10
def seedN (z : Int32) : Nat → Int32
  | 0 => z
  | n + 1 => nxs (seedN z n)
def lotC (c : Core) (z : Int32) : Core := cM (cR c (drw (nxs z))) (fun f => rs (Cm c f) 2 (drw (seedN (nxs z) (f + 1))))
def freeC (c : Core) : Int32 := sumN (fun f => if Cm c f 1 = 0 then 1 else 0) (Cf c)
def go50 (c : Core) : Core := goC 50 c
def lotN (c : Core) (z : Int32) : Nat → Int32 × Int32 × Int32
  | 0 => (z, 0, 0)
  | k + 1 => (seedN (nxs (lotN c z k).1) (Cf c), (lotN c z k).2.1 + debtsC (go50 (lotC c (lotN c z k).1)), (lotN c z k).2.2 + freeC (go50 (lotC c (lotN c z k).1)))
theorem seedN_s (z : Int32) (n : Nat) : seedN z (n + 1) = nxs (seedN z n) := rfl
theorem seedN_0 (z : Int32) : seedN z 0 = z := rfl
theorem lotN_s (c : Core) (z : Int32) (k : Nat) : lotN c z (k + 1) = (seedN (nxs (lotN c z k).1) (Cf c), (lotN c z k).2.1 + debtsC (go50 (lotC c (lotN c z k).1)), (lotN c z k).2.2 + freeC (go50 (lotC c (lotN c z k).1))) := rfl
def v_lots (c : Core) (x z t : Int32) : Int32 := if t = 0 then (lotN c z (ix x)).2.1 else (lotN c z (ix x)).2.2
section P10
variable {h h0 : PH} {s : Sta} {c : Core} {f n p : Nat} {r : Row}
theorem s_oweNothing {a : Nat} (L : Led h a c) (k : PH → Int32 → Prop) : ccI m_Ledger_oweNothing h [.ref a] k = k h (freeC c) := by
  rw [s_Ledger_oweNothing L.1 L.2.2.1.1 L.2.1.1]
  congr 1
  exact sumN_c fun f hf => by rw [L.2.2.2.1 f hf 1 (by decide)]
theorem t_mind_50 (F : FT h0 h) (L : Led h 13 c) {k : PH → Int32 → Prop} (hk : ∀ h', FT h0 h' → Led h' 13 (go50 c) → k h' (debtsC (go50 c))) : ccI m_Ledger_allDebtsBehind h [.ref 13, .int 50] k := t_mind_behind (n := 50) F L (by decide) hk
theorem s_P_next (h : PH) (z : Int32) (k : PH → Int32 → Prop) : ccI m_P_nextSeed h [.int z] k = k h (nxs z) := c_P_nextSeed h z k
theorem s_P_draw (z : Int32) (k : PH → Int32 → Prop) : ccI m_P_drawBelow h [.int 10, .int z] k = k h (drw z) := by
  rw [c_P_drawBelow, if_pos (by decide), e_P_drawBelow_19]
  exact propext ⟨fun q => q.2.2, fun q => ⟨by decide, by decide, q⟩⟩
theorem t_lots_in (I : IP h0 s) (F : FT h0 h) {x : Int32} (L : Led h 13 (cR (zC s) x)) (h5 : Cf (zC s) ≤ 5) (sd0 : Int32) {l1 l2 l3 l4 l6 l7 l8 : Int32} {K : PH → Option Value → Prop}
    (hk : ∀ h' sd, FT h0 h' → Led h' 13 (cM (cR (zC s) x) (fun f => rs (Cm (zC s) f) 2 (drw (seedN sd0 (f + 1))))) → gI h' 13 0 = nI (Cf (zC s)) → sd = seedN sd0 (Cf (zC s)) → wp m_P_lots h' 86 [some (.ref 2), some (.int l1), some (.int l2), some (.int l3), some (.int l4), some (.int sd), some (.int l6), some (.int l7), some (.int l8), some (.int (nI (Cf (zC s))))] [] K) (hK : ∃ k, K = tyI k) :
    ∀ sd, sd = seedN sd0 0 → wp m_P_lots h 86 [some (.ref 2), some (.int l1), some (.int l2), some (.int l3), some (.int l4), some (.int sd), some (.int l6), some (.int l7), some (.int l8), some (.int 0)] [] K := by
  obtain ⟨k, rfl⟩ := hK
  refine hp (A := fun i h2 => FT h0 h2 ∧ Led h2 13 (cM (cR (zC s) x) (fun f => if f < i then rs (Cm (zC s) f) 2 (drw (seedN sd0 (f + 1))) else Cm (zC s) f)))
    (X := fun i h2 => ∀ sd, sd = seedN sd0 i → wp m_P_lots h2 86 [some (.ref 2), some (.int l1), some (.int l2), some (.int l3), some (.int l4), some (.int sd), some (.int l6), some (.int l7), some (.int l8), some (.int (nI i))] [] (tyI k)) (Cf (zC s)) ?_ ?_ 0 (Nat.zero_le _) h ⟨F, Led_ext L rfl rfl rfl rfl (fun f _ => ?_) (fun _ _ => rfl)⟩
  · intro h2 ⟨F2, L2⟩ sd hsd
    exact hk h2 sd F2 (Led_ext L2 rfl rfl rfl rfl (fun f hf => by
      show Ew 4 (if f < Cf (zC s) then _ else _) _
      rw [if_pos (show f < Cf (zC s) from hf)]; exact Ew_refl _ _) (fun _ _ => rfl)) L2.2.2.1.1 hsd
  · intro i hi h2 ⟨F2, L2⟩ ih2 sd hsd
    have w2 := pw (IP_FT I F2).1
    have q0 : gI h2 13 0 = nI (Cf (zC s)) := L2.2.2.1.1
    rw [e_P_lots_86]
    simp only [w2, true_and]
    rw [q0, if_neg (nI_ge hi (by omega)), s_P_next]
    simp only [w2, true_and]
    rw [Led_at L2 (by omega), s_P_draw]
    have e3 : nxs sd = seedN sd0 (i + 1) := by rw [hsd, seedN_s]
    have q3 := mind_set F2 L2 (f := i) hi 2 (drw (nxs sd))
    simp only [Led_tgf L2 (show i < 5 by omega), true_and, nI_1]
    refine ih2 _ ⟨q3.1, Led_ext q3.2 rfl rfl rfl rfl (fun f _ => ?_) (fun _ _ => rfl)⟩ _ e3
    show Ew 4 (setM (fun f => if f < i then rs (Cm (zC s) f) 2 (drw (seedN sd0 (f + 1))) else Cm (zC s) f) i (rs (if i < i then rs (Cm (zC s) i) 2 (drw (seedN sd0 (i + 1))) else Cm (zC s) i) 2 (drw (nxs sd))) f) (if f < i + 1 then rs (Cm (zC s) f) 2 (drw (seedN sd0 (f + 1))) else Cm (zC s) f)
    unfold setM
    rw [if_neg (Nat.lt_irrefl i), e3]
    by_cases c1 : f = i
    · subst c1; rw [if_pos rfl, if_pos (Nat.lt_succ_self _)]; exact Ew_refl _ _
    · rw [if_neg c1]
      dsimp only
      by_cases c2 : f < i
      · rw [if_pos c2, if_pos (by omega)]; exact Ew_refl _ _
      · rw [if_neg c2, if_neg (by omega)]; exact Ew_refl _ _
  · show Ew 4 (Cm (zC s) f) (if f < 0 then rs (Cm (zC s) f) 2 (drw (seedN sd0 (f + 1))) else Cm (zC s) f)
    rw [if_neg (by omega)]; exact Ew_refl _ _
theorem t_P_lots (o : okS s) (x z t : Int32) : PQ m_P_lots [.int x, .int z, .int t] s (th (outN x 1 20) (othN t 1)) (v_lots (zC s) x z t) := by
  intro h k I hr hv
  have w := pw I.1
  have h5 := okf o
  rw [c_P_lots, s_P_outside]
  simp only [s_P_otherThan]
  refine th_if (X := fun u => wp m_P_lots h 21 [some (.ref 2), some (.int x), some (.int z), some (.int t), some (.int u), none, none, none, none, none] [] (tyI k)) ?_
  rw [e_P_lots_21]
  by_cases c : th (outN x 1 20) (othN t 1) = 0
  · obtain ⟨n, hn, rfl, _, hn2⟩ := outN_0 (lo := 1) (hi := 20) (by decide) (th_0.mp c).1
    have hv' := hv c
    unfold v_lots at hv'
    rw [ix_nI hn] at hv'
    rw [if_pos c]
    generalize th (outN (nI n) 1 20) (othN t 1) = u
    refine hp (A := fun j h' => FT h h') (X := fun j h' => ∀ q, wp m_P_lots h' 45 [some (.ref 2), some (.int (nI n)), some (.int z), some (.int t), some (.int u), some (.int (lotN (zC s) z j).1), some (.int (lotN (zC s) z j).2.1), some (.int (lotN (zC s) z j).2.2), some (.int (nI j)), q] [] (tyI k)) n ?_ ?_ 0 (Nat.zero_le _) h (FT_refl h) none
    · intro h' F' q
      have hv2 := hv' h' F'
      rw [e_P_lots_45, if_pos (Int32.le_refl _)]
      simp only [e_P_lots_173]
      by_cases d : t = 0
      · rw [if_neg (fun q => q d)]
        rw [if_pos d] at hv2
        exact hv2
      · rw [if_pos d]
        rw [if_neg d] at hv2
        exact hv2
    · intro j hj h' F' ih q
      have w' := pw (IP_FT I F').1
      rw [e_P_lots_45, if_neg (nI_ge hj (by omega))]
      simp only [w', true_and]
      refine t_mind_copy I F' fun h1 F1 L1 _ => ?_
      have w1 := pw (IP_FT I F1).1
      rw [s_P_next]
      refine ⟨w1.1, ?_⟩
      rw [s_P_draw]
      simp only [w1, true_and]
      generalize hx : drw (nxs (lotN (zC s) z j).1) = x
      generalize hy : nxs (lotN (zC s) z j).1 = y at hx
      have q2 := mind_rate F1 L1 x
      refine t_lots_in I q2.1 q2.2 h5 y (fun h2 sd F2 L2 q0 hsd => ?_) ⟨k, rfl⟩ y (seedN_0 y).symm
      have w2 := pw (IP_FT I F2).1
      rw [e_P_lots_86]
      simp only [w2, true_and]
      rw [q0, if_pos (Int32.le_refl _)]
      have L2' : Led h2 13 (lotC (zC s) (lotN (zC s) z j).1) := by
        unfold lotC
        rw [hy, hx]
        exact L2
      refine t_mind_50 F2 L2' fun h3 F3 L3 => ?_
      have w3 := pw (IP_FT I F3).1
      simp only [w3, true_and]
      rw [s_oweNothing L3, nI_1]
      have ih' := ih h3 F3
      rw [lotN_s, hy, ← hsd] at ih'
      exact ih' _
  · rw [if_neg c]
    exact ⟨w.1, hr c h (FT_refl h)⟩
end P10
