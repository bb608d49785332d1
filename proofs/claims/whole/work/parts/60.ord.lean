/-! ===== orders of works: the numbers ===== -/
def fac : Nat → Nat
  | 0 => 1
  | n + 1 => (n + 1) * fac n
theorem fac_pos : ∀ n, 1 ≤ fac n
  | 0 => Nat.le_refl _
  | n + 1 => by
    show 1 ≤ (n + 1) * fac n
    exact Nat.mul_pos (Nat.succ_pos n) (fac_pos n)
theorem fac_5 {n : Nat} (h : n ≤ 5) : fac n ≤ 120 := by
  have : n = 0 ∨ n = 1 ∨ n = 2 ∨ n = 3 ∨ n = 4 ∨ n = 5 := by omega
  rcases this with rfl | rfl | rfl | rfl | rfl | rfl <;> decide
/-- the j-th of those that u does not hold, from w on -/
def skN (u : Nat) : Nat → Nat → Nat → Nat
  | 0, w, _ => w
  | d + 1, w, j => if u.testBit w = true then skN u d (w + 1) j else if j = 0 then w else skN u d (w + 1) (j - 1)
/-- those below n that m does not hold -/
def opL (m : Nat) : Nat → List Nat
  | 0 => []
  | w + 1 => if m.testBit w = true then opL m w else opL m w ++ [w]
def ppN (u : Nat) : Nat → Nat
  | 0 => 0
  | i + 1 => if u.testBit i = true then ppN u i + 1 else ppN u i
/-- m, and those at the places that u holds -/
def mkU (m u : Nat) (O : List Nat) : Nat → Nat
  | 0 => m
  | i + 1 => if u.testBit i = true then mkU m u O i ||| 2 ^ (O.getD i 0) else mkU m u O i
def ckX (nw m : Nat) (O : List Nat) (n u j : Nat) : Bool :=
  decide (skN u n 0 j < n ∧ skN (mkU m u O n) nw 0 j = O.getD (skN u n 0 j) 0 ∧ mkU m (u ||| 2 ^ (skN u n 0 j)) O n = mkU m u O n ||| 2 ^ (O.getD (skN u n 0 j) 0) ∧ ppN (u ||| 2 ^ (skN u n 0 j)) n = ppN u n + 1 ∧ O.getD (skN u n 0 j) 0 < nw ∧ mkU m u O n < 64)
def ckO (nw m : Nat) : Bool := decide (5 < (opL m nw).length) || ((List.range (2 ^ (opL m nw).length)).all fun u => (List.range ((opL m nw).length - ppN u (opL m nw).length)).all fun j => ckX nw m (opL m nw) (opL m nw).length u j)
theorem ckO_all : ((List.range 7).all fun nw => (List.range (2 ^ nw)).all fun m => ckO nw m) = true := by decide +kernel
theorem ck_get {nw m : Nat} (hw : nw ≤ 6) (hm : m < 2 ^ nw) (h5 : (opL m nw).length ≤ 5) {u j : Nat} (hu : u < 2 ^ (opL m nw).length) (hj : j < (opL m nw).length - ppN u (opL m nw).length) :
    skN u (opL m nw).length 0 j < (opL m nw).length ∧ skN (mkU m u (opL m nw) (opL m nw).length) nw 0 j = (opL m nw).getD (skN u (opL m nw).length 0 j) 0 ∧ mkU m (u ||| 2 ^ (skN u (opL m nw).length 0 j)) (opL m nw) (opL m nw).length = mkU m u (opL m nw) (opL m nw).length ||| 2 ^ ((opL m nw).getD (skN u (opL m nw).length 0 j) 0) ∧ ppN (u ||| 2 ^ (skN u (opL m nw).length 0 j)) (opL m nw).length = ppN u (opL m nw).length + 1 ∧ (opL m nw).getD (skN u (opL m nw).length 0 j) 0 < nw ∧ mkU m u (opL m nw) (opL m nw).length < 64 := by
  have h1 := List.all_eq_true.mp ckO_all nw (List.mem_range.mpr (by omega))
  have h2 := List.all_eq_true.mp h1 m (List.mem_range.mpr hm)
  unfold ckO at h2
  rcases Bool.or_eq_true_iff.mp h2 with h3 | h3
  · have := of_decide_eq_true h3; omega
  · have h4 := List.all_eq_true.mp h3 u (List.mem_range.mpr hu)
    have h6 := List.all_eq_true.mp h4 j (List.mem_range.mpr hj)
    exact of_decide_eq_true h6
/-- on the way of laying the k-th order of n: what is left of k, the places taken -/
def ordS (n k : Nat) : Nat → Nat × Nat
  | 0 => (k, 0)
  | i + 1 => ((ordS n k i).1 % fac (n - 1 - i), (ordS n k i).2 ||| 2 ^ (skN (ordS n k i).2 n 0 ((ordS n k i).1 / fac (n - 1 - i))))
def ordI (n k i : Nat) : Nat := skN (ordS n k i).2 n 0 ((ordS n k i).1 / fac (n - 1 - i))
theorem ordS_s (n k i : Nat) : ordS n k (i + 1) = ((ordS n k i).1 % fac (n - 1 - i), (ordS n k i).2 ||| 2 ^ (ordI n k i)) := rfl
section Ord
variable {nw m k : Nat}
theorem ord_inv (hw : nw ≤ 6) (hm : m < 2 ^ nw) (h5 : (opL m nw).length ≤ 5) (hk : k < fac (opL m nw).length) : ∀ i, i ≤ (opL m nw).length → (ordS (opL m nw).length k i).1 < fac ((opL m nw).length - i) ∧ ppN (ordS (opL m nw).length k i).2 (opL m nw).length = i ∧ (ordS (opL m nw).length k i).2 < 2 ^ (opL m nw).length
  | 0, _ => by
    refine ⟨hk, ?_, Nat.two_pow_pos _⟩
    show ppN 0 _ = 0
    have : ∀ n, ppN 0 n = 0 := by
      intro n
      induction n with
      | zero => rfl
      | succ n ih => unfold ppN; rw [if_neg (by simp), ih]
    exact this _
  | i + 1, hi => by
    obtain ⟨a, b, e⟩ := ord_inv hw hm h5 hk i (by omega)
    have hf : fac ((opL m nw).length - i) = ((opL m nw).length - i) * fac ((opL m nw).length - 1 - i) := by
      obtain ⟨d, hd⟩ : ∃ d, (opL m nw).length - i = d + 1 := ⟨(opL m nw).length - i - 1, by omega⟩
      rw [hd, show (opL m nw).length - 1 - i = d by omega]; rfl
    rw [hf] at a
    have hj : (ordS (opL m nw).length k i).1 / fac ((opL m nw).length - 1 - i) < (opL m nw).length - i := (Nat.div_lt_iff_lt_mul (fac_pos _)).mpr a
    have g := ck_get hw hm h5 e (j := (ordS (opL m nw).length k i).1 / fac ((opL m nw).length - 1 - i)) (by rw [b]; exact hj)
    rw [ordS_s]
    refine ⟨?_, ?_, ?_⟩
    · rw [show (opL m nw).length - (i + 1) = (opL m nw).length - 1 - i by omega]
      exact Nat.mod_lt _ (fac_pos _)
    · show ppN (_ ||| 2 ^ (ordI (opL m nw).length k i)) _ = _
      unfold ordI
      rw [g.2.2.2.1, b]
    · exact Nat.or_lt_two_pow e (Nat.pow_lt_pow_right (by decide) g.1)
theorem ord_get (hw : nw ≤ 6) (hm : m < 2 ^ nw) (h5 : (opL m nw).length ≤ 5) (hk : k < fac (opL m nw).length) {i : Nat} (hi : i < (opL m nw).length) :
    ((ordS (opL m nw).length k i).1 < 120 ∧ (ordS (opL m nw).length k i).2 < 2 ^ (opL m nw).length) ∧ (ordS (opL m nw).length k i).1 / fac ((opL m nw).length - 1 - i) < 6 ∧ ordI (opL m nw).length k i < (opL m nw).length ∧ skN (mkU m (ordS (opL m nw).length k i).2 (opL m nw) (opL m nw).length) nw 0 ((ordS (opL m nw).length k i).1 / fac ((opL m nw).length - 1 - i)) = (opL m nw).getD (ordI (opL m nw).length k i) 0 ∧ mkU m (ordS (opL m nw).length k (i + 1)).2 (opL m nw) (opL m nw).length = mkU m (ordS (opL m nw).length k i).2 (opL m nw) (opL m nw).length ||| 2 ^ ((opL m nw).getD (ordI (opL m nw).length k i) 0) ∧ (opL m nw).getD (ordI (opL m nw).length k i) 0 < nw ∧ mkU m (ordS (opL m nw).length k i).2 (opL m nw) (opL m nw).length < 64 := by
  obtain ⟨a, b, e⟩ := ord_inv hw hm h5 hk i (by omega)
  have a0 := a
  have hf : fac ((opL m nw).length - i) = ((opL m nw).length - i) * fac ((opL m nw).length - 1 - i) := by
    obtain ⟨d, hd⟩ : ∃ d, (opL m nw).length - i = d + 1 := ⟨(opL m nw).length - i - 1, by omega⟩
    rw [hd, show (opL m nw).length - 1 - i = d by omega]; rfl
  rw [hf] at a
  have hj : (ordS (opL m nw).length k i).1 / fac ((opL m nw).length - 1 - i) < (opL m nw).length - i := (Nat.div_lt_iff_lt_mul (fac_pos _)).mpr a
  have g := ck_get hw hm h5 e (j := (ordS (opL m nw).length k i).1 / fac ((opL m nw).length - 1 - i)) (by rw [b]; exact hj)
  have hs := fac_5 (show (opL m nw).length - i ≤ 5 by omega)
  exact ⟨⟨by omega, e⟩, by omega, g.1, g.2.1, g.2.2.1, g.2.2.2.2.1, g.2.2.2.2.2⟩
theorem mkU_0 (m : Nat) (O : List Nat) : ∀ n, mkU m 0 O n = m
  | 0 => rfl
  | n + 1 => by unfold mkU; rw [if_neg (by simp), mkU_0 m O n]
theorem opL_lt : ∀ n, ∀ w, w ∈ opL m n → w < n ∧ m.testBit w = false
  | 0, w, h => by simp [opL] at h
  | n + 1, w, h => by
    unfold opL at h
    by_cases c : m.testBit n = true
    · rw [if_pos c] at h
      have := opL_lt n w h
      exact ⟨by omega, this.2⟩
    · rw [if_neg c] at h
      rcases List.mem_append.mp h with q | q
      · have := opL_lt n w q
        exact ⟨by omega, this.2⟩
      · have : w = n := by simpa using q
        subst this
        exact ⟨by omega, by simpa using c⟩
theorem opL_len : ∀ n, (opL m n).length + cnt (fun w => m.testBit w) n = n
  | 0 => rfl
  | n + 1 => by
    have ih := opL_len n
    unfold opL cnt
    by_cases c : m.testBit n = true
    · rw [if_pos c, if_pos c]; omega
    · rw [if_neg c, if_neg c, List.length_append, List.length_singleton]; omega
theorem opL_le (n : Nat) : (opL m n).length ≤ n := by have := opL_len (m := m) n; omega
end Ord
theorem cnt_c {p p' : Nat → Bool} : ∀ {n : Nat}, (∀ i, i < n → p i = p' i) → cnt p n = cnt p' n
  | 0, _ => rfl
  | n + 1, e => by unfold cnt; rw [cnt_c (fun i hi => e i (by omega)), e n (by omega)]
theorem cnt_one {p : Nat → Bool} {x : Nat} (hx : p x = false) : ∀ n, cnt (fun w => p w || decide (w = x)) n = cnt p n + if x < n then 1 else 0
  | 0 => rfl
  | n + 1 => by
    unfold cnt
    rw [cnt_one hx n]
    by_cases d : n = x
    · subst d
      rw [hx, if_pos (by simp), if_neg (Nat.lt_irrefl _), if_pos (Nat.lt_succ_self _), if_neg (by decide)]
    · have e : (p n || decide (n = x)) = p n := by simp [d]
      rw [e]
      by_cases y : x < n
      · rw [if_pos y, if_pos (show x < n + 1 by omega)]; split <;> omega
      · rw [if_neg y, if_neg (show ¬ x < n + 1 by omega)]; split <;> omega
theorem cnt_mem : ∀ (bo : List Nat) (n : Nat), bo.Nodup → (∀ w, w ∈ bo → w < n) → cnt (fun w => decide (w ∈ bo)) n = bo.length
  | [], n, _, _ => cnt_0 (fun g _ => by simp)
  | x :: l, n, hd, h => by
    obtain ⟨h1, h2⟩ := List.nodup_cons.mp hd
    have ih := cnt_mem l n h2 (fun w hw => h w (List.mem_cons_of_mem _ hw))
    rw [cnt_c (p' := fun w => decide (w ∈ l) || decide (w = x)) (fun i _ => by
      by_cases d : i = x
      · subst d; simp
      · simp [d]), cnt_one (decide_eq_false h1), ih, if_pos (h x List.mem_cons_self)]
    rfl
/-- the works that are built, as bits; those that are not -/
def bmN (z : Zl) : Nat := nm (fun w => decide (w ∈ z.2)) (Cw z.1)
def opZ (z : Zl) : List Nat := opL (bmN z) (Cw z.1)
theorem bmN_lt (z : Zl) : bmN z < 2 ^ Cw z.1 := nm_lt _ _
theorem bmN_bit {z : Zl} {w : Nat} (hw : w < Cw z.1) : (bmN z).testBit w = decide (w ∈ z.2) := by
  unfold bmN
  rw [nm_bit]
  simp [hw]
theorem opZ_len {z : Zl} (o : okZ z) : (opZ z).length + z.2.length = Cw z.1 := by
  have h1 := opL_len (m := bmN z) (Cw z.1)
  rw [cnt_c (p' := fun w => decide (w ∈ z.2)) (fun i hi => bmN_bit hi), cnt_mem z.2 _ o.2.1 o.2.2] at h1
  exact h1
theorem bmN_64 {z : Zl} (h6 : Cw z.1 ≤ 6) : bmN z < 64 := Nat.lt_of_lt_of_le (bmN_lt z) (p2_6 h6)
theorem opZ_op {z : Zl} {w : Nat} (hw : w ∈ opZ z) : w < Cw z.1 ∧ w ∉ z.2 := by
  have := opL_lt _ w hw
  refine ⟨this.1, fun q => ?_⟩
  rw [bmN_bit this.1] at this
  simp [q] at this
/-- the i-th work of the k-th order -/
def ordW (z : Zl) (k i : Nat) : Nat := (opZ z).getD (ordI (opZ z).length k i) 0
theorem ordW_lt {z : Zl} (h6 : Cw z.1 ≤ 6) (h5 : (opZ z).length ≤ 5) {k : Nat} (hk : k < fac (opZ z).length) {i : Nat} (hi : i < (opZ z).length) : ordW z k i < Cw z.1 := (ord_get h6 (bmN_lt z) h5 hk hi).2.2.2.2.2.1
/-- the works W built one a year -/
def ordC (c : Core) (W : Nat → Nat) : Nat → Core
  | 0 => c
  | j + 1 => goC 1 (chargeC (ordC c W j) (Ck c (W j)))
theorem ordC_k (c : Core) (W : Nat → Nat) : ∀ n, Ck (ordC c W n) = Ck c ∧ Cf (ordC c W n) = Cf c ∧ Cw (ordC c W n) = Cw c
  | 0 => ⟨rfl, rfl, rfl⟩
  | n + 1 => ordC_k c W n
theorem ordC_ok {c : Core} (o : okC c) {W : Nat → Nat} : ∀ n, (∀ j, j < n → W j < Cw c) → okC (ordC c W n)
  | 0, _ => o
  | n + 1, h => okC_go (okC_charge (ordC_ok o n (fun j hj => h j (by omega))) (o.2.2.2 _ (h n (by omega)))) 1
def ordD (z : Zl) (k : Nat) : Int32 := debtsC (ordC z.1 (ordW z k) (opZ z).length)
theorem ordD_bd {z : Zl} (o : okZ z) (h5 : (opZ z).length ≤ 5) {k : Nat} (hk : k < fac (opZ z).length) : bd (ordD z k) 0 499995 :=
  debts_bd (ordC_ok o.1 _ (fun j hj => ordW_lt o.1.1.2 h5 hk hj))
/-- the first of the least -/
def orN (D : Nat → Int32) : Nat → Nat × Int32
  | 0 => (0, 2147483647)
  | k + 1 => if D k < (orN D k).2 then (k, D k) else orN D k
theorem orN_in {D : Nat → Int32} : ∀ n, 1 ≤ n → (∀ k, k < n → bd (D k) 0 499995) → ∃ j, j < n ∧ orN D n = (j, D j)
  | 0, h, _ => absurd h (by decide)
  | n + 1, _, hb => by
    obtain ⟨d, hd, _, h2⟩ := bd_of (hb n (by omega))
    unfold orN
    by_cases c : D n < (orN D n).2
    · rw [if_pos c]; exact ⟨n, by omega, rfl⟩
    · rw [if_neg c]
      by_cases z : n = 0
      · subst z
        exact absurd (show D 0 < 2147483647 from by rw [hd]; exact nI_lt (b := 2147483647) (by omega) (by decide)) c
      · obtain ⟨j, hj, e⟩ := orN_in n (by omega) (fun k hk => hb k (by omega))
        exact ⟨j, by omega, e⟩
def noO (z : Zl) (x : Int32) : Int32 := if x < -1 then -4 else if (opZ z).length ≤ 5 then 0 else -3
theorem nK_O (z : Zl) (x : Int32) : noO z x ≠ 0 → noK (noO z x) := by
  unfold noO noK
  split
  · intro _; simp
  · split
    · intro q; exact absurd rfl q
    · intro _; simp
def v_order (z : Zl) (x : Int32) : Int32 := if x = -1 then (orN (ordD z) (fac (opZ z).length)).2 else if nI (opZ z).length ≤ x then -9 else nI (ordW z (orN (ordD z) (fac (opZ z).length)).1 (ix x))
