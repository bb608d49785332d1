/-! ===== treasuries: what the letters tell ===== -/
def dgN (x : Int32) : Nat := if x = 98 then 1 else if x = 100 then 6 else if x = 102 then 4 else if x = 114 then 2 else if x = 119 then 5 else if x = 121 then 2 else 0
def isDg (x : Int32) : Bool := decide (¬ x < 48 ∧ ¬ 57 < x)
/-- the letter at p; -1 behind the end -/
def ltA (t : Nat × Row) (p : Nat) : Int32 := if p < t.1 then t.2 p else -1
/-- the first that is no digit, of d from q on (or what is behind them) -/
def dgE (L : Nat → Int32) : Nat → Nat → Nat
  | 0, q => q
  | d + 1, q => if isDg (L q) = true then dgE L d (q + 1) else q
def nuI (L : Nat → Int32) : Nat → Nat → Int32 → Int32
  | 0, _, v => v
  | d + 1, q, v => nuI L d (q + 1) (10 * v + L q - 48)
/-- a statement stands at p -/
def gdS (L : Nat → Int32) (p : Nat) : Bool := decide (dgN (L p) ≠ 0 ∧ dgE L (dgN (L p)) (p + 1) = p + 1 + dgN (L p) ∧ L (p + 1 + dgN (L p)) = 59)
/-- where it does not go on -/
def ftP (L : Nat → Int32) (p : Nat) : Nat := if dgN (L p) = 0 then p else dgE L (dgN (L p)) (p + 1)
/-- where the k-th statement stands -/
def plN (L : Nat → Int32) : Nat → Nat
  | 0 => 0
  | k + 1 => plN L k + dgN (L (plN L k)) + 2
/-- how many statements, or which is wrong -/
def frmN (L : Nat → Int32) (m : Nat) : Nat → Nat → Bool × Nat
  | 0, k => (true, k)
  | f + 1, k => if gdS L (plN L k) = true then (if m ≤ plN L (k + 1) then (true, k + 1) else frmN L m f (k + 1)) else (false, k)
theorem dgN_le (x : Int32) : dgN x ≤ 6 := by unfold dgN; split; decide; split; decide; split; decide; split; decide; split; decide; split <;> decide
theorem dgE_le (L : Nat → Int32) : ∀ d q, q ≤ dgE L d q ∧ dgE L d q ≤ q + d
  | 0, q => ⟨Nat.le_refl _, Nat.le_refl _⟩
  | d + 1, q => by
    have := dgE_le L d (q + 1)
    unfold dgE
    split <;> omega
theorem dgE_add (L : Nat → Int32) (b : Nat) : ∀ a q, dgE L (a + b) q = if dgE L a q = q + a then dgE L b (q + a) else dgE L a q
  | 0, q => by rw [Nat.zero_add]; rw [if_pos (show dgE L 0 q = q + 0 from rfl)]; rfl
  | a + 1, q => by
    rw [show a + 1 + b = (a + b) + 1 by omega]
    show (if isDg (L q) = true then dgE L (a + b) (q + 1) else q) = if (if isDg (L q) = true then dgE L a (q + 1) else q) = q + (a + 1) then dgE L b (q + (a + 1)) else (if isDg (L q) = true then dgE L a (q + 1) else q)
    by_cases c : isDg (L q) = true
    · rw [if_pos c, if_pos c, dgE_add L b a (q + 1), show q + 1 + a = q + (a + 1) by omega]
    · rw [if_neg c, if_neg c, if_neg (by omega)]
theorem dgE_all {L : Nat → Int32} : ∀ {d q}, dgE L d q = q + d → ∀ i, i < d → isDg (L (q + i)) = true
  | 0, _, _, i, hi => absurd hi (Nat.not_lt_zero _)
  | d + 1, q, e, i, hi => by
    unfold dgE at e
    by_cases c : isDg (L q) = true
    · rw [if_pos c] at e
      by_cases z : i = 0
      · subst z; exact c
      · have := dgE_all (L := L) (d := d) (q := q + 1) (by omega) (i - 1) (by omega)
        rw [show q + 1 + (i - 1) = q + i by omega] at this
        exact this
    · rw [if_neg c] at e; omega
theorem isDg_bd {x : Int32} (h : isDg x = true) : ∃ n, n ≤ 9 ∧ x = nI (n + 48) := by
  have h := of_decide_eq_true h
  have h0 : ¬ x < 0 := fun z => h.1 (Int32.lt_of_lt_of_le z (by decide))
  obtain ⟨m, hm, rfl⟩ := nI_of h0
  have h1 : 48 ≤ m := Nat.le_of_not_lt fun z => h.1 (nI_lt (b := 48) z (by decide))
  have h2 : m ≤ 57 := Nat.le_of_not_lt fun z => h.2 (nI_lt (a := 57) z hm)
  exact ⟨m - 48, by omega, by congr 1; omega⟩
theorem nuI_step {v : Nat} {x : Int32} (h : isDg x = true) : ∃ n, n ≤ 9 ∧ 10 * nI v + x - 48 = nI (10 * v + n) := by
  obtain ⟨n, hn, rfl⟩ := isDg_bd h
  refine ⟨n, hn, ?_⟩
  rw [show (10 : Int32) = nI 10 from rfl, show (48 : Int32) = nI 48 from rfl, nI_mul, nI_add, nI_subI (by omega)]
  congr 1
theorem nuI_bd {L : Nat → Int32} : ∀ (d q v : Nat), (∀ i, i < d → isDg (L (q + i)) = true) → ∃ n, nuI L d q (nI v) = nI n ∧ n < (v + 1) * 10 ^ d
  | 0, q, v, _ => ⟨v, rfl, by simp⟩
  | d + 1, q, v, h => by
    obtain ⟨n, hn, e⟩ := nuI_step (v := v) (h 0 (by omega))
    unfold nuI
    rw [Nat.add_zero] at e
    rw [e]
    obtain ⟨r, h1, h2⟩ := nuI_bd d (q + 1) (10 * v + n) (fun i hi => by
      have := h (i + 1) (by omega)
      rw [show q + (i + 1) = q + 1 + i by omega] at this
      exact this)
    refine ⟨r, h1, Nat.lt_of_lt_of_le h2 ?_⟩
    rw [Nat.pow_succ, ← Nat.mul_assoc, Nat.mul_right_comm]
    exact Nat.mul_le_mul_right _ (by omega)
theorem nuI_0 {L : Nat → Int32} {d q : Nat} (h : ∀ i, i < d → isDg (L (q + i)) = true) (hd : d ≤ 6) : bd (nuI L d q 0) 0 (10 ^ d - 1) := by
  obtain ⟨n, e, hn⟩ := nuI_bd d q 0 h
  have e' : nuI L d q 0 = nI n := e
  rw [e']
  have : 10 ^ d ≤ 10 ^ 6 := Nat.pow_le_pow_right (by decide) hd
  rw [Nat.zero_add, Nat.one_mul] at hn
  exact bd_nI (by omega) (by omega) (by omega)
-- a statement comes
def noSt (L : Nat → Int32) (z : Zl) (p : Nat) : Int32 :=
  if L p = 98 then noB z (nuI L 1 (p + 1) 0) else if L p = 100 then noD z.1 (nuI L 1 (p + 1) 0) (nuI L 5 (p + 2) 0) else if L p = 102 then noFam z.1 (nuI L 2 (p + 1) 0) (nuI L 1 (p + 3) 0) (nuI L 1 (p + 4) 0)
  else if L p = 114 then outN (nuI L 2 (p + 1) 0) 0 20 else if L p = 119 then noWork z.1 (nuI L 1 (p + 1) 0) (nuI L 1 (p + 2) 0) (nuI L 3 (p + 3) 0) else noY z.1 (nuI L 2 (p + 1) 0)
def nxZ (L : Nat → Int32) (z : Zl) (p : Nat) : Zl :=
  if L p = 98 then (chargeC z.1 (Ck z.1 (ix (nuI L 1 (p + 1) 0))), z.2 ++ [ix (nuI L 1 (p + 1) 0)]) else if L p = 100 then (cM z.1 (setM (Cm z.1) (ix (nuI L 1 (p + 1) 0)) (rs (Cm z.1 (ix (nuI L 1 (p + 1) 0))) 1 (nuI L 5 (p + 2) 0))), z.2)
  else if L p = 102 then (addFam z.1 (nuI L 2 (p + 1) 0) (nuI L 1 (p + 3) 0) (nuI L 1 (p + 4) 0), z.2) else if L p = 114 then (cR z.1 (nuI L 2 (p + 1) 0), z.2)
  else if L p = 119 then (addWork z.1 (wkRow (nuI L 1 (p + 1) 0) (nuI L 1 (p + 2) 0) (nuI L 3 (p + 3) 0)), z.2) else (goC (ix (nuI L 2 (p + 1) 0)) z.1, z.2)
theorem nK_St (L : Nat → Int32) (z : Zl) (p : Nat) : noSt L z p ≠ 0 → noK (noSt L z p) := by
  unfold noSt
  split
  · exact nK_B _ _
  · split
    · exact nK_D _ _ _
    · split
      · exact nK_Fam _ _ _ _
      · split
        · exact nK_out _ _ _
        · split
          · exact nK_Work _ _ _ _
          · exact nK_Y _ _
theorem noY_0 {c : Core} {x : Int32} (e : noY c x = 0) : ∃ n, x = nI n ∧ 1 ≤ n ∧ n ≤ 60 := by
  unfold noY at e
  by_cases d : outN x 1 60 = 0
  · obtain ⟨n, hn, rfl, h1, h2⟩ := outN_0 (lo := 1) (hi := 60) (by decide) d
    exact ⟨n, rfl, h1, h2⟩
  · rw [if_neg d] at e; exact absurd e d
theorem noD_0 {c : Core} {x y : Int32} (h5 : Cf c ≤ 5) (e : noD c x y = 0) : ∃ f, f < Cf c ∧ x = nI f ∧ bd y 0 99999 := by
  unfold noD at e
  by_cases d : offN x (Cf c)
  · rw [if_pos d] at e; exact absurd e (by decide)
  · rw [if_neg d] at e
    obtain ⟨f, hf, rfl⟩ := on_nI (by omega) d
    exact ⟨f, hf, rfl, outN_bd (by decide) e⟩
theorem okZ_b {z : Zl} (o : okZ z) {x : Int32} (e : noB z x = 0) : okZ (chargeC z.1 (Ck z.1 (ix x)), z.2 ++ [ix x]) := by
  have h6 := o.1.1.2
  obtain ⟨w, hw, rfl, hn⟩ := noB_0 h6 e
  rw [ix_nI (by omega)]
  exact ⟨okC_charge o.1 (o.1.2.2.2 w hw), okB_add o.2 hw hn⟩
theorem okZ_d {z : Zl} (o : okZ z) {x y : Int32} (e : noD z.1 x y = 0) : okZ (cM z.1 (setM (Cm z.1) (ix x) (rs (Cm z.1 (ix x)) 1 y)), z.2) := by
  have h5 := o.1.1.1
  obtain ⟨f, hf, rfl, hy⟩ := noD_0 h5 e
  rw [ix_nI (by omega)]
  exact ⟨okC_set o.1 (RgF_1 (o.1.2.2.1 f hf) hy), o.2⟩
theorem okZ_f {z : Zl} (o : okZ z) {x y t : Int32} (e : noFam z.1 x y t = 0) : okZ (addFam z.1 x y t, z.2) := ⟨okC_fam o.1 e, o.2⟩
theorem okZ_r {z : Zl} (o : okZ z) {x : Int32} (e : outN x 0 20 = 0) : okZ (cR z.1 x, z.2) := ⟨okC_rt o.1 (outN_bd (lo := 0) (hi := 20) (by decide) e), o.2⟩
theorem okZ_w {z : Zl} (o : okZ z) {x y t : Int32} (e : noWork z.1 x y t = 0) : okZ (addWork z.1 (wkRow x y t), z.2) := ⟨okC_wk o.1 e, okB_le o.2 (Nat.le_succ _)⟩
theorem okZ_y {z : Zl} (o : okZ z) (n : Nat) : okZ (goC n z.1, z.2) := ⟨okC_go o.1 n, o.2⟩
theorem okZ_nx {L : Nat → Int32} {z : Zl} {p : Nat} (o : okZ z) (e : noSt L z p = 0) : okZ (nxZ L z p) := by
  unfold noSt at e
  unfold nxZ
  by_cases c1 : L p = 98
  · rw [if_pos c1] at e; rw [if_pos c1]; exact okZ_b o e
  rw [if_neg c1] at e; rw [if_neg c1]
  by_cases c2 : L p = 100
  · rw [if_pos c2] at e; rw [if_pos c2]; exact okZ_d o e
  rw [if_neg c2] at e; rw [if_neg c2]
  by_cases c3 : L p = 102
  · rw [if_pos c3] at e; rw [if_pos c3]; exact okZ_f o e
  rw [if_neg c3] at e; rw [if_neg c3]
  by_cases c4 : L p = 114
  · rw [if_pos c4] at e; rw [if_pos c4]; exact okZ_r o e
  rw [if_neg c4] at e; rw [if_neg c4]
  by_cases c5 : L p = 119
  · rw [if_pos c5] at e; rw [if_pos c5]; exact okZ_w o e
  rw [if_neg c5]
  exact okZ_y o _
/-- the ledger behind j statements -/
def zzN (L : Nat → Int32) (z : Zl) : Nat → Zl
  | 0 => z
  | j + 1 => nxZ L (zzN L z j) (plN L j)
/-- the first that does not fit -/
def enN (L : Nat → Int32) (z : Zl) : Nat → Nat → Option Nat
  | 0, _ => none
  | d + 1, j => if noSt L (zzN L z j) (plN L j) = 0 then enN L z d (j + 1) else some j
/-- the letters are no more -/
def noL (s : Sta) : Sta := ltrS s (0, (zL s).2)
def treB (s : Sta) (n : Nat) : Option Nat → Int32 × Sta
  | none => (nI n, pastS (nowS (noL s) (zzN (ltA (zL s)) s.1 n)) [])
  | some j => (-2000 - nI (plN (ltA (zL s)) j), noL s)
def treA (s : Sta) : Bool × Nat → Int32 × Sta
  | (false, k) => (-1000 - nI (ftP (ltA (zL s)) (plN (ltA (zL s)) k)), noL s)
  | (true, n) => treB s n (enN (ltA (zL s)) s.1 n 0)
def r_treasury (s : Sta) : Int32 × Sta := treA s (frmN (ltA (zL s)) (zL s).1 97 0)
theorem gd_m {t : Nat × Row} {p : Nat} (h : gdS (ltA t) p = true) : p + 1 + dgN (ltA t p) < t.1 := by
  have h := of_decide_eq_true h
  have h2 := h.2.2
  unfold ltA at h2
  by_cases c : p + 1 + dgN (if p < t.1 then t.2 p else -1) < t.1
  · exact c
  · rw [if_neg c] at h2; exact absurd h2 (by decide)
theorem gd_ge {t : Nat × Row} {p : Nat} (h : gdS (ltA t) p = true) : 1 ≤ dgN (ltA t p) := by
  have h := (of_decide_eq_true h).1
  omega
theorem frm_ok {t : Nat × Row} (hm : t.1 ≤ 96) : ∀ f k, k + f = 97 → 3 * k ≤ plN (ltA t) k → (k = 0 ∨ plN (ltA t) k < t.1) → ∀ n, frmN (ltA t) t.1 f k = (true, n) → k < n ∧ n ≤ 33 ∧ (∀ j, k ≤ j → j < n → gdS (ltA t) (plN (ltA t) j) = true ∧ plN (ltA t) j < t.1) ∧ t.1 ≤ plN (ltA t) n
  | 0, k, e, h3, hp, _, _ => by omega
  | f + 1, k, e, h3, hp, n, hn => by
    unfold frmN at hn
    by_cases c : gdS (ltA t) (plN (ltA t) k) = true
    · rw [if_pos c] at hn
      have g1 := gd_m c
      have g2 := gd_ge c
      have ps : plN (ltA t) (k + 1) = plN (ltA t) k + dgN (ltA t (plN (ltA t) k)) + 2 := rfl
      by_cases c2 : t.1 ≤ plN (ltA t) (k + 1)
      · rw [if_pos c2] at hn
        have : n = k + 1 := by injection hn with _ q; exact q.symm
        subst this
        refine ⟨by omega, by omega, fun j h1 h2 => ?_, c2⟩
        rw [show j = k by omega]
        exact ⟨c, by omega⟩
      · rw [if_neg c2] at hn
        obtain ⟨a, b, d, e'⟩ := frm_ok hm f (k + 1) (by omega) (by omega) (Or.inr (by omega)) n hn
        refine ⟨by omega, b, fun j h1 h2 => ?_, e'⟩
        by_cases z : j = k
        · rw [z]; exact ⟨c, by omega⟩
        · exact d j (by omega) h2
    · rw [if_neg c] at hn
      injection hn with q _
      exact absurd q (by decide)
theorem zz_ok {L : Nat → Int32} {z : Zl} (o : okZ z) : ∀ n, (∀ j, j < n → noSt L (zzN L z j) (plN L j) = 0) → okZ (zzN L z n)
  | 0, _ => o
  | n + 1, h => okZ_nx (zz_ok o n (fun j hj => h j (by omega))) (h n (by omega))
theorem en_none {L : Nat → Int32} {z : Zl} : ∀ d j, enN L z d j = none → ∀ i, j ≤ i → i < j + d → noSt L (zzN L z i) (plN L i) = 0
  | 0, _, _, i, h1, h2 => by omega
  | d + 1, j, e, i, h1, h2 => by
    unfold enN at e
    by_cases c : noSt L (zzN L z j) (plN L j) = 0
    · rw [if_pos c] at e
      by_cases y : i = j
      · rw [y]; exact c
      · exact en_none d (j + 1) e i (by omega) (by omega)
    · rw [if_neg c] at e
      exact absurd e (by simp)
theorem okS_noL {s : Sta} (o : okS s) : okS (noL s) := ⟨o.1, o.2.1, o.2.2.1, o.2.2.2.1, Nat.zero_le _, o.2.2.2.2.2⟩
theorem okS_tre {s : Sta} (o : okS s) : okS (r_treasury s).2 := by
  unfold r_treasury
  cases hf : frmN (ltA (zL s)) (zL s).1 97 0 with
  | mk b n =>
    cases b with
    | false => exact okS_noL o
    | true =>
      show okS (treB s n (enN (ltA (zL s)) s.1 n 0)).2
      cases he : enN (ltA (zL s)) s.1 n 0 with
      | none => exact okS_no (okS_noL o) (zz_ok o.1 n (fun j hj => en_none n 0 he j (Nat.zero_le _) (by omega)))
      | some j => exact okS_noL o
