/-! ===== years in a row; what is thought is put back ===== -/
theorem goC_1 (n : Nat) (c : Core) : goC 1 (goC n c) = goC (n + 1) c := by
  have e : Cy c + nI n + nI 1 = Cy c + nI (n + 1) := by rw [Int32.add_assoc, nI_add]
  have e2 : ∀ r, rYears (Cr c) (Cy c + nI n) 1 (rYears (Cr c) (Cy c) n r) = rYears (Cr c) (Cy c) (n + 1) r := fun r => by
    show rYear (Cr c) (Cy c + nI n + nI 1) (rYears (Cr c) (Cy c) n r) = rYear (Cr c) (Cy c + nI (n + 1)) (rYears (Cr c) (Cy c) n r)
    rw [e]
  show (Cf c, Cw c, Cy c + nI n + nI 1, Cr c, (fun f => rYears (Cr c) (Cy c + nI n) 1 (rYears (Cr c) (Cy c) n (Cm c f))), Ck c) = (Cf c, Cw c, Cy c + nI (n + 1), Cr c, (fun f => rYears (Cr c) (Cy c) (n + 1) (Cm c f)), Ck c)
  rw [e]
  simp only [e2]
theorem goC_0 (c : Core) : goC 0 c = c := by
  show (Cf c, Cw c, Cy c + nI 0, Cr c, (fun f => Cm c f), Ck c) = c
  rw [nI_0, Int32.add_zero]
/-- what one pays in n years -/
def paidN (n : Nat) (c : Core) (f : Nat) : Int32 := sumN (fun j => dPaid (Cr c) (Cm (goC j c) f)) n
def bornN (n : Nat) (c : Core) : Int32 := sumN (fun j => sumN (fun f => dBorn (Cr c) (Cy c + nI j + 1) (Cm (goC j c) f)) (Cf c)) n
section RefGo
variable {h : PH} {c : Core}
theorem t_Q_goYears (L : Liv h c) (o : okC c) {n : Nat} (hn : n < 2 ^ 30) {k : PH → Prop}
    (hk : ∀ h', Fs SY h h' → Liv h' (goC n c) → (∀ f, f < Cf c → gI h' 135 f = paidN n c f) → gI h' 123 16 = bornN n c → k h') : ccV m_Q_goYears h [.ref 123, .int (nI n)] k := by
  have q := qw L.1
  have h5 := L.2.1.1
  rw [c_Q_goYears]
  refine ⟨q.1, ?_⟩
  refine hp (A := fun i h' => Fs SY h h' ∧ Liv h' c ∧ gI h' 123 16 = 0 ∧ ∀ f, f < i → gI h' 135 f = 0)
    (X := fun i h' => wp m_Q_goYears h' 7 [some (.ref 123), some (.int (nI n)), some (.int (nI i))] [] (tyV k)) 5 ?_ ?_ 0 (Nat.zero_le _) _ ⟨Fs_sI _ _ _ _ (Or.inl ⟨rfl, Or.inr rfl⟩), Liv_fs (S := fun b j => b = 123 ∧ j = 16) L (Fs_sI _ _ _ _ ⟨rfl, rfl⟩) (fun b j z => by unfold LRg; omega), gI_sI_eq _ _ _ _, fun f hf => absurd hf (by omega)⟩
  · intro h1 ⟨fr1, L1, b1, p1⟩
    rw [e_Q_goYears_7, if_pos (show (5 : Int32) ≤ nI 5 by decide)]
    refine hp (A := fun i h' => Fs SY h h' ∧ Liv h' (goC i c) ∧ (∀ f, f < Cf c → gI h' 135 f = paidN i c f) ∧ gI h' 123 16 = bornN i c)
      (X := fun i h' => wp m_Q_goYears h' 27 [some (.ref 123), some (.int (nI n)), some (.int (nI i))] [] (tyV k)) n ?_ ?_ 0 (Nat.zero_le _) h1 ⟨fr1, by rw [goC_0]; exact L1, fun f hf => p1 f (by omega), b1⟩
    · intro h' ⟨fr, L', p', b'⟩
      rw [e_Q_goYears_27, if_pos (Int32.le_refl _)]
      exact hk h' fr L' p' b'
    · intro i hi h' ⟨fr, L', p', b'⟩ ih
      rw [e_Q_goYears_27, if_neg (nI_ge hi (by omega))]
      refine ⟨L'.1.1, t_Q_yearOn L' (okC_go o i) fun h2 fr2 L2 p2 b2 => ?_⟩
      rw [nI_1]
      rw [goC_1] at L2
      exact ih h2 ⟨Fs_trans fr fr2, L2, fun f hf => by rw [p2 f hf, p' f hf]; rfl, by rw [b2, b']; rfl⟩
  · intro i hi h' ⟨fr, L', b', p'⟩ ih
    have q' := qw L'.1
    rw [e_Q_goYears_7, if_neg (n5 hi), ix_nI (by omega)]
    simp only [q', true_and, inb_nI hi (show 5 < 2 ^ 31 by decide), nI_1]
    have fr2 : Fs (fun b j => b = 135) h' (sI h' 135 i 0) := Fs_sI _ _ _ _ rfl
    refine ih _ ⟨Fs_trans fr (Fs_mono fr2 (fun b j z => Or.inr (Or.inr (Or.inr z)))), Liv_fs L' fr2 (fun b j z => by unfold LRg; omega), by rw [gI_sI_ne _ _ _ _ (by omega)]; exact b', fun f hf => ?_⟩
    by_cases d : f = i
    · subst d; rw [gI_sI_eq]
    · rw [gI_sI_ne _ _ _ _ (fun z => d z.2)]; exact p' f (by omega)
end RefGo
/-- where the j-th of the 48 numbers lives -/
def loc (j : Nat) : Nat × Nat := if j = 0 then (123, 0) else if j = 1 then (123, 7) else if j = 2 then (123, 5) else if j = 3 then (123, 6) else if j < 24 then (124 + (j - 4) % 4, (j - 4) / 4) else (128 + (j - 24) % 4, (j - 24) / 4)
def lv (h : PH) (j : Nat) : Int32 := gI h (loc j).1 (loc j).2
theorem loc_f {i : Nat} (hi : i < 5) {d : Nat} (hd : d < 4) : loc (4 + 4 * i + d) = (124 + d, i) := by
  unfold loc
  rw [if_neg (by omega), if_neg (by omega), if_neg (by omega), if_neg (by omega), if_pos (by omega)]
  rw [show (4 + 4 * i + d - 4) % 4 = d by omega, show (4 + 4 * i + d - 4) / 4 = i by omega]
theorem loc_w {i : Nat} {d : Nat} (hd : d < 4) : loc (24 + 4 * i + d) = (128 + d, i) := by
  unfold loc
  rw [if_neg (by omega), if_neg (by omega), if_neg (by omega), if_neg (by omega), if_neg (by omega)]
  rw [show (24 + 4 * i + d - 24) % 4 = d by omega, show (24 + 4 * i + d - 24) / 4 = i by omega]
theorem loc_inj {i j : Nat} (hi : i < 48) (hj : j < 48) (e : (loc i).1 = (loc j).1 ∧ (loc i).2 = (loc j).2) : i = j := by
  have key : ∀ i j : Fin 48, ((loc i.1).1 = (loc j.1).1 ∧ (loc i.1).2 = (loc j.1).2) → i.1 = j.1 := by decide +kernel
  exact key ⟨i, hi⟩ ⟨j, hj⟩ e
theorem loc_in {i : Nat} (hi : i < 48) : ((loc i).1 = 123 ∧ ((loc i).2 = 0 ∨ (loc i).2 = 5 ∨ (loc i).2 = 6 ∨ (loc i).2 = 7)) ∨ (124 ≤ (loc i).1 ∧ (loc i).1 ≤ 131) := by
  have key : ∀ i : Fin 48, ((loc i.1).1 = 123 ∧ ((loc i.1).2 = 0 ∨ (loc i.1).2 = 5 ∨ (loc i.1).2 = 6 ∨ (loc i.1).2 = 7)) ∨ (124 ≤ (loc i.1).1 ∧ (loc i.1).1 ≤ 131) := by decide +kernel
  exact key ⟨i, hi⟩
/-- the places that a carrying changes -/
def SC (b : Nat) (a i : Nat) : Prop := a = b ∨ (a = 123 ∧ (i = 0 ∨ i = 5 ∨ i = 6 ∨ i = 7 ∨ i = 29 ∨ i = 30)) ∨ (124 ≤ a ∧ a ≤ 131)
/-- on the way of a carrying -/
def Cst (h0 : PH) (V : Nat → Int32) (b : Nat) (t : Bool) (h : PH) (p : Nat) : Prop := isQ h ∧ Fs (SC b) h0 h ∧ gR h 123 31 = b ∧ gI h 123 30 = (if t = true then 1 else 0) ∧ gI h 123 29 = nI p ∧ (∀ j, j < p → lv h j = V j) ∧ (∀ j, j < p → gI h b j = V j) ∧ (t = true → ∀ j, j < 48 → lv h j = V j) ∧ (¬ t = true → ∀ j, j < 48 → gI h b j = V j)
theorem lv_row (h : PH) {b : Nat} (hb : 132 ≤ b) (i : Nat) (x : Int32) {j : Nat} (hj : j < 48) : lv (sI h b i x) j = lv h j := by
  have := loc_in hj
  exact gI_sI_ne _ _ _ _ (by omega)
theorem lv_29 (h : PH) (x : Int32) {j : Nat} (hj : j < 48) : lv (sI h 123 29 x) j = lv h j := by
  have := loc_in hj
  exact gI_sI_ne _ _ _ _ (by omega)
theorem lv_eq (h : PH) (p : Nat) (x : Int32) : lv (sI h (loc p).1 (loc p).2 x) p = x := gI_sI_eq _ _ _ _
theorem lv_ne (h : PH) {p j : Nat} (hp : p < 48) (hj : j < 48) (e : j ≠ p) (x : Int32) : lv (sI h (loc p).1 (loc p).2 x) j = lv h j := gI_sI_ne _ _ _ _ (fun z => e (loc_inj hj hp z))
theorem bt48 {h : PH} {b : Nat} (q : isQ h) (hb : b = 140 ∨ b = 141 ∨ b = 143) : tg h b = 100 ∧ ln h b = 48 := by
  have w := qw q
  rcases hb with rfl | rfl | rfl <;> simp only [w, true_and]
theorem t_Q_carry {h h0 : PH} {V : Nat → Int32} {b p : Nat} {t : Bool} (C : Cst h0 V b t h p) (hb : b = 140 ∨ b = 141 ∨ b = 143) (hp : p < 48) {v : Int32} (hv : v = lv h p) {k : PH → Int32 → Prop}
    (hk : ∀ h1, isQ h1 → Cst h0 V b t (sI h1 (loc p).1 (loc p).2 (V p)) (p + 1) → k h1 (V p)) : ccI m_Q_carry h [.ref 123, .int v] k := by
  obtain ⟨q, fr, r31, g30, g29, la, ra, lt, rt⟩ := C
  have b48 := bt48 q hb
  have lp := loc_in hp
  have e17 : ∀ h2, isQ h2 → gR h2 123 31 = b → gI h2 123 29 = nI p → ∀ v2 : Int32, wp m_Q_carry h2 17 [some (.ref 123), some (.int v2)] [] (tyI k) = k (sI h2 123 29 (nI (p + 1))) (gI h2 b p) := by
    intro h2 q2 r2 g2 v2
    have b2 := bt48 q2 hb
    rw [e_Q_carry_17]
    simp only [tg_sI, ln_sI, gR_sI, q2.1, r2, g2, nI_1, gI_sI_eq, nI_pred, b2.1, b2.2, true_and, true_or, inb_nI hp (show 48 < 2 ^ 31 by decide)]
    rw [ix_nI (by omega), gI_sI_ne _ _ _ _ (by omega)]
  have step : ∀ h2, isQ h2 → Fs (SC b) h0 h2 → gR h2 123 31 = b → gI h2 123 30 = (if t = true then 1 else 0) → (∀ j, j < 48 → lv h2 j = lv h j) → (∀ j, j < 48 → j ≠ p → gI h2 b j = gI h b j) → gI h2 b p = V p →
      Cst h0 V b t (sI (sI h2 123 29 (nI (p + 1))) (loc p).1 (loc p).2 (V p)) (p + 1) := by
    intro h2 q2 fr2 r2 g2 l2 w2 e2
    have fr3 : Fs (SC b) h2 (sI (sI h2 123 29 (nI (p + 1))) (loc p).1 (loc p).2 (V p)) := Fs_trans (Fs_sI _ _ _ _ (by unfold SC; omega)) (Fs_sI _ _ _ _ (by unfold SC; omega))
    have lall : ∀ j, j < 48 → lv h j = V j → lv (sI (sI h2 123 29 (nI (p + 1))) (loc p).1 (loc p).2 (V p)) j = V j := by
      intro j hj e
      by_cases d : j = p
      · subst d; exact lv_eq _ _ _
      · rw [lv_ne _ hp hj d, lv_29 _ _ hj, l2 j hj, e]
    have rall : ∀ j, j < 48 → (j ≠ p → gI h b j = V j) → gI (sI (sI h2 123 29 (nI (p + 1))) (loc p).1 (loc p).2 (V p)) b j = V j := by
      intro j hj e
      rw [gI_sI_ne _ _ _ _ (by omega), gI_sI_ne _ _ _ _ (by omega)]
      by_cases d : j = p
      · subst d; exact e2
      · rw [w2 j hj d]; exact e d
    refine ⟨isQ_fs q2 fr3, Fs_trans fr2 fr3, r2, ?_, ?_, fun j hj => ?_, fun j hj => ?_, fun ht j hj => lall j hj (lt ht j hj), fun ht j hj => rall j hj (fun _ => rt ht j hj)⟩
    · rw [gI_sI_ne _ _ _ _ (by omega), gI_sI_ne _ _ _ _ (by omega)]; exact g2
    · rw [gI_sI_ne _ _ _ _ (by omega), gI_sI_eq]
    · by_cases d : j = p
      · subst d; exact lv_eq _ _ _
      · exact lall j (by omega) (la j (by omega))
    · exact rall j (by omega) (fun d => ra j (by omega))
  rw [c_Q_carry, g30]
  refine ⟨q.1, ?_⟩
  cases t with
  | true =>
    have hvp : v = V p := by rw [hv]; exact lt rfl p hp
    rw [if_pos rfl, if_neg (by decide), r31, g29, ix_nI (by omega)]
    simp only [q.1, b48.1, b48.2, true_and, inb_nI hp (show 48 < 2 ^ 31 by decide)]
    have fr2 : Fs (SC b) h (sI h b p v) := Fs_sI _ _ _ _ (Or.inl rfl)
    have q2 := isQ_fs q fr2
    rw [e17 _ q2 r31 (by rw [gI_sI_ne _ _ _ _ (by omega)]; exact g29), gI_sI_eq, hvp]
    rw [hvp] at fr2 q2
    refine hk _ (isQ_fs q2 (Fs_sI (S := fun _ _ => True) _ _ _ _ trivial)) (step _ q2 (Fs_trans fr fr2) r31 ?_ (fun j hj => lv_row _ (by omega) _ _ hj) (fun j _ d => gI_sI_ne _ _ _ _ (fun z => d z.2)) (gI_sI_eq _ _ _ _))
    rw [gI_sI_ne _ _ _ _ (by omega)]; exact g30
  | false =>
    have e := rt (by decide) p hp
    rw [if_pos (show (if false = true then (1 : Int32) else 0) = 0 by decide), e17 h q r31 g29, e]
    exact hk _ (isQ_fs q (Fs_sI (S := fun _ _ => True) _ _ _ _ trivial)) (step h q fr r31 g30 (fun _ _ => rfl) (fun _ _ _ => rfl) e)
theorem t_Q_carryAll {h : PH} (q : isQ h) {V : Nat → Int32} {b : Nat} (hb : b = 140 ∨ b = 141 ∨ b = 143) (t : Bool) {x : Int32} (hx : x = if t = true then 1 else 0) (lt : t = true → ∀ j, j < 48 → lv h j = V j) (rt : ¬ t = true → ∀ j, j < 48 → gI h b j = V j) {k : PH → Prop}
    (hk : ∀ h', Fs (SC b) h h' → (∀ j, j < 48 → lv h' j = V j) → (∀ j, j < 48 → gI h' b j = V j) → k h') : ccV m_Q_carryAll h [.ref 123, .ref b, .int x] k := by
  rw [c_Q_carryAll]
  have x01 : x = 0 ∨ x = 1 := by rw [hx]; cases t <;> decide
  have frA : Fs (SC b) h (sR h 123 31 b) := Fs_sR _ _
  have frB : Fs (SC b) (sR h 123 31 b) (sI (sI (sR h 123 31 b) 123 30 x) 123 29 0) := Fs_trans (Fs_sI _ _ _ _ (by unfold SC; omega)) (Fs_sI _ _ _ _ (by unfold SC; omega))
  have C0 : Cst h V b t (sI (sI (sR h 123 31 b) 123 30 x) 123 29 0) 0 := by
    refine ⟨isQ_fs q (Fs_trans frA frB), Fs_trans frA frB, (gR_sR_eq h 123 31 b : gR (sR h 123 31 b) 123 31 = b), ?_, gI_sI_eq _ _ _ _, fun j hj => absurd hj (by omega), fun j hj => absurd hj (by omega), fun ht j hj => ?_, fun ht j hj => ?_⟩
    · rw [gI_sI_ne _ _ _ _ (by omega), gI_sI_eq]; exact hx
    · rw [lv_29 _ _ hj]
      have := loc_in hj
      exact (gI_sI_ne _ _ _ _ (by omega)).trans (lt ht j hj)
    · rw [gI_sI_ne _ _ _ _ (by omega), gI_sI_ne _ _ _ _ (by omega)]
      exact rt ht j hj
  simp only [tg_sR, tg_sI, q.1, x01, true_and]
  have l0 : loc 0 = (123, 0) := rfl
  have l1 : loc 1 = (123, 7) := rfl
  have l2 : loc 2 = (123, 5) := rfl
  have l3 : loc 3 = (123, 6) := rfl
  refine t_Q_carry C0 hb (by decide) rfl fun h1 q1 C1 => ?_
  rw [l0] at C1
  refine ⟨q1.1, C1.1.1, C1.1.1, t_Q_carry C1 hb (by decide) rfl fun h2 q2 C2 => ?_⟩
  rw [l1] at C2
  refine ⟨q2.1, C2.1.1, C2.1.1, t_Q_carry C2 hb (by decide) rfl fun h3 q3 C3 => ?_⟩
  rw [l2] at C3
  refine ⟨q3.1, C3.1.1, C3.1.1, t_Q_carry C3 hb (by decide) rfl fun h4 q4 C4 => ?_⟩
  rw [l3] at C4
  refine ⟨q4.1, ?_⟩
  have works : ∀ h5, Cst h V b t h5 24 → wp m_Q_carryAll h5 142 [some (.ref 123), some (.ref b), some (.int x), some (.int 0)] [] (tyV k) := by
    intro h5 C5
    refine hp (A := fun i h' => Cst h V b t h' (24 + 4 * i)) (X := fun i h' => wp m_Q_carryAll h' 142 [some (.ref 123), some (.ref b), some (.int x), some (.int (nI i))] [] (tyV k)) 6 ?_ ?_ 0 (Nat.zero_le _) h5 C5
    · intro h' C'
      rw [e_Q_carryAll_142, if_pos (show (6 : Int32) ≤ nI 6 by decide)]
      exact hk h' C'.2.1 C'.2.2.2.2.2.1 C'.2.2.2.2.2.2.1
    · intro i hi h' C' ih
      have bi := inb_nI hi (show 6 < 2 ^ 31 by decide)
      have xi := ix_nI (show i < 2 ^ 31 by omega)
      have w' := qw C'.1
      have m0 := loc_w (i := i) (d := 0) (by decide)
      have m1 := loc_w (i := i) (d := 1) (by decide)
      have m2 := loc_w (i := i) (d := 2) (by decide)
      have m3 := loc_w (i := i) (d := 3) (by decide)
      rw [e_Q_carryAll_142, if_neg (n6 hi), xi]
      simp only [w', true_and, true_or, bi]
      refine t_Q_carry C' hb (by omega) (by unfold lv; rw [show loc (24 + 4 * i) = (128, i) from m0]) fun h1 q1 C1 => ?_
      rw [show loc (24 + 4 * i) = (128, i) from m0] at C1
      have w1 := qw q1
      simp only [tg_sI, ln_sI, gR_sI, w1, true_and, true_or, bi]
      refine t_Q_carry C1 hb (by omega) (by unfold lv; rw [show loc (24 + 4 * i + 1) = (129, i) from m1]) fun h2 q2 C2 => ?_
      rw [show loc (24 + 4 * i + 1) = (129, i) from m1] at C2
      have w2 := qw q2
      simp only [tg_sI, ln_sI, gR_sI, w2, true_and, true_or, bi]
      refine t_Q_carry C2 hb (by omega) (by unfold lv; rw [show loc (24 + 4 * i + 1 + 1) = (130, i) from m2]) fun h3 q3 C3 => ?_
      rw [show loc (24 + 4 * i + 1 + 1) = (130, i) from m2] at C3
      have w3 := qw q3
      simp only [tg_sI, ln_sI, gR_sI, w3, true_and, true_or, bi]
      refine t_Q_carry C3 hb (by omega) (by unfold lv; rw [show loc (24 + 4 * i + 1 + 1 + 1) = (131, i) from m3]) fun h4 q4 C4 => ?_
      rw [show loc (24 + 4 * i + 1 + 1 + 1) = (131, i) from m3] at C4
      have w4 := qw q4
      simp only [tg_sI, ln_sI, gR_sI, w4, true_and, true_or, bi, nI_1]
      exact ih _ (by rw [show 24 + 4 * (i + 1) = 24 + 4 * i + 1 + 1 + 1 + 1 by omega]; exact C4)
  refine hp (A := fun i h' => Cst h V b t h' (4 + 4 * i)) (X := fun i h' => wp m_Q_carryAll h' 65 [some (.ref 123), some (.ref b), some (.int x), some (.int (nI i))] [] (tyV k)) 5 ?_ ?_ 0 (Nat.zero_le _) _ C4
  · intro h' C'
    rw [e_Q_carryAll_65, if_pos (show (5 : Int32) ≤ nI 5 by decide)]
    exact works h' C'
  · intro i hi h' C' ih
    have bi := inb_nI hi (show 5 < 2 ^ 31 by decide)
    have xi := ix_nI (show i < 2 ^ 31 by omega)
    have w' := qw C'.1
    have m0 := loc_f hi (d := 0) (by decide)
    have m1 := loc_f hi (d := 1) (by decide)
    have m2 := loc_f hi (d := 2) (by decide)
    have m3 := loc_f hi (d := 3) (by decide)
    rw [e_Q_carryAll_65, if_neg (n5 hi), xi]
    simp only [w', true_and, true_or, bi]
    refine t_Q_carry C' hb (by omega) (by unfold lv; rw [show loc (4 + 4 * i) = (124, i) from m0]) fun h1 q1 C1 => ?_
    rw [show loc (4 + 4 * i) = (124, i) from m0] at C1
    have w1 := qw q1
    simp only [tg_sI, ln_sI, gR_sI, w1, true_and, true_or, bi]
    refine t_Q_carry C1 hb (by omega) (by unfold lv; rw [show loc (4 + 4 * i + 1) = (125, i) from m1]) fun h2 q2 C2 => ?_
    rw [show loc (4 + 4 * i + 1) = (125, i) from m1] at C2
    have w2 := qw q2
    simp only [tg_sI, ln_sI, gR_sI, w2, true_and, true_or, bi]
    refine t_Q_carry C2 hb (by omega) (by unfold lv; rw [show loc (4 + 4 * i + 1 + 1) = (126, i) from m2]) fun h3 q3 C3 => ?_
    rw [show loc (4 + 4 * i + 1 + 1) = (126, i) from m2] at C3
    have w3 := qw q3
    simp only [tg_sI, ln_sI, gR_sI, w3, true_and, true_or, bi]
    refine t_Q_carry C3 hb (by omega) (by unfold lv; rw [show loc (4 + 4 * i + 1 + 1 + 1) = (127, i) from m3]) fun h4 q4 C4 => ?_
    rw [show loc (4 + 4 * i + 1 + 1 + 1) = (127, i) from m3] at C4
    have w4 := qw q4
    simp only [tg_sI, ln_sI, gR_sI, w4, true_and, true_or, bi, nI_1]
    exact ih _ (by rw [show 4 + 4 * (i + 1) = 4 + 4 * i + 1 + 1 + 1 + 1 by omega]; exact C4)
/-- what 48 numbers tell: a ledger, and F of the works' building -/
def KpV (V : Nat → Int32) (c : Core) (F : Nat → Int32) : Prop := (V 0 = nI (Cf c) ∧ V 1 = nI (Cw c) ∧ V 2 = Cr c ∧ V 3 = Cy c) ∧ (∀ f, f < Cf c → V (4 + 4 * f) = Cm c f 0 ∧ V (4 + 4 * f + 1) = Cm c f 1 ∧ V (4 + 4 * f + 2) = Cm c f 2 ∧ V (4 + 4 * f + 3) = Cm c f 3) ∧
  (∀ w, w < Cw c → V (24 + 4 * w) = Ck c w 0 ∧ V (24 + 4 * w + 1) = Ck c w 1 ∧ V (24 + 4 * w + 2) = Ck c w 2 ∧ V (24 + 4 * w + 3) = F w)
theorem KpV_c {V V' : Nat → Int32} {c : Core} {F : Nat → Int32} (hc : Cf c ≤ 5 ∧ Cw c ≤ 6) (e : ∀ j, j < 48 → V j = V' j) (K : KpV V c F) : KpV V' c F := by
  refine ⟨?_, fun f hf => ?_, fun w hw => ?_⟩
  · rw [← e 0 (by omega), ← e 1 (by omega), ← e 2 (by omega), ← e 3 (by omega)]; exact K.1
  · rw [← e (4 + 4 * f) (by omega), ← e (4 + 4 * f + 1) (by omega), ← e (4 + 4 * f + 2) (by omega), ← e (4 + 4 * f + 3) (by omega)]; exact K.2.1 f hf
  · rw [← e (24 + 4 * w) (by omega), ← e (24 + 4 * w + 1) (by omega), ← e (24 + 4 * w + 2) (by omega), ← e (24 + 4 * w + 3) (by omega)]; exact K.2.2 w hw
theorem Liv_K {h : PH} {c : Core} {F : Nat → Int32} (L : Liv h c) (hF : ∀ w, w < Cw c → gI h 131 w = F w) : KpV (lv h) c F := by
  have hc := L.2.1
  refine ⟨?_, fun f hf => ?_, fun w hw => ?_⟩
  · have := L.2.2.1
    exact ⟨this.1, this.2.1, this.2.2.2, this.2.2.1⟩
  · unfold lv
    rw [show loc (4 + 4 * f) = (124, f) from loc_f (d := 0) (by omega) (by decide), loc_f (d := 1) (by omega) (by decide), loc_f (d := 2) (by omega) (by decide), loc_f (d := 3) (by omega) (by decide)]
    exact L.2.2.2.1 f hf
  · unfold lv
    rw [show loc (24 + 4 * w) = (128, w) from loc_w (d := 0) (by decide), loc_w (d := 1) (by decide), loc_w (d := 2) (by decide), loc_w (d := 3) (by decide)]
    have := L.2.2.2.2 w hw
    exact ⟨this.1, this.2.1, this.2.2, hF w hw⟩
theorem K_Liv {h : PH} {c : Core} {F : Nat → Int32} (q : isQ h) (hc : Cf c ≤ 5 ∧ Cw c ≤ 6) (K : KpV (lv h) c F) : Liv h c ∧ ∀ w, w < Cw c → gI h 131 w = F w := by
  unfold KpV lv at K
  refine ⟨⟨q, hc, ⟨K.1.1, K.1.2.1, K.1.2.2.2, K.1.2.2.1⟩, fun f hf => ?_, fun w hw => ?_⟩, fun w hw => ?_⟩
  · have := K.2.1 f hf
    rw [show loc (4 + 4 * f) = (124, f) from loc_f (d := 0) (by omega) (by decide), loc_f (d := 1) (by omega) (by decide), loc_f (d := 2) (by omega) (by decide), loc_f (d := 3) (by omega) (by decide)] at this
    exact this
  · have := K.2.2 w hw
    rw [show loc (24 + 4 * w) = (128, w) from loc_w (d := 0) (by decide), loc_w (d := 1) (by decide), loc_w (d := 2) (by decide), loc_w (d := 3) (by decide)] at this
    exact ⟨this.1, this.2.1, this.2.2.1⟩
  · have := K.2.2 w hw
    rw [show loc (24 + 4 * w) = (128, w) from loc_w (d := 0) (by decide), loc_w (d := 1) (by decide), loc_w (d := 2) (by decide), loc_w (d := 3) (by decide)] at this
    exact this.2.2.2
/-- a row that keeps a ledger -/
def Kp (h : PH) (b : Nat) (c : Core) (F : Nat → Int32) : Prop := KpV (gI h b) c F
theorem t_Q_take {h : PH} {c : Core} {F : Nat → Int32} (L : Liv h c) (hF : ∀ w, w < Cw c → gI h 131 w = F w) {b : Nat} (hb : b = 140 ∨ b = 141 ∨ b = 143) {k : PH → Prop}
    (hk : ∀ h', Fs (SC b) h h' → Liv h' c → (∀ w, w < Cw c → gI h' 131 w = F w) → Kp h' b c F → k h') : ccV m_Q_carryAll h [.ref 123, .ref b, .int 1] k := by
  have K := Liv_K L hF
  refine t_Q_carryAll L.1 (V := lv h) hb true rfl (fun _ _ _ => rfl) (fun z => absurd rfl z) fun h' fr l r => ?_
  have q' := isQ_fs L.1 fr
  obtain ⟨L', F'⟩ := K_Liv q' L.2.1 (KpV_c L.2.1 (fun j hj => (l j hj).symm) K)
  exact hk h' fr L' F' (KpV_c L.2.1 (fun j hj => (r j hj).symm) K)
theorem t_Q_put {h : PH} {c : Core} {F : Nat → Int32} (q : isQ h) (hc : Cf c ≤ 5 ∧ Cw c ≤ 6) {b : Nat} (hb : b = 140 ∨ b = 141 ∨ b = 143) (K : Kp h b c F) {k : PH → Prop}
    (hk : ∀ h', Fs (SC b) h h' → Liv h' c → (∀ w, w < Cw c → gI h' 131 w = F w) → Kp h' b c F → k h') : ccV m_Q_carryAll h [.ref 123, .ref b, .int 0] k := by
  refine t_Q_carryAll q (V := gI h b) hb false rfl (fun z => absurd z (by decide)) (fun _ _ _ => rfl) fun h' fr l r => ?_
  have q' := isQ_fs q fr
  obtain ⟨L', F'⟩ := K_Liv q' hc (KpV_c hc (fun j hj => (l j hj).symm) K)
  exact hk h' fr L' F' (KpV_c hc (fun j hj => (r j hj).symm) K)
