/-! ===== shares of a work ===== -/
def lftN (s : Nat → Int32) (due : Int32) : Nat → Int32
  | 0 => due
  | n + 1 => lftN s due n - s n
def rstN (g : Nat → Bool) (l : Int32) : Nat → Int32
  | 0 => l
  | n + 1 => if g n = true ∧ ¬ rstN g l n ≤ 0 then rstN g l n - 1 else rstN g l n
def oneN (g : Nat → Bool) (l : Int32) (f : Nat) : Int32 := if g f = true ∧ ¬ rstN g l f ≤ 0 then 1 else 0
/-- whole parts s, and what is left over to the first ones of g -/
def shr (s : Nat → Int32) (g : Nat → Bool) (due : Int32) (f : Nat) : Int32 := s f + oneN g (lftN s due 5) f
theorem lftN_c {s s' : Nat → Int32} {d : Int32} : ∀ {n : Nat}, (∀ i, i < n → s i = s' i) → lftN s d n = lftN s' d n
  | 0, _ => rfl
  | n + 1, e => by unfold lftN; rw [lftN_c (fun i hi => e i (by omega)), e n (by omega)]
theorem rstN_c {g g' : Nat → Bool} {l : Int32} : ∀ {n : Nat}, (∀ i, i < n → g i = g' i) → rstN g l n = rstN g' l n
  | 0, _ => rfl
  | n + 1, e => by unfold rstN; rw [rstN_c (fun i hi => e i (by omega)), e n (by omega)]
theorem oneN_c {g g' : Nat → Bool} {l : Int32} {f : Nat} (e : ∀ i, i < f + 1 → g i = g' i) : oneN g l f = oneN g' l f := by
  unfold oneN; rw [rstN_c (n := f) (fun i hi => e i (by omega)), e f (by omega)]
theorem shr_c {s s' : Nat → Int32} {g g' : Nat → Bool} {d : Int32} (hs : ∀ i, i < 5 → s i = s' i) (hg : ∀ i, i < 5 → g i = g' i) {f : Nat} (hf : f < 5) : shr s g d f = shr s' g' d f := by
  unfold shr; rw [hs f hf, lftN_c hs, oneN_c (fun i hi => hg i (by omega))]
theorem rst_stay {g : Nat → Bool} {l : Int32} {i : Nat} (h : rstN g l i ≤ 0) : ∀ d, rstN g l (i + d) = rstN g l i
  | 0 => rfl
  | d + 1 => by
    have ih := rst_stay h d
    show (if g (i + d) = true ∧ ¬ rstN g l (i + d) ≤ 0 then rstN g l (i + d) - 1 else rstN g l (i + d)) = rstN g l i
    rw [ih, if_neg (fun e => e.2 h)]
theorem rst_none {g : Nat → Bool} {l : Int32} {i f : Nat} (h : rstN g l i ≤ 0) (hf : i ≤ f) : oneN g l f = 0 := by
  obtain ⟨d, rfl⟩ := Nat.le.dest hf
  unfold oneN
  rw [rst_stay h d, if_neg (fun e => e.2 h)]
theorem bt0_dec : ∀ m : Fin 64, ∀ i : Fin 6, (((nI m.1 >>> (nI i.1 &&& 31)) &&& 1) = 0) ↔ bt (nI m.1) i.1 = false := by decide +kernel
theorem bt0 {m f : Nat} (hm : m < 64) (hf : f < 6) : (((nI m >>> (nI f &&& 31)) &&& 1) = 0) ↔ bt (nI m) f = false := bt0_dec ⟨m, hm⟩ ⟨f, hf⟩
section Share
variable {h : PH} {a : Nat} {c : Core}
theorem t_Ledger_shareLeftOver (L : isLed h a) (l : Int32) {m : Nat} (hm : m < 64) {k : PH → Prop}
    (hk : ∀ h', Fr (fun x => x = a + 9) (fun _ => False) h h' → (∀ f, f < 5 → gI h' (a + 9) f = gI h (a + 9) f + oneN (bt (nI m)) l f) → k h') : ccV m_Ledger_shareLeftOver h [.ref a, .int l, .int (nI m)] k := by
  rw [c_Ledger_shareLeftOver]
  refine hp (A := fun i h' => Fr (fun x => x = a + 9) (fun _ => False) h h' ∧ (∀ f, f < 5 → gI h' (a + 9) f = if f < i then gI h (a + 9) f + oneN (bt (nI m)) l f else gI h (a + 9) f))
    (X := fun i h' => wp m_Ledger_shareLeftOver h' 5 [some (.ref a), some (.int l), some (.int (nI m)), some (.int (rstN (bt (nI m)) l i)), some (.int (nI i))] [] (tyV k)) 5 ?_ ?_ 0 (Nat.zero_le _) h ⟨Fr_refl _ _ _, fun f _ => (if_neg (by omega)).symm⟩
  · intro h' ⟨fr, e⟩
    have L' := isLed_fr L fr (fun x => x) (fun x => x)
    rw [e_Ledger_shareLeftOver_5]
    simp only [L'.1, L'.2.1.2.2.2, L'.2.2.2.2.2.2.1.1, L'.2.2.2.2.2.2.1.2, true_and]
    rw [show Int32.ofNat 5 = nI 5 from rfl, if_pos (Int32.le_refl _), e_Ledger_shareLeftOver_51]
    exact ⟨by decide, hk h' fr fun f hf => by rw [e f hf, if_pos hf]⟩
  · intro i hi h' ⟨fr, e⟩ ih
    have L' := isLed_fr L fr (fun x => x) (fun x => x)
    rw [e_Ledger_shareLeftOver_5]
    simp only [L'.1, L'.2.1.2.2.2, L'.2.2.2.2.2.2.1.1, L'.2.2.2.2.2.2.1.2, true_and, e_Ledger_shareLeftOver_51, e_Ledger_shareLeftOver_45]
    rw [show Int32.ofNat 5 = nI 5 from rfl, if_neg (nI_ge hi (by decide)), ix_nI (by omega)]
    refine ⟨by decide, ?_⟩
    by_cases c1 : rstN (bt (nI m)) l i ≤ 0
    · rw [if_pos c1]
      refine hk h' fr fun f hf => ?_
      rw [e f hf]
      by_cases c2 : f < i
      · rw [if_pos c2]
      · rw [if_neg c2, rst_none c1 (by omega), Int32.add_zero]
    · rw [if_neg c1]
      by_cases c2 : bt (nI m) i = false
      · have c3 := (bt0 hm (show i < 6 by omega)).mpr c2
        rw [if_neg (fun q => q c3), nI_1]
        have hr : rstN (bt (nI m)) l (i + 1) = rstN (bt (nI m)) l i := by
          rw [rstN, if_neg (fun q => by rw [c2] at q; exact absurd q.1 (by decide))]
        have ho : oneN (bt (nI m)) l i = 0 := by
          unfold oneN; rw [if_neg (fun q => by rw [c2] at q; exact absurd q.1 (by decide))]
        rw [← hr]
        refine ih h' ⟨fr, fun f hf => ?_⟩
        rw [e f hf]
        by_cases c4 : f = i
        · subst c4; rw [if_neg (Nat.lt_irrefl _), if_pos (Nat.lt_succ_self _), ho, Int32.add_zero]
        · by_cases c5 : f < i
          · rw [if_pos c5, if_pos (by omega)]
          · rw [if_neg c5, if_neg (by omega)]
      · have c3 : ¬ ((nI m >>> (nI i &&& 31)) &&& 1) = 0 := fun q => c2 ((bt0 hm (show i < 6 by omega)).mp q)
        have c2' : bt (nI m) i = true := by cases hq : bt (nI m) i; exact absurd hq c2; rfl
        rw [if_pos c3]
        have hr : rstN (bt (nI m)) l i + (-1) = rstN (bt (nI m)) l (i + 1) := by
          rw [rstN, if_pos ⟨c2', c1⟩, Int32.sub_eq_add_neg]
        have ho : oneN (bt (nI m)) l i = 1 := by unfold oneN; rw [if_pos ⟨c2', c1⟩]
        refine ⟨⟨Or.inl trivial, inb_nI hi (by decide)⟩, inb_nI hi (by decide), ?_⟩
        rw [nI_1, hr]
        refine ih _ ⟨Fr_trans fr (Fr_sI _ _ _ _ rfl), fun f hf => ?_⟩
        rw [sI_wR, gI_wR]
        by_cases c4 : f = i
        · subst c4
          rw [rs_eq, if_pos (Nat.lt_succ_self _), e f hf, if_neg (Nat.lt_irrefl _), ho]
        · rw [rs_ne _ _ c4, e f hf]
          by_cases c5 : f < i
          · rw [if_pos c5, if_pos (by omega)]
          · rw [if_neg c5, if_neg (by omega)]
theorem t_Ledger_shareToOne (L : isLed h a) {nf : Nat} (h0 : gI h a 0 = nI nf) (hn : nf ≤ 5) (l : Int32) {p : Nat} (hp' : p < 5) {k : PH → Prop}
    (hk : ∀ h', Fr (fun x => x = a + 9) (fun _ => False) h h' → (∀ f, f < 5 → gI h' (a + 9) f = if f = p ∧ f < nf then l else 0) → k h') : ccV m_Ledger_shareToOne h [.ref a, .int l, .int (nI p)] k := by
  rw [c_Ledger_shareToOne]
  refine hp (A := fun i h' => Fr (fun x => x = a + 9) (fun _ => False) h h' ∧ (∀ f, f < i → gI h' (a + 9) f = if f = p ∧ f < nf then l else 0))
    (X := fun i h' => wp m_Ledger_shareToOne h' 2 [some (.ref a), some (.int l), some (.int (nI p)), some (.int (nI i))] [] (tyV k)) 5 ?_ ?_ 0 (Nat.zero_le _) h ⟨Fr_refl _ _ _, fun f hf => absurd hf (by omega)⟩
  · intro h' ⟨fr, e⟩
    have L' := isLed_fr L fr (fun x => x) (fun x => x)
    rw [e_Ledger_shareToOne_2]
    simp only [L'.1, L'.2.1.2.2.2, L'.2.2.2.2.2.2.1.1, L'.2.2.2.2.2.2.1.2, true_and]
    rw [show Int32.ofNat 5 = nI 5 from rfl, if_pos (Int32.le_refl _)]
    exact ⟨by decide, hk h' fr e⟩
  · intro i hi h' ⟨fr, e⟩ ih
    have L' := isLed_fr L fr (fun x => x) (fun x => x)
    have h0' : gI h' a 0 = nI nf := by rw [fr.2.2.2 a (by omega)]; exact h0
    have step : ∀ y, y = (if i = p ∧ i < nf then l else 0) → wp m_Ledger_shareToOne (sI h' (a + 9) i y) 2 [some (.ref a), some (.int l), some (.int (nI p)), some (.int (nI (i + 1)))] [] (tyV k) := by
      intro y hy
      refine ih _ ⟨Fr_trans fr (Fr_sI _ _ _ _ rfl), fun f hf => ?_⟩
      rw [sI_wR, gI_wR]
      by_cases c4 : f = i
      · subst c4; rw [rs_eq, hy]
      · rw [rs_ne _ _ c4]; exact e f (by omega)
    rw [e_Ledger_shareToOne_2]
    simp only [L'.1, L'.2.1.2.2.2, L'.2.2.2.2.2.2.1.1, L'.2.2.2.2.2.2.1.2, true_and, h0', e_Ledger_shareToOne_33, e_Ledger_shareToOne_34]
    rw [show Int32.ofNat 5 = nI 5 from rfl, if_neg (nI_ge hi (by decide)), ix_nI (by omega), nI_1]
    refine ⟨by decide, ?_⟩
    have q := inb_nI hi (show 5 < 2 ^ 31 by decide)
    by_cases c1 : i = p
    · rw [if_neg (fun z => z (by rw [c1]))]
      by_cases c2 : i < nf
      · rw [if_neg (nI_ge c2 (by omega))]
        exact ⟨q, step l (by rw [if_pos ⟨c1, c2⟩])⟩
      · rw [if_pos (nI_le (by omega) (by omega))]
        exact ⟨q, step 0 (by rw [if_neg (fun z => c2 z.2)])⟩
    · rw [if_pos (fun z => c1 ((nI_eq (by omega) (by omega)).mp z))]
      exact ⟨q, step 0 (by rw [if_neg (fun z => c1 z.1)])⟩
end Share
