/-! ===== the reference builds, goes on in years ===== -/
def lastN (g : Nat → Int32) : Nat → Int32
  | 0 => 0
  | n + 1 => if g n ≤ lastN g n then lastN g n else g n
def dPaid (rate : Int32) (r : Row) : Int32 :=
  let r1 := rOwe (r 1 * rate / 100) r
  if r 2 * r 0 ≤ r1 1 then r 2 * r 0 else r1 1
def dBorn (rate y : Int32) (r : Row) : Int32 :=
  let r1 := rSettle rate r
  if r1 3 ≤ 0 then 0 else if y % r1 3 = 0 then (if r1 0 < 20 then (if r1 1 = 0 then 1 else 0) else 0) else 0
theorem nI_one : nI 1 = 1 := by decide
theorem rYears_1 (x y : Int32) (r : Row) : rYears x y 1 r = rYear x (y + 1) r := by
  rw [← nI_one]; rfl
theorem goC_y1 (c : Core) : Cy (goC 1 c) = Cy c + 1 := by
  rw [← nI_one]; rfl
section RefYr
variable {h : PH} {c : Core}
theorem Liv_debt (L : Liv h c) {f : Nat} (hf : f < Cf c) {x : Int32} {r : Row} (e0 : r 0 = Cm c f 0) (e1 : r 1 = x) (e2 : r 2 = Cm c f 2) (e3 : r 3 = Cm c f 3) : Liv (sI h 125 f x) (cM c (setM (Cm c) f r)) := by
  have fr : Fs (fun b j => b = 125 ∧ j = f) h (sI h 125 f x) := Fs_sI _ _ _ _ ⟨rfl, rfl⟩
  refine ⟨isQ_fs L.1 fr, L.2.1, ?_, fun g hg => ?_, L.2.2.2.2⟩
  · exact L.2.2.1
  · show _ = setM (Cm c) f r g 0 ∧ _ = setM (Cm c) f r g 1 ∧ _ = setM (Cm c) f r g 2 ∧ _ = setM (Cm c) f r g 3
    have l := L.2.2.2.1 g hg
    unfold setM
    by_cases d : g = f
    · subst d
      rw [if_pos rfl, gI_sI_eq, e0, e1, e2, e3]
      exact ⟨l.1, rfl, l.2.2⟩
    · rw [if_neg d]
      exact ⟨(gI_sI_ne _ _ _ _ (fun z => d z.2)).trans l.1, (gI_sI_ne _ _ _ _ (fun z => d z.2)).trans l.2.1, (gI_sI_ne _ _ _ _ (fun z => d z.2)).trans l.2.2.1, (gI_sI_ne _ _ _ _ (fun z => d z.2)).trans l.2.2.2⟩
theorem Liv_head (L : Liv h c) {f : Nat} (hf : f < Cf c) {x : Int32} {r : Row} (e0 : r 0 = x) (e1 : r 1 = Cm c f 1) (e2 : r 2 = Cm c f 2) (e3 : r 3 = Cm c f 3) : Liv (sI h 124 f x) (cM c (setM (Cm c) f r)) := by
  have fr : Fs (fun b j => b = 124 ∧ j = f) h (sI h 124 f x) := Fs_sI _ _ _ _ ⟨rfl, rfl⟩
  refine ⟨isQ_fs L.1 fr, L.2.1, ?_, fun g hg => ?_, L.2.2.2.2⟩
  · exact L.2.2.1
  · show _ = setM (Cm c) f r g 0 ∧ _ = setM (Cm c) f r g 1 ∧ _ = setM (Cm c) f r g 2 ∧ _ = setM (Cm c) f r g 3
    have l := L.2.2.2.1 g hg
    unfold setM
    by_cases d : g = f
    · subst d
      rw [if_pos rfl, gI_sI_eq, e0, e1, e2, e3]
      exact ⟨rfl, l.2⟩
    · rw [if_neg d]
      exact ⟨(gI_sI_ne _ _ _ _ (fun z => d z.2)).trans l.1, (gI_sI_ne _ _ _ _ (fun z => d z.2)).trans l.2.1, (gI_sI_ne _ _ _ _ (fun z => d z.2)).trans l.2.2.1, (gI_sI_ne _ _ _ _ (fun z => d z.2)).trans l.2.2.2⟩
theorem Liv_pay (L : Liv h c) {f : Nat} (hf : f < Cf c) {x : Int32} {r : Row} (e0 : r 0 = Cm c f 0) (e1 : r 1 = Cm c f 1) (e2 : r 2 = x) (e3 : r 3 = Cm c f 3) : Liv (sI h 126 f x) (cM c (setM (Cm c) f r)) := by
  have fr : Fs (fun b j => b = 126 ∧ j = f) h (sI h 126 f x) := Fs_sI _ _ _ _ ⟨rfl, rfl⟩
  refine ⟨isQ_fs L.1 fr, L.2.1, ?_, fun g hg => ?_, L.2.2.2.2⟩
  · exact L.2.2.1
  · show _ = setM (Cm c) f r g 0 ∧ _ = setM (Cm c) f r g 1 ∧ _ = setM (Cm c) f r g 2 ∧ _ = setM (Cm c) f r g 3
    have l := L.2.2.2.1 g hg
    unfold setM
    by_cases d : g = f
    · subst d
      rw [if_pos rfl, gI_sI_eq, e0, e1, e2, e3]
      exact ⟨l.1, l.2.1, rfl, l.2.2.2⟩
    · rw [if_neg d]
      exact ⟨(gI_sI_ne _ _ _ _ (fun z => d z.2)).trans l.1, (gI_sI_ne _ _ _ _ (fun z => d z.2)).trans l.2.1, (gI_sI_ne _ _ _ _ (fun z => d z.2)).trans l.2.2.1, (gI_sI_ne _ _ _ _ (fun z => d z.2)).trans l.2.2.2⟩
theorem Liv_birth (L : Liv h c) {f : Nat} (hf : f < Cf c) {x : Int32} {r : Row} (e0 : r 0 = Cm c f 0) (e1 : r 1 = Cm c f 1) (e2 : r 2 = Cm c f 2) (e3 : r 3 = x) : Liv (sI h 127 f x) (cM c (setM (Cm c) f r)) := by
  have fr : Fs (fun b j => b = 127 ∧ j = f) h (sI h 127 f x) := Fs_sI _ _ _ _ ⟨rfl, rfl⟩
  refine ⟨isQ_fs L.1 fr, L.2.1, ?_, fun g hg => ?_, L.2.2.2.2⟩
  · exact L.2.2.1
  · show _ = setM (Cm c) f r g 0 ∧ _ = setM (Cm c) f r g 1 ∧ _ = setM (Cm c) f r g 2 ∧ _ = setM (Cm c) f r g 3
    have l := L.2.2.2.1 g hg
    unfold setM
    by_cases d : g = f
    · subst d
      rw [if_pos rfl, gI_sI_eq, e0, e1, e2, e3]
      exact ⟨l.1, l.2.1, l.2.2.1, rfl⟩
    · rw [if_neg d]
      exact ⟨(gI_sI_ne _ _ _ _ (fun z => d z.2)).trans l.1, (gI_sI_ne _ _ _ _ (fun z => d z.2)).trans l.2.1, (gI_sI_ne _ _ _ _ (fun z => d z.2)).trans l.2.2.1, (gI_sI_ne _ _ _ _ (fun z => d z.2)).trans l.2.2.2⟩
theorem Liv_rate (L : Liv h c) (x : Int32) : Liv (sI h 123 5 x) (cR c x) := by
  have fr : Fs (fun b j => b = 123 ∧ j = 5) h (sI h 123 5 x) := Fs_sI _ _ _ _ ⟨rfl, rfl⟩
  exact ⟨isQ_fs L.1 fr, L.2.1, ⟨L.2.2.1.1, L.2.2.1.2.1, L.2.2.1.2.2.1, rfl⟩, L.2.2.2⟩
theorem Liv_year (L : Liv h c) (x : Int32) : Liv (sI h 123 6 x) (cY c x) := by
  have fr : Fs (fun b j => b = 123 ∧ j = 6) h (sI h 123 6 x) := Fs_sI _ _ _ _ ⟨rfl, rfl⟩
  exact ⟨isQ_fs L.1 fr, L.2.1, ⟨L.2.2.1.1, L.2.2.1.2.1, rfl, L.2.2.1.2.2.2⟩, L.2.2.2⟩
theorem s_Q_lastBuilt (L : Liv h c) (k : PH → Int32 → Prop) : ccI m_Q_lastBuilt h [.ref 123] k = k h (lastN (gI h 131) (Cw c)) := by
  have q := qw L.1
  have h6 := L.2.1.2
  have h7 := L.2.2.1.2.1
  rw [c_Q_lastBuilt]
  refine (lp (fun i => wp m_Q_lastBuilt h 4 [some (.ref 123), some (.int (lastN (gI h 131) i)), some (.int (nI i))] [] (tyI k)) (Cw c) fun i hi => ?_).trans ?_
  · rw [e_Q_lastBuilt_4, h7, if_neg (nI_ge hi (by omega)), ix_nI (by omega)]
    simp only [q, true_and, true_or, inb_nI (show i < 6 by omega) (show 6 < 2 ^ 31 by decide), nI_1, e_Q_lastBuilt_32, lastN]
    by_cases d : gI h 131 i ≤ lastN (gI h 131) i <;> simp only [d, if_true, if_false]
  · rw [e_Q_lastBuilt_4, h7, if_pos (Int32.le_refl _)]
    simp only [q, true_and]
theorem t_Q_build (L : Liv h c) (o : okC c) {w : Nat} (hw : w < Cw c) {k : PH → Prop}
    (hk : ∀ h', Fs (fun b j => b = 125 ∨ b = 133 ∨ b = 134 ∨ (b = 131 ∧ j = w)) h h' → Liv h' (chargeC c (Ck c w)) → gI h' 131 w = lastN (gI h 131) (Cw c) + 1 → k h') : ccV m_Q_build h [.ref 123, .int (nI w)] k := by
  have h5 := L.2.1.1
  have h6 := L.2.1.2
  rw [c_Q_build]
  refine ⟨L.1.1, t_Q_layShares L o hw fun h1 fr1 e1 => ?_⟩
  have sb := fun f => shareC_bd o (o.2.2.2 w hw) f
  generalize hr : Ck c w = r at e1 hk sb
  refine hp (A := fun i h' => Fs (fun b j => b = 125 ∨ b = 133 ∨ b = 134) h h' ∧ (∀ f, f < 5 → gI h' 133 f = shareC c r f) ∧ Liv h' (cM c (fun f => if f < i then rOwe (shareC c r f) (Cm c f) else Cm c f)))
    (X := fun i h' => wp m_Q_build h' 7 [some (.ref 123), some (.int (nI w)), some (.int (nI i))] [] (tyV k)) (Cf c) ?_ ?_ 0 (Nat.zero_le _) h1 ⟨Fs_mono fr1 (fun b j z => Or.inr z), e1, ?_⟩
  · intro h' ⟨fr, e, L'⟩
    have h0' : gI h' 123 0 = nI (Cf c) := L'.2.2.1.1
    have q' := qw L'.1
    rw [e_Q_build_7, h0', if_pos (Int32.le_refl _), s_Q_lastBuilt L']
    have hl : lastN (gI h' 131) (Cw c) = lastN (gI h 131) (Cw c) := by
      rw [show gI h' 131 = gI h 131 from funext fun j => fr.2.2.2 131 j (by omega)]
    have hl' : lastN (gI h' 131) (Cw (cM c (fun f => if f < Cf c then rOwe (shareC c r f) (Cm c f) else Cm c f))) = lastN (gI h 131) (Cw c) := hl
    rw [hl', ix_nI (by omega)]
    simp only [q', true_and]
    refine ⟨inb_nI (show w < 6 by omega) (by decide), ?_⟩
    have fr2 : Fs (fun b j => b = 131 ∧ j = w) h' (sI h' 131 w (lastN (gI h 131) (Cw c) + 1)) := Fs_sI _ _ _ _ ⟨rfl, rfl⟩
    refine hk _ (Fs_trans (Fs_mono fr (fun b j z => by omega)) (Fs_mono fr2 (fun b j z => by omega))) ?_ (gI_sI_eq _ _ _ _)
    refine Liv_ext (Liv_fs L' fr2 (fun b j z => by unfold LRg; omega)) rfl rfl rfl rfl (fun f hf => ?_) (fun _ _ => rfl)
    show Ew 4 (if f < Cf c then rOwe (shareC c r f) (Cm c f) else Cm c f) (rOwe (shareC c r f) (Cm c f))
    rw [if_pos (show f < Cf c from hf)]
    exact Ew_refl _ _
  · intro i hi h' ⟨fr, e, L'⟩ ih
    have h0' : gI h' 123 0 = nI (Cf c) := L'.2.2.1.1
    have q' := qw L'.1
    have bi := inb_nI (show i < 5 by omega) (show 5 < 2 ^ 31 by decide)
    have xi := ix_nI (show i < 2 ^ 31 by omega)
    have row := L'.2.2.2.1 i hi
    have hrow : Cm (cM c (fun f => if f < i then rOwe (shareC c r f) (Cm c f) else Cm c f)) i = Cm c i := if_neg (Nat.lt_irrefl _)
    rw [hrow] at row
    rw [e_Q_build_7, h0', if_neg (nI_ge hi (by omega)), xi]
    simp only [q', true_and, true_or, bi, row.2.1, e i (by omega), s_Q_held, nI_1]
    obtain ⟨d, hd, _, hd2⟩ := bd_of (o.2.2.1 i hi).2.1
    obtain ⟨s, hs, _, hs2⟩ := bd_of (sb i)
    have hh : heldN (Cm c i 1 + shareC c r i) 0 99999 = rOwe (shareC c r i) (Cm c i) 1 := by
      have := held_le (x := Cm c i 1 + shareC c r i) (n := d + s) (by rw [hd, hs, nI_add]) (m := 99999) (by omega) (by decide)
      exact this
    rw [hh]
    have L2 := Liv_debt L' hi (x := rOwe (shareC c r i) (Cm c i) 1) (r := rOwe (shareC c r i) (Cm c i)) (by rw [hrow]; rfl) rfl (by rw [hrow]; rfl) (by rw [hrow]; rfl)
    have fr2 : Fs (fun b j => b = 125) h' (sI h' 125 i (rOwe (shareC c r i) (Cm c i) 1)) := Fs_sI _ _ _ _ rfl
    refine ih _ ⟨Fs_trans fr (Fs_mono fr2 (fun b j z => Or.inl z)), fun f hf => by rw [fr2.2.2.2 133 f (by omega)]; exact e f hf, ?_⟩
    refine Liv_ext L2 rfl rfl rfl rfl (fun f _ => ?_) (fun _ _ => rfl)
    show Ew 4 (setM (fun f => if f < i then rOwe (shareC c r f) (Cm c f) else Cm c f) i (rOwe (shareC c r i) (Cm c i)) f) (if f < i + 1 then rOwe (shareC c r f) (Cm c f) else Cm c f)
    unfold setM
    by_cases c1 : f = i
    · subst c1; rw [if_pos rfl, if_pos (Nat.lt_succ_self _)]; exact Ew_refl _ _
    · rw [if_neg c1]
      dsimp only
      by_cases c2 : f < i
      · rw [if_pos c2, if_pos (by omega)]; exact Ew_refl _ _
      · rw [if_neg c2, if_neg (by omega)]; exact Ew_refl _ _
  · refine Liv_ext (Liv_fs L fr1 (fun b j z => by unfold LRg; omega)) rfl rfl rfl rfl (fun f _ => ?_) (fun _ _ => rfl)
    show Ew 4 (Cm c f) (if f < 0 then rOwe (shareC c r f) (Cm c f) else Cm c f)
    rw [if_neg (by omega)]
    exact Ew_refl _ _
theorem t_Q_owes (L : Liv h c) {f : Nat} (hf : f < Cf c) {k : PH → Prop}
    (hk : ∀ h', Fs (fun b j => b = 125 ∨ (b = 135 ∧ j = f)) h h' → Liv h' (cM c (setM (Cm c) f (rSettle (Cr c) (Cm c f)))) → gI h' 135 f = gI h 135 f + dPaid (Cr c) (Cm c f) → k h') : ccV m_Q_owes h [.ref 123, .int (nI f)] k := by
  have q := qw L.1
  have h5 := L.2.1.1
  have bi := inb_nI (show f < 5 by omega) (show 5 < 2 ^ 31 by decide)
  have xi := ix_nI (show f < 2 ^ 31 by omega)
  have row := L.2.2.2.1 f hf
  have hr : gI h 123 5 = Cr c := L.2.2.1.2.2.2
  rw [c_Q_owes, xi]
  simp only [q, true_and, true_or, bi, row.2.1, hr]
  refine ⟨by decide, ?_⟩
  have e34 : ∀ q2 : Int32, wp m_Q_owes h 34 [some (.ref 123), some (.int (nI f)), some (.int q2), none] [.int (rOwe (Cm c f 1 * Cr c / 100) (Cm c f) 1)] (tyV k) := by
    intro q2
    rw [e_Q_owes_34, xi]
    simp only [q, true_and, true_or, bi, row.1, row.2.2.1, e_Q_owes_59, xi]
    have fin : ∀ y, y = dPaid (Cr c) (Cm c f) → wp m_Q_owes (sI (sI h 125 f (rOwe (Cm c f 1 * Cr c / 100) (Cm c f) 1 - y)) 135 f (gI (sI h 125 f (rOwe (Cm c f 1 * Cr c / 100) (Cm c f) 1 - y)) 135 f + y)) 79 [some (.ref 123), some (.int (nI f)), some (.int (rOwe (Cm c f 1 * Cr c / 100) (Cm c f) 1)), some (.int y)] [] (tyV k) := by
      intro y hy
      rw [e_Q_owes_79, hy]
      refine hk _ (Fs_trans (Fs_sI _ _ _ _ (Or.inl rfl)) (Fs_sI _ _ _ _ (Or.inr ⟨rfl, rfl⟩))) ?_ ?_
      · refine Liv_fs (S := fun b j => b = 135) (Liv_debt L hf (x := rOwe (Cm c f 1 * Cr c / 100) (Cm c f) 1 - dPaid (Cr c) (Cm c f)) (r := rSettle (Cr c) (Cm c f)) rfl rfl rfl rfl) (Fs_sI _ _ _ _ rfl) (fun b j z => by unfold LRg; omega)
      · rw [gI_sI_eq, gI_sI_ne _ _ _ _ (by omega)]
    simp only [tg_sI, ln_sI, gR_sI, q, true_and, true_or, bi]
    by_cases d : Cm c f 2 * Cm c f 0 ≤ rOwe (Cm c f 1 * Cr c / 100) (Cm c f) 1
    · rw [if_pos d]
      exact fin _ (by unfold dPaid; dsimp only; rw [if_pos d])
    · rw [if_neg d]
      exact fin _ (by unfold dPaid; dsimp only; rw [if_neg d])
  by_cases d : Cm c f 1 + Cm c f 1 * Cr c / 100 ≤ 99999
  · have : rOwe (Cm c f 1 * Cr c / 100) (Cm c f) 1 = Cm c f 1 + Cm c f 1 * Cr c / 100 := by
      show (if Cm c f 1 + Cm c f 1 * Cr c / 100 ≤ 99999 then Cm c f 1 + Cm c f 1 * Cr c / 100 else 99999) = _
      rw [if_pos d]
    rw [if_pos d]
    rw [this] at e34
    exact e34 _
  · have : rOwe (Cm c f 1 * Cr c / 100) (Cm c f) 1 = 99999 := by
      show (if Cm c f 1 + Cm c f 1 * Cr c / 100 ≤ 99999 then Cm c f 1 + Cm c f 1 * Cr c / 100 else 99999) = _
      rw [if_neg d]
    rw [if_neg d]
    rw [this] at e34
    exact e34 _
/-- the places that years change -/
def SY (b j : Nat) : Prop := (b = 123 ∧ (j = 6 ∨ j = 16)) ∨ b = 124 ∨ b = 125 ∨ b = 135
theorem t_Q_yearOn (L : Liv h c) (o : okC c) {k : PH → Prop}
    (hk : ∀ h', Fs SY h h' → Liv h' (goC 1 c) → (∀ f, f < Cf c → gI h' 135 f = gI h 135 f + dPaid (Cr c) (Cm c f)) → gI h' 123 16 = gI h 123 16 + sumN (fun f => dBorn (Cr c) (Cy c + 1) (Cm c f)) (Cf c) → k h') : ccV m_Q_yearOn h [.ref 123] k := by
  have q := qw L.1
  have h5 := L.2.1.1
  have hy : gI h 123 6 = Cy c := L.2.2.1.2.2.1
  rw [c_Q_yearOn, hy]
  simp only [q, true_and]
  refine hp (A := fun i h' => Fs SY h h' ∧ Liv h' (cM (cY c (Cy c + 1)) (fun f => if f < i then rYear (Cr c) (Cy c + 1) (Cm c f) else Cm c f)) ∧ (∀ f, f < Cf c → gI h' 135 f = if f < i then gI h 135 f + dPaid (Cr c) (Cm c f) else gI h 135 f) ∧ gI h' 123 16 = gI h 123 16 + sumN (fun f => dBorn (Cr c) (Cy c + 1) (Cm c f)) i)
    (X := fun i h' => wp m_Q_yearOn h' 12 [some (.ref 123), some (.int (nI i))] [] (tyV k)) (Cf c) ?_ ?_ 0 (Nat.zero_le _) _ ⟨Fs_sI _ _ _ _ (Or.inl ⟨rfl, Or.inl rfl⟩), ?_, fun f _ => by rw [if_neg (by omega), gI_sI_ne _ _ _ _ (by omega)], ?_⟩
  · intro h' ⟨fr, L', p', b'⟩
    have h0' : gI h' 123 0 = nI (Cf c) := L'.2.2.1.1
    rw [e_Q_yearOn_12, h0', if_pos (Int32.le_refl _)]
    refine ⟨L'.1.1, hk h' fr (Liv_ext L' rfl rfl (goC_y1 c) rfl (fun f hf => ?_) (fun _ _ => rfl)) (fun f hf => by rw [p' f hf, if_pos hf]) b'⟩
    show Ew 4 (if f < Cf c then rYear (Cr c) (Cy c + 1) (Cm c f) else Cm c f) (rYears (Cr c) (Cy c) 1 (Cm c f))
    rw [if_pos (show f < Cf c from hf), rYears_1]
    exact Ew_refl _ _
  · intro i hi h' ⟨fr, L', p', b'⟩ ih
    have h0' : gI h' 123 0 = nI (Cf c) := L'.2.2.1.1
    have bi := inb_nI (show i < 5 by omega) (show 5 < 2 ^ 31 by decide)
    have xi := ix_nI (show i < 2 ^ 31 by omega)
    have hrow : Cm (cM (cY c (Cy c + 1)) (fun f => if f < i then rYear (Cr c) (Cy c + 1) (Cm c f) else Cm c f)) i = Cm c i := if_neg (Nat.lt_irrefl _)
    rw [e_Q_yearOn_12, h0', if_neg (nI_ge hi (by omega))]
    refine ⟨L'.1.1, L'.1.1, t_Q_owes L' (f := i) hi fun h1 fr1 L1 p1 => ?_⟩
    rw [hrow] at L1 p1
    have L1' : Liv h1 (cM (cY c (Cy c + 1)) (setM (fun f => if f < i then rYear (Cr c) (Cy c + 1) (Cm c f) else Cm c f) i (rSettle (Cr c) (Cm c i)))) := L1
    have q1 := qw L1.1
    have row := L1'.2.2.2.1 i hi
    have hrow1 : Cm (cM (cY c (Cy c + 1)) (setM (fun f => if f < i then rYear (Cr c) (Cy c + 1) (Cm c f) else Cm c f) i (rSettle (Cr c) (Cm c i)))) i = rSettle (Cr c) (Cm c i) := if_pos rfl
    rw [hrow1] at row
    have hy1 : gI h1 123 6 = Cy c + 1 := L1'.2.2.1.2.2.1
    have p1' : gI h1 135 i = gI h 135 i + dPaid (Cr c) (Cm c i) := by
      have p1'' : gI h1 135 i = gI h' 135 i + dPaid (Cr c) (Cm c i) := p1
      rw [p1'', p' i hi, if_neg (Nat.lt_irrefl _)]
    have b1 : gI h1 123 16 = gI h 123 16 + sumN (fun f => dBorn (Cr c) (Cy c + 1) (Cm c f)) i := by rw [fr1.2.2.2 123 16 (by omega)]; exact b'
    have fr1' : Fs SY h h1 := Fs_trans fr (Fs_mono fr1 (fun b j z => by unfold SY; omega))
    have fin : ∀ h2, Fs SY h1 h2 → Liv h2 (cM (cY c (Cy c + 1)) (setM (fun f => if f < i then rYear (Cr c) (Cy c + 1) (Cm c f) else Cm c f) i (rYear (Cr c) (Cy c + 1) (Cm c i)))) → (∀ f, gI h2 135 f = gI h1 135 f) → gI h2 123 16 = gI h1 123 16 + dBorn (Cr c) (Cy c + 1) (Cm c i) →
        wp m_Q_yearOn h2 12 [some (.ref 123), some (.int (nI (i + 1)))] [] (tyV k) := by
      intro h2 fr2 L2 p2 b2
      refine ih _ ⟨Fs_trans fr1' fr2, Liv_ext L2 rfl rfl rfl rfl (fun f _ => ?_) (fun _ _ => rfl), fun f hf => ?_, by rw [b2, b1, Int32.add_assoc]; rfl⟩
      · show Ew 4 (setM (fun f => if f < i then rYear (Cr c) (Cy c + 1) (Cm c f) else Cm c f) i (rYear (Cr c) (Cy c + 1) (Cm c i)) f) (if f < i + 1 then rYear (Cr c) (Cy c + 1) (Cm c f) else Cm c f)
        unfold setM
        by_cases c1 : f = i
        · subst c1; rw [if_pos rfl, if_pos (Nat.lt_succ_self _)]; exact Ew_refl _ _
        · rw [if_neg c1]
          dsimp only
          by_cases c2 : f < i
          · rw [if_pos c2, if_pos (by omega)]; exact Ew_refl _ _
          · rw [if_neg c2, if_neg (by omega)]; exact Ew_refl _ _
      · rw [p2]
        by_cases c1 : f = i
        · subst c1; rw [if_pos (Nat.lt_succ_self _)]; exact p1'
        · rw [fr1.2.2.2 135 f (by omega), p' f hf]
          by_cases c2 : f < i
          · rw [if_pos c2, if_pos (by omega)]
          · rw [if_neg c2, if_neg (by omega)]
    have same : rYear (Cr c) (Cy c + 1) (Cm c i) = rSettle (Cr c) (Cm c i) → dBorn (Cr c) (Cy c + 1) (Cm c i) = 0 → wp m_Q_yearOn h1 12 [some (.ref 123), some (.int (nI (i + 1)))] [] (tyV k) := by
      intro e1 e2
      refine fin h1 (Fs_refl _ _) ?_ (fun _ => rfl) (by rw [e2, Int32.add_zero])
      rw [e1]; exact L1'
    simp only [q1, true_and, true_or, bi, xi, row.1, row.2.1, row.2.2.2, hy1, e_Q_yearOn_92, nI_1, tg_sI, ln_sI, gR_sI]
    by_cases d1 : rSettle (Cr c) (Cm c i) 3 ≤ 0
    · rw [if_pos d1]
      exact same (by unfold rYear; dsimp only; rw [if_pos d1]) (by unfold dBorn; dsimp only; rw [if_pos d1])
    · rw [if_neg d1]
      refine ⟨fun z => d1 (by rw [z]; exact Int32.le_refl _), ?_⟩
      by_cases d2 : (Cy c + 1) % rSettle (Cr c) (Cm c i) 3 = 0
      · rw [if_neg (fun z => z d2)]
        by_cases d3 : rSettle (Cr c) (Cm c i) 0 < 20
        · rw [if_neg (Int32.not_le.mpr d3)]
          have hY : rYear (Cr c) (Cy c + 1) (Cm c i) = rBear (rSettle (Cr c) (Cm c i)) := by unfold rYear; dsimp only; rw [if_neg d1, if_pos d2]
          have hB : dBorn (Cr c) (Cy c + 1) (Cm c i) = if rSettle (Cr c) (Cm c i) 1 = 0 then 1 else 0 := by unfold dBorn; dsimp only; rw [if_neg d1, if_pos d2, if_pos d3]
          have L2 := Liv_head L1' hi (x := rSettle (Cr c) (Cm c i) 0 + 1) (r := rs (rSettle (Cr c) (Cm c i)) 0 (rSettle (Cr c) (Cm c i) 0 + 1)) (rs_eq _ _ _) (by rw [hrow1, rs_ne _ _ (by decide)]) (by rw [hrow1, rs_ne _ _ (by decide)]) (by rw [hrow1, rs_ne _ _ (by decide)])
          have fr2 : Fs SY h1 (sI h1 124 i (rSettle (Cr c) (Cm c i) 0 + 1)) := Fs_sI _ _ _ _ (Or.inr (Or.inl rfl))
          have g125 : gI (sI h1 124 i (rSettle (Cr c) (Cm c i) 0 + 1)) 125 i = rSettle (Cr c) (Cm c i) 1 := by rw [gI_sI_ne _ _ _ _ (by omega)]; exact row.2.1
          have g16 : gI (sI h1 124 i (rSettle (Cr c) (Cm c i) 0 + 1)) 123 16 = gI h1 123 16 := gI_sI_ne _ _ _ _ (by omega)
          rw [g125, g16, e_Q_yearOn_88, e_Q_yearOn_88, e_Q_yearOn_92, e_Q_yearOn_92]
          simp only [tg_sI, q1, true_and, nI_1]
          have key : ∀ y : Int32, y = dBorn (Cr c) (Cy c + 1) (Cm c i) → wp m_Q_yearOn (sI (sI h1 124 i (rSettle (Cr c) (Cm c i) 0 + 1)) 123 16 (gI h1 123 16 + y)) 12 [some (.ref 123), some (.int (nI (i + 1)))] [] (tyV k) := by
            intro y hy'
            have fr3 : Fs (fun b j => b = 123 ∧ j = 16) (sI h1 124 i (rSettle (Cr c) (Cm c i) 0 + 1)) (sI (sI h1 124 i (rSettle (Cr c) (Cm c i) 0 + 1)) 123 16 (gI h1 123 16 + y)) := Fs_sI _ _ _ _ ⟨rfl, rfl⟩
            refine fin _ (Fs_trans fr2 (Fs_mono fr3 (fun b j z => by unfold SY; omega))) ?_ (fun f => ?_) (by rw [gI_sI_eq, hy'])
            · refine Liv_ext (Liv_fs L2 fr3 (fun b j z => by unfold LRg; omega)) rfl rfl rfl rfl (fun f _ => ?_) (fun _ _ => rfl)
              show Ew 4 (setM (setM (fun f => if f < i then rYear (Cr c) (Cy c + 1) (Cm c f) else Cm c f) i (rSettle (Cr c) (Cm c i))) i (rs (rSettle (Cr c) (Cm c i)) 0 (rSettle (Cr c) (Cm c i) 0 + 1)) f) (setM (fun f => if f < i then rYear (Cr c) (Cy c + 1) (Cm c f) else Cm c f) i (rYear (Cr c) (Cy c + 1) (Cm c i)) f)
              unfold setM
              by_cases c1 : f = i
              · rw [if_pos c1, if_pos c1, hY]
                unfold rBear
                rw [if_pos d3]
                intro j hj
                split
                · rw [rs_ne (j := 6) _ _ (by omega)]
                · rfl
              · rw [if_neg c1, if_neg c1]
                dsimp only
                rw [if_neg c1]
                exact Ew_refl _ _
            · rw [gI_sI_ne _ _ _ _ (by omega), gI_sI_ne _ _ _ _ (by omega)]
          by_cases d4 : rSettle (Cr c) (Cm c i) 1 = 0
          · rw [if_neg (fun z => z d4)]
            exact key 1 (by rw [hB, if_pos d4])
          · rw [if_pos d4]
            exact key 0 (by rw [hB, if_neg d4])
        · rw [if_pos (Int32.not_lt.mp d3)]
          exact same (by unfold rYear rBear; dsimp only; rw [if_neg d1, if_pos d2, if_neg d3]) (by unfold dBorn; dsimp only; rw [if_neg d1, if_pos d2, if_neg d3])
      · rw [if_pos d2]
        exact same (by unfold rYear; dsimp only; rw [if_neg d1, if_neg d2]) (by unfold dBorn; dsimp only; rw [if_neg d1, if_neg d2])
  · refine Liv_ext (Liv_year L (Cy c + 1)) rfl rfl rfl rfl (fun f _ => ?_) (fun _ _ => rfl)
    show Ew 4 (Cm c f) (if f < 0 then rYear (Cr c) (Cy c + 1) (Cm c f) else Cm c f)
    rw [if_neg (by omega)]
    exact Ew_refl _ _
  · rw [gI_sI_ne _ _ _ _ (by omega)]
    show _ = gI h 123 16 + 0
    rw [Int32.add_zero]
end RefYr
