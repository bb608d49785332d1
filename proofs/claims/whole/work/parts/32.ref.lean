/-! ===== the reference: where it lies, what it holds ===== -/
/-- where the reference lies -/
def isQ (h : PH) : Prop := tg h 123 = 12 ∧ (gR h 123 1 = 124 ∧ gR h 123 2 = 125 ∧ gR h 123 3 = 126 ∧ gR h 123 4 = 127 ∧ gR h 123 8 = 128 ∧ gR h 123 9 = 129 ∧ gR h 123 10 = 130 ∧ gR h 123 11 = 131 ∧ gR h 123 13 = 132 ∧ gR h 123 14 = 133 ∧ gR h 123 15 = 134 ∧ gR h 123 17 = 135 ∧ gR h 123 18 = 136 ∧ gR h 123 23 = 137 ∧ gR h 123 24 = 138 ∧ gR h 123 25 = 139 ∧ gR h 123 26 = 140 ∧ gR h 123 27 = 141 ∧ gR h 123 32 = 142 ∧ gR h 123 33 = 143 ∧ gR h 123 35 = 144 ∧ gR h 123 37 = 145 ∧ gR h 123 38 = 146) ∧
  (tg h 124 = 100 ∧ tg h 125 = 100 ∧ tg h 126 = 100 ∧ tg h 127 = 100 ∧ tg h 128 = 100 ∧ tg h 129 = 100 ∧ tg h 130 = 100 ∧ tg h 131 = 100 ∧ tg h 132 = 100 ∧ tg h 133 = 100 ∧ tg h 134 = 100 ∧ tg h 135 = 100 ∧ tg h 136 = 100 ∧ tg h 137 = 100 ∧ tg h 138 = 100 ∧ tg h 139 = 100 ∧ tg h 140 = 100 ∧ tg h 141 = 100 ∧ tg h 142 = 100 ∧ tg h 143 = 100 ∧ tg h 144 = 100 ∧ tg h 145 = 100 ∧ tg h 146 = 100) ∧
  (ln h 124 = 5 ∧ ln h 125 = 5 ∧ ln h 126 = 5 ∧ ln h 127 = 5 ∧ ln h 128 = 6 ∧ ln h 129 = 6 ∧ ln h 130 = 6 ∧ ln h 131 = 6 ∧ ln h 132 = 7 ∧ ln h 133 = 5 ∧ ln h 134 = 5 ∧ ln h 135 = 5 ∧ ln h 136 = 96 ∧ ln h 137 = 49 ∧ ln h 138 = 49 ∧ ln h 139 = 147 ∧ ln h 140 = 48 ∧ ln h 141 = 48 ∧ ln h 142 = 384 ∧ ln h 143 = 48 ∧ ln h 144 = 12 ∧ ln h 145 = 6 ∧ ln h 146 = 6)
theorem qw {h : PH} (q : isQ h) : tg h 123 = 12 ∧ (gR h 123 1 = 124 ∧ gR h 123 2 = 125 ∧ gR h 123 3 = 126 ∧ gR h 123 4 = 127 ∧ gR h 123 8 = 128 ∧ gR h 123 9 = 129 ∧ gR h 123 10 = 130 ∧ gR h 123 11 = 131 ∧ gR h 123 13 = 132 ∧ gR h 123 14 = 133 ∧ gR h 123 15 = 134 ∧ gR h 123 17 = 135 ∧ gR h 123 18 = 136 ∧ gR h 123 23 = 137 ∧ gR h 123 24 = 138 ∧ gR h 123 25 = 139 ∧ gR h 123 26 = 140 ∧ gR h 123 27 = 141 ∧ gR h 123 32 = 142 ∧ gR h 123 33 = 143 ∧ gR h 123 35 = 144 ∧ gR h 123 37 = 145 ∧ gR h 123 38 = 146) ∧
  (tg h 124 = 100 ∧ tg h 125 = 100 ∧ tg h 126 = 100 ∧ tg h 127 = 100 ∧ tg h 128 = 100 ∧ tg h 129 = 100 ∧ tg h 130 = 100 ∧ tg h 131 = 100 ∧ tg h 132 = 100 ∧ tg h 133 = 100 ∧ tg h 134 = 100 ∧ tg h 135 = 100 ∧ tg h 136 = 100 ∧ tg h 137 = 100 ∧ tg h 138 = 100 ∧ tg h 139 = 100 ∧ tg h 140 = 100 ∧ tg h 141 = 100 ∧ tg h 142 = 100 ∧ tg h 143 = 100 ∧ tg h 144 = 100 ∧ tg h 145 = 100 ∧ tg h 146 = 100) ∧
  (ln h 124 = 5 ∧ ln h 125 = 5 ∧ ln h 126 = 5 ∧ ln h 127 = 5 ∧ ln h 128 = 6 ∧ ln h 129 = 6 ∧ ln h 130 = 6 ∧ ln h 131 = 6 ∧ ln h 132 = 7 ∧ ln h 133 = 5 ∧ ln h 134 = 5 ∧ ln h 135 = 5 ∧ ln h 136 = 96 ∧ ln h 137 = 49 ∧ ln h 138 = 49 ∧ ln h 139 = 147 ∧ ln h 140 = 48 ∧ ln h 141 = 48 ∧ ln h 142 = 384 ∧ ln h 143 = 48 ∧ ln h 144 = 12 ∧ ln h 145 = 6 ∧ ln h 146 = 6) := q
/-- all is as it was but for the whole numbers at the places S (and one reference of the reference) -/
def Fs (S : Nat → Nat → Prop) (h h' : PH) : Prop := h'.1 = h.1 ∧ h'.2.1 = h.2.1 ∧ (∀ b j, ¬ (b = 123 ∧ j = 31) → gR h' b j = gR h b j) ∧ ∀ b j, ¬ S b j → gI h' b j = gI h b j
section Fs
variable {S S' : Nat → Nat → Prop} {h h' h'' : PH}
theorem Fs_refl (S : Nat → Nat → Prop) (h : PH) : Fs S h h := ⟨rfl, rfl, fun _ _ _ => rfl, fun _ _ _ => rfl⟩
theorem Fs_mono (f : Fs S h h') (hS : ∀ b j, S b j → S' b j) : Fs S' h h' := ⟨f.1, f.2.1, f.2.2.1, fun b j n => f.2.2.2 b j (fun x => n (hS b j x))⟩
theorem Fs_trans (f : Fs S h h') (g : Fs S h' h'') : Fs S h h'' := ⟨g.1.trans f.1, g.2.1.trans f.2.1, fun b j n => (g.2.2.1 b j n).trans (f.2.2.1 b j n), fun b j n => (g.2.2.2 b j n).trans (f.2.2.2 b j n)⟩
theorem Fs_sI (h : PH) (a i : Nat) (x : Int32) (hS : S a i) : Fs S h (sI h a i x) := ⟨rfl, rfl, fun _ _ _ => rfl, fun b j n => gI_sI_ne _ _ _ _ (fun e => n (by rw [e.1, e.2]; exact hS))⟩
theorem Fs_sR (h : PH) (x : Nat) : Fs S h (sR h 123 31 x) := ⟨rfl, rfl, fun _ _ n => gR_sR_ne _ _ _ _ n, fun _ _ _ => rfl⟩
theorem Fs_tg (f : Fs S h h') (b : Nat) : tg h' b = tg h b := by unfold tg; rw [f.2.1]
theorem Fs_ln (f : Fs S h h') (b : Nat) : ln h' b = ln h b := by unfold ln; rw [f.2.1]
theorem Fs_gR (f : Fs S h h') {j : Nat} (hj : j ≠ 31) : gR h' 123 j = gR h 123 j := f.2.2.1 123 j (fun e => hj e.2)
theorem isQ_fs (q : isQ h) (f : Fs S h h') : isQ h' := by
  unfold isQ
  simp only [Fs_tg f, Fs_ln f, Fs_gR f (show (1 : Nat) ≠ 31 by decide), Fs_gR f (show (2 : Nat) ≠ 31 by decide), Fs_gR f (show (3 : Nat) ≠ 31 by decide), Fs_gR f (show (4 : Nat) ≠ 31 by decide), Fs_gR f (show (8 : Nat) ≠ 31 by decide), Fs_gR f (show (9 : Nat) ≠ 31 by decide), Fs_gR f (show (10 : Nat) ≠ 31 by decide), Fs_gR f (show (11 : Nat) ≠ 31 by decide), Fs_gR f (show (13 : Nat) ≠ 31 by decide), Fs_gR f (show (14 : Nat) ≠ 31 by decide), Fs_gR f (show (15 : Nat) ≠ 31 by decide), Fs_gR f (show (17 : Nat) ≠ 31 by decide), Fs_gR f (show (18 : Nat) ≠ 31 by decide), Fs_gR f (show (23 : Nat) ≠ 31 by decide), Fs_gR f (show (24 : Nat) ≠ 31 by decide), Fs_gR f (show (25 : Nat) ≠ 31 by decide), Fs_gR f (show (26 : Nat) ≠ 31 by decide), Fs_gR f (show (27 : Nat) ≠ 31 by decide), Fs_gR f (show (32 : Nat) ≠ 31 by decide), Fs_gR f (show (33 : Nat) ≠ 31 by decide), Fs_gR f (show (35 : Nat) ≠ 31 by decide), Fs_gR f (show (37 : Nat) ≠ 31 by decide), Fs_gR f (show (38 : Nat) ≠ 31 by decide)]
  exact q
end Fs
/-- the places at which the reference holds the ledger -/
def LRg (b j : Nat) : Prop := (b = 123 ∧ (j = 0 ∨ j = 5 ∨ j = 6 ∨ j = 7)) ∨ (124 ≤ b ∧ b ≤ 130)
/-- what the reference holds -/
def Liv (h : PH) (c : Core) : Prop := isQ h ∧ (Cf c ≤ 5 ∧ Cw c ≤ 6) ∧ (gI h 123 0 = nI (Cf c) ∧ gI h 123 7 = nI (Cw c) ∧ gI h 123 6 = Cy c ∧ gI h 123 5 = Cr c) ∧
  (∀ f, f < Cf c → gI h 124 f = Cm c f 0 ∧ gI h 125 f = Cm c f 1 ∧ gI h 126 f = Cm c f 2 ∧ gI h 127 f = Cm c f 3) ∧ (∀ w, w < Cw c → gI h 128 w = Ck c w 0 ∧ gI h 129 w = Ck c w 1 ∧ gI h 130 w = Ck c w 2)
section Liv
variable {S : Nat → Nat → Prop} {h h' : PH} {c c' : Core}
theorem Liv_fs (L : Liv h c) (f : Fs S h h') (hS : ∀ b j, S b j → ¬ LRg b j) : Liv h' c := by
  have e : ∀ b j, LRg b j → gI h' b j = gI h b j := fun b j l => f.2.2.2 b j (fun s => hS b j s l)
  refine ⟨isQ_fs L.1 f, L.2.1, ?_, fun g hg => ?_, fun w hw => ?_⟩
  · rw [e 123 0 (by unfold LRg; omega), e 123 7 (by unfold LRg; omega), e 123 6 (by unfold LRg; omega), e 123 5 (by unfold LRg; omega)]
    exact L.2.2.1
  · rw [e 124 g (by unfold LRg; omega), e 125 g (by unfold LRg; omega), e 126 g (by unfold LRg; omega), e 127 g (by unfold LRg; omega)]
    exact L.2.2.2.1 g hg
  · rw [e 128 w (by unfold LRg; omega), e 129 w (by unfold LRg; omega), e 130 w (by unfold LRg; omega)]
    exact L.2.2.2.2 w hw
theorem Liv_ext (L : Liv h c) (h1 : Cf c' = Cf c) (h2 : Cw c' = Cw c) (h3 : Cy c' = Cy c) (h4 : Cr c' = Cr c) (h5 : ∀ f, f < Cf c → Ew 4 (Cm c f) (Cm c' f)) (h6 : ∀ w, w < Cw c → Ck c w = Ck c' w) : Liv h c' := by
  refine ⟨L.1, ?_, ?_, ?_, ?_⟩
  · rw [h1, h2]; exact L.2.1
  · rw [h1, h2, h3, h4]; exact L.2.2.1
  · intro f hf; rw [h1] at hf
    rw [← h5 f hf 0 (by decide), ← h5 f hf 1 (by decide), ← h5 f hf 2 (by decide), ← h5 f hf 3 (by decide)]
    exact L.2.2.2.1 f hf
  · intro w hw; rw [h2] at hw; rw [← h6 w hw]; exact L.2.2.2.2 w hw
theorem le64 (a b : Int32) : a.toInt64 ≤ b.toInt64 ↔ a ≤ b := by rw [Int64.le_iff_toInt_le, Int32.le_iff_toInt_le, Int32.toInt_toInt64, Int32.toInt_toInt64]
theorem s_Q_in (h : PH) (a0 a1 a2 : Int64) (k : PH → Int32 → Prop) : ccI m_Q_in h [.long a0, .long a1, .long a2] k = k h (if a1 ≤ a0 ∧ a0 ≤ a2 then 1 else 0) := by
  rw [c_Q_in]
  simp only [lg_cmp_lt, lg_cmp_gt, e_Q_in_17, e_Q_in_18]
  by_cases c1 : a0 < a1
  · rw [if_pos c1, if_neg (fun z => Int64.not_le.mpr c1 z.1)]; simp
  · rw [if_neg c1]
    by_cases c2 : a2 < a0
    · rw [if_pos c2, if_neg (fun z => Int64.not_le.mpr c2 z.2)]; simp
    · rw [if_neg c2, if_pos ⟨Int64.not_lt.mp c1, Int64.not_lt.mp c2⟩]; simp
theorem s_Q_inI (h : PH) {x lo hi : Int32} {a1 a2 : Int64} (h1 : a1 = lo.toInt64) (h2 : a2 = hi.toInt64) (k : PH → Int32 → Prop) : ccI m_Q_in h [.long (Int32.toInt64 x), .long a1, .long a2] k = k h (if lo ≤ x ∧ x ≤ hi then 1 else 0) := by
  rw [s_Q_in, h1, h2]
  simp only [le64]
theorem le_pred {n : Nat} (hn : n ≤ 6) (x : Int32) : x ≤ nI n - 1 ↔ ¬ nI n ≤ x := by
  have e : ∀ n : Fin 7, (nI n.1 - 1).toInt = (n.1 : Int) - 1 := by decide +kernel
  have e1 : (nI n - 1).toInt = (n : Int) - 1 := e ⟨n, by omega⟩
  rw [Int32.le_iff_toInt_le, Int32.le_iff_toInt_le, e1, nI_toInt (by omega)]
  omega
theorem in_off {n : Nat} (hn : n ≤ 6) (x : Int32) : (if 0 ≤ x ∧ x ≤ nI n - 1 then (1 : Int32) else 0) = if offN x n then 0 else 1 := by
  by_cases c : offN x n
  · rw [if_pos c, if_neg]
    intro z
    rcases c with c | c
    · exact Int32.not_le.mpr c z.1
    · exact (le_pred hn x).mp z.2 c
  · rw [if_neg c, if_pos]
    exact ⟨Int32.not_lt.mp (fun z => c (Or.inl z)), (le_pred hn x).mpr (fun z => c (Or.inr z))⟩
theorem s_Q_isFamily (L : Liv h c) (x : Int32) (k : PH → Int32 → Prop) : ccI m_Q_isFamily h [.ref 123, .int x] k = k h (if offN x (Cf c) then 0 else 1) := by
  have q := L.1.1
  have h5 := L.2.1.1
  rw [c_Q_isFamily, s_Q_inI h (lo := 0) (by decide) rfl, L.2.2.1.1, in_off (by omega)]
  simp only [q, true_and]
  split <;> simp
theorem s_Q_isWork (L : Liv h c) (x : Int32) (k : PH → Int32 → Prop) : ccI m_Q_isWork h [.ref 123, .int x] k = k h (if offN x (Cw c) then 0 else 1) := by
  have q := L.1.1
  have h5 := L.2.1.2
  rw [c_Q_isWork, s_Q_inI h (lo := 0) (by decide) rfl, L.2.2.1.2.1, in_off (by omega)]
  simp only [q, true_and]
  split <;> simp
theorem s_Q_wrongNumber (h : PH) (x lo hi : Int32) (k : PH → Int32 → Prop) : ccI m_Q_wrongNumber h [.int x, .int lo, .int hi] k = k h (outN x lo hi) := by
  rw [c_Q_wrongNumber]
  simp only [e_Q_wrongNumber_21, outN]
  by_cases c : x < lo
  · rw [if_neg (Int32.not_le.mpr c), if_pos c]
  · rw [if_pos (Int32.not_lt.mp c), if_neg c]
    by_cases d : hi < x
    · rw [if_neg (Int32.not_le.mpr d), if_pos d]
    · rw [if_pos (Int32.not_lt.mp d), if_neg d]
theorem in_oth (x m : Int32) : (if 0 ≤ x ∧ x ≤ m then (1 : Int32) else 0) = if othN x m = 0 then 1 else 0 := by
  unfold othN
  by_cases c : x < 0 ∨ m < x
  · rw [if_pos c, if_neg, if_neg (by decide)]
    exact fun z => c.elim (fun y => Int32.not_le.mpr y z.1) (fun y => Int32.not_le.mpr y z.2)
  · rw [if_neg c, if_pos ⟨Int32.not_lt.mp (fun z => c (Or.inl z)), Int32.not_lt.mp (fun z => c (Or.inr z))⟩]; rfl
theorem s_Q_inO (h : PH) {x hi : Int32} {a2 : Int64} (h2 : a2 = hi.toInt64) (k : PH → Int32 → Prop) : ccI m_Q_in h [.long (Int32.toInt64 x), .long 0, .long a2] k = k h (if othN x hi = 0 then 1 else 0) := by
  rw [s_Q_inI h (lo := 0) (by decide) h2, in_oth]
theorem s_Q_wrongBit (h : PH) (w x m : Int32) (k : PH → Int32 → Prop) : ccI m_Q_wrongBit h [.int w, .int x, .int m] k = k h (if w = 0 then othN x m else w) := by
  rw [c_Q_wrongBit]
  simp only [e_Q_wrongBit_21, e_Q_wrongBit_20]
  rw [s_Q_inO h rfl]
  by_cases c : w = 0
  · rw [if_neg (fun z => z c), if_pos c]
    by_cases d : othN x m = 0
    · rw [if_pos d, if_pos (by decide), c, d]
    · rw [if_neg d, if_neg (by decide)]
      unfold othN at d ⊢
      by_cases e : x < 0 ∨ m < x
      · rw [if_pos e]
      · rw [if_neg e] at d; exact absurd rfl d
  · rw [if_pos c, if_neg c]
theorem s_Q_hasBit (h : PH) (B : Int32) (f : Nat) (k : PH → Int32 → Prop) : ccI m_Q_hasBit h [.int B, .int (nI f)] k = k h (if bt B f = true then 1 else 0) := by
  rw [c_Q_hasBit]
  simp only [e_Q_hasBit_14, bt, decide_eq_true_eq]
  by_cases c : B >>> (nI f &&& 31) &&& 1 = 1 <;> simp [c]
def heldN (x lo hi : Int32) : Int32 := if x < lo then lo else if hi < x then hi else x
theorem s_Q_held (h : PH) (x lo hi : Int32) (k : PH → Int32 → Prop) : ccI m_Q_held h [.int x, .int lo, .int hi] k = k h (heldN x lo hi) := by
  rw [c_Q_held]
  simp only [e_Q_held_19, heldN]
  by_cases c : x < lo
  · rw [if_neg (Int32.not_le.mpr c), if_pos c]
  · rw [if_pos (Int32.not_lt.mp c), if_neg c]
    by_cases d : hi < x
    · rw [if_neg (Int32.not_le.mpr d), if_pos d]
    · rw [if_pos (Int32.not_lt.mp d), if_neg d]
def headsC (c : Core) : Int32 := sumN (fun f => Cm c f 0) (Cf c)
theorem s_Q_allHeads (L : Liv h c) (k : PH → Int32 → Prop) : ccI m_Q_allHeads h [.ref 123] k = k h (headsC c) := by
  have q := qw L.1
  have h5 := L.2.1.1
  have h0 := L.2.2.1.1
  rw [c_Q_allHeads]
  refine (lp (fun i => wp m_Q_allHeads h 4 [some (.ref 123), some (.int (sumN (fun f => Cm c f 0) i)), some (.int (nI i))] [] (tyI k)) (Cf c) fun i hi => ?_).trans ?_
  · rw [e_Q_allHeads_4, h0, if_neg (nI_ge hi (by omega)), ix_nI (by omega)]
    simp only [q, true_and, true_or, inb_nI (show i < 5 by omega) (by decide), (L.2.2.2.1 i hi).1, nI_1]
    rfl
  · rw [e_Q_allHeads_4, h0, if_pos (Int32.le_refl _)]
    simp only [q, true_and]; rfl
theorem s_Q_allDebts (L : Liv h c) (k : PH → Int32 → Prop) : ccI m_Q_allDebts h [.ref 123] k = k h (debtsC c) := by
  have q := qw L.1
  have h5 := L.2.1.1
  have h0 := L.2.2.1.1
  rw [c_Q_allDebts]
  refine (lp (fun i => wp m_Q_allDebts h 4 [some (.ref 123), some (.int (sumN (fun f => Cm c f 1) i)), some (.int (nI i))] [] (tyI k)) (Cf c) fun i hi => ?_).trans ?_
  · rw [e_Q_allDebts_4, h0, if_neg (nI_ge hi (by omega)), ix_nI (by omega)]
    simp only [q, true_and, true_or, inb_nI (show i < 5 by omega) (by decide), (L.2.2.2.1 i hi).2.1, nI_1]
    rfl
  · rw [e_Q_allDebts_4, h0, if_pos (Int32.le_refl _)]
    simp only [q, true_and]; rfl
theorem s_Q_headOwes (L : Liv h c) (o : okC c) {f : Nat} (hf : f < Cf c) (k : PH → Int32 → Prop) : ccI m_Q_headOwes h [.ref 123, .int (nI f)] k = k h (hoR (Cm c f)) := by
  have q := qw L.1
  have h5 := L.2.1.1
  have r := L.2.2.2.1 f hf
  rw [c_Q_headOwes, ix_nI (by omega)]
  simp only [q, true_and, true_or, inb_nI (show f < 5 by omega) (by decide), r.1, r.2.1, RgF_h0 (o.2.2.1 f hf), not_false_eq_true]
  rw [hoR_eq (o.2.2.1 f hf)]
theorem s_Q_mostHeads (L : Liv h c) (k : PH → Int32 → Prop) : ccI m_Q_mostHeads h [.ref 123] k = k h (nI (mostC c)) := by
  have q := qw L.1
  have h5 := L.2.1.1
  have h0 := L.2.2.1.1
  rw [c_Q_mostHeads]
  unfold mostC
  generalize hr : (fun i j => decide (¬ Cm c i 0 ≤ Cm c j 0)) = r
  have r0 : bst r 1 = 0 := by subst hr; simp [bst]
  by_cases hz : 1 ≤ Cf c
  · refine Eq.trans ?_ ((lpOne (fun i => wp m_Q_mostHeads h 4 [some (.ref 123), some (.int (nI (bst r i))), some (.int (nI i))] [] (tyI k)) (Cf c) hz fun i h1 hi => ?_).trans ?_)
    · rw [r0]; rfl
    · have hb := bst_lt1 r i h1
      rw [e_Q_mostHeads_4, h0, if_neg (nI_ge hi (by omega)), ix_nI (show i < 2 ^ 31 by omega), ix_nI (show bst r i < 2 ^ 31 by omega)]
      simp only [q, true_and, true_or, inb_nI (show i < 5 by omega) (show 5 < 2 ^ 31 by decide), inb_nI (show bst r i < 5 by omega) (show 5 < 2 ^ 31 by decide), (L.2.2.2.1 i hi).1, (L.2.2.2.1 (bst r i) (by omega)).1, e_Q_mostHeads_32, nI_1, bst]
      have : r i (bst r i) = decide (¬ Cm c i 0 ≤ Cm c (bst r i) 0) := by rw [← hr]
      rw [this]
      by_cases d : Cm c i 0 ≤ Cm c (bst r i) 0 <;> simp [d]
    · rw [e_Q_mostHeads_4, h0, if_pos (Int32.le_refl _)]
      simp only [q, true_and]
  · have : Cf c = 0 := by omega
    rw [this] at h0 ⊢
    rw [e_Q_mostHeads_4, h0, if_pos (by decide)]
    simp only [q, true_and, bst]; rfl
theorem s_Q_leastDebt (L : Liv h c) (k : PH → Int32 → Prop) : ccI m_Q_leastDebt h [.ref 123] k = k h (nI (leastC c)) := by
  have q := qw L.1
  have h5 := L.2.1.1
  have h0 := L.2.2.1.1
  rw [c_Q_leastDebt]
  unfold leastC
  generalize hr : (fun i j => decide (¬ Cm c j 1 ≤ Cm c i 1)) = r
  have r0 : bst r 1 = 0 := by subst hr; simp [bst]
  by_cases hz : 1 ≤ Cf c
  · refine Eq.trans ?_ ((lpOne (fun i => wp m_Q_leastDebt h 4 [some (.ref 123), some (.int (nI (bst r i))), some (.int (nI i))] [] (tyI k)) (Cf c) hz fun i h1 hi => ?_).trans ?_)
    · rw [r0]; rfl
    · have hb := bst_lt1 r i h1
      rw [e_Q_leastDebt_4, h0, if_neg (nI_ge hi (by omega)), ix_nI (show i < 2 ^ 31 by omega), ix_nI (show bst r i < 2 ^ 31 by omega)]
      simp only [q, true_and, true_or, inb_nI (show i < 5 by omega) (show 5 < 2 ^ 31 by decide), inb_nI (show bst r i < 5 by omega) (show 5 < 2 ^ 31 by decide), (L.2.2.2.1 i hi).2.1, (L.2.2.2.1 (bst r i) (by omega)).2.1, e_Q_leastDebt_32, nI_1, bst]
      have : r i (bst r i) = decide (¬ Cm c (bst r i) 1 ≤ Cm c i 1) := by rw [← hr]
      rw [this]
      by_cases d : Cm c (bst r i) 1 ≤ Cm c i 1 <;> simp [d]
    · rw [e_Q_leastDebt_4, h0, if_pos (Int32.le_refl _)]
      simp only [q, true_and]
  · have : Cf c = 0 := by omega
    rw [this] at h0 ⊢
    rw [e_Q_leastDebt_4, h0, if_pos (by decide)]
    simp only [q, true_and, bst]; rfl
theorem held_le {x : Int32} {n : Nat} (h : x = nI n) {m : Nat} (hn : n < 2 ^ 30) (hm : m < 2 ^ 30) : heldN x 0 (nI m) = if x ≤ nI m then x else nI m := by
  unfold heldN
  rw [h, if_neg (nI_pos (by omega))]
  by_cases c : nI n ≤ nI m
  · rw [if_pos c, if_neg (Int32.not_lt.mpr c)]
  · rw [if_neg c, if_pos (Int32.not_le.mp c)]
theorem s_Q_dueOf (L : Liv h c) (o : okC c) {w : Nat} (hw : w < Cw c) (k : PH → Int32 → Prop) : ccI m_Q_dueOf h [.ref 123, .int (nI w)] k = k h (dueW (Ck c w)) := by
  have q := qw L.1
  have h6 := L.2.1.2
  have r := L.2.2.2.2 w hw
  have b := dueW_bd (o.2.2.2 w hw)
  rw [c_Q_dueOf, ix_nI (by omega)]
  simp only [q, true_and, true_or, inb_nI (show w < 6 by omega) (by decide), r.1, r.2.1, r.2.2, e_Q_dueOf_22, s_Q_held, ix_nI (show w < 2 ^ 31 by omega)]
  unfold dueW at b ⊢
  by_cases c1 : Ck c w 0 = 1
  · simp only [c1, if_true]
  by_cases c2 : Ck c w 0 = 2
  · simp only [c2, if_true]; rfl
  by_cases c3 : Ck c w 0 = 3
  · simp only [c3, if_true]; simp
  by_cases c4 : Ck c w 0 = 4
  · have n1 : ¬ (4 : Int32) = 1 := by decide
    have n2 : ¬ (4 : Int32) = 2 := by decide
    have n3 : ¬ (4 : Int32) = 3 := by decide
    simp only [c4, n1, n2, n3, if_true, if_false] at b ⊢
    congr 1
    unfold heldN
    by_cases d : 1 < 2 * Ck c w 2 - Ck c w 1
    · rw [if_pos d] at b ⊢
      obtain ⟨n, e, _, e2⟩ := bd_of b
      have : ¬ (99999 : Int32) < nI n := nI_nlt (a := 99999) (by omega) (by decide)
      rw [if_neg (Int32.not_lt.mpr (Int32.le_of_lt d)), e, if_neg this]
    · rw [if_neg d]
      by_cases d2 : 2 * Ck c w 2 - Ck c w 1 < 1
      · rw [if_pos d2]
      · have : 2 * Ck c w 2 - Ck c w 1 = 1 := Int32.le_antisymm (Int32.not_lt.mp d) (Int32.not_lt.mp d2)
        rw [this, if_neg (by decide), if_neg (by decide)]
  by_cases c5 : Ck c w 0 = 5
  · simp only [c5, if_true]; rfl
  simp only [c1, c2, c3, c4, c5, if_false]
end Liv
