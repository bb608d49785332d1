/-! ===== the reference: rate, years, debt, builds, family, work, back ===== -/
theorem gI_if (h : PH) (a j : Nat) (x : Int32) (b i : Nat) : gI (sI h a j x) b i = if b = a ∧ i = j then x else gI h b i := rfl
theorem bF_app {bo : List Nat} {w : Nat} (hw : w ∉ bo) (v : Nat) : bF (bo ++ [w]) v = if v = w then nI (bo.length + 1) else bF bo v := by
  unfold bF
  rw [List.idxOf_append]
  by_cases d : v = w
  · subst d
    rw [if_pos rfl, if_pos (by simp), if_neg hw, List.idxOf_cons_self]
    congr 1
    omega
  · rw [if_neg d]
    by_cases e : v ∈ bo
    · rw [if_pos (by simp [e]), if_pos e, if_pos e]
    · rw [if_neg (by simp [e, d]), if_neg e]
theorem lastN_max {g : Nat → Int32} {G : Nat → Nat} : ∀ n, (∀ w, w < n → g w = nI (G w) ∧ G w ≤ 6) → ∃ m, lastN g n = nI m ∧ m ≤ 6 ∧ (∀ w, w < n → G w ≤ m) ∧ (m = 0 ∨ ∃ w, w < n ∧ G w = m)
  | 0, _ => ⟨0, rfl, by omega, fun w hw => absurd hw (Nat.not_lt_zero _), Or.inl rfl⟩
  | n + 1, h => by
    obtain ⟨m, e, h6, hm, ha⟩ := lastN_max n (fun w hw => h w (by omega))
    have hn := h n (by omega)
    unfold lastN
    rw [e, hn.1]
    by_cases c : G n ≤ m
    · rw [if_pos (nI_le c (by omega))]
      refine ⟨m, rfl, h6, fun w hw => ?_, ?_⟩
      · by_cases d : w = n
        · rw [d]; exact c
        · exact hm w (by omega)
      · rcases ha with ha | ⟨w, h1, h2⟩
        · exact Or.inl ha
        · exact Or.inr ⟨w, by omega, h2⟩
    · rw [if_neg (nI_ge (by omega) (by omega))]
      refine ⟨G n, rfl, hn.2, fun w hw => ?_, Or.inr ⟨n, by omega, rfl⟩⟩
      by_cases d : w = n
      · rw [d]; exact Nat.le_refl _
      · have := hm w (by omega); omega
theorem lastN_bF {bo : List Nat} {n : Nat} (o : okB bo n) (hn : n ≤ 6) : lastN (bF bo) n = nI bo.length := by
  have hl := okB_len o
  obtain ⟨m, e, h6, hm, ha⟩ := lastN_max (g := bF bo) (G := fun w => if w ∈ bo then bo.idxOf w + 1 else 0) n (fun w _ => by
    unfold bF
    by_cases d : w ∈ bo
    · have := List.idxOf_lt_length_of_mem d
      rw [if_pos d, if_pos d]; exact ⟨rfl, by omega⟩
    · rw [if_neg d, if_neg d]; exact ⟨rfl, by omega⟩)
  rw [e]
  congr 1
  have up : m ≤ bo.length := by
    rcases ha with ha | ⟨w, h1, h2⟩
    · omega
    · by_cases d : w ∈ bo
      · have := List.idxOf_lt_length_of_mem d
        rw [if_pos d] at h2; omega
      · rw [if_neg d] at h2; omega
  by_cases z : bo.length = 0
  · omega
  · have hg := get_mem (show bo.length - 1 < bo.length by omega)
    have h1 := hm _ (o.2 _ hg)
    rw [if_pos hg, idx_get o.1 (by omega)] at h1
    omega
theorem lastN_c {g g' : Nat → Int32} : ∀ {n}, (∀ i, i < n → g i = g' i) → lastN g n = lastN g' n
  | 0, _ => rfl
  | n + 1, e => by unfold lastN; rw [lastN_c (fun i hi => e i (by omega)), e n (by omega)]
section Q9
variable {h h' h0 h1 h2 h3 : PH} {s : Sta} {c c' : Core} {S : Nat → Nat → Prop}
theorem t_Q_familyComes (L : Liv h c) (hf : Cf c < 5) (x y z : Int32) {k : PH → Prop} (hk : ∀ h', Fs (fun b j => (b = 123 ∧ j = 0) ∨ (124 ≤ b ∧ b ≤ 127)) h h' → Liv h' (addFam c x y z) → k h') : ccV m_Q_familyComes h [.ref 123, .int x, .int y, .int z] k := by
  have q := qw L.1
  have e0 := L.2.2.1.1
  have n1 : ∀ h j x, gI (sI h 124 j x) 123 = gI h 123 := fun h j x => gI_sI_nc _ _ _ _ (by decide)
  have n2 : ∀ h j x, gI (sI h 125 j x) 123 = gI h 123 := fun h j x => gI_sI_nc _ _ _ _ (by decide)
  have n3 : ∀ h j x, gI (sI h 126 j x) 123 = gI h 123 := fun h j x => gI_sI_nc _ _ _ _ (by decide)
  have n4 : ∀ h j x, gI (sI h 127 j x) 123 = gI h 123 := fun h j x => gI_sI_nc _ _ _ _ (by decide)
  rw [c_Q_familyComes]
  simp only [e_Q_familyComes_30, tg_sI, ln_sI, gR_sI, n1, n2, n3, n4, q, e0, true_and, b5 hf, ix_nI (show Cf c < 2 ^ 31 by omega), nI_1]
  have fr : Fs (fun b j => (b = 123 ∧ j = 0) ∨ (124 ≤ b ∧ b ≤ 127)) h (sI (sI (sI (sI (sI h 124 (Cf c) x) 125 (Cf c) 0) 126 (Cf c) y) 127 (Cf c) z) 123 0 (nI (Cf c + 1))) :=
    Fs_trans (Fs_sI _ _ _ _ (by omega)) (Fs_trans (Fs_sI _ _ _ _ (by omega)) (Fs_trans (Fs_sI _ _ _ _ (by omega)) (Fs_trans (Fs_sI _ _ _ _ (by omega)) (Fs_sI _ _ _ _ (by omega)))))
  refine hk _ fr ⟨isQ_fs L.1 fr, ⟨by show Cf c + 1 ≤ 5; omega, L.2.1.2⟩, ⟨rfl, L.2.2.1.2.1, L.2.2.1.2.2.1, L.2.2.1.2.2.2⟩, fun g hg => ?_, L.2.2.2.2⟩
  have hg' : g < Cf c + 1 := hg
  show _ = setM (Cm c) (Cf c) (famRow x y z) g 0 ∧ _ = setM (Cm c) (Cf c) (famRow x y z) g 1 ∧ _ = setM (Cm c) (Cf c) (famRow x y z) g 2 ∧ _ = setM (Cm c) (Cf c) (famRow x y z) g 3
  unfold setM
  by_cases d : g = Cf c
  · subst d
    simp [gI_if, famRow]
  · have l := L.2.2.2.1 g (by omega)
    simp [gI_if, d, l]
theorem t_Q_workComes (L : Liv h c) (hw : Cw c < 6) (x y z : Int32) {k : PH → Prop} (hk : ∀ h', Fs (fun b j => (b = 123 ∧ j = 7) ∨ (128 ≤ b ∧ b ≤ 131)) h h' → Liv h' (addWork c (wkRow x y z)) → (∀ w, gI h' 131 w = if w = Cw c then 0 else gI h 131 w) → k h') : ccV m_Q_workComes h [.ref 123, .int x, .int y, .int z] k := by
  have q := qw L.1
  have e0 := L.2.2.1.2.1
  have n1 : ∀ h j x, gI (sI h 128 j x) 123 = gI h 123 := fun h j x => gI_sI_nc _ _ _ _ (by decide)
  have n2 : ∀ h j x, gI (sI h 129 j x) 123 = gI h 123 := fun h j x => gI_sI_nc _ _ _ _ (by decide)
  have n3 : ∀ h j x, gI (sI h 130 j x) 123 = gI h 123 := fun h j x => gI_sI_nc _ _ _ _ (by decide)
  have n4 : ∀ h j x, gI (sI h 131 j x) 123 = gI h 123 := fun h j x => gI_sI_nc _ _ _ _ (by decide)
  rw [c_Q_workComes]
  simp only [e_Q_workComes_30, tg_sI, ln_sI, gR_sI, n1, n2, n3, n4, q, e0, true_and, b6 hw, ix_nI (show Cw c < 2 ^ 31 by omega), nI_1]
  have fr : Fs (fun b j => (b = 123 ∧ j = 7) ∨ (128 ≤ b ∧ b ≤ 131)) h (sI (sI (sI (sI (sI h 128 (Cw c) x) 129 (Cw c) y) 130 (Cw c) z) 131 (Cw c) 0) 123 7 (nI (Cw c + 1))) :=
    Fs_trans (Fs_sI _ _ _ _ (by omega)) (Fs_trans (Fs_sI _ _ _ _ (by omega)) (Fs_trans (Fs_sI _ _ _ _ (by omega)) (Fs_trans (Fs_sI _ _ _ _ (by omega)) (Fs_sI _ _ _ _ (by omega)))))
  refine hk _ fr ⟨isQ_fs L.1 fr, ⟨L.2.1.1, by show Cw c + 1 ≤ 6; omega⟩, ⟨L.2.2.1.1, rfl, L.2.2.1.2.2.1, L.2.2.1.2.2.2⟩, L.2.2.2.1, fun w hw' => ?_⟩ (fun w => by simp [gI_if])
  have hw2 : w < Cw c + 1 := hw'
  show _ = setM (Ck c) (Cw c) (wkRow x y z) w 0 ∧ _ = setM (Ck c) (Cw c) (wkRow x y z) w 1 ∧ _ = setM (Ck c) (Cw c) (wkRow x y z) w 2
  unfold setM
  by_cases d : w = Cw c
  · subst d
    simp [gI_if, wkRow]
  · have l := L.2.2.2.2 w (by omega)
    simp [gI_if, d, l]
/-- what is now is written over -/
theorem IQ_now (I : IQ h s) (f : Fs S h h') (hS : ∀ b j, S b j → ¬ ((b = 123 ∧ (j = 19 ∨ j = 28 ∨ j = 34 ∨ j = 36)) ∨ b = 132 ∨ b = 136 ∨ b = 141 ∨ b = 142 ∨ b = 144)) {z : Zl} (L : Liv h' z.1) (B : ∀ w, w < Cw z.1 → gI h' 131 w = bF z.2 w) : IQ h' (nowS s z) :=
  ⟨L, B, IQst_c (s := nowS s z) I.2.2 (fun b j hb => f.2.2.2 b j (fun x => hS b j x hb))⟩
/-- what can be taken back is written over -/
theorem IQ_past (I : IQ h s) {p : List Zl} (f : Fs (fun b j => (b = 123 ∧ j = 34) ∨ b = 142 ∨ b = 143 ∨ (b = 123 ∧ (j = 29 ∨ j = 30))) h h') (e : gI h' 123 34 = nI p.length) (K : ∀ (j : Nat) (x : Zl), p[j]? = some x → KpV (fun i => gI h' 142 (48 * j + i)) x.1 (bF x.2)) : IQ h' (pastS s p) := by
  have st := I.2.2
  have g : ∀ b j, ¬ ((b = 123 ∧ j = 34) ∨ b = 142 ∨ b = 143 ∨ (b = 123 ∧ (j = 29 ∨ j = 30))) → gI h' b j = gI h b j := f.2.2.2
  refine ⟨Liv_fs I.1 f (fun b j x => by unfold LRg; omega), fun w hw => by rw [g 131 w (by omega)]; exact I.2.1 w hw, ?_, fun x hx => ?_, ⟨e, K⟩, ⟨?_, fun i hi => ?_⟩, ⟨?_, fun i hi => ?_⟩, fun i hi => ?_⟩
  · rw [g 123 28 (by omega)]; exact st.1
  · have : gI h' 141 = gI h 141 := funext fun j => g 141 j (by omega)
    unfold Kp; rw [this]; exact st.2.1 x hx
  · rw [g 123 19 (by omega)]; exact st.2.2.2.1.1
  · rw [g 136 i (by omega)]; exact st.2.2.2.1.2 i hi
  · rw [g 123 36 (by omega)]; exact st.2.2.2.2.1.1
  · rw [g 144 i (by omega)]; exact st.2.2.2.2.1.2 i hi
  · rw [g 132 i (by omega)]; exact st.2.2.2.2.2 i hi
theorem IQ_forget (I : IQ h s) : IQ (sI h 123 34 0) (pastS s []) :=
  IQ_past I (Fs_sI _ _ _ _ (Or.inl ⟨rfl, rfl⟩)) (gI_sI_eq _ _ _ _) (fun j x hx => by simp at hx)
theorem KP_cell (b j : Nat) (x : Int32) (hb : 123 ≤ b ∧ b < 147) : KP h (sI h b j x) := KP_fs (S := fun c _ => c = b) (Fs_sI _ _ _ _ rfl) (fun c j e => by omega)
theorem b48 {i : Nat} (h : i < 48) : inb (nI i) 48 := inb_nI h (by decide)
theorem b384 {i : Nat} (h : i < 384) : inb (nI i) 384 := inb_nI h (by decide)
theorem i48 {i : Nat} : nI (48 + i) - 48 = nI i := by
  rw [show (48 : Int32) = nI 48 from rfl, nI_subI (by omega)]; congr 1; omega
theorem m48 (m i : Nat) : 48 * nI m + nI i = nI (48 * m + i) := by
  rw [show (48 : Int32) = nI 48 from rfl, nI_mul, nI_add]
/-- a place is made free for one more -/
theorem t_keepShift (I : IQ h s) (o : okS s) {k : PH → Prop} (hk : ∀ h' q1 m, m + 1 = (keepL (zP s) s.1).length → Fs (fun b j => b = 142 ∨ (b = 123 ∧ j = 34)) h h' → gI h' 123 34 = nI m → (∀ (j : Nat) (x : Zl), j < m → (zP s)[j + (if (zP s).length = 8 then 1 else 0)]? = some x → KpV (fun i => gI h' 142 (48 * j + i)) x.1 (bF x.2)) → wp m_Q_keepTurn h' 50 [some (.ref 123), q1] [] (tyV k)) : ccV m_Q_keepTurn h [.ref 123] k := by
  have q := qw I.1.1
  have st := I.2.2.2.2.1
  have h8 := o.2.2.2.1
  have hl := keepL_len (zP s) s.1 h8
  rw [c_Q_keepTurn, st.1]
  refine ⟨q.1, ?_⟩
  by_cases e : (zP s).length = 8
  · rw [if_pos e] at hl
    rw [e, if_neg (fun z => z rfl)]
    simp only [e, if_true] at hk
    refine hp (A := fun i h' => Fs (fun b j => b = 142 ∨ (b = 123 ∧ j = 34)) h h' ∧ gI h' 123 34 = nI 8 ∧ (∀ j, j < i → gI h' 142 j = gI h 142 (48 + j)) ∧ ∀ j, i ≤ j → gI h' 142 j = gI h 142 j) (X := fun i h' => wp m_Q_keepTurn h' 12 [some (.ref 123), some (.int (nI (48 + i)))] [] (tyV k)) 336 ?_ ?_ 0 (Nat.zero_le _) h ⟨Fs_refl _ _, by rw [st.1, e], fun j hj => absurd hj (Nat.not_lt_zero _), fun _ _ => rfl⟩
    · intro h' ⟨fr, e34, lo, _⟩
      rw [e_Q_keepTurn_12, if_pos (show (384 : Int32) ≤ nI (48 + 336) by decide), e34]
      have t' := isQ_fs I.1.1 fr
      refine ⟨t'.1, t'.1, hk (sI h' 123 34 (nI 8 - 1)) _ 7 (by omega) (Fs_trans fr (Fs_sI _ _ _ _ (Or.inr ⟨rfl, rfl⟩))) (by rw [gI_sI_eq]; decide) (fun j x hj hx => ?_)⟩
      have h9 := st.2 _ x hx
      refine KpV_c (o.2.2.1 _ x hx).1.1 (fun i hi => ?_) h9
      show gI h 142 (48 * (j + 1) + i) = gI (sI h' 123 34 (nI 8 - 1)) 142 (48 * j + i)
      rw [gI_sI_ne _ _ _ _ (by omega), lo _ (by omega)]
      congr 1
      omega
    · intro i hi h' ⟨fr, e34, lo, hi'⟩ ih
      have t' := isQ_fs I.1.1 fr
      have q' := qw t'
      rw [e_Q_keepTurn_12, if_neg (show ¬ (384 : Int32) ≤ nI (48 + i) from nI_ge (b := 384) (by omega) (by decide)), i48]
      simp only [q', true_and, true_or, b384 (show 48 + i < 384 by omega), b384 (show i < 384 by omega), ix_nI (show 48 + i < 2 ^ 31 by omega), ix_nI (show i < 2 ^ 31 by omega), nI_1]
      refine ih _ ⟨Fs_trans fr (Fs_sI _ _ _ _ (Or.inl rfl)), by rw [gI_sI_ne _ _ _ _ (by omega)]; exact e34, fun j hj => ?_, fun j hj => ?_⟩
      · by_cases d : j = i
        · subst d; rw [gI_sI_eq]; exact hi' _ (by omega)
        · rw [gI_sI_ne _ _ _ _ (fun z => d z.2)]; exact lo j (by omega)
      · rw [gI_sI_ne _ _ _ _ (by omega)]; exact hi' j (by omega)
  · rw [if_neg e] at hl
    rw [if_pos (show ¬ nI (zP s).length = 8 from fun z => e ((nI_eq (b := 8) (by omega) (by decide)).mp z))]
    refine hk h none (zP s).length (by omega) (Fs_refl _ _) st.1 (fun j x hj hx => ?_)
    rw [if_neg e] at hx
    exact st.2 j x hx
theorem t_Q_keepTurn (I : IQ h s) (o : okS s) {k : PH → Prop} (hk : ∀ h', IQ h' (pastS s (keepL (zP s) s.1)) → KP h h' → k h') : ccV m_Q_keepTurn h [.ref 123] k := by
  have h8 := o.2.2.2.1
  have hl := keepL_len (zP s) s.1 h8
  refine t_keepShift I o fun h1 q1 m hm fr1 e34 K1 => ?_
  have hm8 : m < 8 := by split at hl <;> omega
  have L1 : Liv h1 (zC s) := Liv_fs I.1 fr1 (fun b j x => by unfold LRg; omega)
  have w1 := qw L1.1
  rw [e_Q_keepTurn_50]
  simp only [w1, true_and]
  refine t_Q_take L1 (F := bF (zB s)) (fun w hw => by rw [fr1.2.2.2 131 w (by omega)]; exact I.2.1 w hw) (Or.inr (Or.inr rfl)) fun h2 fr2 L2 B2 K2 => ?_
  have e2 : gI h2 123 34 = nI m := by rw [fr2.2.2.2 123 34 (by unfold SC; omega)]; exact e34
  refine hp (A := fun i h' => Fs (fun b j => b = 142) h2 h' ∧ (∀ j, j < i → gI h' 142 (48 * m + j) = gI h2 143 j) ∧ ∀ j, j < 48 * m → gI h' 142 j = gI h2 142 j) (X := fun i h' => wp m_Q_keepTurn h' 61 [some (.ref 123), some (.int (nI i))] [] (tyV k)) 48 ?_ ?_ 0 (Nat.zero_le _) h2 ⟨Fs_refl _ _, fun j hj => absurd hj (Nat.not_lt_zero _), fun _ _ => rfl⟩
  · intro h' ⟨fr, lo, un⟩
    have t' := isQ_fs L2.1 fr
    have e34' : gI h' 123 34 = nI m := by rw [fr.2.2.2 123 34 (by omega)]; exact e2
    rw [e_Q_keepTurn_61, if_pos (show (48 : Int32) ≤ nI 48 by decide), e34', nI_1]
    have frA : Fs (fun b j => b = 142 ∨ SC 143 b j ∨ (b = 123 ∧ j = 34)) h (sI h' 123 34 (nI (m + 1))) := Fs_trans (Fs_mono fr1 (fun b j x => by omega)) (Fs_trans (Fs_mono fr2 (fun b j x => Or.inr (Or.inl x))) (Fs_trans (Fs_mono fr (fun b j x => Or.inl x)) (Fs_sI _ _ _ _ (Or.inr (Or.inr ⟨rfl, rfl⟩)))))
    have g : ∀ b j, ¬ (b = 142 ∨ SC 143 b j ∨ (b = 123 ∧ j = 34)) → gI (sI h' 123 34 (nI (m + 1))) b j = gI h b j := frA.2.2.2
    have st := I.2.2
    refine ⟨t'.1, t'.1, hk _ ⟨?_, fun w hw => ?_, ?_, fun x hx => ?_, ⟨?_, fun j x hx => ?_⟩, ⟨?_, fun i hi => ?_⟩, ⟨?_, fun i hi => ?_⟩, fun i hi => ?_⟩ (KP_fs frA (fun b j x => by unfold SC at x; omega))⟩
    · exact Liv_fs L2 (Fs_trans (Fs_mono fr (S' := fun b j => b = 142 ∨ (b = 123 ∧ j = 34)) (fun b j x => Or.inl x)) (Fs_sI _ _ _ _ (Or.inr ⟨rfl, rfl⟩))) (fun b j x => by unfold LRg; omega)
    · rw [gI_sI_ne _ _ _ _ (by omega), fr.2.2.2 131 w (by omega)]; exact B2 w hw
    · rw [g 123 28 (by unfold SC; omega)]; exact st.1
    · have : gI (sI h' 123 34 (nI (m + 1))) 141 = gI h 141 := funext fun j => g 141 j (by unfold SC; omega)
      unfold Kp; rw [this]; exact st.2.1 x hx
    · show gI (sI h' 123 34 (nI (m + 1))) 123 34 = nI (keepL (zP s) s.1).length
      rw [gI_sI_eq, hm]
    · rcases keepL_get h8 hx with ⟨a1, a2⟩ | ⟨a1, a2⟩
      · have ej : j = m := by omega
        subst ej
        rw [a2]
        refine KpV_c o.1.1.1 (fun i hi => ?_) K2
        show gI h2 143 i = gI (sI h' 123 34 (nI (j + 1))) 142 (48 * j + i)
        rw [gI_sI_ne _ _ _ _ (by omega), lo i hi]
      · have := K1 j x (by omega) a2
        refine KpV_c (o.2.2.1 _ x a2).1.1 (fun i hi => ?_) this
        show gI h1 142 (48 * j + i) = gI (sI h' 123 34 (nI (m + 1))) 142 (48 * j + i)
        rw [gI_sI_ne _ _ _ _ (by omega), un _ (by omega), fr2.2.2.2 142 _ (by unfold SC; omega)]
    · rw [g 123 19 (by unfold SC; omega)]; exact st.2.2.2.1.1
    · rw [g 136 i (by unfold SC; omega)]; exact st.2.2.2.1.2 i hi
    · rw [g 123 36 (by unfold SC; omega)]; exact st.2.2.2.2.1.1
    · rw [g 144 i (by unfold SC; omega)]; exact st.2.2.2.2.1.2 i hi
    · rw [g 132 i (by unfold SC; omega)]; exact st.2.2.2.2.2 i hi
  · intro i hi h' ⟨fr, lo, un⟩ ih
    have t' := isQ_fs L2.1 fr
    have q' := qw t'
    have e34' : gI h' 123 34 = nI m := by rw [fr.2.2.2 123 34 (by omega)]; exact e2
    rw [e_Q_keepTurn_61, if_neg (show ¬ (48 : Int32) ≤ nI i from nI_ge (b := 48) (by omega) (by decide))]
    simp only [q', true_and, true_or, e34', m48, b48 (show i < 48 by omega), b384 (show 48 * m + i < 384 by omega), ix_nI (show 48 * m + i < 2 ^ 31 by omega), ix_nI (show i < 2 ^ 31 by omega), nI_1]
    refine ih _ ⟨Fs_trans fr (Fs_sI _ _ _ _ rfl), fun j hj => ?_, fun j hj => ?_⟩
    · by_cases d : j = i
      · subst d; rw [gI_sI_eq, fr.2.2.2 143 j (by omega)]
      · rw [gI_sI_ne _ _ _ _ (by omega)]; exact lo j (by omega)
    · rw [gI_sI_ne _ _ _ _ (by omega)]; exact un j hj
/-- what was kept is there, and now becomes z -/
theorem IQ_done (I : IQ h (pastS s (keepL (zP s) s.1))) (f : Fs S h h') (hS : ∀ b j, S b j → ¬ ((b = 123 ∧ (j = 19 ∨ j = 28 ∨ j = 34 ∨ j = 36)) ∨ b = 132 ∨ b = 136 ∨ b = 141 ∨ b = 142 ∨ b = 144)) {z : Zl} (L : Liv h' z.1) (B : ∀ w, w < Cw z.1 → gI h' 131 w = bF z.2 w) : IQ h' (doS s z) := IQ_now (s := pastS s (keepL (zP s) s.1)) I f hS L B
theorem t_Q_rate (o : okS s) (x : Int32) : QO m_Q_rate [.int x] s (r_rate s x) := by
  intro h k I hk
  rw [c_Q_rate]
  have I1 := IQ_12 I
  have P1 := KP_12 h
  refine ⟨I.1.1.1, ?_⟩
  generalize sI h 123 12 0 = h1 at I1 P1 ⊢
  rw [s_Q_wrongNumber]
  unfold r_rate at hk
  by_cases e : outN x 0 20 = 0
  · rw [if_pos e] at hk
    rw [if_pos (by rw [e]; decide)]
    refine ⟨I1.1.1.1, t_Q_keepTurn I1 o fun h2 I2 P2 => ?_⟩
    refine ⟨I2.1.1.1, I2.1.1.1, ?_⟩
    rw [show gI h2 123 5 = Cr (zC s) from I2.1.2.2.1.2.2.2]
    refine hk _ (IQ_done (z := (cR (zC s) x, zB s)) I2 (Fs_sI (S := fun b j => b = 123 ∧ j = 5) _ _ _ _ ⟨rfl, rfl⟩) (fun b j x => by omega) (Liv_rate I2.1 x) (fun w hw => ?_)) (KP_trans P1 (KP_trans P2 (KP_cell 123 5 x (by omega))))
    rw [gI_sI_ne _ _ _ _ (by omega)]; exact I2.2.1 w hw
  · rw [if_neg e] at hk
    rw [if_neg (ng (nK_out _ _ _ e)), s_Q_wrongNumber]
    exact ⟨I1.1.1.1, t_Q_refuse I1 (nK_out _ _ _ e) fun h2 I2 P2 => hk h2 I2 (KP_trans P1 P2)⟩
theorem t_Q_years (o : okS s) (x : Int32) : QO m_Q_years [.int x] s (r_years s x) := by
  intro h k I hk
  rw [c_Q_years]
  have I1 := IQ_12 I
  have P1 := KP_12 h
  refine ⟨I.1.1.1, ?_⟩
  generalize sI h 123 12 0 = h1 at I1 P1 ⊢
  rw [s_Q_wrongNumber]
  have main : wp m_Q_years h1 35 [some (.ref 123), some (.int x), some (.int (outN x 1 60))] [.int (noY (zC s) x)] (tyI k) := by
    unfold r_years at hk
    rw [e_Q_years_35]
    by_cases e : noY (zC s) x = 0
    · rw [if_pos e] at hk
      rw [if_pos (by rw [e]; decide)]
      have e60 : outN x 1 60 = 0 := by
        by_cases d : outN x 1 60 = 0
        · exact d
        · unfold noY at e; rw [if_neg d] at e; exact absurd e d
      obtain ⟨n, hn, rfl, n1, n2⟩ := outN_0 (lo := 1) (hi := 60) (by decide) e60
      rw [ix_nI hn] at hk
      refine ⟨I1.1.1.1, t_Q_keepTurn I1 o fun h2 I2 P2 => ⟨I2.1.1.1, t_Q_goYears I2.1 o.1.1 (by omega) fun h3 fr L3 _ _ => ⟨L3.1.1, ?_⟩⟩⟩
      rw [s_Q_allDebts L3]
      refine hk _ (IQ_done (z := (goC n (zC s), zB s)) I2 fr (fun b j x => by unfold SY at x; omega) L3 (fun w hw => ?_)) (KP_trans P1 (KP_trans P2 (KP_fs fr (fun b j x => by unfold SY at x; omega))))
      rw [fr.2.2.2 131 w (by unfold SY; omega)]; exact I2.2.1 w hw
    · rw [if_neg e] at hk
      rw [if_neg (ng (nK_Y _ _ e))]
      exact ⟨I1.1.1.1, t_Q_refuse I1 (nK_Y _ _ e) fun h2 I2 P2 => hk h2 I2 (KP_trans P1 P2)⟩
  simp only [e_Q_years_34]
  unfold noY at main
  by_cases d : outN x 1 60 = 0
  · rw [if_pos d] at main
    rw [if_neg (fun z => z d), I1.1.2.2.1.2.2.1]
    refine ⟨I1.1.1.1, ?_⟩
    by_cases d2 : Cy (zC s) + x ≤ 999
    · rw [if_pos d2] at main
      rw [if_pos d2, d]
      rw [d] at main
      exact main
    · rw [if_neg d2] at main
      rw [if_neg d2]; exact main
  · rw [if_neg d] at main
    rw [if_pos d]; exact main
theorem t_Q_debt (o : okS s) (x y : Int32) : QO m_Q_debt [.int x, .int y] s (r_debt s x y) := by
  intro h k I hk
  rw [c_Q_debt]
  have I1 := IQ_12 I
  have P1 := KP_12 h
  refine ⟨I.1.1.1, ?_⟩
  generalize sI h 123 12 0 = h1 at I1 P1 ⊢
  refine ⟨I1.1.1.1, ?_⟩
  have h5 := okf o
  have main : wp m_Q_debt h1 24 [some (.ref 123), some (.int x), some (.int y), none, none] [.int (noD (zC s) x y)] (tyI k) := by
    unfold r_debt at hk
    rw [e_Q_debt_24]
    by_cases e : noD (zC s) x y = 0
    · rw [if_pos e] at hk
      rw [if_pos (by rw [e]; decide)]
      have d : ¬ offN x (Cf (zC s)) := fun d => by unfold noD at e; rw [if_pos d] at e; exact absurd e (by decide)
      obtain ⟨f, hf, rfl⟩ := on_nI (by omega) d
      rw [ix_nI (by omega)] at hk
      refine ⟨I1.1.1.1, t_Q_keepTurn I1 o fun h2 I2 P2 => ?_⟩
      have q2 := qw I2.1.1
      have r2 := (I2.1.2.2.2.1 f hf).2.1
      simp only [q2, true_and, true_or, b5 (show f < 5 by omega), ix_nI (show f < 2 ^ 31 by omega), r2]
      refine hk _ (IQ_done (z := (cM (zC s) (setM (Cm (zC s)) f (rs (Cm (zC s) f) 1 y)), zB s)) I2 (Fs_sI (S := fun b j => b = 125) _ _ _ _ rfl) (fun b j x => by omega) (Liv_debt I2.1 hf (rs_ne _ _ (by decide)) (rs_eq _ _ _) (rs_ne _ _ (by decide)) (rs_ne _ _ (by decide))) (fun w hw => ?_)) (KP_trans P1 (KP_trans P2 (KP_cell 125 f y (by omega))))
      rw [gI_sI_ne _ _ _ _ (by omega)]; exact I2.2.1 w hw
    · rw [if_neg e] at hk
      rw [if_neg (ng (nK_D _ _ _ e))]
      exact ⟨I1.1.1.1, t_Q_refuse I1 (nK_D _ _ _ e) fun h2 I2 P2 => hk h2 I2 (KP_trans P1 P2)⟩
  rw [s_Q_isFamily I1.1, s_Q_wrongNumber]
  unfold noD at main
  by_cases d : offN x (Cf (zC s))
  · rw [if_pos d] at main
    rw [if_pos d, if_pos rfl]; exact main
  · rw [if_neg d] at main
    rw [if_neg d, if_neg (by decide)]; exact main
theorem t_buildN (I : IQ h s) (o : okS s) {w : Nat} (hw : w < Cw (zC s)) (hn : w ∉ zB s) {h' : PH} (fr : Fs (fun b j => b = 125 ∨ b = 133 ∨ b = 134 ∨ (b = 131 ∧ j = w)) h h') (e : gI h' 131 w = lastN (gI h 131) (Cw (zC s)) + 1) : ∀ v, v < Cw (zC s) → gI h' 131 v = bF (zB s ++ [w]) v := by
  intro v hv
  have h6 := okw o
  rw [bF_app hn]
  by_cases d : v = w
  · subst d
    rw [if_pos rfl, e, lastN_c (fun i hi => I.2.1 i hi), lastN_bF o.1.2 h6, nI_1]
  · rw [if_neg d, fr.2.2.2 131 v (by omega)]
    exact I.2.1 v hv
theorem t_Q_builds (o : okS s) (x : Int32) : QO m_Q_builds [.int x] s (r_builds s x) := by
  intro h k I hk
  rw [c_Q_builds]
  have I1 := IQ_12 I
  have P1 := KP_12 h
  refine ⟨I.1.1.1, ?_⟩
  generalize sI h 123 12 0 = h1 at I1 P1 ⊢
  refine ⟨I1.1.1.1, ?_⟩
  have h6 := okw o
  have main : wp m_Q_builds h1 32 [some (.ref 123), some (.int x), none] [.int (noB s.1 x)] (tyI k) := by
    unfold r_builds at hk
    rw [e_Q_builds_32]
    by_cases e : noB s.1 x = 0
    · rw [if_pos e] at hk
      rw [if_pos (by rw [e]; decide)]
      obtain ⟨w, hw, rfl, hn⟩ := noB_0 h6 e
      have hw : w < Cw (zC s) := hw
      rw [ix_nI (by omega)] at hk
      refine ⟨I1.1.1.1, t_Q_keepTurn I1 o fun h2 I2 P2 => ⟨I2.1.1.1, t_Q_build I2.1 o.1.1 hw fun h3 fr L3 e3 => ⟨L3.1.1, ?_⟩⟩⟩
      rw [s_Q_allDebts L3]
      have B3 : ∀ v, v < Cw (zC s) → gI h3 131 v = bF (zB s ++ [w]) v := by
        intro v hv
        rw [bF_app hn]
        by_cases d : v = w
        · subst d
          rw [if_pos rfl, e3, lastN_c (fun i hi => I2.2.1 i hi)]
          show lastN (bF (zB s)) (Cw (zC s)) + 1 = _
          rw [lastN_bF o.1.2 h6, nI_1]
        · rw [if_neg d, fr.2.2.2 131 v (by omega)]
          exact I2.2.1 v hv
      exact hk _ (IQ_done (z := (chargeC (zC s) (Ck (zC s) w), zB s ++ [w])) I2 fr (fun b j x => by omega) L3 B3) (KP_trans P1 (KP_trans P2 (KP_fs fr (fun b j x => by omega))))
    · rw [if_neg e] at hk
      rw [if_neg (ng (nK_B _ _ e))]
      exact ⟨I1.1.1.1, t_Q_refuse I1 (nK_B _ _ e) fun h2 I2 P2 => hk h2 I2 (KP_trans P1 P2)⟩
  rw [s_Q_isWork I1.1]
  unfold noB at main
  by_cases d : offN x (Cw (zC s))
  · rw [if_pos d] at main
    rw [if_pos d, if_neg (fun z => z rfl)]; exact main
  · rw [if_neg d] at main
    obtain ⟨w, hw, rfl⟩ := on_nI (by omega) d
    have q := qw I1.1.1
    rw [ix_nI (by omega)] at main
    rw [if_neg d, if_pos (by decide)]
    simp only [q, true_and, true_or, b6 (show w < 6 by omega), ix_nI (show w < 2 ^ 31 by omega), I1.2.1 w hw]
    by_cases e : w ∈ zB s
    · rw [if_pos e] at main
      rw [if_neg (fun y => (bF_le (okS_len o) w).mp y e)]; exact main
    · rw [if_neg e] at main
      rw [if_pos ((bF_le (okS_len o) w).mpr e)]; exact main
theorem t_Q_family (o : okS s) (x y z : Int32) : QO m_Q_family [.int x, .int y, .int z] s (r_family s x y z) := by
  intro h k I hk
  rw [c_Q_family]
  have I1 := IQ_12 I
  have P1 := KP_12 h
  refine ⟨I.1.1.1, ?_⟩
  generalize sI h 123 12 0 = h1 at I1 P1 ⊢
  have h5 := okf o
  have main : wp m_Q_family h1 58 [some (.ref 123), some (.int x), some (.int y), some (.int z), some (.int (noFam (zC s) x y z))] [] (tyI k) := by
    unfold r_family at hk
    rw [e_Q_family_58]
    by_cases e : noFam (zC s) x y z = 0
    · rw [if_pos e] at hk
      rw [if_pos (by rw [e]; decide)]
      have hf := (noFam_0 e).2.2.2
      refine ⟨I1.1.1.1, t_Q_familyComes I1.1 (by omega) x y z fun h2 fr L2 => ?_⟩
      have I2 : IQ h2 (nowS s (addFam (zC s) x y z, zB s)) := IQ_now I1 fr (fun b j x => by omega) L2 (fun w hw => by rw [fr.2.2.2 131 w (by omega)]; exact I1.2.1 w hw)
      have e0 : gI (sI h2 123 34 0) 123 0 - 1 = nI (Cf (zC s)) := by
        rw [gI_sI_ne _ _ _ _ (by omega), L2.2.2.1.1]
        exact nI_pred _
      rw [e0]
      exact ⟨L2.1.1, L2.1.1, hk _ (IQ_forget I2) (KP_trans P1 (KP_trans (KP_fs fr (fun b j x => by omega)) (KP_cell 123 34 0 (by omega))))⟩
    · rw [if_neg e] at hk
      rw [if_neg (ng (nK_Fam _ _ _ _ e))]
      exact ⟨I1.1.1.1, t_Q_refuse I1 (nK_Fam _ _ _ _ e) fun h2 I2 P2 => hk h2 I2 (KP_trans P1 P2)⟩
  simp only [e_Q_family_21, e_Q_family_54]
  unfold noFam at main
  by_cases c1 : x < 1
  · rw [if_pos (Or.inl c1)] at main
    rw [if_pos c1]; exact main
  rw [if_neg c1]
  by_cases c2 : y < 0
  · rw [if_pos (Or.inr (Or.inl c2))] at main
    rw [if_pos c2]; exact main
  rw [if_neg c2]
  by_cases c3 : z < 0
  · rw [if_pos (Or.inr (Or.inr c3))] at main
    rw [if_neg (Int32.not_le.mpr c3)]; exact main
  rw [if_pos (Int32.not_lt.mp c3)]
  rw [if_neg (fun q => q.elim c1 (fun q => q.elim c2 c3))] at main
  by_cases c4 : 20 < x
  · rw [if_pos (Or.inl c4)] at main
    rw [if_pos c4]; exact main
  rw [if_neg c4]
  by_cases c5 : 9 < y
  · rw [if_pos (Or.inr (Or.inl c5))] at main
    rw [if_pos c5]; exact main
  rw [if_neg c5]
  by_cases c6 : 9 < z
  · rw [if_pos (Or.inr (Or.inr (Or.inl c6)))] at main
    rw [if_pos c6]; exact main
  rw [if_neg c6, I1.1.2.2.1.1]
  refine ⟨I1.1.1.1, ?_⟩
  by_cases c7 : Cf (zC s) = 5
  · rw [if_pos (Or.inr (Or.inr (Or.inr c7)))] at main
    rw [c7, if_neg (fun z => z rfl)]; exact main
  · rw [if_neg (fun q => q.elim c4 (fun q => q.elim c5 (fun q => q.elim c6 c7)))] at main
    rw [if_pos (show ¬ nI (Cf (zC s)) = 5 from fun z => c7 ((nI_eq (b := 5) (by omega) (by decide)).mp z))]; exact main
theorem t_Q_work (o : okS s) (x y z : Int32) : QO m_Q_work [.int x, .int y, .int z] s (r_work s x y z) := by
  intro h k I hk
  rw [c_Q_work]
  have I1 := IQ_12 I
  have P1 := KP_12 h
  refine ⟨I.1.1.1, ?_⟩
  generalize sI h 123 12 0 = h1 at I1 P1 ⊢
  have h6 := okw o
  have main : wp m_Q_work h1 69 [some (.ref 123), some (.int x), some (.int y), some (.int z), some (.int (noWork (zC s) x y z))] [] (tyI k) := by
    unfold r_work at hk
    rw [e_Q_work_69]
    by_cases e : noWork (zC s) x y z = 0
    · rw [if_pos e] at hk
      rw [if_pos (by rw [e]; decide)]
      have hf := (noWork_0 e).2.2.2
      refine ⟨I1.1.1.1, t_Q_workComes I1.1 (by omega) x y z fun h2 fr L2 B2 => ?_⟩
      have I2 : IQ h2 (nowS s (addWork (zC s) (wkRow x y z), zB s)) := IQ_now I1 fr (fun b j x => by omega) L2 (fun w hw => by
        rw [B2 w]
        have hw' : w < Cw (zC s) + 1 := hw
        by_cases d : w = Cw (zC s)
        · rw [if_pos d]
          unfold bF
          rw [if_neg (fun m => by have q : w < Cw (zC s) := o.1.2.2 w m; omega)]
        · rw [if_neg d]; exact I1.2.1 w (by omega))
      have e0 : gI (sI h2 123 34 0) 123 7 - 1 = nI (Cw (zC s)) := by
        rw [gI_sI_ne _ _ _ _ (by omega), L2.2.2.1.2.1]
        exact nI_pred _
      rw [e0]
      exact ⟨L2.1.1, L2.1.1, hk _ (IQ_forget I2) (KP_trans P1 (KP_trans (KP_fs fr (fun b j x => by omega)) (KP_cell 123 34 0 (by omega))))⟩
    · rw [if_neg e] at hk
      rw [if_neg (ng (nK_Work _ _ _ _ e))]
      exact ⟨I1.1.1.1, t_Q_refuse I1 (nK_Work _ _ _ _ e) fun h2 I2 P2 => hk h2 I2 (KP_trans P1 P2)⟩
  rw [s_Q_inO h1 (hi := 5) (a2 := 5) (by decide)]
  simp only [e_Q_work_36, e_Q_work_65]
  unfold noWork at main
  by_cases c0 : othN x 5 = 0
  · rw [if_neg (fun q => q c0)] at main
    rw [if_pos c0, if_pos (by decide)]
    by_cases c2 : y < 0
    · rw [if_pos (Or.inl c2)] at main
      rw [if_pos c2]; exact main
    rw [if_neg c2]
    by_cases c3 : z < 1
    · rw [if_pos (Or.inr c3)] at main
      rw [if_neg (Int32.not_le.mpr c3)]; exact main
    rw [if_pos (Int32.not_lt.mp c3)]
    rw [if_neg (fun q => q.elim c2 c3)] at main
    by_cases c5 : 9 < y
    · rw [if_pos (Or.inl c5)] at main
      rw [if_pos c5]; exact main
    rw [if_neg c5]
    by_cases c6 : 999 < z
    · rw [if_pos (Or.inr (Or.inl c6))] at main
      rw [if_pos c6]; exact main
    rw [if_neg c6, I1.1.2.2.1.2.1]
    refine ⟨I1.1.1.1, ?_⟩
    by_cases c7 : Cw (zC s) = 6
    · rw [if_pos (Or.inr (Or.inr c7))] at main
      rw [c7, if_neg (fun z => z rfl)]; exact main
    · rw [if_neg (fun q => q.elim c5 (fun q => q.elim c6 c7))] at main
      rw [if_pos (show ¬ nI (Cw (zC s)) = 6 from fun z => c7 ((nI_eq (b := 6) (by omega) (by decide)).mp z))]; exact main
  · rw [if_pos c0] at main
    rw [if_neg c0, if_neg (fun z => z rfl)]; exact main
theorem t_Q_back (o : okS s) : QO m_Q_back [] s (r_back s) := by
  intro h k I hk
  rw [c_Q_back]
  have I1 := IQ_12 I
  have P1 := KP_12 h
  refine ⟨I.1.1.1, ?_⟩
  generalize sI h 123 12 0 = h1 at I1 P1 ⊢
  have st := I1.2.2.2.2.1
  have h8 := o.2.2.2.1
  have q1 := qw I1.1.1
  rw [st.1]
  refine ⟨I1.1.1.1, ?_⟩
  unfold r_back at hk
  cases hl : (zP s).getLast? with
  | none =>
    rw [hl] at hk
    have e0 : (zP s).length = 0 := by rw [List.getLast?_eq_none_iff.mp hl]; rfl
    rw [e0, if_neg (fun z => z rfl)]
    exact ⟨I1.1.1.1, t_Q_refuse I1 (by unfold noK; simp) fun h2 I2 P2 => hk h2 I2 (KP_trans P1 P2)⟩
  | some z =>
    rw [hl] at hk
    have hz : (zP s)[(zP s).length - 1]? = some z := by rw [← List.getLast?_eq_getElem?]; exact hl
    have l1 : 1 ≤ (zP s).length := by have := (List.getElem?_eq_some_iff.mp hz).1; omega
    have oz := o.2.2.1 _ z hz
    have Kz := st.2 _ z hz
    rw [if_pos (nI_ne0 (by omega) (by omega)), show nI (zP s).length - 1 = nI ((zP s).length - 1) from nI_subI l1]
    refine ⟨I1.1.1.1, I1.1.1.1, ?_⟩
    generalize hm : (zP s).length - 1 = m at Kz hk ⊢
    refine hp (A := fun i h' => Fs (fun b j => b = 143 ∨ (b = 123 ∧ j = 34)) h1 h' ∧ gI h' 123 34 = nI m ∧ ∀ j, j < i → gI h' 143 j = gI h1 142 (48 * m + j)) (X := fun i h' => wp m_Q_back h' 31 [some (.ref 123), some (.int (nI i))] [] (tyI k)) 48 ?_ ?_ 0 (Nat.zero_le _) _ ⟨Fs_sI _ _ _ _ (Or.inr ⟨rfl, rfl⟩), gI_sI_eq _ _ _ _, fun j hj => absurd hj (Nat.not_lt_zero _)⟩
    · intro h' ⟨fr, e34, lo⟩
      have t' := isQ_fs I1.1.1 fr
      have q' := qw t'
      rw [e_Q_back_31, if_pos (show (48 : Int32) ≤ nI 48 by decide)]
      simp only [q', true_and]
      have K' : Kp h' 143 z.1 (bF z.2) := KpV_c oz.1.1 (fun i hi => (lo i hi).symm) Kz
      refine t_Q_put t' oz.1.1 (Or.inr (Or.inr rfl)) K' fun h2 fr2 L2 B2 K2 => ?_
      have e2 : gI h2 123 34 = nI m := by rw [fr2.2.2.2 123 34 (by unfold SC; omega)]; exact e34
      rw [e2]
      have frA : Fs (fun b j => (b = 143 ∨ (b = 123 ∧ j = 34)) ∨ SC 143 b j) h1 h2 := Fs_trans (Fs_mono fr (fun b j x => Or.inl x)) (Fs_mono fr2 (fun b j x => Or.inr x))
      have g : ∀ b j, ¬ ((b = 143 ∨ (b = 123 ∧ j = 34)) ∨ SC 143 b j) → gI h2 b j = gI h1 b j := frA.2.2.2
      have st := I1.2.2
      refine ⟨L2.1.1, hk h2 ⟨L2, B2, ?_, fun x hx => ?_, ⟨?_, fun j x hx => ?_⟩, ⟨?_, fun i hi => ?_⟩, ⟨?_, fun i hi => ?_⟩, fun i hi => ?_⟩ (KP_trans P1 (KP_fs frA (fun b j x => by unfold SC at x; omega)))⟩
      · rw [g 123 28 (by unfold SC; omega)]; exact st.1
      · have : gI h2 141 = gI h1 141 := funext fun j => g 141 j (by unfold SC; omega)
        unfold Kp; rw [this]; exact st.2.1 x hx
      · show gI h2 123 34 = nI (zP s).dropLast.length
        rw [List.length_dropLast, hm]; exact e2
      · have hx : (zP s).dropLast[j]? = some x := hx
        have hj := (List.getElem?_eq_some_iff.mp hx).1
        rw [List.length_dropLast] at hj
        rw [List.getElem?_dropLast, if_pos hj] at hx
        have : gI h2 142 = gI h1 142 := funext fun j => g 142 j (by unfold SC; omega)
        rw [this]
        exact st.2.2.1.2 j x hx
      · rw [g 123 19 (by unfold SC; omega)]; exact st.2.2.2.1.1
      · rw [g 136 i (by unfold SC; omega)]; exact st.2.2.2.1.2 i hi
      · rw [g 123 36 (by unfold SC; omega)]; exact st.2.2.2.2.1.1
      · rw [g 144 i (by unfold SC; omega)]; exact st.2.2.2.2.1.2 i hi
      · rw [g 132 i (by unfold SC; omega)]; exact st.2.2.2.2.2 i hi
    · intro i hi h' ⟨fr, e34, lo⟩ ih
      have t' := isQ_fs I1.1.1 fr
      have q' := qw t'
      rw [e_Q_back_31, if_neg (show ¬ (48 : Int32) ≤ nI i from nI_ge (b := 48) (by omega) (by decide))]
      simp only [q', true_and, true_or, e34, m48, b48 (show i < 48 by omega), b384 (show 48 * m + i < 384 by omega), ix_nI (show 48 * m + i < 2 ^ 31 by omega), ix_nI (show i < 2 ^ 31 by omega), nI_1]
      refine ih _ ⟨Fs_trans fr (Fs_sI _ _ _ _ (Or.inl rfl)), by rw [gI_sI_ne _ _ _ _ (by omega)]; exact e34, fun j hj => ?_⟩
      by_cases d : j = i
      · subst d; rw [gI_sI_eq, fr.2.2.2 142 _ (by omega)]
      · rw [gI_sI_ne _ _ _ _ (by omega)]; exact lo j (by omega)
end Q9
