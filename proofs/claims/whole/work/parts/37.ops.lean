/-! ===== calls, refusals; what is counted ===== -/
def refS (s : Sta) (no : Int32) : Sta := (s.1, zI s, zP s, zL s, zT s, rs (zN s) (ix (-no)) (zN s (ix (-no)) + 1))
def noK (no : Int32) : Prop := no = -1 ∨ no = -2 ∨ no = -3 ∨ no = -4 ∨ no = -6
theorem noK_i {no : Int32} (hn : noK no) : ∃ i, i < 7 ∧ -no = nI i := by
  rcases hn with rfl | rfl | rfl | rfl | rfl
  · exact ⟨1, by decide, by decide⟩
  · exact ⟨2, by decide, by decide⟩
  · exact ⟨3, by decide, by decide⟩
  · exact ⟨4, by decide, by decide⟩
  · exact ⟨6, by decide, by decide⟩
theorem noK_neg {no : Int32} (hn : noK no) : no < 0 := by
  rcases hn with rfl | rfl | rfl | rfl | rfl <;> decide
theorem okS_ref {s : Sta} (o : okS s) (no : Int32) : okS (refS s no) := o
section Refuse
variable {h : PH} {s : Sta} {no : Int32}
theorem t_P_refused (I : IP h s) (hn : noK no) {k : PH → Int32 → Prop} (hk : ∀ h', IP h' (refS s no) → KQ h h' → k h' no) : ccI m_P_refused h [.ref 2, .int no] k := by
  obtain ⟨i, hi, e⟩ := noK_i hn
  have w := pw I.1
  rw [c_P_refused, e, if_neg (nI_pos (by omega))]
  simp only [w, true_and, true_or, e_P_refused_26, inb_nI hi (show 7 < 2 ^ 31 by decide)]
  rw [show Int32.ofNat 7 = nI 7 from rfl, if_neg (nI_ge hi (by decide)), ix_nI (by omega)]
  refine ⟨by decide, hk _ ?_ (KQ_fr (S := fun b => b = 118) (R := fun _ => False) (Fr_sI _ _ _ _ rfl) (fun b x => by omega) (fun b x => x.elim))⟩
  have fr : Fr (fun b => b = 118) (fun _ => False) h (sI h 118 i (gI h 118 i + 1)) := Fr_sI _ _ _ _ rfl
  have ne : ∀ b, b ≠ 118 → gI (sI h 118 i (gI h 118 i + 1)) b = gI h b := fun b hb => gI_sI_nc _ _ _ _ hb
  have st := I.2.2.2
  have lz : ∀ a z, LZ h a z → a + 9 < 118 → LZ (sI h 118 i (gI h 118 i + 1)) a z := fun a z l ha => LZ_fr l fr (fun b x => by omega) (fun b x => x.elim)
  refine ⟨isP_fr I.1 fr (fun b x => x.elim), I.2.1, lz 3 _ I.2.2.1 (by omega), ?_, fun x hx => lz 23 _ (st.2.1 x hx) (by omega), ?_, ?_, ?_, ?_⟩
  · rw [ne 2 (by decide)]; exact st.1
  · obtain ⟨n, hn, n1, n2, n3⟩ := st.2.2.1
    exact ⟨n, hn, by rw [ne 33 (by decide)]; exact n1, by rw [ne 33 (by decide)]; exact n2, fun j x hx => lz _ _ (n3 j x hx) (by unfold pl; omega)⟩
  · rw [ne 115 (by decide), ne 116 (by decide)]; exact st.2.2.2.1
  · rw [ne 2 (by decide), ne 117 (by decide)]; exact st.2.2.2.2.1
  · intro j hj
    show _ = rs (zN s) (ix (-no)) (zN s (ix (-no)) + 1) j
    rw [e, ix_nI (by omega), sI_wR, gI_wR]
    by_cases d : j = i
    · subst d; rw [rs_eq, rs_eq, st.2.2.2.2.2 j hj]
    · rw [rs_ne _ _ d, rs_ne _ _ d]; exact st.2.2.2.2.2 j hj
theorem t_Q_refuse (I : IQ h s) (hn : noK no) {k : PH → Int32 → Prop} (hk : ∀ h', IQ h' (refS s no) → KP h h' → k h' no) : ccI m_Q_refuse h [.ref 123, .int no] k := by
  obtain ⟨i, hi, e⟩ := noK_i hn
  have w := qw I.1.1
  rw [c_Q_refuse, e, ix_nI (by omega)]
  simp only [w, true_and, true_or, inb_nI hi (show 7 < 2 ^ 31 by decide)]
  have fr : Fs (fun b _ => b = 132) h (sI h 132 i (gI h 132 i + 1)) := Fs_sI _ _ _ _ rfl
  refine hk _ ⟨Liv_fs I.1 fr (fun b j x => by unfold LRg; omega), fun w' hw => by rw [gI_sI_nc _ _ _ _ (show 131 ≠ 132 by decide)]; exact I.2.1 w' hw, ?_⟩ (KP_fs fr (fun b j x => by omega))
  have ne : ∀ b, b ≠ 132 → gI (sI h 132 i (gI h 132 i + 1)) b = gI h b := fun b hb => gI_sI_nc _ _ _ _ hb
  have st := I.2.2
  refine ⟨?_, fun x hx => ?_, ?_, ?_, ?_, ?_⟩
  · rw [ne 123 (by decide)]; exact st.1
  · unfold Kp; rw [ne 141 (by decide)]; exact st.2.1 x hx
  · rw [ne 123 (by decide), ne 142 (by decide)]; exact st.2.2.1
  · rw [ne 123 (by decide), ne 136 (by decide)]; exact st.2.2.2.1
  · rw [ne 123 (by decide), ne 144 (by decide)]; exact st.2.2.2.2.1
  · intro j hj
    show _ = rs (zN s) (ix (-no)) (zN s (ix (-no)) + 1) j
    rw [e, ix_nI (by omega), sI_wR, gI_wR]
    by_cases d : j = i
    · subst d; rw [rs_eq, rs_eq, st.2.2.2.2.2 j hj]
    · rw [rs_ne _ _ d, rs_ne _ _ d]; exact st.2.2.2.2.2 j hj
end Refuse
/-- a call that both answer alike, after which both hold the same -/
def OpI (MP MQ : Nat) (as : List Value) (s : Sta) : Prop := ∃ (v : Int32) (s' : Sta), okS s' ∧ (∀ (h : PH) (k : PH → Int32 → Prop), IP h s → (∀ h', IP h' s' → KQ h h' → k h' v) → ccI MP h (.ref 2 :: as) k) ∧
  (∀ (h : PH) (k : PH → Int32 → Prop), IQ h s → (∀ h', IQ h' s' → KP h h' → k h' v) → ccI MQ h (.ref 123 :: as) k)
def OpL (MP MQ : Nat) (as : List Value) (s : Sta) : Prop := ∃ (v : Int64) (s' : Sta), okS s' ∧ (∀ (h : PH) (k : PH → Int64 → Prop), IP h s → (∀ h', IP h' s' → KQ h h' → k h' v) → ccL MP h (.ref 2 :: as) k) ∧
  (∀ (h : PH) (k : PH → Int64 → Prop), IQ h s → (∀ h', IQ h' s' → KP h h' → k h' v) → ccL MQ h (.ref 123 :: as) k)
/-- the class refuses with no, or answers v, and nothing changes -/
def PQ (M : Nat) (as : List Value) (s : Sta) (no v : Int32) : Prop := ∀ (h : PH) (k : PH → Int32 → Prop), IP h s → (no ≠ 0 → ∀ h', FT h h' → ccI m_P_refused h' [.ref 2, .int no] k) → (no = 0 → ∀ h', FT h h' → k h' v) → ccI M h (.ref 2 :: as) k
def QQ (M : Nat) (as : List Value) (s : Sta) (no v : Int32) : Prop := ∀ (h : PH) (k : PH → Int32 → Prop), IQ h s → (no ≠ 0 → ∀ h', KP h h' → IQ h' s → ccI m_Q_refuse h' [.ref 123, .int no] k) → (no = 0 → ∀ h', KP h h' → IQ h' s → k h' v) → ccI M h (.ref 123 :: as) k
def lref (x : Int32) : Int64 := 4000000000000000000 - Int32.toInt64 x
def PQL (M : Nat) (as : List Value) (s : Sta) (no : Int32) (v : Int64) : Prop := ∀ (h : PH) (k : PH → Int64 → Prop), IP h s → (no ≠ 0 → ∀ h', FT h h' → ccI m_P_refused h' [.ref 2, .int no] (fun h2 x => k h2 (lref x))) → (no = 0 → ∀ h', FT h h' → k h' v) → ccL M h (.ref 2 :: as) k
def QQL (M : Nat) (as : List Value) (s : Sta) (no : Int32) (v : Int64) : Prop := ∀ (h : PH) (k : PH → Int64 → Prop), IQ h s → (no ≠ 0 → ∀ h', KP h h' → IQ h' s → ccI m_Q_refuse h' [.ref 123, .int no] (fun h2 x => k h2 (lref x))) → (no = 0 → ∀ h', KP h h' → IQ h' s → k h' v) → ccL M h (.ref 123 :: as) k
theorem op_q {MP MQ : Nat} {as : List Value} {s : Sta} {no v : Int32} (o : okS s) (hn : no ≠ 0 → noK no) (P : PQ MP as s no v) (Q : QQ MQ as s no v) : OpI MP MQ as s := by
  by_cases c : no = 0
  · exact ⟨v, s, o, fun h k I hk => P h k I (fun z => absurd c z) (fun _ h' f => hk h' (IP_FT I f) (KQ_FT f)), fun h k I hk => Q h k I (fun z => absurd c z) (fun _ h' f I' => hk h' I' f)⟩
  · refine ⟨no, refS s no, o, fun h k I hk => P h k I (fun _ h' f => t_P_refused (IP_FT I f) (hn c) fun h2 I2 K2 => hk h2 I2 ?_) (fun z => absurd z c), fun h k I hk => Q h k I (fun _ h' f I' => t_Q_refuse I' (hn c) fun h2 I2 K2 => hk h2 I2 (KP_trans f K2)) (fun z => absurd z c)⟩
    exact KQ_pre f (fun b x => by omega) (fun b x => by omega) K2
theorem op_qL {MP MQ : Nat} {as : List Value} {s : Sta} {no : Int32} {v : Int64} (o : okS s) (hn : no ≠ 0 → noK no) (P : PQL MP as s no v) (Q : QQL MQ as s no v) : OpL MP MQ as s := by
  by_cases c : no = 0
  · exact ⟨v, s, o, fun h k I hk => P h k I (fun z => absurd c z) (fun _ h' f => hk h' (IP_FT I f) (KQ_FT f)), fun h k I hk => Q h k I (fun z => absurd c z) (fun _ h' f I' => hk h' I' f)⟩
  · refine ⟨lref no, refS s no, o, fun h k I hk => P h k I (fun _ h' f => t_P_refused (IP_FT I f) (hn c) fun h2 I2 K2 => hk h2 I2 ?_) (fun z => absurd z c), fun h k I hk => Q h k I (fun _ h' f I' => t_Q_refuse I' (hn c) fun h2 I2 K2 => hk h2 I2 (KP_trans f K2)) (fun z => absurd z c)⟩
    exact KQ_pre f (fun b x => by omega) (fun b x => by omega) K2
-- refusals, one behind the other
def th (a b : Int32) : Int32 := if a = 0 then b else a
def nF (c : Core) (x : Int32) : Int32 := if offN x (Cf c) then -1 else 0
def nW (c : Core) (x : Int32) : Int32 := if offN x (Cw c) then -1 else 0
def nTwo (c : Core) (x y : Int32) : Int32 := if x = y ∨ offN x (Cf c) ∨ offN y (Cf c) then -1 else 0
theorem nK_out (x lo hi : Int32) : outN x lo hi ≠ 0 → noK (outN x lo hi) := by
  unfold outN noK
  split
  · intro _; simp
  · split
    · intro _; simp
    · intro z; exact absurd rfl z
theorem nK_oth (x m : Int32) : othN x m ≠ 0 → noK (othN x m) := by
  unfold othN noK
  split
  · intro _; simp
  · intro z; exact absurd rfl z
theorem nK_F (c : Core) (x : Int32) : nF c x ≠ 0 → noK (nF c x) := by
  unfold nF noK
  split
  · intro _; simp
  · intro z; exact absurd rfl z
theorem nK_W (c : Core) (x : Int32) : nW c x ≠ 0 → noK (nW c x) := by
  unfold nW noK
  split
  · intro _; simp
  · intro z; exact absurd rfl z
theorem nK_Two (c : Core) (x y : Int32) : nTwo c x y ≠ 0 → noK (nTwo c x y) := by
  unfold nTwo noK
  split
  · intro _; simp
  · intro z; exact absurd rfl z
theorem nK_th {a b : Int32} (ha : a ≠ 0 → noK a) (hb : b ≠ 0 → noK b) : th a b ≠ 0 → noK (th a b) := by
  unfold th
  split
  · exact hb
  · exact ha
theorem th_0 {a b : Int32} : th a b = 0 ↔ a = 0 ∧ b = 0 := by
  unfold th
  by_cases c : a = 0
  · rw [if_pos c]; exact ⟨fun z => ⟨c, z⟩, fun z => z.2⟩
  · rw [if_neg c]; exact ⟨fun z => absurd z c, fun z => z.1⟩
theorem nF_0 {c : Core} {x : Int32} (hc : Cf c ≤ 5) (e : nF c x = 0) : ∃ f, f < Cf c ∧ x = nI f := by
  unfold nF at e
  by_cases d : offN x (Cf c)
  · rw [if_pos d] at e; exact absurd e (by decide)
  · exact on_nI (by omega) d
theorem nW_0 {c : Core} {x : Int32} (hc : Cw c ≤ 6) (e : nW c x = 0) : ∃ f, f < Cw c ∧ x = nI f := by
  unfold nW at e
  by_cases d : offN x (Cw c)
  · rw [if_pos d] at e; exact absurd e (by decide)
  · exact on_nI (by omega) d
theorem nTwo_0 {c : Core} {x y : Int32} (hc : Cf c ≤ 5) (e : nTwo c x y = 0) : ∃ f g, f < Cf c ∧ g < Cf c ∧ f ≠ g ∧ x = nI f ∧ y = nI g := by
  unfold nTwo at e
  by_cases d : x = y ∨ offN x (Cf c) ∨ offN y (Cf c)
  · rw [if_pos d] at e; exact absurd e (by decide)
  · obtain ⟨f, hf, rfl⟩ := on_nI (x := x) (by omega) (fun z => d (Or.inr (Or.inl z)))
    obtain ⟨g, hg, rfl⟩ := on_nI (x := y) (by omega) (fun z => d (Or.inr (Or.inr z)))
    exact ⟨f, g, hf, hg, fun z => d (Or.inl (by rw [z])), rfl, rfl⟩
theorem oth_0 {x : Int32} {m : Nat} (hm : m < 2 ^ 31) (e : othN x (nI m) = 0) : ∃ i, i ≤ m ∧ x = nI i := by
  unfold othN at e
  by_cases d : x < 0 ∨ nI m < x
  · rw [if_pos d] at e; exact absurd e (by decide)
  · obtain ⟨j, hj, rfl⟩ := nI_of (fun z => d (Or.inl z))
    exact ⟨j, Nat.le_of_not_lt fun z => d (Or.inr (nI_lt z hj)), rfl⟩
-- the first for which
def fstF (p : Nat → Bool) : Nat → Nat → Int32
  | _, 0 => -9
  | i, d + 1 => if p i = true then nI i else fstF p (i + 1) d
theorem fstF_step (p : Nat → Bool) {i N : Nat} (h : i < N) : fstF p i (N - i) = if p i = true then nI i else fstF p (i + 1) (N - (i + 1)) := by
  obtain ⟨d, e⟩ : ∃ d, N - i = d + 1 := ⟨N - i - 1, by omega⟩
  rw [e, show N - (i + 1) = d by omega]; rfl
theorem nI_n9 {i : Nat} (h : i < 2 ^ 31) : nI i ≠ -9 := fun z => by
  have h1 := nI_pos (n := i) h
  rw [z] at h1; exact h1 (by decide)
theorem fstF_snoc (p : Nat → Bool) : ∀ (d i : Nat), i + d < 2 ^ 31 → fstF p i (d + 1) = if fstF p i d = -9 then (if p (i + d) = true then nI (i + d) else -9) else fstF p i d
  | 0, i, _ => by
    show (if p i = true then nI i else -9) = if (-9 : Int32) = -9 then (if p i = true then nI i else -9) else -9
    rw [if_pos rfl]
  | d + 1, i, h => by
    have ih := fstF_snoc p d (i + 1) (by omega)
    show (if p i = true then nI i else fstF p (i + 1) (d + 1)) = if (if p i = true then nI i else fstF p (i + 1) d) = -9 then _ else (if p i = true then nI i else fstF p (i + 1) d)
    by_cases c : p i = true
    · simp only [c, if_true]
      rw [if_neg (nI_n9 (by omega))]
    · simp only [c]
      rw [ih, show i + 1 + d = i + (d + 1) by omega]
      simp
theorem fstF_c {p p' : Nat → Bool} : ∀ (d i : Nat), (∀ j, i ≤ j → j < i + d → p j = p' j) → fstF p i d = fstF p' i d
  | 0, _, _ => rfl
  | d + 1, i, e => by
    unfold fstF
    rw [e i (Nat.le_refl _) (by omega), fstF_c d (i + 1) (fun j h1 h2 => e j (by omega) (by omega))]
theorem fstF_bd (p : Nat → Bool) : ∀ (d i : Nat), i + d < 2 ^ 31 → fstF p i d = -9 ∨ ∃ j, i ≤ j ∧ j < i + d ∧ fstF p i d = nI j ∧ p j = true
  | 0, _, _ => Or.inl rfl
  | d + 1, i, h => by
    unfold fstF
    by_cases c : p i = true
    · rw [if_pos c]; exact Or.inr ⟨i, Nat.le_refl _, by omega, rfl, c⟩
    · rw [if_neg c]
      rcases fstF_bd p d (i + 1) (by omega) with e | ⟨j, h1, h2, h3, h4⟩
      · exact Or.inl e
      · exact Or.inr ⟨j, by omega, by omega, h3, h4⟩
def lstF (p : Nat → Bool) : Nat → Int32
  | 0 => -9
  | n + 1 => if p n = true then nI n else lstF p n
-- the least
def mnU (st : Int32 × Int32) (ok : Bool) (code v : Int32) : Int32 × Int32 := if ok = true ∧ v < st.2 then (code, v) else st
def mnF (z M : Int32) (ok : Nat → Bool) (g : Nat → Int32) : Nat → Int32 × Int32
  | 0 => (z, M)
  | n + 1 => mnU (mnF z M ok g n) (ok n) (nI n) (g n)
/-- two of them that begin otherwise -/
def mnR (z M M' : Int32) (st st' : Int32 × Int32) : Prop := st = st' ∨ (st = (z, M) ∧ st' = (z, M'))
theorem mnU_R {z M M' : Int32} {st st' : Int32 × Int32} (r : mnR z M M' st st') {ok : Bool} {code v : Int32} (hv : ok = true → v < M ∧ v < M') : mnR z M M' (mnU st ok code v) (mnU st' ok code v) := by
  rcases r with rfl | ⟨rfl, rfl⟩
  · exact Or.inl rfl
  · unfold mnU
    by_cases c : ok = true
    · have := hv c
      rw [if_pos ⟨c, this.1⟩, if_pos ⟨c, this.2⟩]; exact Or.inl rfl
    · rw [if_neg (fun z => c z.1), if_neg (fun z => c z.1)]; exact Or.inr ⟨rfl, rfl⟩
theorem mnR_1 {z M M' : Int32} {st st' : Int32 × Int32} (r : mnR z M M' st st') : st.1 = st'.1 := by
  rcases r with rfl | ⟨rfl, rfl⟩ <;> rfl
theorem mnF_R {z M M' : Int32} {ok : Nat → Bool} {g : Nat → Int32} : ∀ n, (∀ i, i < n → ok i = true → g i < M ∧ g i < M') → mnR z M M' (mnF z M ok g n) (mnF z M' ok g n)
  | 0, _ => Or.inr ⟨rfl, rfl⟩
  | n + 1, e => mnU_R (mnF_R n (fun i hi => e i (by omega))) (e n (by omega))
theorem mnF_c {z M : Int32} {ok ok' : Nat → Bool} {g g' : Nat → Int32} : ∀ {n : Nat}, (∀ i, i < n → ok i = ok' i ∧ (ok i = true → g i = g' i)) → mnF z M ok g n = mnF z M ok' g' n
  | 0, _ => rfl
  | n + 1, e => by
    have h := e n (by omega)
    unfold mnF
    rw [mnF_c (fun i hi => e i (by omega))]
    unfold mnU
    rw [← h.1]
    by_cases c : ok n = true
    · rw [h.2 c]
    · rw [if_neg (fun z => c z.1), if_neg (fun z => c z.1)]
