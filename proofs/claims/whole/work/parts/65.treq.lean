/-! ===== the reference: the letters are read ===== -/
def Qx (h : PH) (t : Nat × Row) : Prop := isQ h ∧ gI h 123 19 = nI t.1 ∧ (∀ i, i < t.1 → gI h 136 i = t.2 i) ∧ t.1 ≤ 96
def PF (b j : Nat) : Prop := b = 137 ∨ b = 138 ∨ b = 139 ∨ (b = 123 ∧ (j = 20 ∨ j = 21 ∨ j = 22))
def bdI (b : Bool) : Int32 := if b = true then 1 else 0
/-- reading d digits: where it stands, whether it is bad -/
def rdS (L : Nat → Int32) (d : Nat) (s : Nat × Bool) : Nat × Bool := if s.2 = true then s else (dgE L d s.1, decide (dgE L d s.1 ≠ s.1 + d))
theorem rdS_t (L : Nat → Int32) (d q : Nat) : rdS L d (q, true) = (q, true) := if_pos rfl
theorem rdS_f (L : Nat → Int32) (d q : Nat) : rdS L d (q, false) = (dgE L d q, decide (dgE L d q ≠ q + d)) := if_neg (fun z => absurd z (by decide : ¬ (false : Bool) = true))
theorem rdS_add (L : Nat → Int32) (a b q : Nat) : rdS L b (rdS L a (q, false)) = rdS L (a + b) (q, false) := by
  rw [rdS_f, rdS_f, dgE_add]
  have h1 := (dgE_le L a q).2
  by_cases c : dgE L a q = q + a
  · rw [if_pos c, c, show decide (q + a ≠ q + a) = false by simp, rdS_f, Nat.add_assoc]
  · rw [if_neg c, show decide (dgE L a q ≠ q + a) = true by simp [c], rdS_t]
    congr 1
    have : dgE L a q ≠ q + (a + b) := by omega
    simp [this]
theorem dgE_part {L : Nat → Int32} {a b q : Nat} (h : dgE L (a + b) q = q + (a + b)) : dgE L a q = q + a ∧ dgE L b (q + a) = q + a + b := by
  have h1 := (dgE_le L a q).2
  rw [dgE_add] at h
  by_cases c : dgE L a q = q + a
  · rw [if_pos c] at h
    exact ⟨c, by omega⟩
  · rw [if_neg c] at h; omega
theorem in_dg (x : Int32) : (if (48 : Int32) ≤ x ∧ x ≤ 57 then (1 : Int32) else 0) = if isDg x = true then 1 else 0 := by
  by_cases c : isDg x = true
  · have h := of_decide_eq_true c
    rw [if_pos c, if_pos ⟨Int32.not_lt.mp h.1, Int32.not_lt.mp h.2⟩]
  · rw [if_neg c, if_neg]
    intro z
    exact c (decide_eq_true ⟨Int32.not_lt.mpr z.1, Int32.not_lt.mpr z.2⟩)
theorem dg_lt {t : Nat × Row} {q : Nat} (h : isDg (ltA t q) = true) : q < t.1 ∧ ltA t q = t.2 q := by
  unfold ltA at h ⊢
  by_cases c : q < t.1
  · exact ⟨c, if_pos c⟩
  · rw [if_neg c] at h; exact absurd h (by decide)
/-- the numbers of a statement with letter c, that stand from q on, as a row holds them from i on -/
def argsT (L : Nat → Int32) (c : Int32) (q : Nat) (T : Row) (i : Nat) : Prop :=
  if c = 98 then T i = nuI L 1 q 0 else if c = 100 then T i = nuI L 1 q 0 ∧ T (i + 1) = nuI L 5 (q + 1) 0 else if c = 102 then T i = nuI L 2 q 0 ∧ T (i + 1) = nuI L 1 (q + 2) 0 ∧ T (i + 2) = nuI L 1 (q + 3) 0
  else if c = 119 then T i = nuI L 1 q 0 ∧ T (i + 1) = nuI L 1 (q + 1) 0 ∧ T (i + 2) = nuI L 3 (q + 2) 0 else T i = nuI L 2 q 0
theorem argsT_c {L : Nat → Int32} {c : Int32} {q i : Nat} {T T' : Row} (e : ∀ j, j < i + 3 → T' j = T j) (a : argsT L c q T i) : argsT L c q T' i := by
  unfold argsT at a ⊢
  rw [e i (by omega), e (i + 1) (by omega), e (i + 2) (by omega)]
  exact a
section TreQ
variable {h h' h0 h1 h2 h3 : PH} {s : Sta} {t : Nat × Row} {p q d : Nat}
theorem Qx_fs {S : Nat → Nat → Prop} (X : Qx h t) (f : Fs S h h') (hS : ∀ b j, S b j → PF b j) : Qx h' t :=
  ⟨isQ_fs X.1 f, by rw [f.2.2.2 123 19 (fun z => by have := hS _ _ z; unfold PF at this; omega)]; exact X.2.1, fun i hi => by rw [f.2.2.2 136 i (fun z => by have := hS _ _ z; unfold PF at this; omega)]; exact X.2.2.1 i hi, X.2.2.2⟩
theorem s_Q_here (X : Qx h t) (e : gI h 123 20 = nI q) (hq : q < 2 ^ 30) (k : PH → Int32 → Prop) : ccI m_Q_here h [.ref 123] k = k h (ltA t q) := by
  have w := qw X.1
  have hm := X.2.2.2
  rw [c_Q_here]
  simp only [w, true_and, true_or, X.2.1, e, e_Q_here_24]
  unfold ltA
  by_cases c : q < t.1
  · rw [if_pos c, if_neg (nI_ge c (by omega)), ix_nI (by omega), X.2.2.1 q c]
    simp [inb_nI (show q < 96 by omega)]
  · rw [if_neg c, if_pos (nI_le (by omega) (by omega))]
theorem tq_rd (X : Qx h t) (e : gI h 123 20 = nI q) {b : Bool} (eb : gI h 123 21 = bdI b) (hq : q + d < 2 ^ 20) {k : PH → Int32 → Prop}
    (hk : ∀ h' v, Fs (fun b j => b = 123 ∧ (j = 20 ∨ j = 21)) h h' → gI h' 123 20 = nI (rdS (ltA t) d (q, b)).1 → gI h' 123 21 = bdI (rdS (ltA t) d (q, b)).2 → (b = false → dgE (ltA t) d q = q + d → v = nuI (ltA t) d q 0) → k h' v) : ccI m_Q_readDigits h [.ref 123, .int (nI d)] k := by
  rw [c_Q_readDigits]
  have key : ∀ r j h q b v, j + r = d → q + r < 2 ^ 20 → Qx h t → gI h 123 20 = nI q → gI h 123 21 = bdI b →
      (∀ h' v', Fs (fun b j => b = 123 ∧ (j = 20 ∨ j = 21)) h h' → gI h' 123 20 = nI (rdS (ltA t) r (q, b)).1 → gI h' 123 21 = bdI (rdS (ltA t) r (q, b)).2 → (b = false → dgE (ltA t) r q = q + r → v' = nuI (ltA t) r q v) → k h' v') →
      wp m_Q_readDigits h 4 [some (.ref 123), some (.int (nI d)), some (.int v), some (.int (nI j))] [] (tyI k) := by
    intro r
    induction r with
    | zero =>
      intro j h q b v hj hq X e eb hk
      rw [e_Q_readDigits_4, if_pos (nI_le (by omega) (by omega))]
      refine hk h v (Fs_refl _ _) ?_ ?_ (fun _ _ => rfl)
      · rw [e]
        cases b
        · rw [rdS_f]; rfl
        · rw [rdS_t]
      · rw [eb]
        cases b
        · rw [rdS_f]
          have : decide (dgE (ltA t) 0 q ≠ q + 0) = false := by simp [dgE]
          rw [this]
        · rw [rdS_t]
    | succ r ih =>
      intro j h q b v hj hq X e eb hk
      have w := qw X.1
      have hm := X.2.2.2
      rw [e_Q_readDigits_4, if_neg (nI_ge (by omega) (by omega)), eb]
      simp only [w, true_and, e_Q_readDigits_34, e_Q_readDigits_39, e_Q_readDigits_70, e_Q_readDigits_88, tg_sI, gR_sI, ln_sI, gI_sI_eq]
      have n20 : ∀ x, gI (sI h 123 21 x) 123 20 = nI q := fun x => by rw [gI_sI_ne _ _ _ _ (by omega)]; exact e
      simp only [n20]
      -- what stays bad
      have bad : ∀ (hb : ∀ h' v', Fs (fun b j => b = 123 ∧ (j = 20 ∨ j = 21)) h h' → gI h' 123 20 = nI q → gI h' 123 21 = 1 → k h' v'), wp m_Q_readDigits (sI (sI h 123 21 1) 123 20 (nI q + 0)) 4 [some (.ref 123), some (.int (nI d)), some (.int 0), some (.int (nI j + 1))] [] (tyI k) := by
        intro hb
        have fr : Fs (fun b j => b = 123 ∧ (j = 20 ∨ j = 21)) h (sI (sI h 123 21 1) 123 20 (nI q + 0)) := Fs_trans (Fs_sI _ _ _ _ ⟨rfl, Or.inr rfl⟩) (Fs_sI _ _ _ _ ⟨rfl, Or.inl rfl⟩)
        rw [nI_1]
        refine ih (j + 1) _ q true 0 (by omega) (by omega) (Qx_fs X fr (fun b j z => by unfold PF; omega)) (by rw [gI_sI_eq, Int32.add_zero]) (by rw [gI_sI_ne _ _ _ _ (by omega), gI_sI_eq]; rfl) (fun h' v' fr' a1 a2 _ => ?_)
        rw [rdS_t] at a1 a2
        exact hb h' v' (Fs_trans fr fr') a1 a2
      cases b with
      | true =>
        rw [if_pos (show ¬ bdI true = 0 by decide)]
        refine ⟨Or.inr trivial, ?_⟩
        rw [if_neg (by decide), if_neg (by decide)]
        exact bad fun h' v' fr' a1 a2 => hk h' v' fr' (by rw [rdS_t]; exact a1) (by rw [rdS_t]; exact a2) (fun z => absurd z (by decide))
      | false =>
        rw [if_neg (show ¬ ¬ bdI false = 0 by decide), s_Q_here X e (by omega), s_Q_inI h (lo := 48) (hi := 57) (by decide) (by decide), in_dg]
        by_cases c : isDg (ltA t q) = true
        · obtain ⟨g1, g2⟩ := dg_lt c
          rw [if_pos c, if_pos (by decide)]
          simp only [w, true_and, n20]
          refine ⟨Or.inl trivial, ?_⟩
          rw [if_pos trivial, if_pos trivial, ix_nI (by omega), gI_sI_ne _ _ _ _ (show ¬ (136 = 123 ∧ q = 21) by omega), X.2.2.1 q g1, ← g2]
          have fr : Fs (fun b j => b = 123 ∧ (j = 20 ∨ j = 21)) h (sI (sI h 123 21 0) 123 20 (nI q + 1)) := Fs_trans (Fs_sI _ _ _ _ ⟨rfl, Or.inr rfl⟩) (Fs_sI _ _ _ _ ⟨rfl, Or.inl rfl⟩)
          refine ⟨⟨Or.inl trivial, inb_nI (show q < 96 by omega) (by decide)⟩, ?_⟩
          rw [nI_1 j]
          have ed : dgE (ltA t) (r + 1) q = dgE (ltA t) r (q + 1) := if_pos c
          refine ih (j + 1) _ (q + 1) false _ (by omega) (by omega) (Qx_fs X fr (fun b j z => by unfold PF; omega)) (by rw [gI_sI_eq, nI_1]) (by rw [gI_sI_ne _ _ _ _ (by omega), gI_sI_eq]; rfl) (fun h' v' fr' a1 a2 a3 => ?_)
          rw [rdS_f] at a1 a2
          refine hk h' v' (Fs_trans fr fr') (by rw [rdS_f, ed]; exact a1) ?_ (fun _ z => ?_)
          · rw [rdS_f, ed, a2, show q + 1 + r = q + (r + 1) by omega]
          · rw [ed] at z
            rw [a3 rfl (by omega)]
            rfl
        · have ed : dgE (ltA t) (r + 1) q = q := if_neg c
          rw [if_neg c, if_neg (fun z => z rfl)]
          simp only [w, true_and, n20]
          refine ⟨Or.inr trivial, ?_⟩
          rw [if_neg (by decide), if_neg (by decide)]
          refine bad fun h' v' fr' a1 a2 => hk h' v' fr' (by rw [rdS_f, ed]; exact a1) ?_ (fun _ z => by omega)
          rw [rdS_f, ed, a2]
          have : decide (q ≠ q + (r + 1)) = true := by simp
          rw [this]; rfl
  exact key d 0 h q b 0 (by omega) hq X e eb hk
theorem s_Q_isLetter (x : Int32) (k : PH → Int32 → Prop) : ccI m_Q_isLetter h [.int x] k = k h (if dgN x = 0 then 0 else 1) := by
  rw [c_Q_isLetter]
  simp only [e_Q_isLetter_36, e_Q_isLetter_41]
  unfold dgN
  by_cases c3 : x = 102
  · subst c3; rw [if_pos rfl]; simp
  rw [if_neg c3]
  by_cases c5 : x = 119
  · subst c5; rw [if_pos rfl]; simp
  rw [if_neg c5]
  by_cases c1 : x = 98
  · subst c1; rw [if_pos rfl]; simp
  rw [if_neg c1]
  by_cases c4 : x = 114
  · subst c4; rw [if_pos rfl]; simp
  rw [if_neg c4]
  by_cases c6 : x = 121
  · subst c6; rw [if_pos rfl]; simp
  rw [if_neg c6]
  by_cases c2 : x = 100
  · subst c2; rw [if_neg (fun z => z rfl)]; simp
  rw [if_pos c2]
  simp [c1, c2, c3, c4, c5, c6]
theorem b147 {i : Nat} (h : i < 147) : inb (nI i) 147 := inb_nI h (by decide)
theorem tq_rn (X : Qx h t) (e : gI h 123 20 = nI q) (eb : gI h 123 21 = bdI false) (hq : q < 200) {c : Int32} (hc : dgN c ≠ 0) {i : Nat} (hi : i + 2 < 147) {k : PH → Prop}
    (hk : ∀ h', Fs (fun b j => b = 139 ∨ (b = 123 ∧ (j = 20 ∨ j = 21))) h h' → gI h' 123 20 = nI (dgE (ltA t) (dgN c) q) → gI h' 123 21 = bdI (decide (dgE (ltA t) (dgN c) q ≠ q + dgN c)) → (dgE (ltA t) (dgN c) q = q + dgN c → argsT (ltA t) c q (gI h' 139) i) → (∀ j, j < i → gI h' 139 j = gI h 139 j) → k h') : ccV m_Q_readNumbers h [.ref 123, .int c, .int (nI i)] k := by
  have w := qw X.1
  have f2 : ∀ {h1 : PH} {j x}, Fs (fun b j => b = 123 ∧ (j = 20 ∨ j = 21)) h h1 → Fs (fun b j => b = 139 ∨ (b = 123 ∧ (j = 20 ∨ j = 21))) h (sI h1 139 j x) := fun f => Fs_trans (Fs_mono f (fun b j z => Or.inr z)) (Fs_sI _ _ _ _ (Or.inl rfl))
  have f3 : ∀ {h1 h2 : PH} {j x}, Fs (fun b j => b = 139 ∨ (b = 123 ∧ (j = 20 ∨ j = 21))) h h1 → Fs (fun b j => b = 123 ∧ (j = 20 ∨ j = 21)) h1 h2 → Fs (fun b j => b = 139 ∨ (b = 123 ∧ (j = 20 ∨ j = 21))) h (sI h2 139 j x) := fun f g => Fs_trans f (Fs_trans (Fs_mono g (fun b j z => Or.inr z)) (Fs_sI _ _ _ _ (Or.inl rfl)))
  have hPF : ∀ b j, (b = 139 ∨ (b = 123 ∧ (j = 20 ∨ j = 21))) → PF b j := fun b j z => by unfold PF; omega
  have hle := fun d q => dgE_le (ltA t) d q
  have ne20 : ∀ (h1 : PH) j x m, gI (sI h1 139 j x) 123 m = gI h1 123 m := fun h1 j x m => gI_sI_ne _ _ _ _ (by omega)
  rw [c_Q_readNumbers, e_Q_readNumbers_1]
  simp only [w, true_and, e_Q_readNumbers_176]
  -- one number
  have one : ∀ d, d ≤ 2 → dgN c = d → (∀ T : Row, T i = nuI (ltA t) d q 0 → argsT (ltA t) c q T i) → ccI m_Q_readDigits h [.ref 123, .int (nI d)] fun h1 x1 => (tg h1 139 = 100 ∧ inb (nI i) (ln h1 139)) ∧ k (sI h1 139 (ix (nI i)) x1) := by
    intro d hd hdc ha
    refine tq_rd X e eb (by omega) fun h1 v fr a1 a2 a3 => ?_
    have w1 := qw (isQ_fs X.1 fr)
    rw [rdS_f] at a1 a2
    simp only [w1, true_and, b147 (show i < 147 by omega), ix_nI (show i < 2 ^ 31 by omega)]
    refine hk _ (f2 fr) (by rw [ne20, hdc]; exact a1) (by rw [ne20, hdc]; exact a2) (fun z => ha _ (by rw [gI_sI_eq]; exact a3 rfl (by rw [hdc] at z; exact z))) (fun j hj => ?_)
    rw [gI_sI_ne _ _ _ _ (by omega)]; exact fr.2.2.2 139 j (by omega)
  by_cases c1 : c = 98
  · rw [if_pos c1]
    exact one 1 (by omega) (by unfold dgN; rw [if_pos c1]) (fun T ht => by unfold argsT; rw [if_pos c1]; exact ht)
  rw [if_neg c1]
  by_cases c2 : c = 100
  · have hd : dgN c = 1 + 5 := by unfold dgN; rw [if_neg c1, if_pos c2]
    rw [if_pos c2]
    rw [hd] at hk
    refine tq_rd (d := 1) X e eb (by omega) fun h1 v1 fr1 a1 a2 a3 => ?_
    have X1 := Qx_fs X (f2 (j := i) (x := v1) fr1) hPF
    have w1 := qw (isQ_fs X.1 fr1)
    have w1' := qw X1.1
    simp only [w1, w1', true_and, b147 (show i < 147 by omega), ix_nI (show i < 2 ^ 31 by omega), tg_sI, gR_sI]
    have hl1 := hle 1 q
    refine tq_rd (q := (rdS (ltA t) 1 (q, false)).1) (b := (rdS (ltA t) 1 (q, false)).2) (d := 5) X1 (by rw [ne20]; exact a1) (by rw [ne20]; exact a2) (by rw [rdS_f]; show dgE (ltA t) 1 q + 5 < _; omega) fun h2 v2 fr2 b1 b2 b3 => ?_
    have w2 := qw (isQ_fs X1.1 fr2)
    rw [show ((rdS (ltA t) 1 (q, false)).1, (rdS (ltA t) 1 (q, false)).2) = rdS (ltA t) 1 (q, false) from rfl, rdS_add, rdS_f] at b1 b2
    rw [nI_1]
    simp only [w2, true_and, b147 (show i + 1 < 147 by omega), ix_nI (show i + 1 < 2 ^ 31 by omega)]
    refine hk _ (f3 (f2 fr1) fr2) (by rw [ne20]; exact b1) (by rw [ne20]; exact b2) (fun z => ?_) (fun j hj => ?_)
    · obtain ⟨z1, z2⟩ := dgE_part z
      have r1 : rdS (ltA t) 1 (q, false) = (q + 1, false) := by rw [rdS_f, z1]; simp
      rw [r1] at b3
      unfold argsT
      rw [if_neg c1, if_pos c2, gI_sI_ne _ _ _ _ (by omega), gI_sI_eq, fr2.2.2.2 139 i (by omega), gI_sI_eq]
      exact ⟨a3 rfl z1, b3 rfl z2⟩
    · rw [gI_sI_ne _ _ _ _ (by omega), fr2.2.2.2 139 j (by omega), gI_sI_ne _ _ _ _ (by omega)]; exact fr1.2.2.2 139 j (by omega)
  rw [if_neg c2]
  -- three numbers
  have three : ∀ d1 d2 d3, d1 ≤ 2 → d2 ≤ 2 → d3 ≤ 3 → dgN c = d1 + d2 + d3 → (∀ T : Row, T i = nuI (ltA t) d1 q 0 → T (i + 1) = nuI (ltA t) d2 (q + d1) 0 → T (i + 2) = nuI (ltA t) d3 (q + (d1 + d2)) 0 → argsT (ltA t) c q T i) →
      ccI m_Q_readDigits h [.ref 123, .int (nI d1)] fun h1 x1 => (tg h1 139 = 100 ∧ inb (nI i) (ln h1 139)) ∧ (tg (sI h1 139 (ix (nI i)) x1) 123 = 12 ∧ (tg (sI h1 139 (ix (nI i)) x1) 123 = 12 ∧ ccI m_Q_readDigits (sI h1 139 (ix (nI i)) x1) [.ref 123, .int (nI d2)] fun h2 x2 => (tg h2 (gR (sI h1 139 (ix (nI i)) x1) 123 25) = 100 ∧ inb (nI i + 1) (ln h2 (gR (sI h1 139 (ix (nI i)) x1) 123 25))) ∧ (tg (sI h2 (gR (sI h1 139 (ix (nI i)) x1) 123 25) (ix (nI i + 1)) x2) 123 = 12 ∧ (tg (sI h2 (gR (sI h1 139 (ix (nI i)) x1) 123 25) (ix (nI i + 1)) x2) 123 = 12 ∧ ccI m_Q_readDigits (sI h2 (gR (sI h1 139 (ix (nI i)) x1) 123 25) (ix (nI i + 1)) x2) [.ref 123, .int (nI d3)] fun h3 x3 => (tg h3 (gR (sI h2 (gR (sI h1 139 (ix (nI i)) x1) 123 25) (ix (nI i + 1)) x2) 123 25) = 100 ∧ inb (nI i + 2) (ln h3 (gR (sI h2 (gR (sI h1 139 (ix (nI i)) x1) 123 25) (ix (nI i + 1)) x2) 123 25))) ∧ k (sI h3 (gR (sI h2 (gR (sI h1 139 (ix (nI i)) x1) 123 25) (ix (nI i + 1)) x2) 123 25) (ix (nI i + 2)) x3))))) := by
    intro d1 d2 d3 hd1 hd2 hd3 hd ha
    rw [hd] at hk
    have n2 : nI i + 2 = nI (i + 2) := by rw [show (2 : Int32) = nI 2 from rfl, nI_add]
    refine tq_rd X e eb (by omega) fun h1 v1 fr1 a1 a2 a3 => ?_
    have X1 := Qx_fs X (f2 (j := i) (x := v1) fr1) hPF
    have w1 := qw (isQ_fs X.1 fr1)
    have w1' := qw X1.1
    simp only [w1, w1', true_and, b147 (show i < 147 by omega), ix_nI (show i < 2 ^ 31 by omega), tg_sI, gR_sI]
    have hl1 := hle d1 q
    refine tq_rd (q := (rdS (ltA t) d1 (q, false)).1) (b := (rdS (ltA t) d1 (q, false)).2) X1 (by rw [ne20]; exact a1) (by rw [ne20]; exact a2) (by rw [rdS_f]; show dgE (ltA t) d1 q + d2 < _; omega) fun h2 v2 fr2 b1 b2 b3 => ?_
    have X2 := Qx_fs X1 (Fs_trans (Fs_mono fr2 (S' := fun b j => b = 139 ∨ (b = 123 ∧ (j = 20 ∨ j = 21))) (fun b j z => Or.inr z)) (Fs_sI h2 139 (i + 1) v2 (Or.inl rfl))) hPF
    have w2 := qw (isQ_fs X1.1 fr2)
    have w2' := qw X2.1
    rw [show ((rdS (ltA t) d1 (q, false)).1, (rdS (ltA t) d1 (q, false)).2) = rdS (ltA t) d1 (q, false) from rfl, rdS_add] at b1 b2
    rw [nI_1, n2]
    simp only [w1, w2, w2', true_and, b147 (show i + 1 < 147 by omega), ix_nI (show i + 1 < 2 ^ 31 by omega), tg_sI, gR_sI]
    have hl2 := hle (d1 + d2) q
    refine tq_rd (q := (rdS (ltA t) (d1 + d2) (q, false)).1) (b := (rdS (ltA t) (d1 + d2) (q, false)).2) X2 (by rw [ne20]; exact b1) (by rw [ne20]; exact b2) (by rw [rdS_f]; show dgE (ltA t) (d1 + d2) q + d3 < _; omega) fun h3 v3 fr3 e1 e2 e3 => ?_
    have w3 := qw (isQ_fs X2.1 fr3)
    rw [show ((rdS (ltA t) (d1 + d2) (q, false)).1, (rdS (ltA t) (d1 + d2) (q, false)).2) = rdS (ltA t) (d1 + d2) (q, false) from rfl, rdS_add, rdS_f] at e1 e2
    simp only [w3, true_and, b147 (show i + 2 < 147 by omega), ix_nI (show i + 2 < 2 ^ 31 by omega)]
    refine hk _ (f3 (f3 (f2 fr1) fr2) fr3) (by rw [ne20]; exact e1) (by rw [ne20]; exact e2) (fun z => ?_) (fun j hj => ?_)
    · obtain ⟨z12, z3⟩ := dgE_part z
      obtain ⟨z1, z2⟩ := dgE_part z12
      have r1 : rdS (ltA t) d1 (q, false) = (q + d1, false) := by rw [rdS_f, z1]; simp
      have r2 : rdS (ltA t) (d1 + d2) (q, false) = (q + (d1 + d2), false) := by rw [rdS_f, z12]; simp
      rw [r1] at b3
      rw [r2] at e3
      refine ha _ ?_ ?_ ?_
      · rw [gI_sI_ne _ _ _ _ (by omega), fr3.2.2.2 139 i (by omega), gI_sI_ne _ _ _ _ (by omega), fr2.2.2.2 139 i (by omega), gI_sI_eq]
        exact a3 rfl z1
      · rw [gI_sI_ne _ _ _ _ (by omega), fr3.2.2.2 139 (i + 1) (by omega), gI_sI_eq]
        exact b3 rfl z2
      · rw [gI_sI_eq]
        exact e3 rfl z3
    · rw [gI_sI_ne _ _ _ _ (by omega), fr3.2.2.2 139 j (by omega), gI_sI_ne _ _ _ _ (by omega), fr2.2.2.2 139 j (by omega), gI_sI_ne _ _ _ _ (by omega)]; exact fr1.2.2.2 139 j (by omega)
  by_cases c3 : c = 102
  · rw [if_pos c3]
    exact three 2 1 1 (by omega) (by omega) (by omega) (by unfold dgN; rw [if_neg c1, if_neg c2, if_pos c3]) (fun T a b d => by unfold argsT; rw [if_neg c1, if_neg c2, if_pos c3]; exact ⟨a, b, d⟩)
  rw [if_neg c3]
  by_cases c5 : c = 119
  · have c4 : ¬ c = 114 := by rw [c5]; decide
    rw [if_pos c5]
    exact three 1 1 3 (by omega) (by omega) (by omega) (by unfold dgN; rw [if_neg c1, if_neg c2, if_neg c3, if_neg c4, if_pos c5]) (fun T a b d => by unfold argsT; rw [if_neg c1, if_neg c2, if_neg c3, if_pos c5]; exact ⟨a, b, d⟩)
  rw [if_neg c5]
  refine one 2 (by omega) ?_ (fun T ht => by unfold argsT; rw [if_neg c1, if_neg c2, if_neg c3, if_neg c5]; exact ht)
  unfold dgN at hc ⊢
  rw [if_neg c1, if_neg c2, if_neg c3] at hc ⊢
  by_cases c4 : c = 114
  · rw [if_pos c4]
  · rw [if_neg c4, if_neg c5] at hc ⊢
    by_cases c6 : c = 121
    · rw [if_pos c6]
    · rw [if_neg c6] at hc; exact absurd rfl hc
end TreQ
