/-! ===== the reference: treasuries ===== -/
/-- what is told of the first n statements -/
def Fx (L : Nat → Int32) (n : Nat) (h : PH) : Prop := ∀ j, j < n → gI h 137 j = nI (plN L j) ∧ gI h 138 j = L (plN L j) ∧ argsT L (L (plN L j)) (plN L j + 1) (gI h 139) (3 * j) ∧ gdS L (plN L j) = true
def Prs (L : Nat → Int32) (h : PH) : Bool × Nat → Prop
  | (true, n) => gI h 123 21 = 0 ∧ gI h 123 22 = nI n ∧ Fx L n h
  | (false, n) => gI h 123 21 = 1 ∧ gI h 123 20 = nI (ftP L (plN L n))
def Gk (h h' : PH) : Prop := gI h' 137 = gI h 137 ∧ gI h' 138 = gI h 138 ∧ gI h' 139 = gI h 139 ∧ gI h' 123 22 = gI h 123 22
theorem gk_fs {S : Nat → Nat → Prop} {h h' : PH} (f : Fs S h h') (hS : ∀ b j, S b j → ¬ (b = 137 ∨ b = 138 ∨ b = 139 ∨ (b = 123 ∧ j = 22))) : Gk h h' :=
  ⟨funext fun j => f.2.2.2 137 j (fun z => hS _ _ z (by omega)), funext fun j => f.2.2.2 138 j (fun z => hS _ _ z (by omega)), funext fun j => f.2.2.2 139 j (fun z => hS _ _ z (by omega)), f.2.2.2 123 22 (fun z => hS _ _ z (by omega))⟩
theorem gk_tr {h1 h2 h3 : PH} (f : Gk h1 h2) (g : Gk h2 h3) : Gk h1 h3 := ⟨g.1.trans f.1, g.2.1.trans f.2.1, g.2.2.1.trans f.2.2.1, g.2.2.2.trans f.2.2.2⟩
theorem Fx_gk {L : Nat → Int32} {n : Nat} {h h' : PH} (F : Fx L n h) (g : Gk h h') : Fx L n h' := fun j hj => by
  obtain ⟨a, b, c, d⟩ := F j hj
  rw [g.1, g.2.1, g.2.2.1]
  exact ⟨a, b, c, d⟩
section TreR
variable {h h' h0 h1 h2 h3 : PH} {s : Sta} {t : Nat × Row} {p q d : Nat} {z : Zl}
theorem b49 {i : Nat} (h : i < 49) : inb (nI i) 49 := inb_nI h (by decide)
theorem t_rstEnd {H : PH} (q : isQ H) {a j : Nat} (ea : gI H 123 20 = nI a) (ej : gI H 123 22 = nI j) (b : Bool) {l1 l2 : Int32} {k : PH → Prop} (hk : ∀ h', Fs (fun b j => b = 123 ∧ (j = 20 ∨ j = 21 ∨ j = 22)) H h' → gI h' 123 20 = nI (if b = true then a else a + 1) → gI h' 123 21 = bdI b → gI h' 123 22 = nI (j + 1) → k h') : wp m_Q_readStatement H 108 [some (.ref 123), some (.int l1), some (.int l2)] [.int (bdI b), .ref 123] (tyV k) := by
  have w := qw q
  have n20 : ∀ x, gI (sI H 123 21 x) 123 20 = nI a := fun x => by rw [gI_sI_ne _ _ _ _ (by omega)]; exact ea
  have n22 : ∀ x y, gI (sI (sI H 123 21 x) 123 20 y) 123 22 = nI j := fun x y => by rw [gI_sI_ne _ _ _ _ (by omega), gI_sI_ne _ _ _ _ (by omega)]; exact ej
  rw [e_Q_readStatement_108]
  simp only [w, true_and, tg_sI, gI_sI_eq, e_Q_readStatement_128, n20, n22, nI_1]
  have fr : ∀ x y, Fs (fun b j => b = 123 ∧ (j = 20 ∨ j = 21 ∨ j = 22)) H (sI (sI (sI H 123 21 x) 123 20 y) 123 22 (nI (j + 1))) := fun x y => Fs_trans (Fs_sI _ _ _ _ ⟨rfl, by omega⟩) (Fs_trans (Fs_sI _ _ _ _ ⟨rfl, by omega⟩) (Fs_sI _ _ _ _ ⟨rfl, by omega⟩))
  cases b with
  | true =>
    rw [if_neg (show ¬ bdI true = 0 by decide)]
    refine ⟨Or.inr rfl, hk _ (fr _ _) ?_ ?_ (gI_sI_eq _ _ _ _)⟩
    · rw [gI_sI_ne _ _ _ _ (by omega), gI_sI_eq, Int32.add_zero]; rfl
    · rw [gI_sI_ne _ _ _ _ (by omega), gI_sI_ne _ _ _ _ (by omega), gI_sI_eq]
  | false =>
    rw [if_pos (show bdI false = 0 by decide)]
    refine ⟨Or.inl rfl, hk _ (fr _ _) ?_ ?_ (gI_sI_eq _ _ _ _)⟩
    · rw [gI_sI_ne _ _ _ _ (by omega), gI_sI_eq]; rfl
    · rw [gI_sI_ne _ _ _ _ (by omega), gI_sI_ne _ _ _ _ (by omega), gI_sI_eq]
theorem t_rst (X : Qx h t) (e : gI h 123 20 = nI p) (eb : gI h 123 21 = bdI false) {j : Nat} (ek : gI h 123 22 = nI j) (hj : j ≤ 33) (hp : p ≤ 96) {k : PH → Prop}
    (hk : ∀ h', Fs PF h h' → gI h' 123 22 = nI (j + 1) → gI h' 123 20 = nI (if gdS (ltA t) p = true then p + dgN (ltA t p) + 2 else ftP (ltA t) p) → gI h' 123 21 = bdI (!gdS (ltA t) p) → (gdS (ltA t) p = true → gI h' 137 j = nI p ∧ gI h' 138 j = ltA t p ∧ argsT (ltA t) (ltA t p) (p + 1) (gI h' 139) (3 * j)) → (∀ i, i < j → gI h' 137 i = gI h 137 i ∧ gI h' 138 i = gI h 138 i) → (∀ i, i < 3 * j → gI h' 139 i = gI h 139 i) → k h') : ccV m_Q_readStatement h [.ref 123] k := by
  have w := qw X.1
  rw [c_Q_readStatement, ek]
  simp only [w, true_and, e_Q_readStatement_42, e_Q_readStatement_103]
  rw [s_Q_here X e (by omega), e]
  simp only [w, true_and, tg_sI, gR_sI, ln_sI, b49 (show j < 49 by omega), ix_nI (show j < 2 ^ 31 by omega)]
  have fr1 : Fs PF h (sI (sI h 137 j (nI p)) 138 j (ltA t p)) := Fs_trans (Fs_sI _ _ _ _ (by unfold PF; omega)) (Fs_sI _ _ _ _ (by unfold PF; omega))
  have n1 : ∀ m, gI (sI (sI h 137 j (nI p)) 138 j (ltA t p)) 123 m = gI h 123 m := fun m => by rw [gI_sI_ne _ _ _ _ (by omega), gI_sI_ne _ _ _ _ (by omega)]
  have r137 : gI (sI (sI h 137 j (nI p)) 138 j (ltA t p)) 137 j = nI p := by rw [gI_sI_ne _ _ _ _ (by omega), gI_sI_eq]
  have r138 : gI (sI (sI h 137 j (nI p)) 138 j (ltA t p)) 138 j = ltA t p := gI_sI_eq _ _ _ _
  have r139 : ∀ i, gI (sI (sI h 137 j (nI p)) 138 j (ltA t p)) 139 i = gI h 139 i := fun i => by rw [gI_sI_ne _ _ _ _ (by omega), gI_sI_ne _ _ _ _ (by omega)]
  have ro : ∀ i, i < j → gI (sI (sI h 137 j (nI p)) 138 j (ltA t p)) 137 i = gI h 137 i ∧ gI (sI (sI h 137 j (nI p)) 138 j (ltA t p)) 138 i = gI h 138 i := fun i hi => by
    rw [gI_sI_ne _ _ _ _ (by omega), gI_sI_ne _ _ _ _ (by omega), gI_sI_ne _ _ _ _ (by omega), gI_sI_ne _ _ _ _ (by omega)]; exact ⟨rfl, rfl⟩
  generalize sI (sI h 137 j (nI p)) 138 j (ltA t p) = H1 at fr1 n1 r137 r138 r139 ro ⊢
  have X1 := Qx_fs X fr1 (fun b j z => z)
  have w1 := qw X1.1
  rw [n1 21, eb, if_neg (show ¬ ¬ bdI false = 0 by decide), s_Q_isLetter]
  simp only [e_Q_readStatement_47, w1, true_and, tg_sI, gI_sI_eq, e_Q_readStatement_67]
  have n20 : ∀ x, gI (sI H1 123 21 x) 123 20 = nI p := fun x => by rw [gI_sI_ne _ _ _ _ (by omega), n1]; exact e
  have m21 : ∀ x y, gI (sI (sI H1 123 21 x) 123 20 y) 123 21 = x := fun x y => by rw [gI_sI_ne _ _ _ _ (by omega), gI_sI_eq]
  have m22 : ∀ x y, gI (sI (sI H1 123 21 x) 123 20 y) 123 22 = nI j := fun x y => by rw [gI_sI_ne _ _ _ _ (by omega), gI_sI_ne _ _ _ _ (by omega), n1]; exact ek
  have fr2 : ∀ x y, Fs PF h (sI (sI H1 123 21 x) 123 20 y) := fun x y => Fs_trans fr1 (Fs_trans (Fs_sI _ _ _ _ (by unfold PF; omega)) (Fs_sI _ _ _ _ (by unfold PF; omega)))
  have frE : ∀ {h1 h2 : PH}, Fs PF h h1 → Fs (fun b j => b = 123 ∧ (j = 20 ∨ j = 21 ∨ j = 22)) h1 h2 → Fs PF h h2 := fun f g => Fs_trans f (Fs_mono g (fun b j z => by unfold PF; omega))
  have h6 := dgN_le (ltA t p)
  simp only [n20, m21]
  by_cases hd : dgN (ltA t p) = 0
  · have hg : gdS (ltA t) p = false := by unfold gdS; simp [hd]
    have hf : ftP (ltA t) p = p := by unfold ftP; rw [if_pos hd]
    rw [if_pos hd, if_neg (fun z => z rfl)]
    refine ⟨Or.inr trivial, ?_⟩
    rw [if_neg (by decide), if_pos (by decide), e_Q_readStatement_86]
    simp only [tg_sI, w1, true_and, m21]
    rw [if_pos (by decide), e_Q_readStatement_103]
    refine t_rstEnd (isQ_fs X.1 (fr2 1 (nI p + 0))) (a := p) (by rw [gI_sI_eq, Int32.add_zero]) (m22 _ _) true fun h' fr a1 a2 a3 => ?_
    refine hk h' (frE (fr2 _ _) fr) a3 (by rw [hg, hf]; exact a1) (by rw [hg]; exact a2) (fun z => by rw [hg] at z; exact absurd z (by decide)) (fun i hi => ?_) (fun i hi => ?_)
    · rw [fr.2.2.2 137 i (by omega), fr.2.2.2 138 i (by omega)]
      have q := ro i hi
      rw [gI_sI_ne _ _ _ _ (by omega), gI_sI_ne _ _ _ _ (by omega), gI_sI_ne _ _ _ _ (by omega), gI_sI_ne _ _ _ _ (by omega)]
      exact q
    · rw [fr.2.2.2 139 i (by omega), gI_sI_ne _ _ _ _ (by omega), gI_sI_ne _ _ _ _ (by omega)]; exact r139 i
  · rw [if_neg hd, if_pos (by decide)]
    refine ⟨Or.inl trivial, ?_⟩
    rw [if_pos trivial, if_neg (fun z => z trivial), nI_1, show 3 * nI j = nI (3 * j) from nI_mul 3 j]
    have X2 := Qx_fs X (fr2 0 (nI (p + 1))) (fun b j z => z)
    refine tq_rn X2 (gI_sI_eq _ _ _ _) (m21 _ _) (by omega) hd (by omega) fun H3 fr3 a1 a2 a3 a4 => ?_
    have X3 := Qx_fs X2 fr3 (fun b j z => by unfold PF; omega)
    have w3 := qw X3.1
    have hle := dgE_le (ltA t) (dgN (ltA t p)) (p + 1)
    have hf : ftP (ltA t) p = dgE (ltA t) (dgN (ltA t p)) (p + 1) := by unfold ftP; rw [if_neg hd]
    have e22 : gI H3 123 22 = nI j := by rw [fr3.2.2.2 123 22 (by omega)]; exact m22 _ _
    have f3 : Fs PF h H3 := Fs_trans (fr2 0 (nI (p + 1))) (Fs_mono fr3 (fun b j z => by unfold PF; omega))
    have o137 : ∀ i, i < j → gI H3 137 i = gI h 137 i ∧ gI H3 138 i = gI h 138 i := fun i hi => by
      rw [fr3.2.2.2 137 i (by omega), fr3.2.2.2 138 i (by omega), gI_sI_ne _ _ _ _ (by omega), gI_sI_ne _ _ _ _ (by omega), gI_sI_ne _ _ _ _ (by omega), gI_sI_ne _ _ _ _ (by omega)]
      exact ro i hi
    have o139 : ∀ i, i < 3 * j → gI H3 139 i = gI h 139 i := fun i hi => by
      rw [a4 i hi, gI_sI_ne _ _ _ _ (by omega), gI_sI_ne _ _ _ _ (by omega)]; exact r139 i
    have p137 : gI H3 137 j = nI p := by rw [fr3.2.2.2 137 j (by omega), gI_sI_ne _ _ _ _ (by omega), gI_sI_ne _ _ _ _ (by omega)]; exact r137
    have p138 : gI H3 138 j = ltA t p := by rw [fr3.2.2.2 138 j (by omega), gI_sI_ne _ _ _ _ (by omega), gI_sI_ne _ _ _ _ (by omega)]; exact r138
    rw [e_Q_readStatement_86, a2]
    refine ⟨w3.1, ?_⟩
    -- the end, bad or good
    have fin : ∀ b : Bool, (b = true → gdS (ltA t) p = false) → (b = false → gdS (ltA t) p = true ∧ dgE (ltA t) (dgN (ltA t p)) (p + 1) = p + 1 + dgN (ltA t p)) → wp m_Q_readStatement H3 108 [some (.ref 123), some (.int (nI j)), some (.int (ltA t p))] [.int (bdI b), .ref 123] (tyV k) := by
      intro b hb1 hb2
      refine t_rstEnd X3.1 a1 e22 b fun h' fr b1 b2 b3 => ?_
      refine hk h' (frE f3 fr) b3 ?_ ?_ (fun z => ?_) (fun i hi => ?_) (fun i hi => ?_)
      · cases b with
        | true => rw [hb1 rfl, hf]; exact b1
        | false => rw [(hb2 rfl).1, b1, (hb2 rfl).2]; show nI (p + 1 + dgN (ltA t p) + 1) = nI (p + dgN (ltA t p) + 2); congr 1; omega
      · cases b with
        | true => rw [hb1 rfl]; exact b2
        | false => rw [(hb2 rfl).1]; exact b2
      · rw [fr.2.2.2 137 j (by omega), fr.2.2.2 138 j (by omega), p137, p138]
        refine ⟨rfl, rfl, argsT_c (fun i _ => fr.2.2.2 139 i (by omega)) (a3 ?_)⟩
        exact (of_decide_eq_true z).2.1
      · rw [fr.2.2.2 137 i (by omega), fr.2.2.2 138 i (by omega)]; exact o137 i hi
      · rw [fr.2.2.2 139 i (by omega)]; exact o139 i hi
    by_cases hE : dgE (ltA t) (dgN (ltA t p)) (p + 1) = p + 1 + dgN (ltA t p)
    · rw [show decide (dgE (ltA t) (dgN (ltA t p)) (p + 1) ≠ p + 1 + dgN (ltA t p)) = false by simp [hE], if_neg (show ¬ ¬ bdI false = 0 by decide), s_Q_here X3 a1 (by omega)]
      refine ⟨w3.1, ?_⟩
      by_cases h59 : ltA t (dgE (ltA t) (dgN (ltA t p)) (p + 1)) = 59
      · rw [if_pos h59]
        exact fin false (fun z => absurd z (by decide)) (fun _ => ⟨decide_eq_true ⟨hd, hE, by rw [← hE]; exact h59⟩, hE⟩)
      · rw [if_neg h59, e_Q_readStatement_103]
        exact fin true (fun _ => decide_eq_false (fun z => h59 (by rw [hE]; exact z.2.2))) (fun z => absurd z (by decide))
    · rw [show decide (dgE (ltA t) (dgN (ltA t p)) (p + 1) ≠ p + 1 + dgN (ltA t p)) = true by simp [hE], if_pos (show ¬ bdI true = 0 by decide), e_Q_readStatement_103]
      exact fin true (fun _ => decide_eq_false (fun z => hE z.2.1)) (fun z => absurd z (by decide))
theorem t_parse {q1 : Option Value} {k : PH → Int32 → Prop} (hm : t.1 ≤ 96) : ∀ f j h, j + f = 97 → 3 * j ≤ plN (ltA t) j → (j = 0 ∨ plN (ltA t) j < t.1) → Fs PF h0 h → Qx h t → gI h 123 20 = nI (plN (ltA t) j) → gI h 123 21 = bdI false → gI h 123 22 = nI j → Fx (ltA t) j h →
    (∀ h', Fs PF h0 h' → Prs (ltA t) h' (frmN (ltA t) t.1 f j) → wp m_Q_treasury h' 52 [some (.ref 123), q1] [] (tyI k)) → wp m_Q_treasury h 20 [some (.ref 123), q1] [] (tyI k) := by
  intro f
  induction f with
  | zero => intro j h e h3 hp; exfalso; omega
  | succ f ih =>
    intro j h e h3 hp fr X e20 e21 e22 F hk
    have w := qw X.1
    have hpl : plN (ltA t) j ≤ 96 := by
      rcases hp with z | z
      · subst z; show (0 : Nat) ≤ 96; decide
      · omega
    have read : wp m_Q_treasury h 45 [some (.ref 123), q1] [] (tyI k) := by
      rw [e_Q_treasury_45]
      refine ⟨w.1, t_rst X e20 e21 e22 (by omega) hpl fun h1 fr1 a22 a20 a21 aF a137 a139 => ?_⟩
      have X1 := Qx_fs X fr1 (fun b j z => z)
      have w1 := qw X1.1
      have fr01 := Fs_trans fr fr1
      unfold frmN at hk
      by_cases c : gdS (ltA t) (plN (ltA t) j) = true
      · have g1 := gd_m c
        have g2 := gd_ge c
        have ps : plN (ltA t) (j + 1) = plN (ltA t) j + dgN (ltA t (plN (ltA t) j)) + 2 := rfl
        rw [if_pos c] at hk
        rw [if_pos c, ← ps] at a20
        rw [c] at a21
        obtain ⟨b1, b2, b3⟩ := aF c
        have F1 : Fx (ltA t) (j + 1) h1 := fun i hi => by
          by_cases d : i = j
          · subst d; exact ⟨b1, b2, b3, c⟩
          · obtain ⟨q1, q2, q3, q4⟩ := F i (by omega)
            obtain ⟨r1, r2⟩ := a137 i (by omega)
            exact ⟨r1.trans q1, r2.trans q2, argsT_c (fun j' hj' => a139 j' (by omega)) q3, q4⟩
        by_cases c2 : t.1 ≤ plN (ltA t) (j + 1)
        · rw [if_pos c2] at hk
          rw [e_Q_treasury_20, a21, a22, X1.2.1, a20, if_neg (show ¬ ¬ bdI (!true) = 0 by decide), if_neg (nI_ne0 (by omega) (by omega)), if_pos (nI_le c2 (by omega))]
          simp only [w1, true_and]
          exact hk h1 fr01 ⟨a21, a22, F1⟩
        · rw [if_neg c2] at hk
          exact ih (j + 1) h1 (by omega) (by omega) (Or.inr (by omega)) fr01 X1 a20 a21 a22 F1 hk
      · have c' : gdS (ltA t) (plN (ltA t) j) = false := by simpa using c
        rw [if_neg c] at hk
        rw [if_neg c] at a20
        rw [c'] at a21
        rw [e_Q_treasury_20, a21, if_pos (show ¬ bdI (!false) = 0 by decide)]
        exact ⟨w1.1, hk h1 fr01 ⟨a21, a20⟩⟩
    rw [e_Q_treasury_20, e21, e22, X.2.1, e20, if_neg (show ¬ ¬ bdI false = 0 by decide)]
    simp only [w, true_and]
    by_cases j0 : j = 0
    · rw [if_pos (by rw [j0]; rfl)]
      exact read
    · rw [if_neg (nI_ne0 (by omega) (by omega)), if_neg (nI_ge (by omega) (by omega))]
      exact read
theorem t_think3 (I : IQ h s) {k : PH → Prop} (hk : ∀ h', Fs (SC 140) h h' → TK s h h' (zC s) → TB s h' → k h') : ccV m_Q_think h [.ref 123] k := by
  have w := qw I.1.1
  rw [c_Q_think]
  simp only [w, true_and]
  exact t_Q_take I.1 I.2.1 (Or.inl rfl) fun h' fr L' B' K' => hk h' fr ⟨Fs_mono fr (fun b j x => by unfold SC at x; unfold Tq; omega), L', K'⟩ B'
theorem t_again3 {c : Core} (t : TK s h0 h c) (o : okS s) {k : PH → Prop} (hk : ∀ h', TK s h0 h' (zC s) → TB s h' → Gk h h' → k h') : ccV m_Q_again h [.ref 123] k := by
  have w := qw t.2.1.1
  rw [c_Q_again]
  simp only [w, true_and]
  exact t_Q_put t.2.1.1 o.1.1.1 (Or.inl rfl) t.2.2 fun h' fr L' B' K' => hk h' ⟨Fs_trans t.1 (Fs_mono fr (fun b j x => by unfold SC at x; unfold Tq; omega)), L', K'⟩ B' (gk_fs fr (fun b j x => by unfold SC at x; omega))
end TreR
