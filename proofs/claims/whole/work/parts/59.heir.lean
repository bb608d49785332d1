/-! ===== the reference: heirs ===== -/
theorem sum_but (g : Nat → Int32) (f : Nat) : ∀ n, sumN g n = sumN (fun o => if o = f then 0 else g o) n + (if f < n then g f else 0)
  | 0 => by rw [if_neg (Nat.not_lt_zero _)]; rfl
  | n + 1 => by
    unfold sumN
    rw [sum_but g f n]
    by_cases d : n = f
    · subst d
      rw [if_neg (Nat.lt_irrefl _), if_pos rfl, if_pos (Nat.lt_succ_self _), Int32.add_zero]
    · rw [if_neg d]
      by_cases e : f < n
      · rw [if_pos e, if_pos (by omega), Int32.add_assoc, Int32.add_assoc, Int32.add_comm (g f)]
      · rw [if_neg e, if_neg (by omega), Int32.add_zero, Int32.add_zero]
theorem lft_cut {s : Nat → Int32} {due : Int32} {n : Nat} (z : ∀ i, n ≤ i → s i = 0) : ∀ d, lftN s due (n + d) = lftN s due n
  | 0 => rfl
  | d + 1 => by
    show lftN s due (n + d) - s (n + d) = lftN s due n
    rw [lft_cut z d, z (n + d) (by omega), Int32.sub_zero]
theorem heirH_is {c : Core} (o : okC c) (f : Nat) : ∃ H, heirH c f = nI H ∧ H ≤ 100 ∧ (∀ g, g < Cf c → g ≠ f → 1 ≤ H) ∧ ((∀ g, g < Cf c → g = f) → H = 0) := by
  have h5 := o.1.1
  have e : heirH c f = nI (sumT (fun g => if g = f then 0 else ix (Cm c g 0)) (Cf c)) := sumN_nI fun i hi => by
    by_cases d : i = f
    · rw [if_pos d, if_pos d]; rfl
    · rw [if_neg d, if_neg d]; exact (o.2.2.1 i hi).1.1
  refine ⟨_, e, ?_, fun g hg hn => ?_, fun h => ?_⟩
  · have := sumT_le (G := fun g => if g = f then 0 else ix (Cm c g 0)) (B := 20) (n := Cf c) (fun i hi => by
      by_cases d : i = f
      · rw [if_pos d]; omega
      · rw [if_neg d]; exact (o.2.2.1 i hi).1.2.2)
    omega
  · have h1 := sumT_ge (G := fun g => if g = f then 0 else ix (Cm c g 0)) hg
    rw [if_neg hn] at h1
    have := (o.2.2.1 g hg).1.2.1
    omega
  · have := sumT_le (G := fun g => if g = f then 0 else ix (Cm c g 0)) (B := 0) (n := Cf c) (fun i hi => by rw [if_pos (h i hi)]; exact Nat.le_refl _)
    omega
theorem heirH_sub {c : Core} {f : Nat} (hf : f < Cf c) : headsC c - Cm c f 0 = heirH c f := by
  have e := sum_but (fun g => Cm c g 0) f (Cf c)
  rw [if_pos hf] at e
  have e2 : headsC c = heirH c f + Cm c f 0 := e
  rw [e2, Int32.add_sub_cancel]
def heirV (c : Core) (f o : Nat) : Int32 := hoR (rOwe (heirX c f o) (Cm c o))
/-- the most so far, from nothing -/
def heirZ (c : Core) (f : Nat) : Nat → Int32
  | 0 => 0
  | o + 1 => if o = f then heirZ c f o else if heirZ c f o < heirV c f o then heirV c f o else heirZ c f o
theorem heirS_bd {c : Core} (o : okC c) {f : Nat} (hf : f < Cf c) (g : Nat) : bd (heirS c f g) 0 1999980 := by
  unfold heirS
  refine bd_ite (fun q => ?_) (fun _ => bd_nI (n := 0) (by omega) (by omega) (by decide))
  obtain ⟨H, hH, H1, _, _⟩ := heirH_is o f
  obtain ⟨d, hd, _, d2⟩ := bd_of (o.2.2.1 f hf).2.1
  obtain ⟨p, hp, _, p2⟩ := bd_of (o.2.2.1 g q.1.1).1
  have hm : d * p ≤ 99999 * 20 := Nat.mul_le_mul d2 p2
  rw [hH, hd, hp, nI_mul, nI_div (by omega) (by omega)]
  have := Nat.div_le_self (d * p) H
  generalize d * p / H = z at this ⊢
  exact bd_nI (by omega) (by omega) (by decide)
theorem heirX_bd {c : Core} (o : okC c) {f : Nat} (hf : f < Cf c) (g : Nat) : bd (heirX c f g) 0 1999981 := bd_add (heirS_bd o hf g) (oneN_bd _ _ g) (by decide)
theorem heirV_ge {c : Core} (o : okC c) {f : Nat} (hf : f < Cf c) {g : Nat} (hg : g < Cf c) : 0 ≤ heirV c f g :=
  bd_ge0 (hoR_bd (RgF_owe (o.2.2.1 g hg) (heirX_bd o hf g) (by decide))) (by decide)
theorem heir_R {c : Core} (o : okC c) {f : Nat} (hf : f < Cf c) : ∀ n, n ≤ Cf c → (heirM c f n = -9 ∧ heirZ c f n = 0 ∧ ∀ g, g < n → g = f) ∨ heirM c f n = heirZ c f n
  | 0, _ => Or.inl ⟨rfl, rfl, fun g hg => absurd hg (Nat.not_lt_zero _)⟩
  | n + 1, hn => by
    have ih := heir_R o hf n (by omega)
    have hV := heirV_ge o hf (g := n) (by omega)
    unfold heirM heirZ
    by_cases d : n = f
    · rw [if_pos d, if_pos d]
      rcases ih with ⟨a, b, e⟩ | e
      · exact Or.inl ⟨a, b, fun g hg => by
          by_cases y : g = n
          · rw [y]; exact d
          · exact e g (by omega)⟩
      · exact Or.inr e
    · rw [if_neg d, if_neg d]
      refine Or.inr ?_
      show (if heirM c f n < heirV c f n then heirV c f n else heirM c f n) = _
      rcases ih with ⟨a, b, e⟩ | e
      · rw [a, b, if_pos (Int32.lt_of_lt_of_le (by decide) hV)]
        by_cases y : 0 < heirV c f n
        · rw [if_pos y]
        · rw [if_neg y]
          exact Int32.le_antisymm (Int32.not_lt.mp y) hV
      · rw [e]
theorem div_long {d p q : Nat} (h1 : d ≤ 99999) (h2 : p ≤ 20) (h3 : q ≤ 100) : Int64.toInt32 ((Int32.toInt64 (nI d) * Int32.toInt64 (nI p)) / Int32.toInt64 (nI q)) = nI d * nI p / nI q := by
  have hm : d * p ≤ 99999 * 20 := Nat.mul_le_mul h1 h2
  rw [nI_l (by omega), nI_l (by omega), nI_l (by omega), lN_mul, lN_div (by omega) (by omega), nI_mul, nI_div (by omega) (by omega)]
  exact Int64.toInt32_ofNat'
section Heir
variable {h h' h0 h1 h2 h3 : PH} {s : Sta} {c : Core} {f n : Nat}
theorem t_Q_heir (o : okS s) (x : Int32) : QQ m_Q_heir [.int x] s (nF (zC s) x) (heirM (zC s) (ix x) (Cf (zC s))) := by
  intro h k I hr hv
  rw [c_Q_heir]
  have I1 := IQ_12 I
  have P1 := KP_12 h
  refine ⟨I.1.1.1, ?_⟩
  generalize sI h 123 12 0 = h1 at I1 P1 ⊢
  refine ⟨I1.1.1.1, ?_⟩
  have h5 := okf o
  rw [s_Q_isFamily I1.1]
  by_cases d : offN x (Cf (zC s))
  · rw [if_pos d, if_neg (fun z => z rfl)]
    have e : nF (zC s) x = -1 := if_pos d
    rw [e] at hr
    exact q_no I1 P1 (hr (by decide))
  · have e : nF (zC s) x = 0 := if_neg d
    have hv' := hv e
    obtain ⟨f, hf, rfl⟩ := on_nI (by omega) d
    rw [ix_nI (show f < 2 ^ 31 by omega)] at hv'
    rw [if_neg d, if_pos (by decide), s_Q_allHeads I1.1]
    have q1 := qw I1.1.1
    have rf := I1.1.2.2.2.1 f hf
    simp only [q1, true_and, true_or, b5 (show f < 5 by omega), ix_nI (show f < 2 ^ 31 by omega), rf.1, rf.2.1]
    rw [heirH_sub hf]
    obtain ⟨H, hH, H1, H2, H3⟩ := heirH_is o.1.1 f
    obtain ⟨D, hD, _, D2⟩ := bd_of (o.1.1.2.2.1 f hf).2.1
    rcases heir_R o.1.1 hf (Cf (zC s)) (Nat.le_refl _) with ⟨a, _, b⟩ | eqM
    · rw [hH, H3 b, if_neg (fun z => z rfl)]
      rw [a] at hv'
      exact hv' h1 P1 I1
    · by_cases z0 : H = 0
      · rw [hH, z0, if_neg (fun z => z rfl)]
        have : heirM (zC s) f (Cf (zC s)) = -9 := by
          have key : ∀ n, n ≤ Cf (zC s) → heirM (zC s) f n = -9 := by
            intro n
            induction n with
            | zero => exact fun _ => rfl
            | succ n ih =>
              intro hn
              unfold heirM
              rw [if_pos (Decidable.byContradiction fun y => by have := H2 n (show n < Cf (zC s) by omega) y; omega)]
              exact ih (by omega)
          exact key _ (Nat.le_refl _)
        rw [this] at hv'
        exact hv' h1 P1 I1
      · have nz : ¬ heirH (zC s) f = 0 := by rw [hH]; exact nI_ne0 (by omega) (by omega)
        have nz2 : ¬ heirH (zC s) f ≤ 0 := by rw [hH]; exact nI_nle (by omega) (by omega)
        rw [if_pos nz]
        rw [eqM] at hv'
        have nz64 : ¬ Int32.toInt64 (heirH (zC s) f) = 0 := by
          rw [hH, nI_l (by omega)]
          exact fun z => z0 ((lN_0 (by omega)).mp z)
        refine hp (A := fun i h' => Fs (fun b _ => b = 133 ∨ b = 134) h1 h' ∧ ∀ g, g < i → gI h' 133 g = heirS (zC s) f g) (X := fun i h' => wp m_Q_heir h' 48 [some (.ref 123), some (.int (nI f)), some (.int (heirH (zC s) f)), some (.int (lftN (heirS (zC s) f) (Cm (zC s) f 1) i)), some (.int (nI i)), none, none, none, none] [] (tyI k)) (Cf (zC s)) ?_ ?_ 0 (Nat.zero_le _) h1 ⟨Fs_refl _ _, fun g hg => absurd hg (Nat.not_lt_zero _)⟩
        · intro h' ⟨fr, e⟩
          have I2 := IQ_sh I1 fr
          have q2 := qw I2.1.1.1
          have L2 := I2.1.1
          rw [e_Q_heir_48, L2.2.2.1.1, if_pos (Int32.le_refl _)]
          refine ⟨q2.1, ?_⟩
          have cut := lft_cut (s := heirS (zC s) f) (due := Cm (zC s) f 1) (n := Cf (zC s)) (fun i hi => if_neg (fun z => by have := z.1.1; omega)) (5 - Cf (zC s))
          rw [show Cf (zC s) + (5 - Cf (zC s)) = 5 by omega] at cut
          rw [← cut]
          have hv2 := hv' h' (KP_trans P1 I2.2) I2.1
          generalize hg0 : (fun g => decide (g < Cf (zC s) ∧ g ≠ f)) = g
          have gv : ∀ i, g i = decide (i < Cf (zC s) ∧ i ≠ f) := fun i => by rw [← hg0]
          generalize hL : lftN (heirS (zC s) f) (Cm (zC s) f 1) 5 = L
          have hX : ∀ i, heirX (zC s) f i = heirS (zC s) f i + oneN g L i := fun i => by unfold heirX shr; rw [hg0, hL]
          refine hp (A := fun _ h2 => h2 = h') (X := fun i h2 => ∀ q6 q7 q8, wp m_Q_heir h2 116 [some (.ref 123), some (.int (nI f)), some (.int (heirH (zC s) f)), some (.int (rstN g L i)), some (.int (heirZ (zC s) f i)), some (.int (nI i)), q6, q7, q8] [] (tyI k)) (Cf (zC s)) ?_ ?_ 0 (Nat.zero_le _) h' rfl none none none
          · intro h2 hh q6 q7 q8
            subst hh
            rw [e_Q_heir_116, L2.2.2.1.1, if_pos (Int32.le_refl _)]
            exact ⟨q2.1, hv2⟩
          · intro i hi h2 hh ih q6 q7 q8
            subst hh
            have ri := L2.2.2.2.1 i hi
            have R := o.1.1.2.2.1 i hi
            have R' := RgF_owe R (heirX_bd o.1.1 hf i) (by decide)
            have ih' := ih h2 rfl
            simp only [heirZ] at ih'
            have go : ∀ s0, s0 = oneN g L i → rstN g L i - s0 = rstN g L (i + 1) → wp m_Q_heir h2 140 [some (.ref 123), some (.int (nI f)), some (.int (heirH (zC s) f)), some (.int (rstN g L i)), some (.int (heirZ (zC s) f i)), some (.int (nI i)), q6, q7, q8] [.int s0] (tyI k) := by
              intro s0 hs0 hs1
              rw [e_Q_heir_140]
              simp only [q2, true_and, true_or, b5 (show i < 5 by omega), ix_nI (show i < 2 ^ 31 by omega), ri.1, ri.2.1, e i hi, s_Q_held, e_Q_heir_213, e_Q_heir_215, nI_1]
              rw [show Cm (zC s) i 1 + heirS (zC s) f i + s0 = Cm (zC s) i 1 + heirX (zC s) f i from by rw [hs0, Int32.add_assoc, ← hX], held_owe R (heirX_bd o.1.1 hf i) (by decide), hs1]
              have eV : heirV (zC s) f i = (rOwe (heirX (zC s) f i) (Cm (zC s) i) 1 + Cm (zC s) i 0 - 1) / Cm (zC s) i 0 := by
                unfold heirV
                rw [hoR_eq R']
                rfl
              rw [← eV]
              refine ⟨RgF_h0 R, ?_⟩
              by_cases y : i = f
              · rw [if_pos y] at ih'
                rw [if_pos (by rw [y])]
                exact ih' _ _ _
              · rw [if_neg y] at ih'
                rw [if_neg (fun z => y ((nI_eq (by omega) (by omega)).mp z))]
                by_cases y2 : heirZ (zC s) f i < heirV (zC s) f i
                · rw [if_pos y2] at ih'
                  rw [if_neg (Int32.not_le.mpr y2)]
                  exact ih' _ _ _
                · rw [if_neg y2] at ih'
                  rw [if_pos (Int32.not_lt.mp y2)]
                  exact ih' _ _ _
            have g0 : ¬ (g i = true ∧ ¬ rstN g L i ≤ 0) → wp m_Q_heir h2 140 [some (.ref 123), some (.int (nI f)), some (.int (heirH (zC s) f)), some (.int (rstN g L i)), some (.int (heirZ (zC s) f i)), some (.int (nI i)), q6, q7, q8] [.int 0] (tyI k) := fun n =>
              go 0 (by unfold oneN; rw [if_neg n]) (by rw [Int32.sub_zero, rstN, if_neg n])
            rw [e_Q_heir_116, L2.2.2.1.1, if_neg (nI_ge hi (by omega))]
            simp only [e_Q_heir_139]
            refine ⟨q2.1, ?_⟩
            by_cases y : i = f
            · rw [if_pos (by rw [y])]
              exact g0 (fun z => by rw [gv] at z; exact (of_decide_eq_true z.1).2 y)
            · rw [if_neg (fun z => y ((nI_eq (by omega) (by omega)).mp z))]
              by_cases y2 : rstN g L i ≤ 0
              · rw [if_pos y2]
                exact g0 (fun z => z.2 y2)
              · rw [if_neg y2]
                have yes : g i = true ∧ ¬ rstN g L i ≤ 0 := ⟨by rw [gv]; exact decide_eq_true ⟨hi, y⟩, y2⟩
                exact go 1 (by unfold oneN; rw [if_pos yes]) (by rw [rstN, if_pos yes])
        · intro i hi h' ⟨fr, e⟩ ih
          have I2 := IQ_sh I1 fr
          have q2 := qw I2.1.1.1
          have L2 := I2.1.1
          have ri := L2.2.2.2.1 i hi
          obtain ⟨p, hp1, _, p2⟩ := bd_of (o.1.1.2.2.1 i hi).1
          have next : ∀ v, v = heirS (zC s) f i → wp m_Q_heir h' 93 [some (.ref 123), some (.int (nI f)), some (.int (heirH (zC s) f)), some (.int (lftN (heirS (zC s) f) (Cm (zC s) f 1) i)), some (.int (nI i)), none, none, none, none] [.int v, .int (nI i), .ref 133] (tyI k) := by
            intro v hv
            rw [e_Q_heir_93]
            simp only [tg_sI, ln_sI, gR_sI, q2, true_and, true_or, b5 (show i < 5 by omega), ix_nI (show i < 2 ^ 31 by omega), gI_sI_eq, nI_1]
            rw [hv]
            refine ih _ ⟨Fs_trans fr (Fs_sI _ _ _ _ (Or.inl rfl)), fun g hg => ?_⟩
            by_cases y : g = i
            · subst y; rw [gI_sI_eq]
            · rw [gI_sI_ne _ _ _ _ (fun z => y z.2)]; exact e g (by omega)
          rw [e_Q_heir_48, L2.2.2.1.1, if_neg (nI_ge hi (by omega))]
          simp only [q2, true_and, true_or, b5 (show i < 5 by omega), b5 (show f < 5 by omega), ix_nI (show i < 2 ^ 31 by omega), ix_nI (show f < 2 ^ 31 by omega), ri.1, (L2.2.2.2.1 f hf).2.1]
          by_cases y : i = f
          · rw [if_neg (fun z => z (by rw [y]))]
            exact next 0 (if_neg (fun z => z.1.2 y)).symm
          · rw [if_pos (fun z => y ((nI_eq (by omega) (by omega)).mp z))]
            refine ⟨nz64, next _ ?_⟩
            unfold heirS
            rw [if_pos ⟨⟨hi, y⟩, nz2⟩, hD, hp1, hH]
            exact div_long D2 p2 H1
end Heir
