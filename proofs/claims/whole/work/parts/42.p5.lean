/-! ===== the class: ranks, fair, heir, signature, building, who built, reads ===== -/
/-- what a head of f owes, told with f: g stands ahead of f -/
def ahd (c : Core) (f g : Nat) : Bool := decide (hoR (Cm c f) < hoR (Cm c g) ∨ (hoR (Cm c g) = hoR (Cm c f) ∧ g < f))
def aboveC (c : Core) (f : Nat) : Int32 := sumN (fun g => if ahd c f g = true then 1 else 0) (Cf c)
def v_rank (c : Core) (i : Int32) : Int32 := fstF (fun f => decide (aboveC c f = i)) 0 (Cf c)
/-- the first of those that owe most; what the least owe -/
def fairB (c : Core) : Nat := bst (fun i j => decide (¬ hoR (Cm c i) ≤ hoR (Cm c j))) (Cf c)
def fairL (c : Core) : Nat := bst (fun i j => decide (hoR (Cm c i) ≤ hoR (Cm c j))) (Cf c)
def v_fair (c : Core) (z : Int32) : Int32 := if z = 1 then (if Cf c = 0 then -9 else nI (fairB c)) else (if Cf c = 0 then 0 else hoR (Cm c (fairB c)) - hoR (Cm c (fairL c)))
-- counting
def cnt (p : Nat → Bool) : Nat → Nat
  | 0 => 0
  | n + 1 => if p n = true then cnt p n + 1 else cnt p n
theorem cnt_sum (p : Nat → Bool) : ∀ n, sumN (fun g => if p g = true then 1 else 0) n = nI (cnt p n)
  | 0 => rfl
  | n + 1 => by
    unfold sumN cnt
    rw [cnt_sum p n]
    by_cases c : p n = true
    · simp only [c, if_true]; exact nI_1 _
    · simp only [c]; exact Int32.add_zero _
theorem cnt_le (p : Nat → Bool) : ∀ n, cnt p n ≤ n
  | 0 => Nat.le_refl _
  | n + 1 => by have := cnt_le p n; unfold cnt; split <;> omega
theorem cnt_0 {p : Nat → Bool} : ∀ {n}, (∀ g, g < n → p g = false) → cnt p n = 0
  | 0, _ => rfl
  | n + 1, e => by unfold cnt; rw [e n (by omega), if_neg (by decide), cnt_0 (fun g hg => e g (by omega))]
theorem cnt_pos {p : Nat → Bool} {g : Nat} : ∀ {n}, g < n → p g = true → 1 ≤ cnt p n
  | n + 1, h, e => by
    unfold cnt
    by_cases c : g = n
    · subst c; rw [if_pos e]; omega
    · have := cnt_pos (p := p) (n := n) (by omega) e
      split <;> omega
theorem cnt_lt {p : Nat → Bool} {g : Nat} : ∀ {n}, g < n → p g = false → cnt p n + 1 ≤ n
  | n + 1, h, e => by
    unfold cnt
    by_cases c : g = n
    · subst c; rw [e, if_neg (by decide)]; have := cnt_le p g; omega
    · have := cnt_lt (p := p) (n := n) (by omega) e
      split <;> omega
theorem cnt_lt2 {p : Nat → Bool} {g g' : Nat} : ∀ {n}, g < n → g' < g → p g = false → p g' = false → cnt p n + 2 ≤ n
  | n + 1, h, h', e, e' => by
    unfold cnt
    by_cases c : g = n
    · subst c; rw [e, if_neg (by decide)]; have := cnt_lt (p := p) h' e'; omega
    · have := cnt_lt2 (p := p) (n := n) (by omega) h' e e'
      split <;> omega
theorem cnt_all {p : Nat → Bool} {f : Nat} : ∀ {n}, (∀ g, g < n → g ≠ f → p g = true) → n ≤ cnt p n + 1
  | 0, _ => Nat.zero_le _
  | n + 1, e => by
    unfold cnt
    by_cases c : n = f
    · have : ∀ m, m ≤ n → cnt p m = m := by
        intro m hm
        induction m with
        | zero => rfl
        | succ m ih => unfold cnt; rw [ih (by omega), if_pos (e m (by omega) (by omega))]
      rw [this n (Nat.le_refl _)]
      split <;> omega
    · have := cnt_all (p := p) (f := f) (n := n) (fun g hg hgf => e g (by omega) hgf)
      rw [if_pos (e n (by omega) c)]
      omega
theorem fstF_is {p : Nat → Bool} {f : Nat} : ∀ (d i : Nat), i ≤ f → f < i + d → p f = true → (∀ g, i ≤ g → g < f → p g = false) → fstF p i d = nI f
  | 0, i, h1, h2, _, _ => by omega
  | d + 1, i, h1, h2, e, n => by
    unfold fstF
    by_cases c : i = f
    · subst c; rw [if_pos e]
    · rw [n i (Nat.le_refl _) (by omega), if_neg (by decide)]
      exact fstF_is d (i + 1) (by omega) (by omega) e (fun g h3 h4 => n g (by omega) h4)
theorem bst_max (V : Nat → Int32) : ∀ n, 0 < n → (∀ i, i < n → V i ≤ V (bst (fun i j => decide (¬ V i ≤ V j)) n)) ∧ ∀ i, i < bst (fun i j => decide (¬ V i ≤ V j)) n → V i < V (bst (fun i j => decide (¬ V i ≤ V j)) n)
  | 0, h => absurd h (by decide)
  | n + 1, _ => by
    by_cases hn : n = 0
    · subst hn
      have : bst (fun i j => decide (¬ V i ≤ V j)) (0 + 1) = 0 := by simp [bst]
      rw [this]
      exact ⟨fun i hi => by rw [show i = 0 by omega]; exact Int32.le_refl _, fun i hi => absurd hi (by omega)⟩
    · have ih := bst_max V n (by omega)
      have hb := bst_lt1 (fun i j => decide (¬ V i ≤ V j)) n (by omega)
      unfold bst
      generalize bst (fun i j => decide (¬ V i ≤ V j)) n = b at ih hb ⊢
      by_cases c : V n ≤ V b
      · rw [if_neg (by simp [c])]
        refine ⟨fun i hi => ?_, ih.2⟩
        by_cases d : i = n
        · rw [d]; exact c
        · exact ih.1 i (by omega)
      · rw [if_pos (by simp [c])]
        have c' := Int32.not_le.mp c
        refine ⟨fun i hi => ?_, fun i hi => Int32.lt_of_le_of_lt (ih.1 i hi) c'⟩
        by_cases d : i = n
        · rw [d]; exact Int32.le_refl _
        · exact Int32.le_of_lt (Int32.lt_of_le_of_lt (ih.1 i (by omega)) c')
theorem bst_min (V : Nat → Int32) : ∀ n, 0 < n → (∀ i, i < n → V (bst (fun i j => decide (V i ≤ V j)) n) ≤ V i) ∧ ∀ i, bst (fun i j => decide (V i ≤ V j)) n < i → i < n → V (bst (fun i j => decide (V i ≤ V j)) n) < V i
  | 0, h => absurd h (by decide)
  | n + 1, _ => by
    by_cases hn : n = 0
    · subst hn
      have : bst (fun i j => decide (V i ≤ V j)) (0 + 1) = 0 := by simp [bst]
      rw [this]
      exact ⟨fun i hi => by rw [show i = 0 by omega]; exact Int32.le_refl _, fun i h1 h2 => absurd h1 (by omega)⟩
    · have ih := bst_min V n (by omega)
      have hb := bst_lt1 (fun i j => decide (V i ≤ V j)) n (by omega)
      unfold bst
      generalize bst (fun i j => decide (V i ≤ V j)) n = b at ih hb ⊢
      by_cases c : V n ≤ V b
      · rw [if_pos (by simp [c])]
        refine ⟨fun i hi => ?_, fun i h1 h2 => absurd h1 (by omega)⟩
        by_cases d : i = n
        · rw [d]; exact Int32.le_refl _
        · exact Int32.le_trans c (ih.1 i (by omega))
      · rw [if_neg (by simp [c])]
        have c' := Int32.not_le.mp c
        refine ⟨fun i hi => ?_, fun i h1 h2 => ?_⟩
        · by_cases d : i = n
          · rw [d]; exact Int32.le_of_lt c'
          · exact ih.1 i (by omega)
        · by_cases d : i = n
          · rw [d]; exact c'
          · exact ih.2 i h1 (by omega)
theorem above_cnt (c : Core) (f : Nat) : aboveC c f = nI (cnt (ahd c f) (Cf c)) := cnt_sum _ _
theorem ahd_self (c : Core) (f : Nat) : ahd c f f = false := by
  unfold ahd
  exact decide_eq_false (fun z => z.elim (fun y => Int32.lt_irrefl y) (fun y => Nat.lt_irrefl _ y.2))
theorem rank_first {c : Core} (hc : Cf c ≤ 5) (h0 : 0 < Cf c) : v_rank c 0 = nI (fairB c) := by
  have hm := bst_max (fun f => hoR (Cm c f)) (Cf c) h0
  have hb : fairB c < Cf c := bst_lt1 _ _ h0
  have e1 : (bst (fun i j => decide (¬ hoR (Cm c i) ≤ hoR (Cm c j))) (Cf c)) = fairB c := rfl
  simp only [e1] at hm
  refine fstF_is _ 0 (Nat.zero_le _) (by omega) (decide_eq_true ?_) (fun g _ hg => decide_eq_false ?_)
  · rw [above_cnt, cnt_0]; rfl
    intro g hg
    refine decide_eq_false (fun z => ?_)
    rcases z with z | ⟨z, z2⟩
    · exact Int32.not_le.mpr z (hm.1 g hg)
    · have := hm.2 g z2
      rw [z] at this; exact Int32.lt_irrefl this
  · rw [above_cnt]
    have h1 : 1 ≤ cnt (ahd c g) (Cf c) := cnt_pos hb (decide_eq_true (Or.inl (hm.2 g hg)))
    have h2 := cnt_le (ahd c g) (Cf c)
    exact nI_ne0 (by omega) (by omega)
theorem rank_last {c : Core} (hc : Cf c ≤ 5) (h0 : 0 < Cf c) : v_rank c (nI (Cf c) - 1) = nI (fairL c) := by
  have hm := bst_min (fun f => hoR (Cm c f)) (Cf c) h0
  have hb : fairL c < Cf c := bst_lt1 _ _ h0
  have e1 : (bst (fun i j => decide (hoR (Cm c i) ≤ hoR (Cm c j))) (Cf c)) = fairL c := rfl
  simp only [e1] at hm
  obtain ⟨m, hm'⟩ : ∃ m, Cf c = m + 1 := ⟨Cf c - 1, by omega⟩
  have hp : nI (Cf c) - 1 = nI m := by rw [hm', nI_pred]
  refine fstF_is _ 0 (Nat.zero_le _) (by omega) (decide_eq_true ?_) (fun g _ hg => decide_eq_false ?_)
  · rw [above_cnt, hp]
    have h1 : Cf c ≤ cnt (ahd c (fairL c)) (Cf c) + 1 := cnt_all (f := fairL c) (fun g hg hgf => by
      refine decide_eq_true ?_
      by_cases d : fairL c < g
      · exact Or.inl (hm.2 g d hg)
      · have h3 := hm.1 g hg
        rcases Int32.le_iff_lt_or_eq.mp h3 with h4 | h4
        · exact Or.inl h4
        · exact Or.inr ⟨h4.symm, by omega⟩)
    have h2 := cnt_lt hb (ahd_self c (fairL c))
    congr 1
    omega
  · rw [above_cnt, hp]
    have hf : ahd c g (fairL c) = false := decide_eq_false (fun z => by
      rcases z with z | ⟨_, z2⟩
      · exact Int32.not_le.mpr z (hm.1 g (by omega))
      · omega)
    have h2 := cnt_lt2 hb hg hf (ahd_self c g)
    intro z
    have := (nI_eq (by omega) (by omega)).mp z
    omega
section P5
variable {h h0 : PH} {s : Sta} {c : Core} {f n : Nat}
theorem s_P_ranksAbove (I : IP h s) (o : okS s) (hf : f < Cf (zC s)) (k : PH → Int32 → Prop) : ccI m_P_ranksAbove h [.ref 2, .int (nI f)] k = k h (aboveC (zC s) f) := by
  have w := pw I.1
  have L := PL I
  have h5 := okf o
  rw [c_P_ranksAbove]
  simp only [w, true_and]
  rw [Led_at L (by omega)]
  simp only [Led_tgf L (show f < 5 by omega), true_and]
  rw [s_mind_head L hf]
  have key : ∀ d i q, i + d = Cf (zC s) → wp m_P_ranksAbove h 17 [some (.ref 2), some (.int (nI f)), some (.int (hoR (Cm (zC s) f))), some (.int (sumN (fun g => if ahd (zC s) f g = true then 1 else 0) i)), some (.int (nI i)), q] [] (tyI k) = k h (aboveC (zC s) f) := by
    intro d
    induction d with
    | zero =>
      intro i q e
      rw [e_P_ranksAbove_17]
      simp only [w, true_and]
      rw [L.2.2.1.1, if_pos (nI_le (by omega) (by omega)), show i = Cf (zC s) by omega]
      rfl
    | succ d ih =>
      intro i q e
      rw [e_P_ranksAbove_17]
      simp only [w, true_and]
      rw [L.2.2.1.1, if_neg (nI_ge (by omega) (by omega)), Led_at L (by omega)]
      simp only [Led_tgf L (show i < 5 by omega), true_and]
      rw [s_mind_head L (by omega)]
      simp only [e_P_ranksAbove_61, e_P_ranksAbove_64, nI_1]
      have ih' := fun q => ih (i + 1) q (by omega)
      simp only [sumN] at ih'
      have ha : ahd (zC s) f i = decide (hoR (Cm (zC s) f) < hoR (Cm (zC s) i) ∨ (hoR (Cm (zC s) i) = hoR (Cm (zC s) f) ∧ i < f)) := rfl
      by_cases d1 : hoR (Cm (zC s) f) < hoR (Cm (zC s) i)
      · rw [if_pos d1]
        rw [ha, decide_eq_true (Or.inl d1), if_pos rfl] at ih'
        exact ih' _
      · rw [if_neg d1]
        by_cases d2 : hoR (Cm (zC s) i) = hoR (Cm (zC s) f)
        · rw [if_neg (fun z => z d2)]
          by_cases d3 : i < f
          · rw [if_neg (nI_ge d3 (by omega))]
            rw [ha, decide_eq_true (Or.inr ⟨d2, d3⟩), if_pos rfl] at ih'
            exact ih' _
          · rw [if_pos (nI_le (by omega) (by omega))]
            rw [ha, decide_eq_false (fun z => z.elim d1 (fun y => d3 y.2)), if_neg (by decide), Int32.add_zero] at ih'
            exact ih' _
        · rw [if_pos d2]
          rw [ha, decide_eq_false (fun z => z.elim d1 (fun y => d2 y.1)), if_neg (by decide), Int32.add_zero] at ih'
          exact ih' _
  exact key (Cf (zC s)) 0 none (by omega)
theorem s_P_ranked (I : IP h s) (o : okS s) (x : Int32) (k : PH → Int32 → Prop) : ccI m_P_ranked h [.ref 2, .int x] k = k h (v_rank (zC s) x) := by
  have w := pw I.1
  have L := PL I
  have h5 := okf o
  rw [c_P_ranked]
  unfold v_rank
  generalize hp' : (fun f => decide (aboveC (zC s) f = x)) = p
  have key : ∀ d i, i + d = Cf (zC s) → wp m_P_ranked h 2 [some (.ref 2), some (.int x), some (.int (nI i))] [] (tyI k) = k h (fstF p i d) := by
    intro d
    induction d with
    | zero =>
      intro i e
      rw [e_P_ranked_2]
      simp only [w, true_and]
      rw [L.2.2.1.1, if_pos (nI_le (by omega) (by omega))]
      rfl
    | succ d ih =>
      intro i e
      rw [e_P_ranked_2]
      simp only [w, true_and]
      rw [L.2.2.1.1, if_neg (nI_ge (by omega) (by omega)), s_P_ranksAbove I o (by omega)]
      have hpi : p i = decide (aboveC (zC s) i = x) := by rw [← hp']
      unfold fstF
      rw [hpi, nI_1]
      by_cases d1 : aboveC (zC s) i = x
      · rw [if_neg (fun z => z d1), decide_eq_true d1, if_pos rfl]
      · rw [if_pos d1, decide_eq_false d1, if_neg (by decide)]
        exact ih (i + 1) (by omega)
  exact key (Cf (zC s)) 0 (by omega)
theorem t_P_rank (o : okS s) (x : Int32) : PQ m_P_rank [.int x] s (if x < 0 then -4 else 0) (v_rank (zC s) x) := by
  intro h k I hr hv
  have w := pw I.1
  rw [c_P_rank]
  simp only [e_P_rank_18]
  by_cases c : x < 0
  · rw [if_neg (Int32.not_le.mpr c)]
    rw [if_pos c] at hr
    exact ⟨w.1, hr (by decide) h (FT_refl h)⟩
  · rw [if_pos (Int32.not_lt.mp c), s_P_ranked I o]
    rw [if_neg c] at hv
    exact ⟨w.1, hv rfl h (FT_refl h)⟩
theorem t_P_fair (o : okS s) (z : Int32) : PQ m_P_fair [.int z] s (othN z 1) (v_fair (zC s) z) := by
  intro h k I hr hv
  have w := pw I.1
  have L := PL I
  have h5 := okf o
  rw [c_P_fair, s_P_otherThan]
  by_cases c : othN z 1 = 0
  · rw [if_pos c, s_P_ranked I o]
    have hv' := hv c h (FT_refl h)
    unfold v_fair at hv'
    simp only [e_P_fair_32, e_P_fair_42]
    refine ⟨w.1, ?_⟩
    by_cases hz : Cf (zC s) = 0
    · have e : v_rank (zC s) 0 = -9 := by unfold v_rank; rw [hz]; rfl
      rw [if_pos hz, if_pos hz] at hv'
      rw [e]
      by_cases d : z = 1
      · rw [if_pos d, if_neg (fun q => q d)]
        rw [if_pos d] at hv'
        exact hv'
      · rw [if_neg d, if_neg (fun q => q rfl), if_pos d]
        rw [if_neg d] at hv'
        exact hv'
    · have hb : fairB (zC s) < Cf (zC s) := bst_lt1 _ _ (by omega)
      have hl : fairL (zC s) < Cf (zC s) := bst_lt1 _ _ (by omega)
      rw [if_neg hz, if_neg hz] at hv'
      rw [rank_first h5 (by omega)]
      by_cases d : z = 1
      · rw [if_pos d, if_neg (fun q => q d)]
        rw [if_pos d] at hv'
        exact hv'
      · rw [if_neg d, if_pos (nI_n9 (by omega))]
        rw [if_neg d] at hv'
        simp only [w, true_and]
        rw [L.2.2.1.1, s_P_ranked I o, rank_last h5 (by omega)]
        simp only [w, true_and]
        rw [Led_at L (by omega)]
        simp only [Led_tgf L (show fairB (zC s) < 5 by omega), true_and]
        rw [s_mind_head L hb]
        simp only [w, true_and]
        rw [Led_at L (by omega)]
        simp only [Led_tgf L (show fairL (zC s) < 5 by omega), true_and]
        rw [s_mind_head L hl]
        exact hv'
  · rw [if_neg c]
    have e : othN z 1 = -2 := by
      unfold othN at c ⊢
      by_cases d : z < 0 ∨ 1 < z
      · rw [if_pos d]
      · rw [if_neg d] at c; exact absurd rfl c
    have := hr c h (FT_refl h)
    rw [e] at this
    exact ⟨w.1, this⟩
theorem oth_n2 {x m : Int32} (c : ¬ othN x m = 0) : othN x m = -2 := by
  unfold othN at c ⊢
  by_cases d : x < 0 ∨ m < x
  · rw [if_pos d]
  · rw [if_neg d] at c; exact absurd rfl c
end P5
/-- what one leaves to the others -/
def heirH (c : Core) (f : Nat) : Int32 := sumN (fun o => if o = f then 0 else Cm c o 0) (Cf c)
def heirS (c : Core) (f o : Nat) : Int32 := if (o < Cf c ∧ o ≠ f) ∧ ¬ heirH c f ≤ 0 then Cm c f 1 * Cm c o 0 / heirH c f else 0
def heirX (c : Core) (f o : Nat) : Int32 := shr (heirS c f) (fun o => decide (o < Cf c ∧ o ≠ f)) (Cm c f 1) o
def heirM (c : Core) (f : Nat) : Nat → Int32
  | 0 => -9
  | o + 1 => if o = f then heirM c f o else if heirM c f o < hoR (rOwe (heirX c f o) (Cm c o)) then hoR (rOwe (heirX c f o) (Cm c o)) else heirM c f o
theorem mask_dec : ∀ n : Fin 6, ∀ f : Fin 5, nI (2 ^ n.1 - 1) &&& ((1 <<< (nI f.1 &&& 31)) ^^^ (-1)) = nI (nm (fun o => decide (o ≠ f.1)) n.1) := by decide +kernel
section P6
variable {h h0 : PH} {s : Sta} {c : Core} {f n : Nat}
theorem t_P_heir (o : okS s) (x : Int32) : PQ m_P_heir [.int x] s (nF (zC s) x) (heirM (zC s) (ix x) (Cf (zC s))) := by
  intro h k I hr hv
  have w := pw I.1
  have L := PL I
  have h5 := okf o
  rw [c_P_heir]
  simp only [w, true_and]
  rw [s_Ledger_lacksFamily L.1 L.2.2.1.1]
  simp only [w, true_and]
  show if nF (zC s) x = 0 then _ else ccI m_P_refused h [.ref 2, .int (nF (zC s) x)] k
  by_cases c : nF (zC s) x = 0
  · obtain ⟨f, hf, rfl⟩ := nF_0 (okf o) c
    have hv' := hv c
    rw [ix_nI (show f < 2 ^ 31 by omega)] at hv'
    rw [if_pos c]
    refine t_mind_copy I (FT_refl h) fun h1 F1 L1 _ => ?_
    have w1 := pw (IP_FT I F1).1
    simp only [w1, true_and]
    rw [s_Ledger_everybody L1.1 L1.2.2.1.1 h5]
    simp only [w1, true_and]
    rw [Led_at L1 (by omega)]
    simp only [w1, Led_tgf L1 (show f < 5 by omega), true_and]
    rw [L1.2.2.2.1 f hf 1 (by decide), mask_dec ⟨Cf (zC s), by omega⟩ ⟨f, by omega⟩]
    show ccV m_Ledger_shareByHeads h1 [.ref 13, .int (Cm (zC s) f 1), .int (nI (nm (fun o => decide (o ≠ f)) (Cf (zC s))))] _
    have hm64 := Nat.lt_of_lt_of_le (nm_lt (fun o => decide (o ≠ f)) (Cf (zC s))) (p2_6 (show Cf (zC s) ≤ 6 by omega))
    have hbt : ∀ i, i < 5 → bt (nI (nm (fun o => decide (o ≠ f)) (Cf (zC s)))) i = decide (i < Cf (zC s) ∧ i ≠ f) := fun i hi => by
      rw [bt_nI hm64 (by omega), nm_bit, Bool.decide_and]
    generalize nm (fun o => decide (o ≠ f)) (Cf (zC s)) = m at hm64 hbt ⊢
    have hhd : heirH (zC s) f = sumN (fun i => if bt (nI m) i = true then gI h1 (13 + 2 + i) 0 else 0) (Cf (zC s)) := sumN_c fun i hi => by
      rw [hbt i (by omega), L1.2.2.2.1 i hi 0 (by decide)]
      by_cases d : i = f
      · rw [if_pos d, if_neg (by simp [d])]
      · rw [if_neg d, if_pos (by simp [d]; exact hi)]
    refine t_Ledger_shareByHeads L1.1 L1.2.2.1.1 h5 _ hm64 hhd (s := fun i => if bt (nI m) i = true ∧ ¬ heirH (zC s) f ≤ 0 then Cm (zC s) f 1 * gI h1 (13 + 2 + i) 0 / heirH (zC s) f else 0) (fun _ => rfl) fun h2 fr2 e2 => ?_
    have F2 : FT h h2 := Fr_trans F1 (Fr_mono fr2 (fun b x => by omega) (fun b x => x.elim))
    have L2 : Led h2 13 (zC s) := Led_fr L1 fr2 (fun b x => by omega) (fun b x => x.elim)
    have e2' : ∀ i, i < 5 → gI h2 (13 + 9) i = heirX (zC s) f i := fun i hi => by
      rw [e2 i hi]
      refine shr_c (fun i hi => ?_) hbt hi
      unfold heirS
      rw [hbt i hi]
      by_cases d : i < Cf (zC s) ∧ i ≠ f
      · rw [L1.2.2.2.1 i d.1 0 (by decide)]
        by_cases e : heirH (zC s) f ≤ 0
        · rw [if_neg (fun z => z.2 e), if_neg (fun z => z.2 e)]
        · rw [if_pos ⟨decide_eq_true d, e⟩, if_pos ⟨d, e⟩]
      · rw [if_neg (fun z => d (of_decide_eq_true z.1)), if_neg (fun z => d z.1)]
    have w2 := pw (IP_FT I F2).1
    simp only [w2, true_and]
    refine t_Ledger_oweShares L2 e2' fun h3 fr3 L3 => ?_
    have F3 : FT h h3 := Fr_trans F2 (Fr_mono fr3 (fun b x => by omega) (fun b x => x.elim))
    have w3 := pw (IP_FT I F3).1
    have c3 : gI h3 13 0 = nI (Cf (zC s)) := L3.2.2.1.1
    show wp m_P_heir h3 77 [some (.ref 2), some (.int (nI f)), some (.int (nF (zC s) (nI f))), some (.int (nI m)), some (.int (-9)), some (.int 0)] [] (tyI k)
    generalize nF (zC s) (nI f) = t
    refine (lp (fun i => wp m_P_heir h3 77 [some (.ref 2), some (.int (nI f)), some (.int t), some (.int (nI m)), some (.int (heirM (zC s) f i)), some (.int (nI i))] [] (tyI k)) (Cf (zC s)) fun i hi => ?_).mpr ?_
    · rw [e_P_heir_77]
      simp only [w3, true_and]
      rw [c3, if_neg (nI_ge hi (by omega))]
      simp only [e_P_heir_114, nI_1, heirM]
      by_cases d : i = f
      · rw [if_pos (by rw [d]), if_pos d]
      · rw [if_neg (fun z => d ((nI_eq (by omega) (by omega)).mp z)), if_neg d, Led_at L3 (by omega)]
        simp only [Led_tgf L3 (show i < 5 by omega), true_and]
        rw [s_mind_head L3 hi]
        rfl
    · rw [e_P_heir_77]
      simp only [w3, true_and]
      rw [c3, if_pos (Int32.le_refl _)]
      exact hv' h3 F3
  · rw [if_neg c]
    exact hr c h (FT_refl h)
end P6
