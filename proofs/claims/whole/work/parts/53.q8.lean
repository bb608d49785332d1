/-! ===== the reference: reads, child, oldest, signature, fair, ranks ===== -/
theorem thF_off {c : Core} {x : Int32} (d : offN x (Cf c)) (b : Int32) : th (nF c x) b = -1 := by unfold th nF; rw [if_pos d]; rfl
theorem thF_on {c : Core} {x : Int32} (d : ¬ offN x (Cf c)) (b : Int32) : th (nF c x) b = b := by unfold th nF; rw [if_neg d]; rfl
theorem thW_off {c : Core} {x : Int32} (d : offN x (Cw c)) (b : Int32) : th (nW c x) b = -1 := by unfold th nW; rw [if_pos d]; rfl
theorem thW_on {c : Core} {x : Int32} (d : ¬ offN x (Cw c)) (b : Int32) : th (nW c x) b = b := by unfold th nW; rw [if_neg d]; rfl
theorem up_eq {x : Int32} {q : Nat} (h1 : 1 ≤ q) (h2 : q < 2 ^ 31) : up x (nI q) = (x + nI q - 1) / nI q := by
  unfold up
  rw [if_pos (show (1 : Int32) ≤ nI q from nI_le (a := 1) h1 h2)]
theorem heads_pos {c : Core} (o : okC c) {f : Nat} (hf : f < Cf c) : ∃ q, headsC c = nI q ∧ 1 ≤ q ∧ q ≤ 100 := by
  have h5 := o.1.1
  have e : headsC c = nI (sumT (fun i => ix (Cm c i 0)) (Cf c)) := sumN_nI fun i hi => (o.2.2.1 i hi).1.1
  have g := sumT_ge (G := fun i => ix (Cm c i 0)) hf
  have g1 := (o.2.2.1 f hf).1.2.1
  have g2 := sumT_le (G := fun i => ix (Cm c i 0)) (B := 20) (n := Cf c) (fun i hi => (o.2.2.1 i hi).1.2.2)
  exact ⟨_, e, Nat.le_trans g1 g, by omega⟩
/-- of those built below n, the one built first (or last): where r says that one is before the other -/
def olB (bo : List Nat) (r : Nat → Nat → Bool) : Nat → Int32
  | 0 => -9
  | w + 1 => if w ∈ bo ∧ (olB bo r w < 0 ∨ r w (ix (olB bo r w)) = true) then nI w else olB bo r w
theorem olB_in (bo : List Nat) (r : Nat → Nat → Bool) : ∀ n, n < 2 ^ 31 → (olB bo r n = -9 ∧ ∀ w, w < n → w ∉ bo) ∨ ∃ b, b < n ∧ b ∈ bo ∧ olB bo r n = nI b
  | 0, _ => Or.inl ⟨rfl, fun w hw => absurd hw (Nat.not_lt_zero _)⟩
  | n + 1, hn => by
    have ih := olB_in bo r n (by omega)
    unfold olB
    by_cases c : n ∈ bo ∧ (olB bo r n < 0 ∨ r n (ix (olB bo r n)) = true)
    · rw [if_pos c]
      exact Or.inr ⟨n, by omega, c.1, rfl⟩
    · rw [if_neg c]
      rcases ih with ⟨e, h⟩ | ⟨b, h1, h2, h3⟩
      · refine Or.inl ⟨e, fun w hw => ?_⟩
        by_cases d : w = n
        · subst d
          exact fun z => c ⟨z, Or.inl (by rw [e]; decide)⟩
        · exact h w (by omega)
      · exact Or.inr ⟨b, by omega, h2, h3⟩
/-- the one chosen: none stands before it -/
theorem olB_best {bo : List Nat} (V : Nat → Nat) : ∀ n, n < 2 ^ 31 → ∀ b, olB bo (fun i j => decide (V i < V j)) n = nI b → b < n → ∀ w, w < n → w ∈ bo → V b ≤ V w
  | 0, _, b, _, hb, _, _, _ => absurd hb (Nat.not_lt_zero _)
  | n + 1, hn, b, e, hb, w, hw, hm => by
    have ih := olB_best (bo := bo) V n (by omega)
    have io := olB_in bo (fun i j => decide (V i < V j)) n (by omega)
    unfold olB at e
    by_cases c : n ∈ bo ∧ (olB bo (fun i j => decide (V i < V j)) n < 0 ∨ (fun i j => decide (V i < V j)) n (ix (olB bo (fun i j => decide (V i < V j)) n)) = true)
    · rw [if_pos c] at e
      have eb : n = b := (nI_eq (by omega) (by omega)).mp e
      subst eb
      by_cases d : w = n
      · subst d; exact Nat.le_refl _
      · rcases io with ⟨e2, h2⟩ | ⟨b2, h1, h2, h3⟩
        · exact absurd hm (h2 w (by omega))
        · have h4 := ih b2 h3 h1 w (by omega) hm
          rw [h3, ix_nI (by omega)] at c
          rcases c.2 with c2 | c2
          · exact absurd c2 (nI_pos (by omega))
          · have := of_decide_eq_true c2
            omega
    · rw [if_neg c] at e
      rcases io with ⟨e2, h2⟩ | ⟨b2, h1, h2, h3⟩
      · rw [e2] at e
        exact absurd e.symm (nI_n9 (by omega))
      · have eb : b2 = b := (nI_eq (by omega) (by omega)).mp (h3.symm.trans e)
        subst eb
        by_cases d : w = n
        · subst d
          rw [h3, ix_nI (by omega)] at c
          have : ¬ V w < V b2 := fun z => c ⟨hm, Or.inr (decide_eq_true z)⟩
          omega
        · exact ih b2 h3 h1 w (by omega) hm
theorem idx_get {bo : List Nat} (hd : bo.Nodup) {i : Nat} (hi : i < bo.length) : bo.idxOf (bo.getD i 0) = i := by
  rw [List.getD_eq_getElem?_getD, List.getElem?_eq_getElem hi, Option.getD_some]
  exact hd.idxOf_getElem i hi
theorem get_idx {bo : List Nat} {b : Nat} (hb : b ∈ bo) : bo.getD (bo.idxOf b) 0 = b := by
  have hi : bo.idxOf b < bo.length := List.idxOf_lt_length_of_mem hb
  rw [List.getD_eq_getElem?_getD, List.getElem?_eq_getElem hi, Option.getD_some]
  exact List.getElem_idxOf hi
theorem get_mem {bo : List Nat} {i : Nat} (hi : i < bo.length) : bo.getD i 0 ∈ bo := by
  rw [List.getD_eq_getElem?_getD, List.getElem?_eq_getElem hi, Option.getD_some]
  exact List.getElem_mem hi
theorem oldest_is {bo : List Nat} {n : Nat} (o : okB bo n) (hn : n ≤ 6) (z : Int32) : olB bo (if z = 0 then fun i j => decide (bo.idxOf i < bo.idxOf j) else fun i j => decide (bo.length - bo.idxOf i < bo.length - bo.idxOf j)) n = v_oldest bo z := by
  have hl := okB_len o
  unfold v_oldest
  by_cases e0 : bo.length = 0
  · rw [if_pos e0]
    rcases olB_in bo (if z = 0 then fun i j => decide (bo.idxOf i < bo.idxOf j) else fun i j => decide (bo.length - bo.idxOf i < bo.length - bo.idxOf j)) n (by omega) with ⟨e, _⟩ | ⟨b, _, h2, _⟩
    · exact e
    · rw [List.length_eq_zero_iff.mp e0] at h2
      exact absurd h2 (List.not_mem_nil)
  · rw [if_neg e0]
    rcases olB_in bo (if z = 0 then fun i j => decide (bo.idxOf i < bo.idxOf j) else fun i j => decide (bo.length - bo.idxOf i < bo.length - bo.idxOf j)) n (by omega) with ⟨_, h⟩ | ⟨b, h1, h2, h3⟩
    · exact absurd (get_mem (show 0 < bo.length by omega)) (h _ (o.2 _ (get_mem (show 0 < bo.length by omega))))
    · rw [h3]
      have hb := List.idxOf_lt_length_of_mem h2
      by_cases d : z = 0
      · rw [if_pos d]
        rw [if_pos d] at h3
        have hm := get_mem (show 0 < bo.length by omega)
        have := olB_best (bo := bo) (fun i => bo.idxOf i) n (by omega) b h3 h1 _ (o.2 _ hm) hm
        rw [idx_get o.1 (by omega)] at this
        have e : bo.idxOf b = 0 := by omega
        rw [← get_idx h2, e]
      · rw [if_neg d]
        rw [if_neg d] at h3
        have hm := get_mem (show bo.length - 1 < bo.length by omega)
        have := olB_best (bo := bo) (fun i => bo.length - bo.idxOf i) n (by omega) b h3 h1 _ (o.2 _ hm) hm
        rw [idx_get o.1 (by omega)] at this
        have e : bo.idxOf b = bo.length - 1 := by omega
        rw [← get_idx h2, e]
section Q8
variable {h h' h0 h1 h2 h3 : PH} {s : Sta} {c c' : Core} {f n : Nat} {no v : Int32}
theorem t_Q_familyOf (o : okS s) (x z : Int32) : QQ m_Q_familyOf [.int x, .int z] s (th (nF (zC s) x) (othN z 4)) (v_familyOf (zC s) x z) := by
  intro h k I hr hv
  rw [c_Q_familyOf]
  have I1 := IQ_12 I
  have P1 := KP_12 h
  refine ⟨I.1.1.1, ?_⟩
  generalize sI h 123 12 0 = h1 at I1 P1 ⊢
  refine ⟨I1.1.1.1, ?_⟩
  have q := qw I1.1.1
  have h5 := okf o
  simp only [e_Q_familyOf_25, e_Q_familyOf_40, e_Q_familyOf_104]
  rw [s_Q_isFamily I1.1]
  by_cases d : offN x (Cf (zC s))
  · rw [thF_off d] at hr
    rw [if_pos d, if_pos rfl]
    refine ⟨I1.1.1.1, ?_⟩
    rw [s_Q_isFamily I1.1, if_pos d, if_pos rfl]
    exact q_no I1 P1 (hr (by decide))
  · rw [thF_on d] at hr hv
    rw [if_neg d, if_neg (by decide), s_Q_inO h1 (hi := 4) (a2 := 4) (by decide)]
    by_cases e : othN z 4 = 0
    · rw [if_pos e, if_pos (by decide)]
      have hv' := hv e h1 P1 I1
      obtain ⟨f, hf, rfl⟩ := on_nI (by omega) d
      have r := I1.1.2.2.2.1 f hf
      unfold v_familyOf at hv'
      rw [ix_nI (show f < 2 ^ 31 by omega)] at hv'
      simp only [q, true_and, true_or, b5 (show f < 5 by omega), ix_nI (show f < 2 ^ 31 by omega), r.1, r.2.1, r.2.2.1, r.2.2.2]
      rw [s_Q_headOwes I1.1 o.1.1 hf]
      by_cases d0 : z = 0
      · rw [if_pos d0] at hv'
        rw [if_neg (fun w => w d0)]; exact hv'
      rw [if_neg d0] at hv'
      rw [if_pos d0]
      by_cases d1 : z = 1
      · rw [if_pos d1] at hv'
        rw [if_neg (fun w => w d1)]; exact hv'
      rw [if_neg d1] at hv'
      rw [if_pos d1]
      by_cases d2 : z = 2
      · rw [if_pos d2] at hv'
        rw [if_neg (fun w => w d2)]; exact hv'
      rw [if_neg d2] at hv'
      rw [if_pos d2]
      by_cases d3 : z = 3
      · rw [if_pos d3] at hv'
        rw [if_neg (fun w => w d3)]; exact hv'
      rw [if_neg d3] at hv'
      rw [if_pos d3]; exact hv'
    · rw [if_neg e, if_neg (by decide)]
      refine ⟨I1.1.1.1, ?_⟩
      rw [s_Q_isFamily I1.1, if_neg d, if_neg (by decide)]
      rw [oth_n2 e] at hr
      exact q_no I1 P1 (hr (by decide))
theorem t_Q_workOf (o : okS s) (x z : Int32) : QQ m_Q_workOf [.int x, .int z] s (th (nW (zC s) x) (othN z 4)) (v_workOf s.1 x z) := by
  intro h k I hr hv
  rw [c_Q_workOf]
  have I1 := IQ_12 I
  have P1 := KP_12 h
  refine ⟨I.1.1.1, ?_⟩
  generalize sI h 123 12 0 = h1 at I1 P1 ⊢
  refine ⟨I1.1.1.1, ?_⟩
  have q := qw I1.1.1
  have h6 := okw o
  simp only [e_Q_workOf_25, e_Q_workOf_40, e_Q_workOf_112]
  rw [s_Q_isWork I1.1]
  by_cases d : offN x (Cw (zC s))
  · rw [thW_off d] at hr
    rw [if_pos d, if_pos rfl]
    refine ⟨I1.1.1.1, ?_⟩
    rw [s_Q_isWork I1.1, if_pos d, if_pos rfl]
    exact q_no I1 P1 (hr (by decide))
  · rw [thW_on d] at hr hv
    rw [if_neg d, if_neg (by decide), s_Q_inO h1 (hi := 4) (a2 := 4) (by decide)]
    by_cases e : othN z 4 = 0
    · rw [if_pos e, if_pos (by decide)]
      have hv' := hv e h1 P1 I1
      obtain ⟨w, hw, rfl⟩ := on_nI (by omega) d
      have r := I1.1.2.2.2.2 w hw
      have rb := I1.2.1 w hw
      unfold v_workOf at hv'
      rw [ix_nI (show w < 2 ^ 31 by omega)] at hv'
      simp only [q, true_and, true_or, b6 (show w < 6 by omega), ix_nI (show w < 2 ^ 31 by omega), r.1, r.2.1, r.2.2, rb]
      rw [s_Q_dueOf I1.1 o.1.1 hw]
      by_cases d0 : z = 0
      · rw [if_pos d0] at hv'
        rw [if_neg (fun w => w d0)]; exact hv'
      rw [if_neg d0] at hv'
      rw [if_pos d0]
      by_cases d1 : z = 1
      · rw [if_pos d1] at hv'
        rw [if_neg (fun w => w d1)]; exact hv'
      rw [if_neg d1] at hv'
      rw [if_pos d1]
      by_cases d2 : z = 2
      · rw [if_pos d2] at hv'
        rw [if_neg (fun w => w d2)]; exact hv'
      rw [if_neg d2] at hv'
      rw [if_pos d2]
      by_cases d3 : z = 3
      · rw [if_pos d3] at hv'
        rw [if_neg (fun w => w d3)]; exact hv'
      rw [if_neg d3] at hv'
      rw [if_pos d3]
      by_cases b : w ∈ s.1.2
      · rw [if_pos b] at hv'
        rw [if_neg (fun y => (bF_le (okS_len o) w).mp y b)]; exact hv'
      · rw [if_neg b] at hv'
        rw [if_pos ((bF_le (okS_len o) w).mpr b)]; exact hv'
    · rw [if_neg e, if_neg (by decide)]
      refine ⟨I1.1.1.1, ?_⟩
      rw [s_Q_isWork I1.1, if_neg d, if_neg (by decide)]
      rw [oth_n2 e] at hr
      exact q_no I1 P1 (hr (by decide))
theorem t_Q_child (o : okS s) (x z : Int32) : QQL m_Q_child [.int x, .int z] s (th (nF (zC s) x) (othN z 1)) (v_child (zC s) x z) := by
  intro h k I hr hv
  rw [c_Q_child]
  have I1 := IQ_12 I
  have P1 := KP_12 h
  refine ⟨I.1.1.1, ?_⟩
  generalize sI h 123 12 0 = h1 at I1 P1 ⊢
  refine ⟨I1.1.1.1, ?_⟩
  have q := qw I1.1.1
  have h5 := okf o
  simp only [e_Q_child_23, e_Q_child_59]
  rw [s_Q_isFamily I1.1]
  by_cases d : offN x (Cf (zC s))
  · rw [thF_off d] at hr
    rw [if_pos d, if_pos rfl, if_neg (by decide)]
    exact ⟨I1.1.1.1, hr (by decide) h1 P1 I1⟩
  · rw [thF_on d] at hr hv
    rw [if_neg d, if_neg (by decide), s_Q_wb, th_z]
    by_cases e : othN z 1 = 0
    · have hv' := hv e h1 P1 I1
      obtain ⟨f, hf, rfl⟩ := on_nI (by omega) d
      have r := I1.1.2.2.2.1 f hf
      have R := o.1.1.2.2.1 f hf
      obtain ⟨p, hp, q1, q2⟩ := bd_of R.1
      obtain ⟨e1, he1, e2, e3⟩ := bd_of R.2.1
      have hz : z = 0 ∨ z = 1 := by
        obtain ⟨m, hm, rfl⟩ := oth_0 (m := 1) (by decide) e
        by_cases e : m = 0
        · subst e; exact Or.inl rfl
        · obtain rfl : m = 1 := by omega
          exact Or.inr rfl
      unfold v_child at hv'
      rw [ix_nI (show f < 2 ^ 31 by omega), hp, he1, ix_nI (by omega), ix_nI (by omega)] at hv'
      rw [e, if_pos (by decide)]
      simp only [q, true_and, true_or, b5 (show f < 5 by omega), ix_nI (show f < 2 ^ 31 by omega), r.1, r.2.1]
      rw [hp, he1, nI_l (by omega), nI_l (by omega), s_Q_frac (by omega) (by omega) q1 hz]
      exact hv'
    · rw [if_neg (ng (nK_oth _ _ e))]
      exact ⟨I1.1.1.1, hr e h1 P1 I1⟩
theorem t_Q_oldest (o : okS s) (z : Int32) : QQ m_Q_oldest [.int z] s (othN z 1) (v_oldest (zB s) z) := by
  intro h k I hr hv
  rw [c_Q_oldest]
  have I1 := IQ_12 I
  have P1 := KP_12 h
  refine ⟨I.1.1.1, ?_⟩
  generalize sI h 123 12 0 = h1 at I1 P1 ⊢
  rw [s_Q_inO h1 (hi := 1) (a2 := 1) (by decide)]
  have q := qw I1.1.1
  have h6 := okw o
  have hl := okS_len o
  by_cases e : othN z 1 = 0
  · have hv' := hv e h1 P1 I1
    rw [if_pos e, if_pos (by decide)]
    rw [← oldest_is o.1.2 h6 z] at hv'
    generalize hr : (if z = 0 then fun i j => decide ((zB s).idxOf i < (zB s).idxOf j) else fun i j => decide ((zB s).length - (zB s).idxOf i < (zB s).length - (zB s).idxOf j)) = r at hv'
    have key : ∀ d i q4, i + d = Cw (zC s) → wp m_Q_oldest h1 27 [some (.ref 123), some (.int z), some (.int (olB (zB s) r i)), some (.int (nI i)), q4] [] (tyI k) := by
      intro d
      induction d with
      | zero =>
        intro i q4 hi
        rw [e_Q_oldest_27, I1.1.2.2.1.2.1, if_pos (nI_le (by omega) (by omega)), show i = Cw (zC s) by omega]
        exact ⟨I1.1.1.1, hv'⟩
      | succ d ih =>
        intro i q4 hi
        have ih' := fun q => ih (i + 1) q (by omega)
        simp only [olB] at ih'
        rw [e_Q_oldest_27, I1.1.2.2.1.2.1, if_neg (nI_ge (by omega) (by omega))]
        simp only [q, true_and, true_or, b6 (show i < 6 by omega), ix_nI (show i < 2 ^ 31 by omega), I1.2.1 i (by omega), e_Q_oldest_49, e_Q_oldest_97, e_Q_oldest_101, e_Q_oldest_102, e_Q_oldest_114, nI_1]
        have n1 : ¬ (1 : Int32) = 0 := by decide
        simp only [n1, if_true, if_false]
        by_cases b : i ∈ zB s
        · rw [if_neg (fun y => (bF_le hl i).mp y b)]
          rcases olB_in (zB s) r i (by omega) with ⟨e1, _⟩ | ⟨b1, b2, b3, b4⟩
          · rw [if_pos ⟨b, Or.inl (by rw [e1]; decide)⟩] at ih'
            rw [e1, if_pos (by decide)]
            exact ih' _
          · rw [b4] at ih' ⊢
            rw [ix_nI (by omega)] at ih'
            have i1 := List.idxOf_lt_length_of_mem b
            have i2 := List.idxOf_lt_length_of_mem b3
            have F1 : bF (zB s) i = nI ((zB s).idxOf i + 1) := if_pos b
            have F2 : bF (zB s) b1 = nI ((zB s).idxOf b1 + 1) := if_pos b3
            rw [if_neg (nI_pos (by omega))]
            simp only [b6 (show b1 < 6 by omega), ix_nI (show b1 < 2 ^ 31 by omega), I1.2.1 b1 (by omega), true_and, F1, F2]
            by_cases y : z = 0
            · rw [if_neg (fun w => w y)]
              rw [if_pos y] at hr
              by_cases y2 : (zB s).idxOf i < (zB s).idxOf b1
              · rw [if_neg (nI_ge (by omega) (by omega))]
                rw [if_pos ⟨b, Or.inr (by rw [← hr]; exact decide_eq_true y2)⟩] at ih'
                exact ih' _
              · rw [if_pos (nI_le (by omega) (by omega))]
                rw [if_neg (fun w => w.2.elim (fun u => nI_pos (by omega) u) (fun u => y2 (by rw [← hr] at u; exact of_decide_eq_true u)))] at ih'
                exact ih' _
            · rw [if_pos y]
              rw [if_neg y] at hr
              by_cases y2 : (zB s).length - (zB s).idxOf i < (zB s).length - (zB s).idxOf b1
              · rw [if_neg (nI_ge (by omega) (by omega))]
                rw [if_pos ⟨b, Or.inr (by rw [← hr]; exact decide_eq_true y2)⟩] at ih'
                exact ih' _
              · rw [if_pos (nI_le (by omega) (by omega))]
                rw [if_neg (fun w => w.2.elim (fun u => nI_pos (by omega) u) (fun u => y2 (by rw [← hr] at u; exact of_decide_eq_true u)))] at ih'
                exact ih' _
        · rw [if_pos ((bF_le hl i).mpr b)]
          rw [if_neg (fun w => b w.1)] at ih'
          exact ih' _
    exact key (Cw (zC s)) 0 none (by omega)
  · rw [if_neg e, if_neg (by decide)]
    rw [oth_n2 e] at hr
    exact q_no I1 P1 (hr (by decide))
theorem t_Q_signature (o : okS s) (x z : Int32) : QQ m_Q_signature [.int x, .int z] s (th (nW (zC s) x) (othN z 1)) (v_signature (zC s) x z) := by
  intro h k I hr hv
  rw [c_Q_signature]
  have I1 := IQ_12 I
  have P1 := KP_12 h
  refine ⟨I.1.1.1, ?_⟩
  generalize sI h 123 12 0 = h1 at I1 P1 ⊢
  refine ⟨I1.1.1.1, ?_⟩
  have h6 := okw o
  have h5 := okf o
  rw [s_Q_isWork I1.1]
  simp only [e_Q_signature_23]
  by_cases d : offN x (Cw (zC s))
  · rw [thW_off d] at hr
    rw [if_pos d, if_pos rfl, if_neg (by decide)]
    exact q_no I1 P1 (hr (by decide))
  · rw [thW_on d] at hr hv
    rw [if_neg d, if_neg (by decide), s_Q_wb, th_z]
    by_cases e : othN z 1 = 0
    · have hv' := hv e
      obtain ⟨w, hw, rfl⟩ := on_nI (by omega) d
      unfold v_signature at hv'
      rw [ix_nI (show w < 2 ^ 31 by omega)] at hv'
      rw [e, if_pos (by decide), s_Q_allHeads I1.1]
      refine ⟨I1.1.1.1, I1.1.1.1, t_Q_layShares I1.1 o.1.1 hw fun h2 fr e2 => ?_⟩
      have I2 := IQ_sh I1 fr
      have hv2 := hv' h2 (KP_trans P1 I2.2) I2.1
      have q := qw I2.1.1.1
      have L2 := I2.1.1
      refine hp (A := fun _ h' => h' = h2) (X := fun j h' => ∀ q7, wp m_Q_signature h' 51 [some (.ref 123), some (.int (nI w)), some (.int z), some (.int 0), some (.int (headsC (zC s))), some (.int (sumN (fun f => if up (shareC (zC s) (Ck (zC s) w) f) (Cm (zC s) f 0) ≤ up (Ck (zC s) w 2) (headsC (zC s)) then Cm (zC s) f 0 else 0) j)), some (.int (nI j)), q7] [] (tyI k)) (Cf (zC s)) ?_ ?_ 0 (Nat.zero_le _) h2 rfl none
      · intro h' hh q7
        subst hh
        rw [e_Q_signature_51, L2.2.2.1.1, if_pos (Int32.le_refl _)]
        simp only [e_Q_signature_159]
        refine ⟨I2.1.1.1.1, ?_⟩
        by_cases d : z = 0
        · rw [if_neg (fun q => q d)]
          rw [if_pos d] at hv2
          exact hv2
        · rw [if_pos d]
          rw [if_neg d] at hv2
          unfold v_sgn at hv2
          by_cases d2 : 2 * sumN (fun f => if up (shareC (zC s) (Ck (zC s) w) f) (Cm (zC s) f 0) ≤ up (Ck (zC s) w 2) (headsC (zC s)) then Cm (zC s) f 0 else 0) (Cf (zC s)) ≤ headsC (zC s)
          · rw [if_pos d2] at hv2 ⊢
            exact hv2
          · rw [if_neg d2] at hv2 ⊢
            exact hv2
      · intro j hj h' hh ih q7
        subst hh
        have R := o.1.1.2.2.1 j hj
        obtain ⟨p, hp, p1, p2⟩ := bd_of R.1
        obtain ⟨H, hH, H1, H2⟩ := heads_pos o.1.1 hj
        have ih' := ih h' rfl
        simp only [sumN] at ih'
        rw [e_Q_signature_51, L2.2.2.1.1, if_neg (nI_ge hj (by omega))]
        simp only [q, true_and, true_or, b5 (show j < 5 by omega), b6 (show w < 6 by omega), ix_nI (show j < 2 ^ 31 by omega), ix_nI (show w < 2 ^ 31 by omega), (L2.2.2.2.1 j hj).1, (L2.2.2.2.2 w hw).2.2, e2 j (by omega), e_Q_signature_107, e_Q_signature_127, nI_1]
        have E1 : up (shareC (zC s) (Ck (zC s) w) j) (Cm (zC s) j 0) = (shareC (zC s) (Ck (zC s) w) j + Cm (zC s) j 0 - 1) / Cm (zC s) j 0 := by rw [hp]; exact up_eq p1 (by omega)
        have E2 : up (Ck (zC s) w 2) (headsC (zC s)) = (Ck (zC s) w 2 + headsC (zC s) - 1) / headsC (zC s) := by rw [hH]; exact up_eq H1 (by omega)
        refine ⟨by rw [hp]; exact nI_ne0 (by omega) (by omega), by rw [hH]; exact nI_ne0 (by omega) (by omega), ?_⟩
        rw [← E1, ← E2]
        have n1 : ¬ (1 : Int32) = 0 := by decide
        simp only [n1, if_true, if_false]
        by_cases d : up (shareC (zC s) (Ck (zC s) w) j) (Cm (zC s) j 0) ≤ up (Ck (zC s) w 2) (headsC (zC s))
        · rw [if_neg (Int32.not_lt.mpr d)]
          rw [if_pos d] at ih'
          exact ih' _
        · rw [if_pos (Int32.not_le.mp d)]
          rw [if_neg d] at ih'
          exact ih' _
    · rw [if_neg (ng (nK_oth _ _ e))]
      exact q_no I1 P1 (hr e)
theorem t_Q_fair (o : okS s) (z : Int32) : QQ m_Q_fair [.int z] s (othN z 1) (v_fair (zC s) z) := by
  intro h k I hr hv
  rw [c_Q_fair]
  have I1 := IQ_12 I
  have P1 := KP_12 h
  refine ⟨I.1.1.1, ?_⟩
  generalize sI h 123 12 0 = h1 at I1 P1 ⊢
  rw [s_Q_inO h1 (hi := 1) (a2 := 1) (by decide)]
  have h5 := okf o
  by_cases e : othN z 1 = 0
  · have hv' := hv e h1 P1 I1
    rw [if_pos e, if_pos (by decide)]
    unfold v_fair fairB fairL at hv'
    generalize hB : (fun i j => decide (¬ hoR (Cm (zC s) i) ≤ hoR (Cm (zC s) j))) = B at hv'
    generalize hG : (fun i j => decide (hoR (Cm (zC s) i) ≤ hoR (Cm (zC s) j))) = G at hv'
    have key : ∀ d i, i + d = Cf (zC s) → wp m_Q_fair h1 30 [some (.ref 123), some (.int z), some (.int (if i = 0 then -9 else nI (bst B i))), some (.int (if i = 0 then 0 else hoR (Cm (zC s) (bst G i)))), some (.int (nI i))] [] (tyI k) := by
      intro d
      induction d with
      | zero =>
        intro i hi
        obtain rfl : i = Cf (zC s) := by omega
        rw [e_Q_fair_30, I1.1.2.2.1.1, if_pos (Int32.le_refl _)]
        refine ⟨I1.1.1.1, ?_⟩
        simp only [e_Q_fair_120]
        by_cases d0 : Cf (zC s) = 0
        · rw [if_pos d0, if_pos d0] at hv'
          rw [if_pos d0, if_pos d0]
          by_cases y : z = 1
          · rw [if_pos y] at hv'
            rw [if_neg (fun w => w y)]; exact hv'
          · rw [if_neg y] at hv'
            rw [if_pos y, if_neg (by decide)]; exact hv'
        · have hb := bst_lt1 B (Cf (zC s)) (by omega)
          rw [if_neg d0, if_neg d0] at hv'
          rw [if_neg d0, if_neg d0]
          by_cases y : z = 1
          · rw [if_pos y] at hv'
            rw [if_neg (fun w => w y)]; exact hv'
          · rw [if_neg y] at hv'
            rw [if_pos y, if_pos (nI_pos' (by omega))]
            rw [s_Q_headOwes I1.1 o.1.1 hb]
            exact ⟨I1.1.1.1, hv'⟩
      | succ d ih =>
        intro i hi
        have hi' : i < Cf (zC s) := by omega
        have ih' := ih (i + 1) (by omega)
        rw [if_neg (by omega), if_neg (by omega)] at ih'
        simp only [bst] at ih'
        rw [e_Q_fair_30, I1.1.2.2.1.1, if_neg (nI_ge hi' (by omega))]
        refine ⟨I1.1.1.1, ?_⟩
        have step : ∀ l3, l3 = hoR (Cm (zC s) (if G i (bst G i) = true then i else bst G i)) → wp m_Q_fair h1 64 [some (.ref 123), some (.int z), some (.int (if i = 0 then -9 else nI (bst B i))), some (.int (if i = 0 then 0 else hoR (Cm (zC s) (bst G i)))), some (.int (nI i))] [.int l3] (tyI k) := by
          intro l3 hl3
          rw [← hl3] at ih'
          rw [e_Q_fair_64, s_Q_headOwes I1.1 o.1.1 hi']
          simp only [e_Q_fair_83, e_Q_fair_89, nI_1]
          by_cases i0 : i = 0
          · subst i0
            rw [if_pos rfl, if_pos (by decide)]
            have : (if B 0 (bst B 0) = true then 0 else bst B 0) = 0 := by
              show (if B 0 0 = true then 0 else 0) = 0
              split <;> rfl
            rw [this] at ih'
            exact ih'
          · have hb := bst_lt1 B i (by omega)
            rw [if_neg i0, if_neg (nI_pos (by omega)), s_Q_headOwes I1.1 o.1.1 (by omega)]
            refine ⟨I1.1.1.1, I1.1.1.1, ?_⟩
            have hBi : B i (bst B i) = decide (¬ hoR (Cm (zC s) i) ≤ hoR (Cm (zC s) (bst B i))) := by rw [← hB]
            by_cases y : hoR (Cm (zC s) i) ≤ hoR (Cm (zC s) (bst B i))
            · rw [if_pos y]
              rw [if_neg (by rw [hBi]; simp [y])] at ih'
              exact ih'
            · rw [if_neg y]
              rw [if_pos (by rw [hBi]; simp [y])] at ih'
              exact ih'
        simp only [e_Q_fair_54]
        rw [s_Q_headOwes I1.1 o.1.1 hi']
        by_cases i0 : i = 0
        · rw [if_pos (by rw [i0]; rfl)]
          refine ⟨I1.1.1.1, step _ ?_⟩
          subst i0
          have : (if G 0 (bst G 0) = true then 0 else bst G 0) = 0 := by
            show (if G 0 0 = true then 0 else 0) = 0
            split <;> rfl
          rw [this]
        · have hg := bst_lt1 G i (by omega)
          rw [if_neg (nI_ne0 (by omega) (by omega))]
          refine ⟨I1.1.1.1, ?_⟩
          rw [s_Q_headOwes I1.1 o.1.1 hi']
          have hGi : G i (bst G i) = decide (hoR (Cm (zC s) i) ≤ hoR (Cm (zC s) (bst G i))) := by rw [← hG]
          have ei : (if i = 0 then 0 else hoR (Cm (zC s) (bst G i))) = hoR (Cm (zC s) (bst G i)) := if_neg i0
          by_cases y : hoR (Cm (zC s) (bst G i)) ≤ hoR (Cm (zC s) i)
          · rw [if_pos (by rw [ei]; exact y)]
            refine step _ ?_
            rw [ei]
            by_cases y2 : hoR (Cm (zC s) i) ≤ hoR (Cm (zC s) (bst G i))
            · rw [if_pos (by rw [hGi]; exact decide_eq_true y2)]
              exact Int32.le_antisymm y y2
            · rw [if_neg (by rw [hGi]; simp [y2])]
          · rw [if_neg (by rw [ei]; exact y)]
            refine ⟨I1.1.1.1, ?_⟩
            rw [s_Q_headOwes I1.1 o.1.1 hi']
            refine step _ ?_
            rw [if_pos (by rw [hGi]; exact decide_eq_true (Int32.le_of_lt (Int32.not_le.mp y)))]
    exact key (Cf (zC s)) 0 (by omega)
  · rw [if_neg e, if_neg (by decide)]
    rw [oth_n2 e] at hr
    exact q_no I1 P1 (hr (by decide))
theorem t_Q_rank (o : okS s) (x : Int32) : QQ m_Q_rank [.int x] s (if x < 0 then -4 else 0) (v_rank (zC s) x) := by
  intro h k I hr hv
  rw [c_Q_rank]
  have I1 := IQ_12 I
  have P1 := KP_12 h
  refine ⟨I.1.1.1, ?_⟩
  generalize sI h 123 12 0 = h1 at I1 P1 ⊢
  have h5 := okf o
  by_cases c : x < 0
  · rw [if_neg (Int32.not_le.mpr c)]
    rw [if_pos c] at hr
    exact q_no I1 P1 (hr (by decide))
  · rw [if_pos (Int32.not_lt.mp c)]
    rw [if_neg c] at hv
    have hv' := hv rfl h1 P1 I1
    unfold v_rank at hv'
    have key : ∀ d i, i + d = Cf (zC s) → k h1 (fstF (fun f => decide (aboveC (zC s) f = x)) i d) → ∀ q3 q4, wp m_Q_rank h1 18 [some (.ref 123), some (.int x), some (.int (nI i)), q3, q4] [] (tyI k) := by
      intro d
      induction d with
      | zero =>
        intro i hi hk q3 q4
        rw [e_Q_rank_18, I1.1.2.2.1.1, if_pos (nI_le (by omega) (by omega))]
        exact ⟨I1.1.1.1, hk⟩
      | succ d ih =>
        intro i hi hk q3 q4
        have hi' : i < Cf (zC s) := by omega
        rw [e_Q_rank_18, I1.1.2.2.1.1, if_neg (nI_ge hi' (by omega))]
        refine ⟨I1.1.1.1, ?_⟩
        unfold fstF at hk
        refine (lp (fun j => wp m_Q_rank h1 31 [some (.ref 123), some (.int x), some (.int (nI i)), some (.int (sumN (fun g => if ahd (zC s) i g = true then 1 else 0) j)), some (.int (nI j))] [] (tyI k)) (Cf (zC s)) fun j hj => ?_).mpr ?_
        · rw [e_Q_rank_31, I1.1.2.2.1.1, if_neg (nI_ge hj (by omega)), s_Q_headOwes I1.1 o.1.1 hj]
          simp only [I1.1.1.1, true_and]
          rw [s_Q_headOwes I1.1 o.1.1 hi', s_Q_headOwes I1.1 o.1.1 hj]
          simp only [I1.1.1.1, true_and]
          rw [s_Q_headOwes I1.1 o.1.1 hi']
          simp only [e_Q_rank_75, e_Q_rank_79, e_Q_rank_80, nI_1, sumN]
          have ha : ahd (zC s) i j = decide (hoR (Cm (zC s) i) < hoR (Cm (zC s) j) ∨ (hoR (Cm (zC s) j) = hoR (Cm (zC s) i) ∧ j < i)) := rfl
          by_cases d1 : hoR (Cm (zC s) i) < hoR (Cm (zC s) j)
          · rw [if_pos d1, if_pos (by rw [ha]; exact decide_eq_true (Or.inl d1))]
          · rw [if_neg d1]
            by_cases d2 : hoR (Cm (zC s) j) = hoR (Cm (zC s) i)
            · rw [if_neg (fun z => z d2)]
              by_cases d3 : j < i
              · rw [if_neg (nI_ge d3 (by omega)), if_pos (by rw [ha]; exact decide_eq_true (Or.inr ⟨d2, d3⟩))]
              · rw [if_pos (nI_le (by omega) (by omega)), if_neg (by rw [ha]; simp [d1, d3])]
            · rw [if_pos d2, if_neg (by rw [ha]; simp [d1, d2])]
        · rw [e_Q_rank_31, I1.1.2.2.1.1, if_pos (Int32.le_refl _), nI_1]
          refine ⟨I1.1.1.1, ?_⟩
          have ea : sumN (fun g => if ahd (zC s) i g = true then 1 else 0) (Cf (zC s)) = aboveC (zC s) i := rfl
          rw [ea]
          by_cases d1 : aboveC (zC s) i = x
          · rw [if_pos (decide_eq_true d1)] at hk
            rw [if_neg (fun z => z d1)]
            exact hk
          · rw [if_neg (by simp [d1])] at hk
            rw [if_pos d1]
            exact ih (i + 1) (by omega) hk _ _
    exact key (Cf (zC s)) 0 (by omega) hv' _ _
end Q8
