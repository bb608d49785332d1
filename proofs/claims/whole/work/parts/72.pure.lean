/-! ===== the law's own: what is to be shown of the pure machine ===== -/
theorem ite_of {c : Prop} [Decidable c] {P Q : Prop} (hp : P) (hq : Q) : if c then P else Q := by
  split
  · exact hp
  · exact hq
section Pure
variable {L : Nat} {xs : Nat → Int32} {i : Nat} {h : PH}
theorem lc_none (V : Iv L xs i h) {k : PH → Int32 → Prop} (hn : ∀ h2, Iv L xs (i + 1) h2 → wp m_Law_law h2 18 [some (.ref 1), some (.ref 2), some (.ref 123), some (.int (nI (6 * (i + 1))))] [] (tyI k)) : wp m_Law_law h 1673 [some (.ref 1), some (.ref 2), some (.ref 123), some (.int (nI (6 * i)))] [] (tyI k) := by
  obtain ⟨s, o, Ip, Iq, c, n1, n2⟩ := V
  rw [e_Law_law_1673, at_i i 6 6 rfl]
  exact hn h ⟨s, o, Ip, Iq, c, by omega, by omega⟩
theorem lc_step (V : Iv L xs i h) (hL : L ≤ 3072) (hi : 6 * i + 6 ≤ L) {k : PH → Int32 → Prop} (hn : ∀ h2, Iv L xs (i + 1) h2 → wp m_Law_law h2 18 [some (.ref 1), some (.ref 2), some (.ref 123), some (.int (nI (6 * (i + 1))))] [] (tyI k)) : wp m_Law_law h 18 [some (.ref 1), some (.ref 2), some (.ref 123), some (.int (nI (6 * i)))] [] (tyI k) := by
  have c : Scr L xs h := by
    obtain ⟨s, o, Ip, Iq, c, n1, n2⟩ := V
    exact c
  rw [e_Law_law_18, c.1, c.2.1, show Int32.ofNat L = nI L from rfl, show (6 : Int32) = nI 6 from rfl, nI_subI (show 6 ≤ L by omega), if_neg (fun z => by have := (nI_ltI (by omega) (by omega)).mp z; omega)]
  refine ⟨by decide, ⟨Or.inr rfl, bLw hL (by omega)⟩, ?_⟩
  rw [e_Law_law_33]
  exact ite_of (lc_feed V hL hi hn) (ite_of (lc_treasury V hL hi hn) (ite_of (lc_familyOf V hL hi hn) (ite_of (lc_workOf V hL hi hn) (ite_of (lc_family V hL hi hn) (ite_of (lc_work V hL hi hn) (ite_of (lc_builds V hL hi hn) (ite_of (lc_years V hL hi hn) (ite_of (lc_debt V hL hi hn) (ite_of (lc_rate V hL hi hn) (ite_of (lc_back V hL hi hn) (ite_of (lc_behind V hL hi hn) (ite_of (lc_all V hL hi hn) (ite_of (lc_solvent V hL hi hn) (ite_of (lc_first V hL hi hn) (ite_of (lc_highest V hL hi hn) (ite_of (lc_building V hL hi hn) (ite_of (lc_oneMore V hL hi hn) (ite_of (lc_share V hL hi hn) (ite_of (lc_pulledDown V hL hi hn) (ite_of (lc_merger V hL hi hn) (ite_of (lc_bestMerger V hL hi hn) (ite_of (lc_child V hL hi hn) (ite_of (lc_cheapest V hL hi hn) (ite_of (lc_treaty V hL hi hn) (ite_of (lc_signature V hL hi hn) (ite_of (lc_whoBuilt V hL hi hn) (ite_of (lc_births V hL hi hn) (ite_of (lc_oldest V hL hi hn) (ite_of (lc_order V hL hi hn) (ite_of (lc_jubilee V hL hi hn) (ite_of (lc_fair V hL hi hn) (ite_of (lc_peak V hL hi hn) (ite_of (lc_interest V hL hi hn) (ite_of (lc_doubled V hL hi hn) (ite_of (lc_commonPay V hL hi hn) (ite_of (lc_bestBirths V hL hi hn) (ite_of (lc_lump V hL hi hn) (ite_of (lc_crosses V hL hi hn) (ite_of (lc_heir V hL hi hn) (ite_of (lc_rank V hL hi hn) (ite_of (lc_half V hL hi hn) (ite_of (lc_row V hL hi hn) (ite_of (lc_judge V hL hi hn) (ite_of (lc_clear V hL hi hn) (ite_of (lc_lots V hL hi hn) (ite_of (lc_image V hL hi hn) (ite_of (lc_restore V hL hi hn) (ite_of (lc_count V hL hi hn) (lc_none V hn)))))))))))))))))))))))))))))))))))))))))))))))))
theorem lt_end (hL : L ≤ 3072) : nI L - 6 < nI (6 * (L / 6)) := by
  by_cases c : L < 6
  · have e : L / 6 = 0 := by omega
    rw [e]
    have key : ∀ k : Fin 6, nI k.1 - 6 < nI (6 * 0) := by decide
    exact key ⟨L, c⟩
  · rw [show (6 : Int32) = nI 6 from rfl, nI_subI (by omega)]
    exact (nI_ltI (by omega) (by omega)).mpr (by omega)
theorem lc_loop (V : Iv L xs 0 h) (hL : L ≤ 3072) {k : PH → Int32 → Prop} (hk : ∀ h2, nx h2 ≤ 778261 → sl h2 ≤ 6767472 → k h2 1) : wp m_Law_law h 18 [some (.ref 1), some (.ref 2), some (.ref 123), some (.int 0)] [] (tyI k) := by
  refine hp (A := fun i h => Iv L xs i h) (X := fun i h => wp m_Law_law h 18 [some (.ref 1), some (.ref 2), some (.ref 123), some (.int (nI (6 * i)))] [] (tyI k)) (L / 6) ?_ ?_ 0 (Nat.zero_le _) h V
  · intro h2 ⟨s, o, Ip, Iq, c, n1, n2⟩
    rw [e_Law_law_18, c.1, c.2.1, show Int32.ofNat L = nI L from rfl, if_pos (lt_end hL)]
    exact ⟨by decide, Or.inr rfl, hk h2 (by omega) (by omega)⟩
  · intro j hj h2 V2 ih
    exact lc_step V2 hL (by omega) ih
theorem okS_00 : okS s00 := by
  refine ⟨⟨⟨⟨by decide, by decide⟩, ⟨by decide, by decide, by decide⟩, fun f hf => absurd hf (Nat.not_lt_zero _), fun w hw => absurd hw (Nat.not_lt_zero _)⟩, List.nodup_nil, fun w hw => by cases hw⟩, fun x hx => ?_, fun j x hx => ?_, by decide, by decide, by decide⟩
  · have q : (none : Option Zl) = some x := hx
    exact absurd q (by simp)
  · have q : ([] : List Zl)[j]? = some x := hx
    simp at q
end Pure
theorem pure_law : PureLaw := by
  intro L xs hL
  rw [c_Law_law]
  have n0 : nx (h0 L xs) = 2 := rfl
  have s0 : sl (h0 L xs) = 0 := rfl
  have g1 : tg (h0 L xs) 1 = 50 ∧ ln (h0 L xs) 1 = L ∧ ∀ j, gI (h0 L xs) 1 j = xs j := ⟨rfl, rfl, fun _ => rfl⟩
  generalize h0 L xs = h at n0 s0 g1 ⊢
  rw [n0]
  refine ⟨by decide, t_P_init (by rw [nx_mkc, n0]) (by rw [tg_mkc, if_pos n0.symm]) (fun j => by rw [gI_mkc, if_pos n0.symm]) fun h1 u1 n1 s1 I1 => ?_⟩
  have v1 : Un 2 h h1 := Un_tr (Un_mkc h 11 0 13 (by omega)) u1 (Nat.le_refl _)
  rw [sl_mkc, s0] at s1
  rw [n1]
  refine ⟨by decide, t_Q_init (by rw [nx_mkc, n1]) (by rw [tg_mkc, if_pos n1.symm]) (fun j => by rw [gI_mkc, if_pos n1.symm]) fun h2 u2 n2 s2 I2 => ?_⟩
  have v2 : Un 123 h1 h2 := Un_tr (Un_mkc h1 12 0 40 (by omega)) u2 (Nat.le_refl _)
  rw [sl_mkc] at s2
  have a1 := v1.2 1 (by decide)
  have a2 := v2.2 1 (by decide)
  refine lc_loop (xs := xs) ⟨s00, okS_00, IP_start (IP0_un I1 v2) (by omega), I2, ⟨?_, ?_, fun j => ?_⟩, by omega, by omega⟩ hL fun h3 e1 e2 => ⟨rfl, e1, e2⟩
  · rw [a2.1.1, a1.1.1]; exact g1.1
  · rw [a2.1.2, a1.1.2]; exact g1.2.1
  · rw [a2.2.2, a1.2.2]; exact g1.2.2 j
