/-! ===== the law ===== -/
/-- the script, whole -/
def Scr (L : Nat) (xs : Nat → Int32) (h : PH) : Prop := tg h 1 = 50 ∧ ln h 1 = L ∧ ∀ j, gI h 1 j = xs j
/-- both hold the same, behind i calls -/
def Iv (L : Nat) (xs : Nat → Int32) (i : Nat) (h : PH) : Prop := ∃ s, okS s ∧ IP h s ∧ IQ h s ∧ Scr L xs h ∧ nx h ≤ 147 + 6 * i ∧ sl h ≤ 20000 + 12 * i
section Law
variable {L : Nat} {xs : Nat → Int32} {i : Nat} {h : PH} {s : Sta}
theorem Scr_KQ {h' : PH} (c : Scr L xs h) (f : KQ h h') : Scr L xs h' := by
  have q := f.2 1 (Or.inl rfl)
  exact ⟨q.1.trans c.1, q.2.1.trans c.2.1, fun j => (q.2.2.2 j).trans (c.2.2 j)⟩
theorem Scr_KP {h' : PH} (c : Scr L xs h) (f : KP h h') : Scr L xs h' := by
  have g := KP_Fr f
  exact ⟨(Fr_tg g 1).trans c.1, (Fr_ln g 1).trans c.2.1, fun j => ((f.2.2 1 (by omega)).2 j).trans (c.2.2 j)⟩
theorem law_I {MP MQ : Nat} {as : List Value} (O : OpI MP MQ as s) (IPs : IP h s) (IQs : IQ h s) (c : Scr L xs h) (hn : nx h ≤ 147 + 6 * i) (hs : sl h ≤ 20000 + 12 * i) {K : PH → Int32 → Prop}
    (hK : ∀ h1 v, Scr L xs h1 → tg h1 123 = 12 → (∀ K2 : PH → Int32 → Prop, (∀ h2, Iv L xs (i + 1) h2 → K2 h2 v) → ccI MQ h1 (.ref 123 :: as) K2) → K h1 v) : ccI MP h (.ref 2 :: as) K := by
  obtain ⟨v, s', o', P, Q⟩ := O
  refine P h K IPs fun h1 I1 K1 => ?_
  have q1 := IQ_KQ IQs K1
  refine hK h1 v (Scr_KQ c K1) q1.1.1.1 fun K2 hk2 => Q h1 K2 q1 fun h2 I2 P2 => hk2 h2 ⟨s', o', IP_KP I1 P2, I2, Scr_KP (Scr_KQ c K1) P2, ?_, ?_⟩
  · have e := Fr_nx (KP_Fr P2); have := K1.1.2.1; omega
  · have e := Fr_sl (KP_Fr P2); have := K1.1.2.2; omega
theorem law_L {MP MQ : Nat} {as : List Value} (O : OpL MP MQ as s) (IPs : IP h s) (IQs : IQ h s) (c : Scr L xs h) (hn : nx h ≤ 147 + 6 * i) (hs : sl h ≤ 20000 + 12 * i) {K : PH → Int64 → Prop}
    (hK : ∀ h1 v, Scr L xs h1 → tg h1 123 = 12 → (∀ K2 : PH → Int64 → Prop, (∀ h2, Iv L xs (i + 1) h2 → K2 h2 v) → ccL MQ h1 (.ref 123 :: as) K2) → K h1 v) : ccL MP h (.ref 2 :: as) K := by
  obtain ⟨v, s', o', P, Q⟩ := O
  refine P h K IPs fun h1 I1 K1 => ?_
  have q1 := IQ_KQ IQs K1
  refine hK h1 v (Scr_KQ c K1) q1.1.1.1 fun K2 hk2 => Q h1 K2 q1 fun h2 I2 P2 => hk2 h2 ⟨s', o', IP_KP I1 P2, I2, Scr_KP (Scr_KQ c K1) P2, ?_, ?_⟩
  · have e := Fr_nx (KP_Fr P2); have := K1.1.2.1; omega
  · have e := Fr_sl (KP_Fr P2); have := K1.1.2.2; omega
theorem at_i (i d : Nat) (D : Int32) (hD : D = nI d) : nI (6 * i) + D = nI (6 * i + d) := by rw [hD, nI_add]
theorem bLw (hL : L ≤ 3072) {j : Nat} (hj : j < L) : inb (nI j) L := inb_nI hj (by omega)
theorem lc_feed (V : Iv L xs i h) (hL : L ≤ 3072) (hi : 6 * i + 6 ≤ L) {k : PH → Int32 → Prop} (hn : ∀ h2, Iv L xs (i + 1) h2 → wp m_Law_law h2 18 [some (.ref 1), some (.ref 2), some (.ref 123), some (.int (nI (6 * (i + 1))))] [] (tyI k)) : wp m_Law_law h 244 [some (.ref 1), some (.ref 2), some (.ref 123), some (.int (nI (6 * i)))] [] (tyI k) := by
  obtain ⟨s, o, Ip, Iq, c, n1, n2⟩ := V
  rw [e_Law_law_244]
  simp only [c.1, c.2.1, c.2.2, Ip.1.1, true_and, or_true, at_i i 1 1 rfl, bLw hL (show 6 * i + 1 < L by omega), ix_nI (show 6 * i + 1 < 2 ^ 31 by omega)]
  refine law_I (op_feed o (xs (6 * i + 1))) Ip Iq c n1 n2 fun h1 v c1 t1 q => ?_
  simp only [c1.1, c1.2.1, c1.2.2, t1, true_and, or_true, at_i i 1 1 rfl, bLw hL (show 6 * i + 1 < L by omega), ix_nI (show 6 * i + 1 < 2 ^ 31 by omega)]
  refine q _ fun h2 V2 => ?_
  rw [if_pos rfl, e_Law_law_1673, at_i i 6 6 rfl]
  exact hn h2 V2
theorem lc_treasury (V : Iv L xs i h) (hL : L ≤ 3072) (hi : 6 * i + 6 ≤ L) {k : PH → Int32 → Prop} (hn : ∀ h2, Iv L xs (i + 1) h2 → wp m_Law_law h2 18 [some (.ref 1), some (.ref 2), some (.ref 123), some (.int (nI (6 * (i + 1))))] [] (tyI k)) : wp m_Law_law h 267 [some (.ref 1), some (.ref 2), some (.ref 123), some (.int (nI (6 * i)))] [] (tyI k) := by
  obtain ⟨s, o, Ip, Iq, c, n1, n2⟩ := V
  rw [e_Law_law_267]
  simp only [Ip.1.1, true_and, or_true]
  refine law_I (op_treasury o) Ip Iq c n1 n2 fun h1 v c1 t1 q => ?_
  simp only [t1, true_and, or_true]
  refine q _ fun h2 V2 => ?_
  rw [if_pos rfl, e_Law_law_1673, at_i i 6 6 rfl]
  exact hn h2 V2
theorem lc_familyOf (V : Iv L xs i h) (hL : L ≤ 3072) (hi : 6 * i + 6 ≤ L) {k : PH → Int32 → Prop} (hn : ∀ h2, Iv L xs (i + 1) h2 → wp m_Law_law h2 18 [some (.ref 1), some (.ref 2), some (.ref 123), some (.int (nI (6 * (i + 1))))] [] (tyI k)) : wp m_Law_law h 280 [some (.ref 1), some (.ref 2), some (.ref 123), some (.int (nI (6 * i)))] [] (tyI k) := by
  obtain ⟨s, o, Ip, Iq, c, n1, n2⟩ := V
  rw [e_Law_law_280]
  simp only [c.1, c.2.1, c.2.2, Ip.1.1, true_and, or_true, at_i i 1 1 rfl, bLw hL (show 6 * i + 1 < L by omega), ix_nI (show 6 * i + 1 < 2 ^ 31 by omega), at_i i 2 2 rfl, bLw hL (show 6 * i + 2 < L by omega), ix_nI (show 6 * i + 2 < 2 ^ 31 by omega)]
  refine law_I (op_familyOf o (xs (6 * i + 1)) (xs (6 * i + 2))) Ip Iq c n1 n2 fun h1 v c1 t1 q => ?_
  simp only [c1.1, c1.2.1, c1.2.2, t1, true_and, or_true, at_i i 1 1 rfl, bLw hL (show 6 * i + 1 < L by omega), ix_nI (show 6 * i + 1 < 2 ^ 31 by omega), at_i i 2 2 rfl, bLw hL (show 6 * i + 2 < L by omega), ix_nI (show 6 * i + 2 < 2 ^ 31 by omega)]
  refine q _ fun h2 V2 => ?_
  rw [if_pos rfl, e_Law_law_1673, at_i i 6 6 rfl]
  exact hn h2 V2
theorem lc_workOf (V : Iv L xs i h) (hL : L ≤ 3072) (hi : 6 * i + 6 ≤ L) {k : PH → Int32 → Prop} (hn : ∀ h2, Iv L xs (i + 1) h2 → wp m_Law_law h2 18 [some (.ref 1), some (.ref 2), some (.ref 123), some (.int (nI (6 * (i + 1))))] [] (tyI k)) : wp m_Law_law h 313 [some (.ref 1), some (.ref 2), some (.ref 123), some (.int (nI (6 * i)))] [] (tyI k) := by
  obtain ⟨s, o, Ip, Iq, c, n1, n2⟩ := V
  rw [e_Law_law_313]
  simp only [c.1, c.2.1, c.2.2, Ip.1.1, true_and, or_true, at_i i 1 1 rfl, bLw hL (show 6 * i + 1 < L by omega), ix_nI (show 6 * i + 1 < 2 ^ 31 by omega), at_i i 2 2 rfl, bLw hL (show 6 * i + 2 < L by omega), ix_nI (show 6 * i + 2 < 2 ^ 31 by omega)]
  refine law_I (op_workOf o (xs (6 * i + 1)) (xs (6 * i + 2))) Ip Iq c n1 n2 fun h1 v c1 t1 q => ?_
  simp only [c1.1, c1.2.1, c1.2.2, t1, true_and, or_true, at_i i 1 1 rfl, bLw hL (show 6 * i + 1 < L by omega), ix_nI (show 6 * i + 1 < 2 ^ 31 by omega), at_i i 2 2 rfl, bLw hL (show 6 * i + 2 < L by omega), ix_nI (show 6 * i + 2 < 2 ^ 31 by omega)]
  refine q _ fun h2 V2 => ?_
  rw [if_pos rfl, e_Law_law_1673, at_i i 6 6 rfl]
  exact hn h2 V2
theorem lc_family (V : Iv L xs i h) (hL : L ≤ 3072) (hi : 6 * i + 6 ≤ L) {k : PH → Int32 → Prop} (hn : ∀ h2, Iv L xs (i + 1) h2 → wp m_Law_law h2 18 [some (.ref 1), some (.ref 2), some (.ref 123), some (.int (nI (6 * (i + 1))))] [] (tyI k)) : wp m_Law_law h 346 [some (.ref 1), some (.ref 2), some (.ref 123), some (.int (nI (6 * i)))] [] (tyI k) := by
  obtain ⟨s, o, Ip, Iq, c, n1, n2⟩ := V
  rw [e_Law_law_346]
  simp only [c.1, c.2.1, c.2.2, Ip.1.1, true_and, or_true, at_i i 1 1 rfl, bLw hL (show 6 * i + 1 < L by omega), ix_nI (show 6 * i + 1 < 2 ^ 31 by omega), at_i i 2 2 rfl, bLw hL (show 6 * i + 2 < L by omega), ix_nI (show 6 * i + 2 < 2 ^ 31 by omega), at_i i 3 3 rfl, bLw hL (show 6 * i + 3 < L by omega), ix_nI (show 6 * i + 3 < 2 ^ 31 by omega)]
  refine law_I (op_family o (xs (6 * i + 1)) (xs (6 * i + 2)) (xs (6 * i + 3))) Ip Iq c n1 n2 fun h1 v c1 t1 q => ?_
  simp only [c1.1, c1.2.1, c1.2.2, t1, true_and, or_true, at_i i 1 1 rfl, bLw hL (show 6 * i + 1 < L by omega), ix_nI (show 6 * i + 1 < 2 ^ 31 by omega), at_i i 2 2 rfl, bLw hL (show 6 * i + 2 < L by omega), ix_nI (show 6 * i + 2 < 2 ^ 31 by omega), at_i i 3 3 rfl, bLw hL (show 6 * i + 3 < L by omega), ix_nI (show 6 * i + 3 < 2 ^ 31 by omega)]
  refine q _ fun h2 V2 => ?_
  rw [if_pos rfl, e_Law_law_1673, at_i i 6 6 rfl]
  exact hn h2 V2
theorem lc_work (V : Iv L xs i h) (hL : L ≤ 3072) (hi : 6 * i + 6 ≤ L) {k : PH → Int32 → Prop} (hn : ∀ h2, Iv L xs (i + 1) h2 → wp m_Law_law h2 18 [some (.ref 1), some (.ref 2), some (.ref 123), some (.int (nI (6 * (i + 1))))] [] (tyI k)) : wp m_Law_law h 389 [some (.ref 1), some (.ref 2), some (.ref 123), some (.int (nI (6 * i)))] [] (tyI k) := by
  obtain ⟨s, o, Ip, Iq, c, n1, n2⟩ := V
  rw [e_Law_law_389]
  simp only [c.1, c.2.1, c.2.2, Ip.1.1, true_and, or_true, at_i i 1 1 rfl, bLw hL (show 6 * i + 1 < L by omega), ix_nI (show 6 * i + 1 < 2 ^ 31 by omega), at_i i 2 2 rfl, bLw hL (show 6 * i + 2 < L by omega), ix_nI (show 6 * i + 2 < 2 ^ 31 by omega), at_i i 3 3 rfl, bLw hL (show 6 * i + 3 < L by omega), ix_nI (show 6 * i + 3 < 2 ^ 31 by omega)]
  refine law_I (op_work o (xs (6 * i + 1)) (xs (6 * i + 2)) (xs (6 * i + 3))) Ip Iq c n1 n2 fun h1 v c1 t1 q => ?_
  simp only [c1.1, c1.2.1, c1.2.2, t1, true_and, or_true, at_i i 1 1 rfl, bLw hL (show 6 * i + 1 < L by omega), ix_nI (show 6 * i + 1 < 2 ^ 31 by omega), at_i i 2 2 rfl, bLw hL (show 6 * i + 2 < L by omega), ix_nI (show 6 * i + 2 < 2 ^ 31 by omega), at_i i 3 3 rfl, bLw hL (show 6 * i + 3 < L by omega), ix_nI (show 6 * i + 3 < 2 ^ 31 by omega)]
  refine q _ fun h2 V2 => ?_
  rw [if_pos rfl, e_Law_law_1673, at_i i 6 6 rfl]
  exact hn h2 V2
theorem lc_builds (V : Iv L xs i h) (hL : L ≤ 3072) (hi : 6 * i + 6 ≤ L) {k : PH → Int32 → Prop} (hn : ∀ h2, Iv L xs (i + 1) h2 → wp m_Law_law h2 18 [some (.ref 1), some (.ref 2), some (.ref 123), some (.int (nI (6 * (i + 1))))] [] (tyI k)) : wp m_Law_law h 432 [some (.ref 1), some (.ref 2), some (.ref 123), some (.int (nI (6 * i)))] [] (tyI k) := by
  obtain ⟨s, o, Ip, Iq, c, n1, n2⟩ := V
  rw [e_Law_law_432]
  simp only [c.1, c.2.1, c.2.2, Ip.1.1, true_and, or_true, at_i i 1 1 rfl, bLw hL (show 6 * i + 1 < L by omega), ix_nI (show 6 * i + 1 < 2 ^ 31 by omega)]
  refine law_I (op_builds o (xs (6 * i + 1))) Ip Iq c n1 n2 fun h1 v c1 t1 q => ?_
  simp only [c1.1, c1.2.1, c1.2.2, t1, true_and, or_true, at_i i 1 1 rfl, bLw hL (show 6 * i + 1 < L by omega), ix_nI (show 6 * i + 1 < 2 ^ 31 by omega)]
  refine q _ fun h2 V2 => ?_
  rw [if_pos rfl, e_Law_law_1673, at_i i 6 6 rfl]
  exact hn h2 V2
theorem lc_years (V : Iv L xs i h) (hL : L ≤ 3072) (hi : 6 * i + 6 ≤ L) {k : PH → Int32 → Prop} (hn : ∀ h2, Iv L xs (i + 1) h2 → wp m_Law_law h2 18 [some (.ref 1), some (.ref 2), some (.ref 123), some (.int (nI (6 * (i + 1))))] [] (tyI k)) : wp m_Law_law h 455 [some (.ref 1), some (.ref 2), some (.ref 123), some (.int (nI (6 * i)))] [] (tyI k) := by
  obtain ⟨s, o, Ip, Iq, c, n1, n2⟩ := V
  rw [e_Law_law_455]
  simp only [c.1, c.2.1, c.2.2, Ip.1.1, true_and, or_true, at_i i 1 1 rfl, bLw hL (show 6 * i + 1 < L by omega), ix_nI (show 6 * i + 1 < 2 ^ 31 by omega)]
  refine law_I (op_years o (xs (6 * i + 1))) Ip Iq c n1 n2 fun h1 v c1 t1 q => ?_
  simp only [c1.1, c1.2.1, c1.2.2, t1, true_and, or_true, at_i i 1 1 rfl, bLw hL (show 6 * i + 1 < L by omega), ix_nI (show 6 * i + 1 < 2 ^ 31 by omega)]
  refine q _ fun h2 V2 => ?_
  rw [if_pos rfl, e_Law_law_1673, at_i i 6 6 rfl]
  exact hn h2 V2
theorem lc_debt (V : Iv L xs i h) (hL : L ≤ 3072) (hi : 6 * i + 6 ≤ L) {k : PH → Int32 → Prop} (hn : ∀ h2, Iv L xs (i + 1) h2 → wp m_Law_law h2 18 [some (.ref 1), some (.ref 2), some (.ref 123), some (.int (nI (6 * (i + 1))))] [] (tyI k)) : wp m_Law_law h 478 [some (.ref 1), some (.ref 2), some (.ref 123), some (.int (nI (6 * i)))] [] (tyI k) := by
  obtain ⟨s, o, Ip, Iq, c, n1, n2⟩ := V
  rw [e_Law_law_478]
  simp only [c.1, c.2.1, c.2.2, Ip.1.1, true_and, or_true, at_i i 1 1 rfl, bLw hL (show 6 * i + 1 < L by omega), ix_nI (show 6 * i + 1 < 2 ^ 31 by omega), at_i i 2 2 rfl, bLw hL (show 6 * i + 2 < L by omega), ix_nI (show 6 * i + 2 < 2 ^ 31 by omega)]
  refine law_I (op_debt o (xs (6 * i + 1)) (xs (6 * i + 2))) Ip Iq c n1 n2 fun h1 v c1 t1 q => ?_
  simp only [c1.1, c1.2.1, c1.2.2, t1, true_and, or_true, at_i i 1 1 rfl, bLw hL (show 6 * i + 1 < L by omega), ix_nI (show 6 * i + 1 < 2 ^ 31 by omega), at_i i 2 2 rfl, bLw hL (show 6 * i + 2 < L by omega), ix_nI (show 6 * i + 2 < 2 ^ 31 by omega)]
  refine q _ fun h2 V2 => ?_
  rw [if_pos rfl, e_Law_law_1673, at_i i 6 6 rfl]
  exact hn h2 V2
theorem lc_rate (V : Iv L xs i h) (hL : L ≤ 3072) (hi : 6 * i + 6 ≤ L) {k : PH → Int32 → Prop} (hn : ∀ h2, Iv L xs (i + 1) h2 → wp m_Law_law h2 18 [some (.ref 1), some (.ref 2), some (.ref 123), some (.int (nI (6 * (i + 1))))] [] (tyI k)) : wp m_Law_law h 511 [some (.ref 1), some (.ref 2), some (.ref 123), some (.int (nI (6 * i)))] [] (tyI k) := by
  obtain ⟨s, o, Ip, Iq, c, n1, n2⟩ := V
  rw [e_Law_law_511]
  simp only [c.1, c.2.1, c.2.2, Ip.1.1, true_and, or_true, at_i i 1 1 rfl, bLw hL (show 6 * i + 1 < L by omega), ix_nI (show 6 * i + 1 < 2 ^ 31 by omega)]
  refine law_I (op_rate o (xs (6 * i + 1))) Ip Iq c n1 n2 fun h1 v c1 t1 q => ?_
  simp only [c1.1, c1.2.1, c1.2.2, t1, true_and, or_true, at_i i 1 1 rfl, bLw hL (show 6 * i + 1 < L by omega), ix_nI (show 6 * i + 1 < 2 ^ 31 by omega)]
  refine q _ fun h2 V2 => ?_
  rw [if_pos rfl, e_Law_law_1673, at_i i 6 6 rfl]
  exact hn h2 V2
theorem lc_back (V : Iv L xs i h) (hL : L ≤ 3072) (hi : 6 * i + 6 ≤ L) {k : PH → Int32 → Prop} (hn : ∀ h2, Iv L xs (i + 1) h2 → wp m_Law_law h2 18 [some (.ref 1), some (.ref 2), some (.ref 123), some (.int (nI (6 * (i + 1))))] [] (tyI k)) : wp m_Law_law h 534 [some (.ref 1), some (.ref 2), some (.ref 123), some (.int (nI (6 * i)))] [] (tyI k) := by
  obtain ⟨s, o, Ip, Iq, c, n1, n2⟩ := V
  rw [e_Law_law_534]
  simp only [Ip.1.1, true_and, or_true]
  refine law_I (op_back o) Ip Iq c n1 n2 fun h1 v c1 t1 q => ?_
  simp only [t1, true_and, or_true]
  refine q _ fun h2 V2 => ?_
  rw [if_pos rfl, e_Law_law_1673, at_i i 6 6 rfl]
  exact hn h2 V2
theorem lc_behind (V : Iv L xs i h) (hL : L ≤ 3072) (hi : 6 * i + 6 ≤ L) {k : PH → Int32 → Prop} (hn : ∀ h2, Iv L xs (i + 1) h2 → wp m_Law_law h2 18 [some (.ref 1), some (.ref 2), some (.ref 123), some (.int (nI (6 * (i + 1))))] [] (tyI k)) : wp m_Law_law h 547 [some (.ref 1), some (.ref 2), some (.ref 123), some (.int (nI (6 * i)))] [] (tyI k) := by
  obtain ⟨s, o, Ip, Iq, c, n1, n2⟩ := V
  rw [e_Law_law_547]
  simp only [c.1, c.2.1, c.2.2, Ip.1.1, true_and, or_true, at_i i 1 1 rfl, bLw hL (show 6 * i + 1 < L by omega), ix_nI (show 6 * i + 1 < 2 ^ 31 by omega), at_i i 2 2 rfl, bLw hL (show 6 * i + 2 < L by omega), ix_nI (show 6 * i + 2 < 2 ^ 31 by omega), at_i i 3 3 rfl, bLw hL (show 6 * i + 3 < L by omega), ix_nI (show 6 * i + 3 < 2 ^ 31 by omega)]
  refine law_I (op_behind o (xs (6 * i + 1)) (xs (6 * i + 2)) (xs (6 * i + 3))) Ip Iq c n1 n2 fun h1 v c1 t1 q => ?_
  simp only [c1.1, c1.2.1, c1.2.2, t1, true_and, or_true, at_i i 1 1 rfl, bLw hL (show 6 * i + 1 < L by omega), ix_nI (show 6 * i + 1 < 2 ^ 31 by omega), at_i i 2 2 rfl, bLw hL (show 6 * i + 2 < L by omega), ix_nI (show 6 * i + 2 < 2 ^ 31 by omega), at_i i 3 3 rfl, bLw hL (show 6 * i + 3 < L by omega), ix_nI (show 6 * i + 3 < 2 ^ 31 by omega)]
  refine q _ fun h2 V2 => ?_
  rw [if_pos rfl, e_Law_law_1673, at_i i 6 6 rfl]
  exact hn h2 V2
theorem lc_all (V : Iv L xs i h) (hL : L ≤ 3072) (hi : 6 * i + 6 ≤ L) {k : PH → Int32 → Prop} (hn : ∀ h2, Iv L xs (i + 1) h2 → wp m_Law_law h2 18 [some (.ref 1), some (.ref 2), some (.ref 123), some (.int (nI (6 * (i + 1))))] [] (tyI k)) : wp m_Law_law h 590 [some (.ref 1), some (.ref 2), some (.ref 123), some (.int (nI (6 * i)))] [] (tyI k) := by
  obtain ⟨s, o, Ip, Iq, c, n1, n2⟩ := V
  rw [e_Law_law_590]
  simp only [c.1, c.2.1, c.2.2, Ip.1.1, true_and, or_true, at_i i 1 1 rfl, bLw hL (show 6 * i + 1 < L by omega), ix_nI (show 6 * i + 1 < 2 ^ 31 by omega)]
  refine law_I (op_all o (xs (6 * i + 1))) Ip Iq c n1 n2 fun h1 v c1 t1 q => ?_
  simp only [c1.1, c1.2.1, c1.2.2, t1, true_and, or_true, at_i i 1 1 rfl, bLw hL (show 6 * i + 1 < L by omega), ix_nI (show 6 * i + 1 < 2 ^ 31 by omega)]
  refine q _ fun h2 V2 => ?_
  rw [if_pos rfl, e_Law_law_1673, at_i i 6 6 rfl]
  exact hn h2 V2
theorem lc_solvent (V : Iv L xs i h) (hL : L ≤ 3072) (hi : 6 * i + 6 ≤ L) {k : PH → Int32 → Prop} (hn : ∀ h2, Iv L xs (i + 1) h2 → wp m_Law_law h2 18 [some (.ref 1), some (.ref 2), some (.ref 123), some (.int (nI (6 * (i + 1))))] [] (tyI k)) : wp m_Law_law h 613 [some (.ref 1), some (.ref 2), some (.ref 123), some (.int (nI (6 * i)))] [] (tyI k) := by
  obtain ⟨s, o, Ip, Iq, c, n1, n2⟩ := V
  rw [e_Law_law_613]
  simp only [c.1, c.2.1, c.2.2, Ip.1.1, true_and, or_true, at_i i 1 1 rfl, bLw hL (show 6 * i + 1 < L by omega), ix_nI (show 6 * i + 1 < 2 ^ 31 by omega)]
  refine law_I (op_solvent o (xs (6 * i + 1))) Ip Iq c n1 n2 fun h1 v c1 t1 q => ?_
  simp only [c1.1, c1.2.1, c1.2.2, t1, true_and, or_true, at_i i 1 1 rfl, bLw hL (show 6 * i + 1 < L by omega), ix_nI (show 6 * i + 1 < 2 ^ 31 by omega)]
  refine q _ fun h2 V2 => ?_
  rw [if_pos rfl, e_Law_law_1673, at_i i 6 6 rfl]
  exact hn h2 V2
theorem lc_first (V : Iv L xs i h) (hL : L ≤ 3072) (hi : 6 * i + 6 ≤ L) {k : PH → Int32 → Prop} (hn : ∀ h2, Iv L xs (i + 1) h2 → wp m_Law_law h2 18 [some (.ref 1), some (.ref 2), some (.ref 123), some (.int (nI (6 * (i + 1))))] [] (tyI k)) : wp m_Law_law h 636 [some (.ref 1), some (.ref 2), some (.ref 123), some (.int (nI (6 * i)))] [] (tyI k) := by
  obtain ⟨s, o, Ip, Iq, c, n1, n2⟩ := V
  rw [e_Law_law_636]
  simp only [c.1, c.2.1, c.2.2, Ip.1.1, true_and, or_true, at_i i 1 1 rfl, bLw hL (show 6 * i + 1 < L by omega), ix_nI (show 6 * i + 1 < 2 ^ 31 by omega)]
  refine law_I (op_first o (xs (6 * i + 1))) Ip Iq c n1 n2 fun h1 v c1 t1 q => ?_
  simp only [c1.1, c1.2.1, c1.2.2, t1, true_and, or_true, at_i i 1 1 rfl, bLw hL (show 6 * i + 1 < L by omega), ix_nI (show 6 * i + 1 < 2 ^ 31 by omega)]
  refine q _ fun h2 V2 => ?_
  rw [if_pos rfl, e_Law_law_1673, at_i i 6 6 rfl]
  exact hn h2 V2
theorem lc_highest (V : Iv L xs i h) (hL : L ≤ 3072) (hi : 6 * i + 6 ≤ L) {k : PH → Int32 → Prop} (hn : ∀ h2, Iv L xs (i + 1) h2 → wp m_Law_law h2 18 [some (.ref 1), some (.ref 2), some (.ref 123), some (.int (nI (6 * (i + 1))))] [] (tyI k)) : wp m_Law_law h 659 [some (.ref 1), some (.ref 2), some (.ref 123), some (.int (nI (6 * i)))] [] (tyI k) := by
  obtain ⟨s, o, Ip, Iq, c, n1, n2⟩ := V
  rw [e_Law_law_659]
  simp only [c.1, c.2.1, c.2.2, Ip.1.1, true_and, or_true, at_i i 1 1 rfl, bLw hL (show 6 * i + 1 < L by omega), ix_nI (show 6 * i + 1 < 2 ^ 31 by omega), at_i i 2 2 rfl, bLw hL (show 6 * i + 2 < L by omega), ix_nI (show 6 * i + 2 < 2 ^ 31 by omega), at_i i 3 3 rfl, bLw hL (show 6 * i + 3 < L by omega), ix_nI (show 6 * i + 3 < 2 ^ 31 by omega)]
  refine law_I (op_highest o (xs (6 * i + 1)) (xs (6 * i + 2)) (xs (6 * i + 3))) Ip Iq c n1 n2 fun h1 v c1 t1 q => ?_
  simp only [c1.1, c1.2.1, c1.2.2, t1, true_and, or_true, at_i i 1 1 rfl, bLw hL (show 6 * i + 1 < L by omega), ix_nI (show 6 * i + 1 < 2 ^ 31 by omega), at_i i 2 2 rfl, bLw hL (show 6 * i + 2 < L by omega), ix_nI (show 6 * i + 2 < 2 ^ 31 by omega), at_i i 3 3 rfl, bLw hL (show 6 * i + 3 < L by omega), ix_nI (show 6 * i + 3 < 2 ^ 31 by omega)]
  refine q _ fun h2 V2 => ?_
  rw [if_pos rfl, e_Law_law_1673, at_i i 6 6 rfl]
  exact hn h2 V2
theorem lc_building (V : Iv L xs i h) (hL : L ≤ 3072) (hi : 6 * i + 6 ≤ L) {k : PH → Int32 → Prop} (hn : ∀ h2, Iv L xs (i + 1) h2 → wp m_Law_law h2 18 [some (.ref 1), some (.ref 2), some (.ref 123), some (.int (nI (6 * (i + 1))))] [] (tyI k)) : wp m_Law_law h 702 [some (.ref 1), some (.ref 2), some (.ref 123), some (.int (nI (6 * i)))] [] (tyI k) := by
  obtain ⟨s, o, Ip, Iq, c, n1, n2⟩ := V
  rw [e_Law_law_702]
  simp only [c.1, c.2.1, c.2.2, Ip.1.1, true_and, or_true, at_i i 1 1 rfl, bLw hL (show 6 * i + 1 < L by omega), ix_nI (show 6 * i + 1 < 2 ^ 31 by omega), at_i i 2 2 rfl, bLw hL (show 6 * i + 2 < L by omega), ix_nI (show 6 * i + 2 < 2 ^ 31 by omega), at_i i 3 3 rfl, bLw hL (show 6 * i + 3 < L by omega), ix_nI (show 6 * i + 3 < 2 ^ 31 by omega)]
  refine law_I (op_building o (xs (6 * i + 1)) (xs (6 * i + 2)) (xs (6 * i + 3))) Ip Iq c n1 n2 fun h1 v c1 t1 q => ?_
  simp only [c1.1, c1.2.1, c1.2.2, t1, true_and, or_true, at_i i 1 1 rfl, bLw hL (show 6 * i + 1 < L by omega), ix_nI (show 6 * i + 1 < 2 ^ 31 by omega), at_i i 2 2 rfl, bLw hL (show 6 * i + 2 < L by omega), ix_nI (show 6 * i + 2 < 2 ^ 31 by omega), at_i i 3 3 rfl, bLw hL (show 6 * i + 3 < L by omega), ix_nI (show 6 * i + 3 < 2 ^ 31 by omega)]
  refine q _ fun h2 V2 => ?_
  rw [if_pos rfl, e_Law_law_1673, at_i i 6 6 rfl]
  exact hn h2 V2
theorem lc_oneMore (V : Iv L xs i h) (hL : L ≤ 3072) (hi : 6 * i + 6 ≤ L) {k : PH → Int32 → Prop} (hn : ∀ h2, Iv L xs (i + 1) h2 → wp m_Law_law h2 18 [some (.ref 1), some (.ref 2), some (.ref 123), some (.int (nI (6 * (i + 1))))] [] (tyI k)) : wp m_Law_law h 745 [some (.ref 1), some (.ref 2), some (.ref 123), some (.int (nI (6 * i)))] [] (tyI k) := by
  obtain ⟨s, o, Ip, Iq, c, n1, n2⟩ := V
  rw [e_Law_law_745]
  simp only [c.1, c.2.1, c.2.2, Ip.1.1, true_and, or_true, at_i i 1 1 rfl, bLw hL (show 6 * i + 1 < L by omega), ix_nI (show 6 * i + 1 < 2 ^ 31 by omega)]
  refine law_I (op_oneMore o (xs (6 * i + 1))) Ip Iq c n1 n2 fun h1 v c1 t1 q => ?_
  simp only [c1.1, c1.2.1, c1.2.2, t1, true_and, or_true, at_i i 1 1 rfl, bLw hL (show 6 * i + 1 < L by omega), ix_nI (show 6 * i + 1 < 2 ^ 31 by omega)]
  refine q _ fun h2 V2 => ?_
  rw [if_pos rfl, e_Law_law_1673, at_i i 6 6 rfl]
  exact hn h2 V2
theorem lc_share (V : Iv L xs i h) (hL : L ≤ 3072) (hi : 6 * i + 6 ≤ L) {k : PH → Int32 → Prop} (hn : ∀ h2, Iv L xs (i + 1) h2 → wp m_Law_law h2 18 [some (.ref 1), some (.ref 2), some (.ref 123), some (.int (nI (6 * (i + 1))))] [] (tyI k)) : wp m_Law_law h 768 [some (.ref 1), some (.ref 2), some (.ref 123), some (.int (nI (6 * i)))] [] (tyI k) := by
  obtain ⟨s, o, Ip, Iq, c, n1, n2⟩ := V
  rw [e_Law_law_768]
  simp only [c.1, c.2.1, c.2.2, Ip.1.1, true_and, or_true, at_i i 1 1 rfl, bLw hL (show 6 * i + 1 < L by omega), ix_nI (show 6 * i + 1 < 2 ^ 31 by omega), at_i i 2 2 rfl, bLw hL (show 6 * i + 2 < L by omega), ix_nI (show 6 * i + 2 < 2 ^ 31 by omega)]
  refine law_I (op_share o (xs (6 * i + 1)) (xs (6 * i + 2))) Ip Iq c n1 n2 fun h1 v c1 t1 q => ?_
  simp only [c1.1, c1.2.1, c1.2.2, t1, true_and, or_true, at_i i 1 1 rfl, bLw hL (show 6 * i + 1 < L by omega), ix_nI (show 6 * i + 1 < 2 ^ 31 by omega), at_i i 2 2 rfl, bLw hL (show 6 * i + 2 < L by omega), ix_nI (show 6 * i + 2 < 2 ^ 31 by omega)]
  refine q _ fun h2 V2 => ?_
  rw [if_pos rfl, e_Law_law_1673, at_i i 6 6 rfl]
  exact hn h2 V2
theorem lc_pulledDown (V : Iv L xs i h) (hL : L ≤ 3072) (hi : 6 * i + 6 ≤ L) {k : PH → Int32 → Prop} (hn : ∀ h2, Iv L xs (i + 1) h2 → wp m_Law_law h2 18 [some (.ref 1), some (.ref 2), some (.ref 123), some (.int (nI (6 * (i + 1))))] [] (tyI k)) : wp m_Law_law h 801 [some (.ref 1), some (.ref 2), some (.ref 123), some (.int (nI (6 * i)))] [] (tyI k) := by
  obtain ⟨s, o, Ip, Iq, c, n1, n2⟩ := V
  rw [e_Law_law_801]
  simp only [c.1, c.2.1, c.2.2, Ip.1.1, true_and, or_true, at_i i 1 1 rfl, bLw hL (show 6 * i + 1 < L by omega), ix_nI (show 6 * i + 1 < 2 ^ 31 by omega), at_i i 2 2 rfl, bLw hL (show 6 * i + 2 < L by omega), ix_nI (show 6 * i + 2 < 2 ^ 31 by omega), at_i i 3 3 rfl, bLw hL (show 6 * i + 3 < L by omega), ix_nI (show 6 * i + 3 < 2 ^ 31 by omega)]
  refine law_I (op_pulledDown o (xs (6 * i + 1)) (xs (6 * i + 2)) (xs (6 * i + 3))) Ip Iq c n1 n2 fun h1 v c1 t1 q => ?_
  simp only [c1.1, c1.2.1, c1.2.2, t1, true_and, or_true, at_i i 1 1 rfl, bLw hL (show 6 * i + 1 < L by omega), ix_nI (show 6 * i + 1 < 2 ^ 31 by omega), at_i i 2 2 rfl, bLw hL (show 6 * i + 2 < L by omega), ix_nI (show 6 * i + 2 < 2 ^ 31 by omega), at_i i 3 3 rfl, bLw hL (show 6 * i + 3 < L by omega), ix_nI (show 6 * i + 3 < 2 ^ 31 by omega)]
  refine q _ fun h2 V2 => ?_
  rw [if_pos rfl, e_Law_law_1673, at_i i 6 6 rfl]
  exact hn h2 V2
theorem lc_merger (V : Iv L xs i h) (hL : L ≤ 3072) (hi : 6 * i + 6 ≤ L) {k : PH → Int32 → Prop} (hn : ∀ h2, Iv L xs (i + 1) h2 → wp m_Law_law h2 18 [some (.ref 1), some (.ref 2), some (.ref 123), some (.int (nI (6 * (i + 1))))] [] (tyI k)) : wp m_Law_law h 844 [some (.ref 1), some (.ref 2), some (.ref 123), some (.int (nI (6 * i)))] [] (tyI k) := by
  obtain ⟨s, o, Ip, Iq, c, n1, n2⟩ := V
  rw [e_Law_law_844]
  simp only [c.1, c.2.1, c.2.2, Ip.1.1, true_and, or_true, at_i i 1 1 rfl, bLw hL (show 6 * i + 1 < L by omega), ix_nI (show 6 * i + 1 < 2 ^ 31 by omega), at_i i 2 2 rfl, bLw hL (show 6 * i + 2 < L by omega), ix_nI (show 6 * i + 2 < 2 ^ 31 by omega), at_i i 3 3 rfl, bLw hL (show 6 * i + 3 < L by omega), ix_nI (show 6 * i + 3 < 2 ^ 31 by omega)]
  refine law_I (op_merger o (xs (6 * i + 1)) (xs (6 * i + 2)) (xs (6 * i + 3))) Ip Iq c n1 n2 fun h1 v c1 t1 q => ?_
  simp only [c1.1, c1.2.1, c1.2.2, t1, true_and, or_true, at_i i 1 1 rfl, bLw hL (show 6 * i + 1 < L by omega), ix_nI (show 6 * i + 1 < 2 ^ 31 by omega), at_i i 2 2 rfl, bLw hL (show 6 * i + 2 < L by omega), ix_nI (show 6 * i + 2 < 2 ^ 31 by omega), at_i i 3 3 rfl, bLw hL (show 6 * i + 3 < L by omega), ix_nI (show 6 * i + 3 < 2 ^ 31 by omega)]
  refine q _ fun h2 V2 => ?_
  rw [if_pos rfl, e_Law_law_1673, at_i i 6 6 rfl]
  exact hn h2 V2
theorem lc_bestMerger (V : Iv L xs i h) (hL : L ≤ 3072) (hi : 6 * i + 6 ≤ L) {k : PH → Int32 → Prop} (hn : ∀ h2, Iv L xs (i + 1) h2 → wp m_Law_law h2 18 [some (.ref 1), some (.ref 2), some (.ref 123), some (.int (nI (6 * (i + 1))))] [] (tyI k)) : wp m_Law_law h 887 [some (.ref 1), some (.ref 2), some (.ref 123), some (.int (nI (6 * i)))] [] (tyI k) := by
  obtain ⟨s, o, Ip, Iq, c, n1, n2⟩ := V
  rw [e_Law_law_887]
  simp only [c.1, c.2.1, c.2.2, Ip.1.1, true_and, or_true, at_i i 1 1 rfl, bLw hL (show 6 * i + 1 < L by omega), ix_nI (show 6 * i + 1 < 2 ^ 31 by omega)]
  refine law_I (op_bestMerger o (xs (6 * i + 1))) Ip Iq c n1 n2 fun h1 v c1 t1 q => ?_
  simp only [c1.1, c1.2.1, c1.2.2, t1, true_and, or_true, at_i i 1 1 rfl, bLw hL (show 6 * i + 1 < L by omega), ix_nI (show 6 * i + 1 < 2 ^ 31 by omega)]
  refine q _ fun h2 V2 => ?_
  rw [if_pos rfl, e_Law_law_1673, at_i i 6 6 rfl]
  exact hn h2 V2
theorem lc_child (V : Iv L xs i h) (hL : L ≤ 3072) (hi : 6 * i + 6 ≤ L) {k : PH → Int32 → Prop} (hn : ∀ h2, Iv L xs (i + 1) h2 → wp m_Law_law h2 18 [some (.ref 1), some (.ref 2), some (.ref 123), some (.int (nI (6 * (i + 1))))] [] (tyI k)) : wp m_Law_law h 910 [some (.ref 1), some (.ref 2), some (.ref 123), some (.int (nI (6 * i)))] [] (tyI k) := by
  obtain ⟨s, o, Ip, Iq, c, n1, n2⟩ := V
  rw [e_Law_law_910]
  simp only [c.1, c.2.1, c.2.2, Ip.1.1, true_and, or_true, at_i i 1 1 rfl, bLw hL (show 6 * i + 1 < L by omega), ix_nI (show 6 * i + 1 < 2 ^ 31 by omega), at_i i 2 2 rfl, bLw hL (show 6 * i + 2 < L by omega), ix_nI (show 6 * i + 2 < 2 ^ 31 by omega)]
  refine law_L (op_child o (xs (6 * i + 1)) (xs (6 * i + 2))) Ip Iq c n1 n2 fun h1 v c1 t1 q => ?_
  simp only [c1.1, c1.2.1, c1.2.2, t1, true_and, or_true, at_i i 1 1 rfl, bLw hL (show 6 * i + 1 < L by omega), ix_nI (show 6 * i + 1 < 2 ^ 31 by omega), at_i i 2 2 rfl, bLw hL (show 6 * i + 2 < L by omega), ix_nI (show 6 * i + 2 < 2 ^ 31 by omega)]
  refine q _ fun h2 V2 => ?_
  rw [if_pos ((lg_cmp_eq _ _).mpr rfl), e_Law_law_1673, at_i i 6 6 rfl]
  exact hn h2 V2
theorem lc_cheapest (V : Iv L xs i h) (hL : L ≤ 3072) (hi : 6 * i + 6 ≤ L) {k : PH → Int32 → Prop} (hn : ∀ h2, Iv L xs (i + 1) h2 → wp m_Law_law h2 18 [some (.ref 1), some (.ref 2), some (.ref 123), some (.int (nI (6 * (i + 1))))] [] (tyI k)) : wp m_Law_law h 944 [some (.ref 1), some (.ref 2), some (.ref 123), some (.int (nI (6 * i)))] [] (tyI k) := by
  obtain ⟨s, o, Ip, Iq, c, n1, n2⟩ := V
  rw [e_Law_law_944]
  simp only [c.1, c.2.1, c.2.2, Ip.1.1, true_and, or_true, at_i i 1 1 rfl, bLw hL (show 6 * i + 1 < L by omega), ix_nI (show 6 * i + 1 < 2 ^ 31 by omega), at_i i 2 2 rfl, bLw hL (show 6 * i + 2 < L by omega), ix_nI (show 6 * i + 2 < 2 ^ 31 by omega)]
  refine law_I (op_cheapest o (xs (6 * i + 1)) (xs (6 * i + 2))) Ip Iq c n1 n2 fun h1 v c1 t1 q => ?_
  simp only [c1.1, c1.2.1, c1.2.2, t1, true_and, or_true, at_i i 1 1 rfl, bLw hL (show 6 * i + 1 < L by omega), ix_nI (show 6 * i + 1 < 2 ^ 31 by omega), at_i i 2 2 rfl, bLw hL (show 6 * i + 2 < L by omega), ix_nI (show 6 * i + 2 < 2 ^ 31 by omega)]
  refine q _ fun h2 V2 => ?_
  rw [if_pos rfl, e_Law_law_1673, at_i i 6 6 rfl]
  exact hn h2 V2
theorem lc_treaty (V : Iv L xs i h) (hL : L ≤ 3072) (hi : 6 * i + 6 ≤ L) {k : PH → Int32 → Prop} (hn : ∀ h2, Iv L xs (i + 1) h2 → wp m_Law_law h2 18 [some (.ref 1), some (.ref 2), some (.ref 123), some (.int (nI (6 * (i + 1))))] [] (tyI k)) : wp m_Law_law h 977 [some (.ref 1), some (.ref 2), some (.ref 123), some (.int (nI (6 * i)))] [] (tyI k) := by
  obtain ⟨s, o, Ip, Iq, c, n1, n2⟩ := V
  rw [e_Law_law_977]
  simp only [c.1, c.2.1, c.2.2, Ip.1.1, true_and, or_true, at_i i 1 1 rfl, bLw hL (show 6 * i + 1 < L by omega), ix_nI (show 6 * i + 1 < 2 ^ 31 by omega), at_i i 2 2 rfl, bLw hL (show 6 * i + 2 < L by omega), ix_nI (show 6 * i + 2 < 2 ^ 31 by omega), at_i i 3 3 rfl, bLw hL (show 6 * i + 3 < L by omega), ix_nI (show 6 * i + 3 < 2 ^ 31 by omega)]
  refine law_I (op_treaty o (xs (6 * i + 1)) (xs (6 * i + 2)) (xs (6 * i + 3))) Ip Iq c n1 n2 fun h1 v c1 t1 q => ?_
  simp only [c1.1, c1.2.1, c1.2.2, t1, true_and, or_true, at_i i 1 1 rfl, bLw hL (show 6 * i + 1 < L by omega), ix_nI (show 6 * i + 1 < 2 ^ 31 by omega), at_i i 2 2 rfl, bLw hL (show 6 * i + 2 < L by omega), ix_nI (show 6 * i + 2 < 2 ^ 31 by omega), at_i i 3 3 rfl, bLw hL (show 6 * i + 3 < L by omega), ix_nI (show 6 * i + 3 < 2 ^ 31 by omega)]
  refine q _ fun h2 V2 => ?_
  rw [if_pos rfl, e_Law_law_1673, at_i i 6 6 rfl]
  exact hn h2 V2
theorem lc_signature (V : Iv L xs i h) (hL : L ≤ 3072) (hi : 6 * i + 6 ≤ L) {k : PH → Int32 → Prop} (hn : ∀ h2, Iv L xs (i + 1) h2 → wp m_Law_law h2 18 [some (.ref 1), some (.ref 2), some (.ref 123), some (.int (nI (6 * (i + 1))))] [] (tyI k)) : wp m_Law_law h 1020 [some (.ref 1), some (.ref 2), some (.ref 123), some (.int (nI (6 * i)))] [] (tyI k) := by
  obtain ⟨s, o, Ip, Iq, c, n1, n2⟩ := V
  rw [e_Law_law_1020]
  simp only [c.1, c.2.1, c.2.2, Ip.1.1, true_and, or_true, at_i i 1 1 rfl, bLw hL (show 6 * i + 1 < L by omega), ix_nI (show 6 * i + 1 < 2 ^ 31 by omega), at_i i 2 2 rfl, bLw hL (show 6 * i + 2 < L by omega), ix_nI (show 6 * i + 2 < 2 ^ 31 by omega)]
  refine law_I (op_signature o (xs (6 * i + 1)) (xs (6 * i + 2))) Ip Iq c n1 n2 fun h1 v c1 t1 q => ?_
  simp only [c1.1, c1.2.1, c1.2.2, t1, true_and, or_true, at_i i 1 1 rfl, bLw hL (show 6 * i + 1 < L by omega), ix_nI (show 6 * i + 1 < 2 ^ 31 by omega), at_i i 2 2 rfl, bLw hL (show 6 * i + 2 < L by omega), ix_nI (show 6 * i + 2 < 2 ^ 31 by omega)]
  refine q _ fun h2 V2 => ?_
  rw [if_pos rfl, e_Law_law_1673, at_i i 6 6 rfl]
  exact hn h2 V2
theorem lc_whoBuilt (V : Iv L xs i h) (hL : L ≤ 3072) (hi : 6 * i + 6 ≤ L) {k : PH → Int32 → Prop} (hn : ∀ h2, Iv L xs (i + 1) h2 → wp m_Law_law h2 18 [some (.ref 1), some (.ref 2), some (.ref 123), some (.int (nI (6 * (i + 1))))] [] (tyI k)) : wp m_Law_law h 1053 [some (.ref 1), some (.ref 2), some (.ref 123), some (.int (nI (6 * i)))] [] (tyI k) := by
  obtain ⟨s, o, Ip, Iq, c, n1, n2⟩ := V
  rw [e_Law_law_1053]
  simp only [c.1, c.2.1, c.2.2, Ip.1.1, true_and, or_true, at_i i 1 1 rfl, bLw hL (show 6 * i + 1 < L by omega), ix_nI (show 6 * i + 1 < 2 ^ 31 by omega)]
  refine law_I (op_whoBuilt o (xs (6 * i + 1))) Ip Iq c n1 n2 fun h1 v c1 t1 q => ?_
  simp only [c1.1, c1.2.1, c1.2.2, t1, true_and, or_true, at_i i 1 1 rfl, bLw hL (show 6 * i + 1 < L by omega), ix_nI (show 6 * i + 1 < 2 ^ 31 by omega)]
  refine q _ fun h2 V2 => ?_
  rw [if_pos rfl, e_Law_law_1673, at_i i 6 6 rfl]
  exact hn h2 V2
theorem lc_births (V : Iv L xs i h) (hL : L ≤ 3072) (hi : 6 * i + 6 ≤ L) {k : PH → Int32 → Prop} (hn : ∀ h2, Iv L xs (i + 1) h2 → wp m_Law_law h2 18 [some (.ref 1), some (.ref 2), some (.ref 123), some (.int (nI (6 * (i + 1))))] [] (tyI k)) : wp m_Law_law h 1076 [some (.ref 1), some (.ref 2), some (.ref 123), some (.int (nI (6 * i)))] [] (tyI k) := by
  obtain ⟨s, o, Ip, Iq, c, n1, n2⟩ := V
  rw [e_Law_law_1076]
  simp only [c.1, c.2.1, c.2.2, Ip.1.1, true_and, or_true, at_i i 1 1 rfl, bLw hL (show 6 * i + 1 < L by omega), ix_nI (show 6 * i + 1 < 2 ^ 31 by omega), at_i i 2 2 rfl, bLw hL (show 6 * i + 2 < L by omega), ix_nI (show 6 * i + 2 < 2 ^ 31 by omega), at_i i 3 3 rfl, bLw hL (show 6 * i + 3 < L by omega), ix_nI (show 6 * i + 3 < 2 ^ 31 by omega), at_i i 4 4 rfl, bLw hL (show 6 * i + 4 < L by omega), ix_nI (show 6 * i + 4 < 2 ^ 31 by omega), at_i i 5 5 rfl, bLw hL (show 6 * i + 5 < L by omega), ix_nI (show 6 * i + 5 < 2 ^ 31 by omega)]
  refine law_L (op_births o (xs (6 * i + 1)) (xs (6 * i + 2)) (xs (6 * i + 3)) (xs (6 * i + 4)) (xs (6 * i + 5))) Ip Iq c n1 n2 fun h1 v c1 t1 q => ?_
  simp only [c1.1, c1.2.1, c1.2.2, t1, true_and, or_true, at_i i 1 1 rfl, bLw hL (show 6 * i + 1 < L by omega), ix_nI (show 6 * i + 1 < 2 ^ 31 by omega), at_i i 2 2 rfl, bLw hL (show 6 * i + 2 < L by omega), ix_nI (show 6 * i + 2 < 2 ^ 31 by omega), at_i i 3 3 rfl, bLw hL (show 6 * i + 3 < L by omega), ix_nI (show 6 * i + 3 < 2 ^ 31 by omega), at_i i 4 4 rfl, bLw hL (show 6 * i + 4 < L by omega), ix_nI (show 6 * i + 4 < 2 ^ 31 by omega), at_i i 5 5 rfl, bLw hL (show 6 * i + 5 < L by omega), ix_nI (show 6 * i + 5 < 2 ^ 31 by omega)]
  refine q _ fun h2 V2 => ?_
  rw [if_pos ((lg_cmp_eq _ _).mpr rfl), e_Law_law_1673, at_i i 6 6 rfl]
  exact hn h2 V2
theorem lc_oldest (V : Iv L xs i h) (hL : L ≤ 3072) (hi : 6 * i + 6 ≤ L) {k : PH → Int32 → Prop} (hn : ∀ h2, Iv L xs (i + 1) h2 → wp m_Law_law h2 18 [some (.ref 1), some (.ref 2), some (.ref 123), some (.int (nI (6 * (i + 1))))] [] (tyI k)) : wp m_Law_law h 1140 [some (.ref 1), some (.ref 2), some (.ref 123), some (.int (nI (6 * i)))] [] (tyI k) := by
  obtain ⟨s, o, Ip, Iq, c, n1, n2⟩ := V
  rw [e_Law_law_1140]
  simp only [c.1, c.2.1, c.2.2, Ip.1.1, true_and, or_true, at_i i 1 1 rfl, bLw hL (show 6 * i + 1 < L by omega), ix_nI (show 6 * i + 1 < 2 ^ 31 by omega)]
  refine law_I (op_oldest o (xs (6 * i + 1))) Ip Iq c n1 n2 fun h1 v c1 t1 q => ?_
  simp only [c1.1, c1.2.1, c1.2.2, t1, true_and, or_true, at_i i 1 1 rfl, bLw hL (show 6 * i + 1 < L by omega), ix_nI (show 6 * i + 1 < 2 ^ 31 by omega)]
  refine q _ fun h2 V2 => ?_
  rw [if_pos rfl, e_Law_law_1673, at_i i 6 6 rfl]
  exact hn h2 V2
theorem lc_order (V : Iv L xs i h) (hL : L ≤ 3072) (hi : 6 * i + 6 ≤ L) {k : PH → Int32 → Prop} (hn : ∀ h2, Iv L xs (i + 1) h2 → wp m_Law_law h2 18 [some (.ref 1), some (.ref 2), some (.ref 123), some (.int (nI (6 * (i + 1))))] [] (tyI k)) : wp m_Law_law h 1163 [some (.ref 1), some (.ref 2), some (.ref 123), some (.int (nI (6 * i)))] [] (tyI k) := by
  obtain ⟨s, o, Ip, Iq, c, n1, n2⟩ := V
  rw [e_Law_law_1163]
  simp only [c.1, c.2.1, c.2.2, Ip.1.1, true_and, or_true, at_i i 1 1 rfl, bLw hL (show 6 * i + 1 < L by omega), ix_nI (show 6 * i + 1 < 2 ^ 31 by omega)]
  refine law_I (op_order o (xs (6 * i + 1))) Ip Iq c n1 n2 fun h1 v c1 t1 q => ?_
  simp only [c1.1, c1.2.1, c1.2.2, t1, true_and, or_true, at_i i 1 1 rfl, bLw hL (show 6 * i + 1 < L by omega), ix_nI (show 6 * i + 1 < 2 ^ 31 by omega)]
  refine q _ fun h2 V2 => ?_
  rw [if_pos rfl, e_Law_law_1673, at_i i 6 6 rfl]
  exact hn h2 V2
theorem lc_jubilee (V : Iv L xs i h) (hL : L ≤ 3072) (hi : 6 * i + 6 ≤ L) {k : PH → Int32 → Prop} (hn : ∀ h2, Iv L xs (i + 1) h2 → wp m_Law_law h2 18 [some (.ref 1), some (.ref 2), some (.ref 123), some (.int (nI (6 * (i + 1))))] [] (tyI k)) : wp m_Law_law h 1186 [some (.ref 1), some (.ref 2), some (.ref 123), some (.int (nI (6 * i)))] [] (tyI k) := by
  obtain ⟨s, o, Ip, Iq, c, n1, n2⟩ := V
  rw [e_Law_law_1186]
  simp only [c.1, c.2.1, c.2.2, Ip.1.1, true_and, or_true, at_i i 1 1 rfl, bLw hL (show 6 * i + 1 < L by omega), ix_nI (show 6 * i + 1 < 2 ^ 31 by omega)]
  refine law_I (op_jubilee o (xs (6 * i + 1))) Ip Iq c n1 n2 fun h1 v c1 t1 q => ?_
  simp only [c1.1, c1.2.1, c1.2.2, t1, true_and, or_true, at_i i 1 1 rfl, bLw hL (show 6 * i + 1 < L by omega), ix_nI (show 6 * i + 1 < 2 ^ 31 by omega)]
  refine q _ fun h2 V2 => ?_
  rw [if_pos rfl, e_Law_law_1673, at_i i 6 6 rfl]
  exact hn h2 V2
theorem lc_fair (V : Iv L xs i h) (hL : L ≤ 3072) (hi : 6 * i + 6 ≤ L) {k : PH → Int32 → Prop} (hn : ∀ h2, Iv L xs (i + 1) h2 → wp m_Law_law h2 18 [some (.ref 1), some (.ref 2), some (.ref 123), some (.int (nI (6 * (i + 1))))] [] (tyI k)) : wp m_Law_law h 1209 [some (.ref 1), some (.ref 2), some (.ref 123), some (.int (nI (6 * i)))] [] (tyI k) := by
  obtain ⟨s, o, Ip, Iq, c, n1, n2⟩ := V
  rw [e_Law_law_1209]
  simp only [c.1, c.2.1, c.2.2, Ip.1.1, true_and, or_true, at_i i 1 1 rfl, bLw hL (show 6 * i + 1 < L by omega), ix_nI (show 6 * i + 1 < 2 ^ 31 by omega)]
  refine law_I (op_fair o (xs (6 * i + 1))) Ip Iq c n1 n2 fun h1 v c1 t1 q => ?_
  simp only [c1.1, c1.2.1, c1.2.2, t1, true_and, or_true, at_i i 1 1 rfl, bLw hL (show 6 * i + 1 < L by omega), ix_nI (show 6 * i + 1 < 2 ^ 31 by omega)]
  refine q _ fun h2 V2 => ?_
  rw [if_pos rfl, e_Law_law_1673, at_i i 6 6 rfl]
  exact hn h2 V2
theorem lc_peak (V : Iv L xs i h) (hL : L ≤ 3072) (hi : 6 * i + 6 ≤ L) {k : PH → Int32 → Prop} (hn : ∀ h2, Iv L xs (i + 1) h2 → wp m_Law_law h2 18 [some (.ref 1), some (.ref 2), some (.ref 123), some (.int (nI (6 * (i + 1))))] [] (tyI k)) : wp m_Law_law h 1232 [some (.ref 1), some (.ref 2), some (.ref 123), some (.int (nI (6 * i)))] [] (tyI k) := by
  obtain ⟨s, o, Ip, Iq, c, n1, n2⟩ := V
  rw [e_Law_law_1232]
  simp only [c.1, c.2.1, c.2.2, Ip.1.1, true_and, or_true, at_i i 1 1 rfl, bLw hL (show 6 * i + 1 < L by omega), ix_nI (show 6 * i + 1 < 2 ^ 31 by omega), at_i i 2 2 rfl, bLw hL (show 6 * i + 2 < L by omega), ix_nI (show 6 * i + 2 < 2 ^ 31 by omega), at_i i 3 3 rfl, bLw hL (show 6 * i + 3 < L by omega), ix_nI (show 6 * i + 3 < 2 ^ 31 by omega)]
  refine law_I (op_peak o (xs (6 * i + 1)) (xs (6 * i + 2)) (xs (6 * i + 3))) Ip Iq c n1 n2 fun h1 v c1 t1 q => ?_
  simp only [c1.1, c1.2.1, c1.2.2, t1, true_and, or_true, at_i i 1 1 rfl, bLw hL (show 6 * i + 1 < L by omega), ix_nI (show 6 * i + 1 < 2 ^ 31 by omega), at_i i 2 2 rfl, bLw hL (show 6 * i + 2 < L by omega), ix_nI (show 6 * i + 2 < 2 ^ 31 by omega), at_i i 3 3 rfl, bLw hL (show 6 * i + 3 < L by omega), ix_nI (show 6 * i + 3 < 2 ^ 31 by omega)]
  refine q _ fun h2 V2 => ?_
  rw [if_pos rfl, e_Law_law_1673, at_i i 6 6 rfl]
  exact hn h2 V2
theorem lc_interest (V : Iv L xs i h) (hL : L ≤ 3072) (hi : 6 * i + 6 ≤ L) {k : PH → Int32 → Prop} (hn : ∀ h2, Iv L xs (i + 1) h2 → wp m_Law_law h2 18 [some (.ref 1), some (.ref 2), some (.ref 123), some (.int (nI (6 * (i + 1))))] [] (tyI k)) : wp m_Law_law h 1275 [some (.ref 1), some (.ref 2), some (.ref 123), some (.int (nI (6 * i)))] [] (tyI k) := by
  obtain ⟨s, o, Ip, Iq, c, n1, n2⟩ := V
  rw [e_Law_law_1275]
  simp only [c.1, c.2.1, c.2.2, Ip.1.1, true_and, or_true, at_i i 1 1 rfl, bLw hL (show 6 * i + 1 < L by omega), ix_nI (show 6 * i + 1 < 2 ^ 31 by omega), at_i i 2 2 rfl, bLw hL (show 6 * i + 2 < L by omega), ix_nI (show 6 * i + 2 < 2 ^ 31 by omega)]
  refine law_I (op_interest o (xs (6 * i + 1)) (xs (6 * i + 2))) Ip Iq c n1 n2 fun h1 v c1 t1 q => ?_
  simp only [c1.1, c1.2.1, c1.2.2, t1, true_and, or_true, at_i i 1 1 rfl, bLw hL (show 6 * i + 1 < L by omega), ix_nI (show 6 * i + 1 < 2 ^ 31 by omega), at_i i 2 2 rfl, bLw hL (show 6 * i + 2 < L by omega), ix_nI (show 6 * i + 2 < 2 ^ 31 by omega)]
  refine q _ fun h2 V2 => ?_
  rw [if_pos rfl, e_Law_law_1673, at_i i 6 6 rfl]
  exact hn h2 V2
theorem lc_doubled (V : Iv L xs i h) (hL : L ≤ 3072) (hi : 6 * i + 6 ≤ L) {k : PH → Int32 → Prop} (hn : ∀ h2, Iv L xs (i + 1) h2 → wp m_Law_law h2 18 [some (.ref 1), some (.ref 2), some (.ref 123), some (.int (nI (6 * (i + 1))))] [] (tyI k)) : wp m_Law_law h 1308 [some (.ref 1), some (.ref 2), some (.ref 123), some (.int (nI (6 * i)))] [] (tyI k) := by
  obtain ⟨s, o, Ip, Iq, c, n1, n2⟩ := V
  rw [e_Law_law_1308]
  simp only [c.1, c.2.1, c.2.2, Ip.1.1, true_and, or_true, at_i i 1 1 rfl, bLw hL (show 6 * i + 1 < L by omega), ix_nI (show 6 * i + 1 < 2 ^ 31 by omega)]
  refine law_I (op_doubled o (xs (6 * i + 1))) Ip Iq c n1 n2 fun h1 v c1 t1 q => ?_
  simp only [c1.1, c1.2.1, c1.2.2, t1, true_and, or_true, at_i i 1 1 rfl, bLw hL (show 6 * i + 1 < L by omega), ix_nI (show 6 * i + 1 < 2 ^ 31 by omega)]
  refine q _ fun h2 V2 => ?_
  rw [if_pos rfl, e_Law_law_1673, at_i i 6 6 rfl]
  exact hn h2 V2
theorem lc_commonPay (V : Iv L xs i h) (hL : L ≤ 3072) (hi : 6 * i + 6 ≤ L) {k : PH → Int32 → Prop} (hn : ∀ h2, Iv L xs (i + 1) h2 → wp m_Law_law h2 18 [some (.ref 1), some (.ref 2), some (.ref 123), some (.int (nI (6 * (i + 1))))] [] (tyI k)) : wp m_Law_law h 1331 [some (.ref 1), some (.ref 2), some (.ref 123), some (.int (nI (6 * i)))] [] (tyI k) := by
  obtain ⟨s, o, Ip, Iq, c, n1, n2⟩ := V
  rw [e_Law_law_1331]
  simp only [c.1, c.2.1, c.2.2, Ip.1.1, true_and, or_true, at_i i 1 1 rfl, bLw hL (show 6 * i + 1 < L by omega), ix_nI (show 6 * i + 1 < 2 ^ 31 by omega), at_i i 2 2 rfl, bLw hL (show 6 * i + 2 < L by omega), ix_nI (show 6 * i + 2 < 2 ^ 31 by omega)]
  refine law_I (op_commonPay o (xs (6 * i + 1)) (xs (6 * i + 2))) Ip Iq c n1 n2 fun h1 v c1 t1 q => ?_
  simp only [c1.1, c1.2.1, c1.2.2, t1, true_and, or_true, at_i i 1 1 rfl, bLw hL (show 6 * i + 1 < L by omega), ix_nI (show 6 * i + 1 < 2 ^ 31 by omega), at_i i 2 2 rfl, bLw hL (show 6 * i + 2 < L by omega), ix_nI (show 6 * i + 2 < 2 ^ 31 by omega)]
  refine q _ fun h2 V2 => ?_
  rw [if_pos rfl, e_Law_law_1673, at_i i 6 6 rfl]
  exact hn h2 V2
theorem lc_bestBirths (V : Iv L xs i h) (hL : L ≤ 3072) (hi : 6 * i + 6 ≤ L) {k : PH → Int32 → Prop} (hn : ∀ h2, Iv L xs (i + 1) h2 → wp m_Law_law h2 18 [some (.ref 1), some (.ref 2), some (.ref 123), some (.int (nI (6 * (i + 1))))] [] (tyI k)) : wp m_Law_law h 1364 [some (.ref 1), some (.ref 2), some (.ref 123), some (.int (nI (6 * i)))] [] (tyI k) := by
  obtain ⟨s, o, Ip, Iq, c, n1, n2⟩ := V
  rw [e_Law_law_1364]
  simp only [c.1, c.2.1, c.2.2, Ip.1.1, true_and, or_true, at_i i 1 1 rfl, bLw hL (show 6 * i + 1 < L by omega), ix_nI (show 6 * i + 1 < 2 ^ 31 by omega), at_i i 2 2 rfl, bLw hL (show 6 * i + 2 < L by omega), ix_nI (show 6 * i + 2 < 2 ^ 31 by omega)]
  refine law_I (op_bestBirths o (xs (6 * i + 1)) (xs (6 * i + 2))) Ip Iq c n1 n2 fun h1 v c1 t1 q => ?_
  simp only [c1.1, c1.2.1, c1.2.2, t1, true_and, or_true, at_i i 1 1 rfl, bLw hL (show 6 * i + 1 < L by omega), ix_nI (show 6 * i + 1 < 2 ^ 31 by omega), at_i i 2 2 rfl, bLw hL (show 6 * i + 2 < L by omega), ix_nI (show 6 * i + 2 < 2 ^ 31 by omega)]
  refine q _ fun h2 V2 => ?_
  rw [if_pos rfl, e_Law_law_1673, at_i i 6 6 rfl]
  exact hn h2 V2
theorem lc_lump (V : Iv L xs i h) (hL : L ≤ 3072) (hi : 6 * i + 6 ≤ L) {k : PH → Int32 → Prop} (hn : ∀ h2, Iv L xs (i + 1) h2 → wp m_Law_law h2 18 [some (.ref 1), some (.ref 2), some (.ref 123), some (.int (nI (6 * (i + 1))))] [] (tyI k)) : wp m_Law_law h 1397 [some (.ref 1), some (.ref 2), some (.ref 123), some (.int (nI (6 * i)))] [] (tyI k) := by
  obtain ⟨s, o, Ip, Iq, c, n1, n2⟩ := V
  rw [e_Law_law_1397]
  simp only [c.1, c.2.1, c.2.2, Ip.1.1, true_and, or_true, at_i i 1 1 rfl, bLw hL (show 6 * i + 1 < L by omega), ix_nI (show 6 * i + 1 < 2 ^ 31 by omega), at_i i 2 2 rfl, bLw hL (show 6 * i + 2 < L by omega), ix_nI (show 6 * i + 2 < 2 ^ 31 by omega)]
  refine law_I (op_lump o (xs (6 * i + 1)) (xs (6 * i + 2))) Ip Iq c n1 n2 fun h1 v c1 t1 q => ?_
  simp only [c1.1, c1.2.1, c1.2.2, t1, true_and, or_true, at_i i 1 1 rfl, bLw hL (show 6 * i + 1 < L by omega), ix_nI (show 6 * i + 1 < 2 ^ 31 by omega), at_i i 2 2 rfl, bLw hL (show 6 * i + 2 < L by omega), ix_nI (show 6 * i + 2 < 2 ^ 31 by omega)]
  refine q _ fun h2 V2 => ?_
  rw [if_pos rfl, e_Law_law_1673, at_i i 6 6 rfl]
  exact hn h2 V2
theorem lc_crosses (V : Iv L xs i h) (hL : L ≤ 3072) (hi : 6 * i + 6 ≤ L) {k : PH → Int32 → Prop} (hn : ∀ h2, Iv L xs (i + 1) h2 → wp m_Law_law h2 18 [some (.ref 1), some (.ref 2), some (.ref 123), some (.int (nI (6 * (i + 1))))] [] (tyI k)) : wp m_Law_law h 1430 [some (.ref 1), some (.ref 2), some (.ref 123), some (.int (nI (6 * i)))] [] (tyI k) := by
  obtain ⟨s, o, Ip, Iq, c, n1, n2⟩ := V
  rw [e_Law_law_1430]
  simp only [c.1, c.2.1, c.2.2, Ip.1.1, true_and, or_true, at_i i 1 1 rfl, bLw hL (show 6 * i + 1 < L by omega), ix_nI (show 6 * i + 1 < 2 ^ 31 by omega), at_i i 2 2 rfl, bLw hL (show 6 * i + 2 < L by omega), ix_nI (show 6 * i + 2 < 2 ^ 31 by omega)]
  refine law_I (op_crosses o (xs (6 * i + 1)) (xs (6 * i + 2))) Ip Iq c n1 n2 fun h1 v c1 t1 q => ?_
  simp only [c1.1, c1.2.1, c1.2.2, t1, true_and, or_true, at_i i 1 1 rfl, bLw hL (show 6 * i + 1 < L by omega), ix_nI (show 6 * i + 1 < 2 ^ 31 by omega), at_i i 2 2 rfl, bLw hL (show 6 * i + 2 < L by omega), ix_nI (show 6 * i + 2 < 2 ^ 31 by omega)]
  refine q _ fun h2 V2 => ?_
  rw [if_pos rfl, e_Law_law_1673, at_i i 6 6 rfl]
  exact hn h2 V2
theorem lc_heir (V : Iv L xs i h) (hL : L ≤ 3072) (hi : 6 * i + 6 ≤ L) {k : PH → Int32 → Prop} (hn : ∀ h2, Iv L xs (i + 1) h2 → wp m_Law_law h2 18 [some (.ref 1), some (.ref 2), some (.ref 123), some (.int (nI (6 * (i + 1))))] [] (tyI k)) : wp m_Law_law h 1463 [some (.ref 1), some (.ref 2), some (.ref 123), some (.int (nI (6 * i)))] [] (tyI k) := by
  obtain ⟨s, o, Ip, Iq, c, n1, n2⟩ := V
  rw [e_Law_law_1463]
  simp only [c.1, c.2.1, c.2.2, Ip.1.1, true_and, or_true, at_i i 1 1 rfl, bLw hL (show 6 * i + 1 < L by omega), ix_nI (show 6 * i + 1 < 2 ^ 31 by omega)]
  refine law_I (op_heir o (xs (6 * i + 1))) Ip Iq c n1 n2 fun h1 v c1 t1 q => ?_
  simp only [c1.1, c1.2.1, c1.2.2, t1, true_and, or_true, at_i i 1 1 rfl, bLw hL (show 6 * i + 1 < L by omega), ix_nI (show 6 * i + 1 < 2 ^ 31 by omega)]
  refine q _ fun h2 V2 => ?_
  rw [if_pos rfl, e_Law_law_1673, at_i i 6 6 rfl]
  exact hn h2 V2
theorem lc_rank (V : Iv L xs i h) (hL : L ≤ 3072) (hi : 6 * i + 6 ≤ L) {k : PH → Int32 → Prop} (hn : ∀ h2, Iv L xs (i + 1) h2 → wp m_Law_law h2 18 [some (.ref 1), some (.ref 2), some (.ref 123), some (.int (nI (6 * (i + 1))))] [] (tyI k)) : wp m_Law_law h 1486 [some (.ref 1), some (.ref 2), some (.ref 123), some (.int (nI (6 * i)))] [] (tyI k) := by
  obtain ⟨s, o, Ip, Iq, c, n1, n2⟩ := V
  rw [e_Law_law_1486]
  simp only [c.1, c.2.1, c.2.2, Ip.1.1, true_and, or_true, at_i i 1 1 rfl, bLw hL (show 6 * i + 1 < L by omega), ix_nI (show 6 * i + 1 < 2 ^ 31 by omega)]
  refine law_I (op_rank o (xs (6 * i + 1))) Ip Iq c n1 n2 fun h1 v c1 t1 q => ?_
  simp only [c1.1, c1.2.1, c1.2.2, t1, true_and, or_true, at_i i 1 1 rfl, bLw hL (show 6 * i + 1 < L by omega), ix_nI (show 6 * i + 1 < 2 ^ 31 by omega)]
  refine q _ fun h2 V2 => ?_
  rw [if_pos rfl, e_Law_law_1673, at_i i 6 6 rfl]
  exact hn h2 V2
theorem lc_half (V : Iv L xs i h) (hL : L ≤ 3072) (hi : 6 * i + 6 ≤ L) {k : PH → Int32 → Prop} (hn : ∀ h2, Iv L xs (i + 1) h2 → wp m_Law_law h2 18 [some (.ref 1), some (.ref 2), some (.ref 123), some (.int (nI (6 * (i + 1))))] [] (tyI k)) : wp m_Law_law h 1509 [some (.ref 1), some (.ref 2), some (.ref 123), some (.int (nI (6 * i)))] [] (tyI k) := by
  obtain ⟨s, o, Ip, Iq, c, n1, n2⟩ := V
  rw [e_Law_law_1509]
  simp only [Ip.1.1, true_and, or_true]
  refine law_I (op_half o) Ip Iq c n1 n2 fun h1 v c1 t1 q => ?_
  simp only [t1, true_and, or_true]
  refine q _ fun h2 V2 => ?_
  rw [if_pos rfl, e_Law_law_1673, at_i i 6 6 rfl]
  exact hn h2 V2
theorem lc_row (V : Iv L xs i h) (hL : L ≤ 3072) (hi : 6 * i + 6 ≤ L) {k : PH → Int32 → Prop} (hn : ∀ h2, Iv L xs (i + 1) h2 → wp m_Law_law h2 18 [some (.ref 1), some (.ref 2), some (.ref 123), some (.int (nI (6 * (i + 1))))] [] (tyI k)) : wp m_Law_law h 1522 [some (.ref 1), some (.ref 2), some (.ref 123), some (.int (nI (6 * i)))] [] (tyI k) := by
  obtain ⟨s, o, Ip, Iq, c, n1, n2⟩ := V
  rw [e_Law_law_1522]
  simp only [c.1, c.2.1, c.2.2, Ip.1.1, true_and, or_true, at_i i 1 1 rfl, bLw hL (show 6 * i + 1 < L by omega), ix_nI (show 6 * i + 1 < 2 ^ 31 by omega)]
  refine law_I (op_row o (xs (6 * i + 1))) Ip Iq c n1 n2 fun h1 v c1 t1 q => ?_
  simp only [c1.1, c1.2.1, c1.2.2, t1, true_and, or_true, at_i i 1 1 rfl, bLw hL (show 6 * i + 1 < L by omega), ix_nI (show 6 * i + 1 < 2 ^ 31 by omega)]
  refine q _ fun h2 V2 => ?_
  rw [if_pos rfl, e_Law_law_1673, at_i i 6 6 rfl]
  exact hn h2 V2
theorem lc_judge (V : Iv L xs i h) (hL : L ≤ 3072) (hi : 6 * i + 6 ≤ L) {k : PH → Int32 → Prop} (hn : ∀ h2, Iv L xs (i + 1) h2 → wp m_Law_law h2 18 [some (.ref 1), some (.ref 2), some (.ref 123), some (.int (nI (6 * (i + 1))))] [] (tyI k)) : wp m_Law_law h 1545 [some (.ref 1), some (.ref 2), some (.ref 123), some (.int (nI (6 * i)))] [] (tyI k) := by
  obtain ⟨s, o, Ip, Iq, c, n1, n2⟩ := V
  rw [e_Law_law_1545]
  simp only [c.1, c.2.1, c.2.2, Ip.1.1, true_and, or_true, at_i i 1 1 rfl, bLw hL (show 6 * i + 1 < L by omega), ix_nI (show 6 * i + 1 < 2 ^ 31 by omega)]
  refine law_I (op_judge o (xs (6 * i + 1))) Ip Iq c n1 n2 fun h1 v c1 t1 q => ?_
  simp only [c1.1, c1.2.1, c1.2.2, t1, true_and, or_true, at_i i 1 1 rfl, bLw hL (show 6 * i + 1 < L by omega), ix_nI (show 6 * i + 1 < 2 ^ 31 by omega)]
  refine q _ fun h2 V2 => ?_
  rw [if_pos rfl, e_Law_law_1673, at_i i 6 6 rfl]
  exact hn h2 V2
theorem lc_clear (V : Iv L xs i h) (hL : L ≤ 3072) (hi : 6 * i + 6 ≤ L) {k : PH → Int32 → Prop} (hn : ∀ h2, Iv L xs (i + 1) h2 → wp m_Law_law h2 18 [some (.ref 1), some (.ref 2), some (.ref 123), some (.int (nI (6 * (i + 1))))] [] (tyI k)) : wp m_Law_law h 1568 [some (.ref 1), some (.ref 2), some (.ref 123), some (.int (nI (6 * i)))] [] (tyI k) := by
  obtain ⟨s, o, Ip, Iq, c, n1, n2⟩ := V
  rw [e_Law_law_1568]
  simp only [Ip.1.1, true_and, or_true]
  refine law_I (op_clear o) Ip Iq c n1 n2 fun h1 v c1 t1 q => ?_
  simp only [t1, true_and, or_true]
  refine q _ fun h2 V2 => ?_
  rw [if_pos rfl, e_Law_law_1673, at_i i 6 6 rfl]
  exact hn h2 V2
theorem lc_lots (V : Iv L xs i h) (hL : L ≤ 3072) (hi : 6 * i + 6 ≤ L) {k : PH → Int32 → Prop} (hn : ∀ h2, Iv L xs (i + 1) h2 → wp m_Law_law h2 18 [some (.ref 1), some (.ref 2), some (.ref 123), some (.int (nI (6 * (i + 1))))] [] (tyI k)) : wp m_Law_law h 1581 [some (.ref 1), some (.ref 2), some (.ref 123), some (.int (nI (6 * i)))] [] (tyI k) := by
  obtain ⟨s, o, Ip, Iq, c, n1, n2⟩ := V
  rw [e_Law_law_1581]
  simp only [c.1, c.2.1, c.2.2, Ip.1.1, true_and, or_true, at_i i 1 1 rfl, bLw hL (show 6 * i + 1 < L by omega), ix_nI (show 6 * i + 1 < 2 ^ 31 by omega), at_i i 2 2 rfl, bLw hL (show 6 * i + 2 < L by omega), ix_nI (show 6 * i + 2 < 2 ^ 31 by omega), at_i i 3 3 rfl, bLw hL (show 6 * i + 3 < L by omega), ix_nI (show 6 * i + 3 < 2 ^ 31 by omega)]
  refine law_I (op_lots o (xs (6 * i + 1)) (xs (6 * i + 2)) (xs (6 * i + 3))) Ip Iq c n1 n2 fun h1 v c1 t1 q => ?_
  simp only [c1.1, c1.2.1, c1.2.2, t1, true_and, or_true, at_i i 1 1 rfl, bLw hL (show 6 * i + 1 < L by omega), ix_nI (show 6 * i + 1 < 2 ^ 31 by omega), at_i i 2 2 rfl, bLw hL (show 6 * i + 2 < L by omega), ix_nI (show 6 * i + 2 < 2 ^ 31 by omega), at_i i 3 3 rfl, bLw hL (show 6 * i + 3 < L by omega), ix_nI (show 6 * i + 3 < 2 ^ 31 by omega)]
  refine q _ fun h2 V2 => ?_
  rw [if_pos rfl, e_Law_law_1673, at_i i 6 6 rfl]
  exact hn h2 V2
theorem lc_image (V : Iv L xs i h) (hL : L ≤ 3072) (hi : 6 * i + 6 ≤ L) {k : PH → Int32 → Prop} (hn : ∀ h2, Iv L xs (i + 1) h2 → wp m_Law_law h2 18 [some (.ref 1), some (.ref 2), some (.ref 123), some (.int (nI (6 * (i + 1))))] [] (tyI k)) : wp m_Law_law h 1624 [some (.ref 1), some (.ref 2), some (.ref 123), some (.int (nI (6 * i)))] [] (tyI k) := by
  obtain ⟨s, o, Ip, Iq, c, n1, n2⟩ := V
  rw [e_Law_law_1624]
  simp only [Ip.1.1, true_and, or_true]
  refine law_I (op_image o) Ip Iq c n1 n2 fun h1 v c1 t1 q => ?_
  simp only [t1, true_and, or_true]
  refine q _ fun h2 V2 => ?_
  rw [if_pos rfl, e_Law_law_1673, at_i i 6 6 rfl]
  exact hn h2 V2
theorem lc_restore (V : Iv L xs i h) (hL : L ≤ 3072) (hi : 6 * i + 6 ≤ L) {k : PH → Int32 → Prop} (hn : ∀ h2, Iv L xs (i + 1) h2 → wp m_Law_law h2 18 [some (.ref 1), some (.ref 2), some (.ref 123), some (.int (nI (6 * (i + 1))))] [] (tyI k)) : wp m_Law_law h 1637 [some (.ref 1), some (.ref 2), some (.ref 123), some (.int (nI (6 * i)))] [] (tyI k) := by
  obtain ⟨s, o, Ip, Iq, c, n1, n2⟩ := V
  rw [e_Law_law_1637]
  simp only [Ip.1.1, true_and, or_true]
  refine law_I (op_restore o) Ip Iq c n1 n2 fun h1 v c1 t1 q => ?_
  simp only [t1, true_and, or_true]
  refine q _ fun h2 V2 => ?_
  rw [if_pos rfl, e_Law_law_1673, at_i i 6 6 rfl]
  exact hn h2 V2
theorem lc_count (V : Iv L xs i h) (hL : L ≤ 3072) (hi : 6 * i + 6 ≤ L) {k : PH → Int32 → Prop} (hn : ∀ h2, Iv L xs (i + 1) h2 → wp m_Law_law h2 18 [some (.ref 1), some (.ref 2), some (.ref 123), some (.int (nI (6 * (i + 1))))] [] (tyI k)) : wp m_Law_law h 1650 [some (.ref 1), some (.ref 2), some (.ref 123), some (.int (nI (6 * i)))] [] (tyI k) := by
  obtain ⟨s, o, Ip, Iq, c, n1, n2⟩ := V
  rw [e_Law_law_1650]
  simp only [c.1, c.2.1, c.2.2, Ip.1.1, true_and, or_true, at_i i 1 1 rfl, bLw hL (show 6 * i + 1 < L by omega), ix_nI (show 6 * i + 1 < 2 ^ 31 by omega)]
  refine law_I (op_count o (xs (6 * i + 1))) Ip Iq c n1 n2 fun h1 v c1 t1 q => ?_
  simp only [c1.1, c1.2.1, c1.2.2, t1, true_and, or_true, at_i i 1 1 rfl, bLw hL (show 6 * i + 1 < L by omega), ix_nI (show 6 * i + 1 < 2 ^ 31 by omega)]
  refine q _ fun h2 V2 => ?_
  rw [if_pos rfl, e_Law_law_1673, at_i i 6 6 rfl]
  exact hn h2 V2
end Law
