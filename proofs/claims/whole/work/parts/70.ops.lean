/-! ===== the calls, one by one ===== -/
theorem nk_a {P : Prop} [Decidable P] {a : Int32} (ha : noK a) : (if P then a else 0) ≠ 0 → noK (if P then a else 0) := by
  split
  · exact fun _ => ha
  · exact fun z => absurd rfl z
theorem nk_b {P : Prop} [Decidable P] {a : Int32} (ha : noK a) : (if P then 0 else a) ≠ 0 → noK (if P then 0 else a) := by
  split
  · exact fun z => absurd rfl z
  · exact fun _ => ha
section Okr
variable {s : Sta}
theorem ok_feed (o : okS s) (x : Int32) : okS (r_feed s x).2 := by
  unfold r_feed
  by_cases e : noFd s x = 0
  · rw [if_pos e]; exact ⟨o.1, o.2.1, o.2.2.1, o.2.2.2.1, fd_0 o e, o.2.2.2.2.2⟩
  · rw [if_neg e]; exact okS_ref o _
theorem ok_row (o : okS s) (x : Int32) : okS (r_row s x).2 := by
  unfold r_row
  by_cases e : noRw s x = 0
  · rw [if_pos e]; exact ⟨o.1, o.2.1, o.2.2.1, o.2.2.2.1, o.2.2.2.2.1, rw_0 o e⟩
  · rw [if_neg e]; exact okS_ref o _
theorem ok_clear (o : okS s) : okS (r_clear s).2 := okS_clr o
theorem ok_judge (o : okS s) (x : Int32) : okS (r_judge s x).2 := by
  unfold r_judge
  by_cases e : nF (zC s) x = 0
  · rw [if_pos e]; exact okS_clr o
  · rw [if_neg e]; exact okS_ref o _
theorem ok_image (o : okS s) : okS (r_image s).2 := ⟨o.1, fun x hx => by
  have q : (some s.1 : Option Zl) = some x := hx
  injection q with q
  rw [← q]; exact o.1, o.2.2.1, o.2.2.2.1, o.2.2.2.2.1, o.2.2.2.2.2⟩
theorem ok_restore (o : okS s) : okS (r_restore s).2 := by
  unfold r_restore
  cases e : zI s with
  | none => exact okS_ref o _
  | some z => exact okS_no o (o.2.1 z e)
theorem ok_back (o : okS s) : okS (r_back s).2 := by
  unfold r_back
  cases hl : (zP s).getLast? with
  | none => exact okS_ref o _
  | some z =>
    have hz : (zP s)[(zP s).length - 1]? = some z := by rw [← List.getLast?_eq_getElem?]; exact hl
    refine ⟨o.2.2.1 _ z hz, o.2.1, fun j x hx => ?_, ?_, o.2.2.2.2.1, o.2.2.2.2.2⟩
    · have hx : (zP s).dropLast[j]? = some x := hx
      have hj := (List.getElem?_eq_some_iff.mp hx).1
      rw [List.length_dropLast] at hj
      rw [List.getElem?_dropLast, if_pos hj] at hx
      exact o.2.2.1 j x hx
    · show (zP s).dropLast.length ≤ 8
      rw [List.length_dropLast]
      have := o.2.2.2.1
      omega
theorem ok_rate (o : okS s) (x : Int32) : okS (r_rate s x).2 := by
  unfold r_rate
  by_cases e : outN x 0 20 = 0
  · rw [if_pos e]; exact okS_do o (okZ_r o.1 e)
  · rw [if_neg e]; exact okS_ref o _
theorem ok_years (o : okS s) (x : Int32) : okS (r_years s x).2 := by
  unfold r_years
  by_cases e : noY (zC s) x = 0
  · rw [if_pos e]; exact okS_do o (okZ_y o.1 _)
  · rw [if_neg e]; exact okS_ref o _
theorem ok_debt (o : okS s) (x y : Int32) : okS (r_debt s x y).2 := by
  unfold r_debt
  by_cases e : noD (zC s) x y = 0
  · rw [if_pos e]; exact okS_do o (okZ_d o.1 e)
  · rw [if_neg e]; exact okS_ref o _
theorem ok_builds (o : okS s) (x : Int32) : okS (r_builds s x).2 := by
  unfold r_builds
  by_cases e : noB s.1 x = 0
  · rw [if_pos e]; exact okS_do o (okZ_b o.1 e)
  · rw [if_neg e]; exact okS_ref o _
theorem ok_family (o : okS s) (x y z : Int32) : okS (r_family s x y z).2 := by
  unfold r_family
  by_cases e : noFam (zC s) x y z = 0
  · rw [if_pos e]; exact okS_no o (okZ_f o.1 e)
  · rw [if_neg e]; exact okS_ref o _
theorem ok_work (o : okS s) (x y z : Int32) : okS (r_work s x y z).2 := by
  unfold r_work
  by_cases e : noWork (zC s) x y z = 0
  · rw [if_pos e]; exact okS_no o (okZ_w o.1 e)
  · rw [if_neg e]; exact okS_ref o _
theorem ok_treasury (o : okS s) : okS (r_treasury s).2 := okS_tre o
theorem op_feed (o : okS s) (a1 : Int32) : OpI m_P_feed m_Q_feed [.int a1] s := op_r (ok_feed o a1) (t_P_feed o a1) (t_Q_feed o a1)
theorem op_treasury (o : okS s) : OpI m_P_treasury m_Q_treasury [] s := op_r (ok_treasury o) (t_P_treasury o) (t_Q_treasury o)
theorem op_familyOf (o : okS s) (a1 a2 : Int32) : OpI m_P_familyOf m_Q_familyOf [.int a1, .int a2] s := op_q o (nK_th (nK_F _ _) (nK_oth _ _)) (t_P_familyOf o a1 a2) (t_Q_familyOf o a1 a2)
theorem op_workOf (o : okS s) (a1 a2 : Int32) : OpI m_P_workOf m_Q_workOf [.int a1, .int a2] s := op_q o (nK_th (nK_W _ _) (nK_oth _ _)) (t_P_workOf o a1 a2) (t_Q_workOf o a1 a2)
theorem op_family (o : okS s) (a1 a2 a3 : Int32) : OpI m_P_family m_Q_family [.int a1, .int a2, .int a3] s := op_r (ok_family o a1 a2 a3) (t_P_family o a1 a2 a3) (t_Q_family o a1 a2 a3)
theorem op_work (o : okS s) (a1 a2 a3 : Int32) : OpI m_P_work m_Q_work [.int a1, .int a2, .int a3] s := op_r (ok_work o a1 a2 a3) (t_P_work o a1 a2 a3) (t_Q_work o a1 a2 a3)
theorem op_builds (o : okS s) (a1 : Int32) : OpI m_P_builds m_Q_builds [.int a1] s := op_r (ok_builds o a1) (t_P_builds o a1) (t_Q_builds o a1)
theorem op_years (o : okS s) (a1 : Int32) : OpI m_P_years m_Q_years [.int a1] s := op_r (ok_years o a1) (t_P_years o a1) (t_Q_years o a1)
theorem op_debt (o : okS s) (a1 a2 : Int32) : OpI m_P_debt m_Q_debt [.int a1, .int a2] s := op_r (ok_debt o a1 a2) (t_P_debt o a1 a2) (t_Q_debt o a1 a2)
theorem op_rate (o : okS s) (a1 : Int32) : OpI m_P_rate m_Q_rate [.int a1] s := op_r (ok_rate o a1) (t_P_rate o a1) (t_Q_rate o a1)
theorem op_back (o : okS s) : OpI m_P_back m_Q_back [] s := op_r (ok_back o) (t_P_back o) (t_Q_back o)
theorem op_behind (o : okS s) (a1 a2 a3 : Int32) : OpI m_P_behind m_Q_behind [.int a1, .int a2, .int a3] s := op_q o (nK_th (nK_th (nK_F _ _) (nK_out _ _ _)) (nK_oth _ _)) (t_P_behind o a1 a2 a3) (t_Q_behind o a1 a2 a3)
theorem op_all (o : okS s) (a1 : Int32) : OpI m_P_all m_Q_all [.int a1] s := op_q o (nK_out _ _ _) (t_P_all o a1) (t_Q_all o a1)
theorem op_solvent (o : okS s) (a1 : Int32) : OpI m_P_solvent m_Q_solvent [.int a1] s := op_q o (nK_F _ _) (t_P_solvent o a1) (t_Q_solvent o a1)
theorem op_first (o : okS s) (a1 : Int32) : OpI m_P_first m_Q_first [.int a1] s := op_q o (nK_oth _ _) (t_P_first o a1) (t_Q_first o a1)
theorem op_highest (o : okS s) (a1 a2 a3 : Int32) : OpI m_P_highest m_Q_highest [.int a1, .int a2, .int a3] s := op_q o (nK_th (nK_th (nK_F _ _) (nK_out _ _ _)) (nK_oth _ _)) (t_P_highest o a1 a2 a3) (t_Q_highest o a1 a2 a3)
theorem op_building (o : okS s) (a1 a2 a3 : Int32) : OpI m_P_building m_Q_building [.int a1, .int a2, .int a3] s := op_q o (nK_th (nK_eith _ _ _ _) (nK_oth _ _)) (t_P_building o a1 a2 a3) (t_Q_building o a1 a2 a3)
theorem op_oneMore (o : okS s) (a1 : Int32) : OpI m_P_oneMore m_Q_oneMore [.int a1] s := op_q o (nK_out _ _ _) (t_P_oneMore o a1) (t_Q_oneMore o a1)
theorem op_share (o : okS s) (a1 a2 : Int32) : OpI m_P_share m_Q_share [.int a1, .int a2] s := op_q o (nK_WF _ _ _) (t_P_share o a1 a2) (t_Q_share o a1 a2)
theorem op_pulledDown (o : okS s) (a1 a2 a3 : Int32) : OpI m_P_pulledDown m_Q_pulledDown [.int a1, .int a2, .int a3] s := op_q o (nK_th (nK_WF _ _ _) (nK_out _ _ _)) (t_P_pulledDown o a1 a2 a3) (t_Q_pulledDown o a1 a2 a3)
theorem op_merger (o : okS s) (a1 a2 a3 : Int32) : OpI m_P_merger m_Q_merger [.int a1, .int a2, .int a3] s := op_q o (nK_th (nK_Two _ _ _) (nK_out _ _ _)) (t_P_merger o a1 a2 a3) (t_Q_merger o a1 a2 a3)
theorem op_bestMerger (o : okS s) (a1 : Int32) : OpI m_P_bestMerger m_Q_bestMerger [.int a1] s := op_q o (nK_out _ _ _) (t_P_bestMerger o a1) (t_Q_bestMerger o a1)
theorem op_child (o : okS s) (a1 a2 : Int32) : OpL m_P_child m_Q_child [.int a1, .int a2] s := op_qL o (nK_th (nK_F _ _) (nK_oth _ _)) (t_P_child o a1 a2) (t_Q_child o a1 a2)
theorem op_cheapest (o : okS s) (a1 a2 : Int32) : OpI m_P_cheapest m_Q_cheapest [.int a1, .int a2] s := op_q o (nK_th (nK_out _ _ _) (nK_oth _ _)) (t_P_cheapest o a1 a2) (t_Q_cheapest o a1 a2)
theorem op_treaty (o : okS s) (a1 a2 a3 : Int32) : OpI m_P_treaty m_Q_treaty [.int a1, .int a2, .int a3] s := op_q o (nK_th (nK_Two _ _ _) (nK_out _ _ _)) (t_P_treaty o a1 a2 a3) (t_Q_treaty o a1 a2 a3)
theorem op_signature (o : okS s) (a1 a2 : Int32) : OpI m_P_signature m_Q_signature [.int a1, .int a2] s := op_q o (nK_th (nK_W _ _) (nK_oth _ _)) (t_P_signature o a1 a2) (t_Q_signature o a1 a2)
theorem op_whoBuilt (o : okS s) (a1 : Int32) : OpI m_P_whoBuilt m_Q_whoBuilt [.int a1] s := op_q o (nK_th (nK_oth _ _) (nk_b (by unfold noK; simp))) (t_P_whoBuilt o a1) (t_Q_whoBuilt o a1)
theorem op_births (o : okS s) (a1 a2 a3 a4 a5 : Int32) : OpL m_P_births m_Q_births [.int a1, .int a2, .int a3, .int a4, .int a5] s := op_qL o (nK_th (nK_th (nK_F _ _) (nK_b3 _ _ _)) (nK_oth _ _)) (t_P_births o a1 a2 a3 a4 a5) (t_Q_births o a1 a2 a3 a4 a5)
theorem op_oldest (o : okS s) (a1 : Int32) : OpI m_P_oldest m_Q_oldest [.int a1] s := op_q o (nK_oth _ _) (t_P_oldest o a1) (t_Q_oldest o a1)
theorem op_order (o : okS s) (a1 : Int32) : OpI m_P_order m_Q_order [.int a1] s := op_q o (nK_O _ _) (t_P_order o a1) (t_Q_order o a1)
theorem op_jubilee (o : okS s) (a1 : Int32) : OpI m_P_jubilee m_Q_jubilee [.int a1] s := op_q o (nK_out _ _ _) (t_P_jubilee o a1) (t_Q_jubilee o a1)
theorem op_fair (o : okS s) (a1 : Int32) : OpI m_P_fair m_Q_fair [.int a1] s := op_q o (nK_oth _ _) (t_P_fair o a1) (t_Q_fair o a1)
theorem op_peak (o : okS s) (a1 a2 a3 : Int32) : OpI m_P_peak m_Q_peak [.int a1, .int a2, .int a3] s := op_q o (nK_th (nK_th (nK_F _ _) (nK_out _ _ _)) (nK_oth _ _)) (t_P_peak o a1 a2 a3) (t_Q_peak o a1 a2 a3)
theorem op_interest (o : okS s) (a1 a2 : Int32) : OpI m_P_interest m_Q_interest [.int a1, .int a2] s := op_q o (nK_th (nK_F _ _) (nK_out _ _ _)) (t_P_interest o a1 a2) (t_Q_interest o a1 a2)
theorem op_doubled (o : okS s) (a1 : Int32) : OpI m_P_doubled m_Q_doubled [.int a1] s := op_q o (nK_F _ _) (t_P_doubled o a1) (t_Q_doubled o a1)
theorem op_commonPay (o : okS s) (a1 a2 : Int32) : OpI m_P_commonPay m_Q_commonPay [.int a1, .int a2] s := op_q o (nK_eith _ _ _ _) (t_P_commonPay o a1 a2) (t_Q_commonPay o a1 a2)
theorem op_bestBirths (o : okS s) (a1 a2 : Int32) : OpI m_P_bestBirths m_Q_bestBirths [.int a1, .int a2] s := op_q o (nK_th (nK_F _ _) (nK_out _ _ _)) (t_P_bestBirths o a1 a2) (t_Q_bestBirths o a1 a2)
theorem op_lump (o : okS s) (a1 a2 : Int32) : OpI m_P_lump m_Q_lump [.int a1, .int a2] s := op_q o (nK_th (nK_F _ _) (nK_out _ _ _)) (t_P_lump o a1 a2) (t_Q_lump o a1 a2)
theorem op_crosses (o : okS s) (a1 a2 : Int32) : OpI m_P_crosses m_Q_crosses [.int a1, .int a2] s := op_q o (nK_Two _ _ _) (t_P_crosses o a1 a2) (t_Q_crosses o a1 a2)
theorem op_heir (o : okS s) (a1 : Int32) : OpI m_P_heir m_Q_heir [.int a1] s := op_q o (nK_F _ _) (t_P_heir o a1) (t_Q_heir o a1)
theorem op_rank (o : okS s) (a1 : Int32) : OpI m_P_rank m_Q_rank [.int a1] s := op_q o (nk_a (by unfold noK; simp)) (t_P_rank o a1) (t_Q_rank o a1)
theorem op_half (o : okS s) : OpI m_P_half m_Q_half [] s := op_q o (fun z => absurd rfl z) (t_P_half o) (t_Q_half o)
theorem op_row (o : okS s) (a1 : Int32) : OpI m_P_row m_Q_row [.int a1] s := op_r (ok_row o a1) (t_P_row o a1) (t_Q_row o a1)
theorem op_judge (o : okS s) (a1 : Int32) : OpI m_P_judge m_Q_judge [.int a1] s := op_r (ok_judge o a1) (t_P_judge o a1) (t_Q_judge o a1)
theorem op_clear (o : okS s) : OpI m_P_clear m_Q_clear [] s := op_r (ok_clear o) (t_P_clear) (t_Q_clear)
theorem op_lots (o : okS s) (a1 a2 a3 : Int32) : OpI m_P_lots m_Q_lots [.int a1, .int a2, .int a3] s := op_q o (nK_th (nK_out _ _ _) (nK_oth _ _)) (t_P_lots o a1 a2 a3) (t_Q_lots o a1 a2 a3)
theorem op_image (o : okS s) : OpI m_P_image m_Q_image [] s := op_r (ok_image o) (t_P_image) (t_Q_image o)
theorem op_restore (o : okS s) : OpI m_P_restore m_Q_restore [] s := op_r (ok_restore o) (t_P_restore o) (t_Q_restore o)
theorem op_count (o : okS s) (a1 : Int32) : OpI m_P_count m_Q_count [.int a1] s := op_q o (fun z => absurd rfl z) (t_P_count o a1) (t_Q_count o a1)
end Okr
