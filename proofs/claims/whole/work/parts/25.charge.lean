/-! ===== a work shares out; what is charged ===== -/
section Charge
variable {h : PH} {a : Nat} {c : Core}
theorem t_shareOut (L : Led h a c) (o : okC c) {w : Nat} (hw : w < Cw c) : ∃ M, find1 (tg h (gR h (a + 7) w)) [(1, m_Bridge_shareOut), (2, m_Bridge_shareOut), (6, m_War_shareOut), (7, m_Bridge_shareOut), (9, m_War_shareOut), (10, m_Work_shareOut)] = some M ∧
    ∀ k : PH → Prop, (∀ h', Fr (fun x => x = a + 9) (fun _ => False) h h' → (∀ f, f < 5 → gI h' (a + 9) f = shareC c (Ck c w) f) → k h') → ccV M h [.ref (gR h (a + 7) w), .ref a] k := by
  obtain ⟨_, ht, g0, g1⟩ := L.2.2.2.2 w hw
  obtain ⟨⟨kd, h0, _, hk5⟩, _⟩ := (show (∃ kd, Ck c w 0 = nI kd ∧ 0 ≤ kd ∧ kd ≤ 5) ∧ True from ⟨bd_of (o.2.2.2 w hw).1, trivial⟩)
  generalize gR h (a + 7) w = p at ht g0 g1 ⊢
  generalize hr : Ck c w = r at ht g0 g1 h0 ⊢
  have h5 := o.1.1
  have c0 : gI h a 0 = nI (Cf c) := L.2.2.1.1
  have hp64 := p2_6 (show Cf c ≤ 6 by omega)
  have q10 : ¬ nI 1 = 0 := by decide
  have q12 : ¬ nI 1 = 2 := by decide
  have q14 : ¬ nI 1 = 4 := by decide
  have q13 : ¬ nI 1 = 3 := by decide
  have q50 : ¬ nI 5 = 0 := by decide
  have q52 : ¬ nI 5 = 2 := by decide
  have q54 : ¬ nI 5 = 4 := by decide
  have q53 : ¬ nI 5 = 3 := by decide
  have q51 : ¬ nI 5 = 1 := by decide
  have q20 : ¬ nI 2 = 0 := by decide
  have q40 : ¬ nI 4 = 0 := by decide
  have q42 : ¬ nI 4 = 2 := by decide
  have : kd = 0 ∨ kd = 1 ∨ kd = 2 ∨ kd = 3 ∨ kd = 4 ∨ kd = 5 := by omega
  rcases this with rfl | rfl | rfl | rfl | rfl | rfl
  · have hd : dueW r = gI h p 1 := by unfold dueW; rw [h0, if_neg (by decide), if_neg (by decide), if_neg (by decide), if_neg (by decide), if_neg (by decide), g1]
    rw [h0, show wtag (nI 0) = 10 from by decide] at ht
    refine ⟨m_Work_shareOut, by rw [ht]; rfl, fun k hk => ?_⟩
    rw [c_Work_shareOut]
    refine ⟨m_Work_due, by rw [ht]; rfl, ?_⟩
    rw [c_Work_due]
    refine ⟨by rw [ht]; rfl, L.1.1, ?_⟩
    rw [← hd]
    refine t_Ledger_shareAlike L.1 c0 h5 _ rfl fun h' fr e => hk h' fr fun f hf => ?_
    rw [e f hf]
    exact shr_alike o (by rw [h0]; rfl) rfl hf
  · have hd : dueW r = gI h p 1 + gI h p 0 := by unfold dueW; rw [h0, if_pos (by decide), g0, g1]
    rw [h0, show wtag (nI 1) = 1 from by decide] at ht
    refine ⟨m_Bridge_shareOut, by rw [ht]; rfl, fun k hk => ?_⟩
    rw [c_Bridge_shareOut]
    refine ⟨m_Bridge_due, by rw [ht]; rfl, ?_⟩
    rw [c_Bridge_due]
    refine ⟨by rw [ht]; decide, ?_⟩
    rw [c_Work_due]
    refine ⟨by rw [ht]; rfl, by rw [ht]; rfl, m_Bridge_sharers, by rw [ht]; rfl, ?_⟩
    rw [c_Bridge_sharers, ← hd]
    refine ⟨L.1.1, ?_⟩
    rw [s_Ledger_everybody L.1 c0 h5]
    refine ⟨L.1.1, t_byHeads L o (by omega) (hbt_every o) (hpt_every o fun f hf => ?_) hk⟩
    unfold ptC
    rw [if_pos hf, h0, if_neg q10, if_neg q12, if_neg q14, if_neg (fun z => q13 z.1)]
  · have hd : dueW r = 2 * gI h p 1 := by unfold dueW; rw [h0, if_neg (by decide), if_pos (by decide), g1]
    rw [h0, show wtag (nI 2) = 9 from by decide] at ht
    refine ⟨m_War_shareOut, by rw [ht]; rfl, fun k hk => ?_⟩
    rw [c_War_shareOut]
    refine ⟨m_War_due, by rw [ht]; rfl, ?_⟩
    rw [c_War_due]
    refine ⟨by rw [ht]; decide, ?_⟩
    rw [c_Work_due]
    refine ⟨by rw [ht]; rfl, m_War_payer, by rw [ht]; rfl, ?_⟩
    rw [c_War_payer, ← hd]
    refine ⟨L.1.1, ?_⟩
    rw [s_Ledger_mostHeads L.1 c0 h5, mostC_eq L]
    have hb : mostC c < 5 := bst_5 _ h5
    refine ⟨L.1.1, t_Ledger_shareToOne L.1 c0 h5 _ hb fun h' fr e => hk h' fr fun f hf => ?_⟩
    rw [e f hf]
    refine shr_one o (fun f _ => ?_) hb hf
    unfold ptC
    by_cases e : f < Cf c
    · rw [if_pos e, if_pos e, h0, if_neg q20, if_pos (by decide)]
    · rw [if_neg e, if_neg e]
  · have hd : dueW r = (gI h p 1 + gI h p 0) / 2 := by unfold dueW; rw [h0, if_neg (by decide), if_neg (by decide), if_pos (by decide), g0, g1]
    obtain ⟨m, hm, hbt, hpt, hmq⟩ := cradle_pt (r := r) o h0
    rw [h0, show wtag (nI 3) = 2 from by decide] at ht
    refine ⟨m_Bridge_shareOut, by rw [ht]; rfl, fun k hk => ?_⟩
    rw [c_Bridge_shareOut]
    refine ⟨m_Cradle_due, by rw [ht]; rfl, ?_⟩
    rw [c_Cradle_due]
    refine ⟨by rw [ht]; decide, ?_⟩
    rw [c_Bridge_due]
    refine ⟨by rw [ht]; decide, ?_⟩
    rw [c_Work_due]
    refine ⟨by rw [ht]; rfl, by rw [ht]; rfl, by decide, m_Cradle_sharers, by rw [ht]; rfl, ?_⟩
    rw [c_Cradle_sharers, ← hd]
    refine ⟨L.1.1, ?_⟩
    have hbm : bm (fun f => decide (¬ gI h (a + 2 + f) 3 ≤ 0)) (Cf c) = bm (fun f => decide (¬ Cm c f 3 ≤ 0)) (Cf c) := bm_c fun f hf => by rw [L.2.2.2.1 f hf 3 (by decide)]
    rw [s_Ledger_bearing L.1 c0 h5, hbm]
    simp only [L.1.1, true_and, s_Ledger_everybody L.1 c0 h5, e_Cradle_sharers_17]
    by_cases e : bm (fun f => decide (¬ Cm c f 3 ≤ 0)) (Cf c) = 0
    · rw [if_pos e] at hmq ⊢
      rw [← hmq]
      exact t_byHeads L o hm hbt hpt hk
    · rw [if_neg e] at hmq ⊢
      rw [← hmq]
      exact t_byHeads L o hm hbt hpt hk
  · have hd : dueW r = if 1 < 2 * gI h p 1 - gI h p 0 then 2 * gI h p 1 - gI h p 0 else 1 := by unfold dueW; rw [h0, if_neg (by decide), if_neg (by decide), if_neg (by decide), if_pos (by decide), g0, g1]
    rw [h0, show wtag (nI 4) = 6 from by decide] at ht
    refine ⟨m_War_shareOut, by rw [ht]; rfl, fun k hk => ?_⟩
    rw [c_War_shareOut]
    refine ⟨m_Pen_due, by rw [ht]; rfl, ?_⟩
    rw [c_Pen_due]
    refine ⟨by rw [ht]; decide, ?_⟩
    rw [c_War_due]
    refine ⟨by rw [ht]; decide, ?_⟩
    rw [c_Work_due]
    refine ⟨by rw [ht]; rfl, ht, m_Pen_payer, by rw [ht]; rfl, ?_⟩
    rw [c_Pen_payer, ← hd]
    refine ⟨L.1.1, ?_⟩
    rw [s_Ledger_leastDebt L.1 c0 h5, leastC_eq L]
    have hb : leastC c < 5 := bst_5 _ h5
    refine ⟨L.1.1, t_Ledger_shareToOne L.1 c0 h5 _ hb fun h' fr e => hk h' fr fun f hf => ?_⟩
    rw [e f hf]
    refine shr_one o (fun f _ => ?_) hb hf
    unfold ptC
    by_cases e : f < Cf c
    · rw [if_pos e, if_pos e, h0, if_neg q40, if_neg q42, if_pos (by decide)]
    · rw [if_neg e, if_neg e]
  · have hd : dueW r = gI h p 1 + gI h p 0 + gI h p 1 := by unfold dueW; rw [h0, if_neg (by decide), if_neg (by decide), if_neg (by decide), if_neg (by decide), if_pos (by decide), g0, g1]
    rw [h0, show wtag (nI 5) = 7 from by decide] at ht
    refine ⟨m_Bridge_shareOut, by rw [ht]; rfl, fun k hk => ?_⟩
    rw [c_Bridge_shareOut]
    refine ⟨m_Ruin_due, by rw [ht]; rfl, ?_⟩
    rw [c_Ruin_due]
    refine ⟨by rw [ht]; decide, ?_⟩
    rw [c_Bridge_due]
    refine ⟨by rw [ht]; decide, ?_⟩
    rw [c_Work_due]
    refine ⟨by rw [ht]; rfl, by rw [ht]; rfl, ht, m_Bridge_sharers, by rw [ht]; rfl, ?_⟩
    rw [c_Bridge_sharers, ← hd]
    refine ⟨L.1.1, ?_⟩
    rw [s_Ledger_everybody L.1 c0 h5]
    refine ⟨L.1.1, t_byHeads L o (by omega) (hbt_every o) (hpt_every o fun f hf => ?_) hk⟩
    unfold ptC
    rw [if_pos hf, h0, if_neg q50, if_neg q52, if_neg q54, if_neg (fun z => q53 z.1)]
end Charge
