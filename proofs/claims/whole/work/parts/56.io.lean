/-! ===== both: feed, row, clear, judge, image, restore, count ===== -/
def noFd (s : Sta) (x : Int32) : Int32 := if outN x 0 255 = 0 then (if (zL s).1 = 96 then -6 else 0) else outN x 0 255
def noRw (s : Sta) (x : Int32) : Int32 := if outN x 0 99 = 0 then (if (zT s).1 = 12 then -6 else 0) else outN x 0 99
theorem nK_Fd (s : Sta) (x : Int32) : noFd s x ≠ 0 → noK (noFd s x) := by
  unfold noFd
  split
  · split
    · intro _; unfold noK; simp
    · intro z; exact absurd rfl z
  · exact nK_out _ _ _
theorem nK_Rw (s : Sta) (x : Int32) : noRw s x ≠ 0 → noK (noRw s x) := by
  unfold noRw
  split
  · split
    · intro _; unfold noK; simp
    · intro z; exact absurd rfl z
  · exact nK_out _ _ _
def r_feed (s : Sta) (x : Int32) : Int32 × Sta := if noFd s x = 0 then (nI ((zL s).1 + 1), ltrS s ((zL s).1 + 1, rs (zL s).2 (zL s).1 x)) else refR s (noFd s x)
def r_row (s : Sta) (x : Int32) : Int32 × Sta := if noRw s x = 0 then (nI ((zT s).1 + 1), tldS s ((zT s).1 + 1, rs (zT s).2 (zT s).1 x)) else refR s (noRw s x)
def clrS (s : Sta) : Sta := tldS s (0, (zT s).2)
def r_clear (s : Sta) : Int32 × Sta := (nI (zT s).1, clrS s)
def v_judge (c : Core) (t : Nat × Row) (f : Nat) : Int32 := fstF (fun n => decide (¬ t.2 n = tld (hoR (Cm (goC n c) f)))) 0 t.1
def r_judge (s : Sta) (x : Int32) : Int32 × Sta := if nF (zC s) x = 0 then (v_judge (zC s) (zT s) (ix x), clrS s) else refR s (nF (zC s) x)
def r_image (s : Sta) : Int32 × Sta := (Cy (zC s), imgS s (some s.1))
def r_restore (s : Sta) : Int32 × Sta := match zI s with
  | none => refR s (-3)
  | some z => (Cy z.1, pastS (nowS s z) [])
def v_count (s : Sta) (x : Int32) : Int32 := if x = 0 then nI (Cf (zC s)) else if x = 1 then nI (Cw (zC s)) else if x = 2 then Cy (zC s) else if x = 3 then Cr (zC s) else if x = 4 then headsC (zC s) else if x = 5 then debtsC (zC s) else if x = 6 then bm (fun w => decide (w ∈ zB s)) 6 else if x = 7 then nI (zL s).1 else if x = 8 then nI (zT s).1 else if x = 9 then nI (zP s).length else if offN (x - 11) 6 then -9 else zN s (ix (x - 11) + 1)
theorem fd_0 {s : Sta} {x : Int32} (o : okS s) (e : noFd s x = 0) : (zL s).1 < 96 := by
  have h := o.2.2.2.2.1
  unfold noFd at e
  by_cases d : outN x 0 255 = 0
  · rw [if_pos d] at e
    by_cases d2 : (zL s).1 = 96
    · rw [if_pos d2] at e; exact absurd e (by decide)
    · omega
  · rw [if_neg d] at e; exact absurd e d
theorem rw_0 {s : Sta} {x : Int32} (o : okS s) (e : noRw s x = 0) : (zT s).1 < 12 := by
  have h := o.2.2.2.2.2
  unfold noRw at e
  by_cases d : outN x 0 99 = 0
  · rw [if_pos d] at e
    by_cases d2 : (zT s).1 = 12
    · rw [if_pos d2] at e; exact absurd e (by decide)
    · omega
  · rw [if_neg d] at e; exact absurd e d
section IoP
variable {h h' h0 h1 h2 h3 : PH} {s : Sta} {c : Core} {f n : Nat}
theorem IP_ltr (I : IP h s) {x : Nat × Row} (f : Fr (fun b => b = 115 ∨ b = 116) (fun _ => False) h h') (e : gI h' 115 1 = nI x.1) (r : ∀ i, i < x.1 → gI h' 116 i = x.2 i) : IP h' (ltrS s x) := by
  have ne : ∀ b, ¬ (b = 115 ∨ b = 116) → gI h' b = gI h b := fun b hb => funext fun j => f.2.2.2 b hb j
  have st := I.2.2.2
  refine ⟨isP_fr I.1 f (fun b x => x.elim), by rw [Fr_nx f]; exact I.2.1, LZ_fr I.2.2.1 f (fun b x => by omega) (fun b x => x.elim), ?_, fun x hx => LZ_fr (st.2.1 x hx) f (fun b x => by omega) (fun b x => x.elim), ?_, ⟨e, r⟩, ?_, ?_⟩
  · rw [ne 2 (by omega)]; exact st.1
  · obtain ⟨n, hn, n1, n2, n3⟩ := st.2.2.1
    refine ⟨n, hn, by rw [ne 33 (by omega)]; exact n1, by rw [ne 33 (by omega)]; exact n2, fun j x hx => LZ_fr (n3 j x hx) f (fun b x => by unfold pl; omega) (fun b x => x.elim)⟩
  · rw [ne 2 (by omega), ne 117 (by omega)]; exact st.2.2.2.2.1
  · rw [ne 118 (by omega)]; exact st.2.2.2.2.2
theorem IP_tld (I : IP h s) {x : Nat × Row} (f : Fr (fun b => b = 2 ∨ b = 117) (fun _ => False) h h') (e3 : gI h' 2 3 = gI h 2 3) (e : gI h' 2 7 = nI x.1) (r : ∀ i, i < x.1 → gI h' 117 i = x.2 i) : IP h' (tldS s x) := by
  have ne : ∀ b, ¬ (b = 2 ∨ b = 117) → gI h' b = gI h b := fun b hb => funext fun j => f.2.2.2 b hb j
  have st := I.2.2.2
  refine ⟨isP_fr I.1 f (fun b x => x.elim), by rw [Fr_nx f]; exact I.2.1, LZ_fr I.2.2.1 f (fun b x => by omega) (fun b x => x.elim), e3.trans st.1, fun x hx => LZ_fr (st.2.1 x hx) f (fun b x => by omega) (fun b x => x.elim), ?_, ?_, ⟨e, r⟩, ?_⟩
  · obtain ⟨n, hn, n1, n2, n3⟩ := st.2.2.1
    refine ⟨n, hn, by rw [ne 33 (by omega)]; exact n1, by rw [ne 33 (by omega)]; exact n2, fun j x hx => LZ_fr (n3 j x hx) f (fun b x => by unfold pl; omega) (fun b x => x.elim)⟩
  · rw [ne 115 (by omega), ne 116 (by omega)]; exact st.2.2.2.1
  · rw [ne 118 (by omega)]; exact st.2.2.2.2.2
theorem t_P_feed (o : okS s) (x : Int32) : PO m_P_feed [.int x] s (r_feed s x) := by
  intro h k I hk
  have w := pw I.1
  have st := I.2.2.2.2.2.2.1
  have h96 := o.2.2.2.2.1
  have main : wp m_P_feed h 26 [some (.ref 2), some (.int x), some (.int (noFd s x))] [] (tyI k) := by
    unfold r_feed at hk
    rw [e_P_feed_26]
    simp only [e_P_feed_46]
    by_cases e : noFd s x = 0
    · rw [if_pos e] at hk
      rw [if_pos e]
      have hl := fd_0 o e
      simp only [w, true_and]
      rw [c_Text_add]
      simp only [w, true_and, e_Text_add_22, st.1, tg_sI]
      rw [show Int32.ofNat 96 = nI 96 from rfl, if_neg (nI_ge hl (by decide)), ix_nI (by omega), gI_sI_ne _ _ _ _ (show ¬ (115 = 116 ∧ 1 = (zL s).1) by omega), st.1, nI_1, gI_sI_eq]
      have fr : Fr (fun b => b = 115 ∨ b = 116) (fun _ => False) h (sI (sI h 116 (zL s).1 x) 115 1 (nI ((zL s).1 + 1))) := Fr_trans (Fr_sI _ _ _ _ (Or.inr rfl)) (Fr_sI _ _ _ _ (Or.inl rfl))
      refine ⟨by decide, inb_nI hl (by decide), hk _ (IP_ltr I fr (gI_sI_eq _ _ _ _) (fun i hi => ?_)) (KQ_fr fr (fun b x => by omega) (fun b x => x.elim))⟩
      have hi' : i < (zL s).1 + 1 := hi
      rw [gI_sI_ne _ _ _ _ (by omega)]
      by_cases d : i = (zL s).1
      · subst d; rw [gI_sI_eq]; exact (rs_eq _ _ _).symm
      · rw [gI_sI_ne _ _ _ _ (fun z => d z.2), st.2 i (by omega)]; exact (rs_ne _ _ d).symm
    · rw [if_neg e] at hk
      rw [if_neg e]
      exact ⟨w.1, t_P_refused I (nK_Fd _ _ e) hk⟩
  rw [c_P_feed, s_P_outside]
  unfold noFd at main
  by_cases d : outN x 0 255 = 0
  · rw [if_pos d] at main
    rw [d, if_neg (fun z => z rfl)]
    simp only [w, true_and]
    rw [c_Text_isFull]
    simp only [w, true_and, e_Text_isFull_17, st.1]
    rw [show Int32.ofNat 96 = nI 96 from rfl]
    refine ⟨by decide, ?_⟩
    by_cases d2 : (zL s).1 = 96
    · rw [if_pos d2] at main
      rw [d2, if_neg (by decide), if_neg (by decide)]
      exact ⟨Or.inr trivial, main⟩
    · rw [if_neg d2] at main
      rw [if_pos (nI_lt (by omega) (by decide))]
      refine ⟨Or.inl trivial, ?_⟩
      rw [if_pos trivial]
      exact main
  · rw [if_neg d] at main
    rw [if_pos d]; exact main
theorem t_P_row (o : okS s) (x : Int32) : PO m_P_row [.int x] s (r_row s x) := by
  intro h k I hk
  have w := pw I.1
  have st := I.2.2.2.2.2.2.2.1
  have h12 := o.2.2.2.2.2
  have main : wp m_P_row h 27 [some (.ref 2), some (.int x), some (.int (noRw s x))] [] (tyI k) := by
    unfold r_row at hk
    rw [e_P_row_27]
    by_cases e : noRw s x = 0
    · rw [if_pos e] at hk
      rw [if_pos e]
      have hl := rw_0 o e
      simp only [w, true_and, e_P_row_59, st.1, tg_sI]
      rw [show Int32.ofNat 12 = nI 12 from rfl, if_neg (nI_ge hl (by decide)), ix_nI (by omega), gI_sI_ne _ _ _ _ (show ¬ (2 = 117 ∧ 7 = (zT s).1) by omega), st.1, nI_1, gI_sI_eq]
      have fr : Fr (fun b => b = 2 ∨ b = 117) (fun _ => False) h (sI (sI h 117 (zT s).1 x) 2 7 (nI ((zT s).1 + 1))) := Fr_trans (Fr_sI _ _ _ _ (Or.inr rfl)) (Fr_sI _ _ _ _ (Or.inl rfl))
      refine ⟨by decide, inb_nI hl (by decide), hk _ (IP_tld I fr (by rw [gI_sI_ne _ _ _ _ (by omega), gI_sI_ne _ _ _ _ (by omega)]) (gI_sI_eq _ _ _ _) (fun i hi => ?_)) (KQ_fr fr (fun b x => by omega) (fun b x => x.elim))⟩
      have hi' : i < (zT s).1 + 1 := hi
      rw [gI_sI_ne _ _ _ _ (by omega)]
      by_cases d : i = (zT s).1
      · subst d; rw [gI_sI_eq]; exact (rs_eq _ _ _).symm
      · rw [gI_sI_ne _ _ _ _ (fun z => d z.2), st.2 i (by omega)]; exact (rs_ne _ _ d).symm
    · rw [if_neg e] at hk
      rw [if_neg e]
      exact ⟨w.1, t_P_refused I (nK_Rw _ _ e) hk⟩
  rw [c_P_row, s_P_outside]
  unfold noRw at main
  by_cases d : outN x 0 99 = 0
  · rw [if_pos d] at main
    rw [d, if_neg (fun z => z rfl)]
    simp only [w, true_and, st.1]
    rw [show Int32.ofNat 12 = nI 12 from rfl]
    refine ⟨by decide, ?_⟩
    by_cases d2 : (zT s).1 = 12
    · rw [if_pos d2] at main
      rw [d2, if_neg (by decide)]
      exact main
    · rw [if_neg d2] at main
      rw [if_pos (nI_lt (by omega) (by decide))]
      exact main
  · rw [if_neg d] at main
    rw [if_pos d]; exact main
theorem IP_clr (I : IP h s) : IP (sI h 2 7 0) (clrS s) :=
  IP_tld I (Fr_sI _ _ _ _ (Or.inl rfl)) (gI_sI_ne _ _ _ _ (by omega)) (gI_sI_eq _ _ _ _) (fun i hi => absurd hi (Nat.not_lt_zero _))
theorem KQ_clr (h : PH) : KQ h (sI h 2 7 0) := KQ_cell 2 7 0 (by omega)
theorem t_P_clear : PO m_P_clear [] s (r_clear s) := by
  intro h k I hk
  rw [c_P_clear, I.2.2.2.2.2.2.2.1.1]
  exact ⟨I.1.1, I.1.1, hk _ (IP_clr I) (KQ_clr h)⟩
theorem t_P_judge (o : okS s) (x : Int32) : PO m_P_judge [.int x] s (r_judge s x) := by
  intro h k I hk
  have w := pw I.1
  have h5 := okf o
  have h12 := o.2.2.2.2.2
  have st := I.2.2.2.2.2.2.2.1
  rw [c_P_judge]
  simp only [w, true_and]
  rw [s_Ledger_lacksFamily (PL I).1 (PL I).2.2.1.1]
  show if nF (zC s) x = 0 then _ else _
  unfold r_judge at hk
  by_cases c : nF (zC s) x = 0
  · rw [if_pos c] at hk
    obtain ⟨f, hf, rfl⟩ := nF_0 h5 c
    rw [ix_nI (show f < 2 ^ 31 by omega)] at hk
    rw [if_pos c, c_P_clear, st.1]
    have I1 := IP_clr I
    have K1 := KQ_clr h
    have row1 : ∀ i, i < (zT s).1 → gI (sI h 2 7 0) 117 i = (zT s).2 i := fun i hi => by rw [gI_sI_ne _ _ _ _ (by omega)]; exact st.2 i hi
    refine ⟨w.1, w.1, w.1, ?_⟩
    generalize sI h 2 7 0 = h1 at I1 K1 row1 ⊢
    have w1 := pw I1.1
    simp only [w1, true_and]
    rw [Led_at (PL I1) (by omega)]
    refine ⟨w1.2.2.2.2.1.2.2.2.2.1, ?_⟩
    have fin : ∀ (h' : PH) (v : Int32), FT h1 h' → v = v_judge (zC s) (zT s) f → k h' v := fun h' v F e => by
      rw [e]; exact hk h' (IP_FT I1 F) (KQ_suf K1 F (fun b x => by omega) (fun b x => by omega))
    unfold v_judge at fin
    generalize hp0 : (fun n => decide (¬ (zT s).2 n = tld (hoR (Cm (goC n (zC s)) f)))) = p at fin
    refine t_im_copy I1 (FT_refl h1) (f := f) hf fun h2 F2 e2 _ => ?_
    generalize (if offN (nI f) (Cf (zC s)) then (-1 : Int32) else 0) = t
    refine hp (A := fun i h' => FT h1 h' ∧ Ew 7 (gI h' 119) (rYears (Cr (zC s)) (Cy (zC s)) i (fz (Cm (zC s) f))) ∧ fstF p 0 (zT s).1 = fstF p i ((zT s).1 - i)) (X := fun i h' => wp m_P_judge h' 42 [some (.ref 2), some (.int (nI f)), some (.int t), some (.int (nI (zT s).1)), some (.int (nI i))] [] (tyI k)) (zT s).1 ?_ ?_ 0 (Nat.zero_le _) h2 ⟨F2, e2, rfl⟩
    · intro h' ⟨F', e', q⟩
      rw [e_P_judge_42, if_pos (Int32.le_refl _)]
      exact fin h' _ F' (by rw [q, Nat.sub_self]; rfl)
    · intro i hi h' ⟨F', e', q⟩ ih
      have I' := IP_FT I1 F'
      have w' := pw I'.1
      rw [e_P_judge_42, if_neg (nI_ge hi (by omega))]
      simp only [w', true_and]
      rw [s_im_head I' e']
      have r117 : gI h' 117 i = (zT s).2 i := by rw [F'.2.2.2 117 (by omega)]; exact row1 i hi
      refine ⟨w'.1, ?_⟩
      rw [s_P_isTold I' (by omega), r117]
      have eh : hoR (rYears (Cr (zC s)) (Cy (zC s)) i (fz (Cm (zC s) f))) = hoR (Cm (goC i (zC s)) f) := hoR_e (rYears_e (fz_e _) _ _ (Or.inl rfl) i)
      rw [eh]
      have pe : p i = decide (¬ (zT s).2 i = tld (hoR (Cm (goC i (zC s)) f))) := by rw [← hp0]
      rw [fstF_step p hi] at q
      by_cases d : (zT s).2 i = tld (hoR (Cm (goC i (zC s)) f))
      · rw [if_neg (by rw [pe]; simp [d])] at q
        rw [if_pos d, if_pos (by decide)]
        simp only [w', true_and]
        rw [(PL I').2.2.1.2.2.1, (PL I').2.2.1.2.2.2]
        refine t_im_year I1 F' e' fun h3 F3 e3 => ?_
        rw [nI_1]
        refine ih h3 ⟨F3, ?_, q⟩
        have ey : Cy (zC s) + nI i + 1 = Cy (zC s) + nI (i + 1) := by rw [Int32.add_assoc, nI_1]
        have e3 : Ew 7 (gI h3 119) (rYear (Cr (zC s)) (Cy (zC s) + nI i + 1) (rYears (Cr (zC s)) (Cy (zC s)) i (fz (Cm (zC s) f)))) := e3
        rw [ey] at e3
        exact e3
      · rw [if_pos (by rw [pe]; simp [d])] at q
        rw [if_neg d, if_neg (fun z => z rfl)]
        exact fin h' _ F' q.symm
  · rw [if_neg c] at hk
    rw [if_neg c]
    exact ⟨w.1, t_P_refused I (nK_F _ _ c) hk⟩
theorem t_P_image : PO m_P_image [] s (r_image s) := by
  intro h k I hk
  have w := pw I.1
  have st := I.2.2.2
  rw [c_P_image]
  simp only [w, true_and]
  refine t_Ledger_copy (PL I) (PB I) I.1.2.2.2.2.2.2.1.2.2 (Or.inr (by decide)) fun h1 fr1 L1 B1 => ?_
  generalize hF : sI h1 2 3 1 = h2
  have fr2 : Fr (fun b => b = 2) (fun _ => False) h1 h2 := by rw [← hF]; exact Fr_sI _ _ _ _ rfl
  have frA : Fr (fun b => (23 ≤ b ∧ b ≤ 31) ∨ b = 2) (fun b => b = 30) h h2 := Fr_trans (Fr_mono fr1 (fun b x => Or.inl x) (fun b x => x)) (Fr_mono fr2 (fun b x => Or.inr x) (fun b x => x.elim))
  have ip : isP h2 := isP_fr I.1 frA (fun b x => by omega)
  have w2 := pw ip
  have L3 : LZ h2 3 s.1 := LZ_fr I.2.2.1 frA (fun b x => by omega) (fun b x => by omega)
  have e2 : ∀ j, j ≠ 3 → gI h2 2 j = gI h 2 j := fun j hj => by rw [← hF, gI_sI_ne _ _ _ _ (fun z => hj z.2), fr1.2.2.2 2 (by omega)]
  have ne : ∀ b, ¬ ((23 ≤ b ∧ b ≤ 31) ∨ b = 2) → gI h2 b = gI h b := fun b hb => funext fun j => frA.2.2.2 b hb j
  refine ⟨⟨(Fr_tg fr1 2).trans w.1, Or.inr trivial⟩, w2.1, ?_⟩
  simp only [w2, true_and]
  rw [L3.1.2.2.1.2.2.1]
  refine hk h2 ⟨ip, by rw [Fr_nx frA]; exact I.2.1, L3, ?_, fun x hx => ?_, ?_, ?_, ?_, ?_⟩ (KQ_fr frA (fun b x => by omega) (fun b x => by omega))
  · rw [← hF, gI_sI_eq]; rfl
  · have : x = s.1 := by
      have hx : (some s.1 : Option Zl) = some x := hx
      injection hx with hx
      exact hx.symm
    rw [this]
    exact LZ_fr ⟨L1, B1⟩ fr2 (fun b x => by omega) (fun b x => x.elim)
  · obtain ⟨n, hn, n1, n2, n3⟩ := st.2.2.1
    refine ⟨n, hn, by rw [ne 33 (by omega)]; exact n1, by rw [ne 33 (by omega)]; exact n2, fun j x hx => LZ_fr (n3 j x hx) frA (fun b x => by unfold pl; omega) (fun b x => by unfold pl; omega)⟩
  · rw [ne 115 (by omega), ne 116 (by omega)]; exact st.2.2.2.1
  · rw [e2 7 (by decide), ne 117 (by omega)]; exact st.2.2.2.2.1
  · rw [ne 118 (by omega)]; exact st.2.2.2.2.2
theorem t_P_restore (o : okS s) : PO m_P_restore [] s (r_restore s) := by
  intro h k I hk
  have w := pw I.1
  have st := I.2.2.2
  rw [c_P_restore]
  simp only [w, true_and]
  rw [st.1]
  unfold r_restore at hk
  cases hz : zI s with
  | none =>
    rw [hz] at hk
    rw [if_neg (by decide)]
    exact t_P_refused I (by unfold noK; simp) hk
  | some z =>
    rw [hz] at hk
    have Z := st.2.1 z hz
    rw [if_pos (show ¬ (if (some z).isSome = true then (1 : Int32) else 0) = 0 from by simp)]
    refine t_Ledger_copy Z.1 Z.2 I.1.2.2.2.2.2.2.1.1 (Or.inl (by decide)) fun h1 fr1 L1 B1 => ?_
    have I1 : IP h1 (nowS s z) := IP_now I (Og_fr fr1) (fun b x => Or.inl (by omega)) (fun b x => Or.inl (by omega)) ⟨L1, B1⟩
    have w1 := pw I1.1
    have I2 := IP_forget I1
    simp only [w1, true_and]
    rw [c_Past_forget]
    have w2 := pw I2.1
    refine ⟨w1.2.2.1.1, ?_⟩
    simp only [w2, true_and]
    rw [I2.2.2.1.1.2.2.1.2.2.1]
    exact hk _ I2 (KQ_pre fr1 (fun b x => by omega) (fun b x => by omega) (KQ_cell 33 2 0 (by omega)))
theorem cnt_is {x : Int32} {i : Nat} (e : x - 11 = nI i) : x = nI (i + 11) := by
  have : x - 11 + 11 = x := Int32.sub_add_cancel x 11
  rw [← this, e, show (11 : Int32) = nI 11 from rfl, nI_add]
theorem cnt_x {x : Int32} (d : ¬ offN (x - 11) 6) : ∃ i, i < 6 ∧ x - 11 = nI i ∧ x - 10 = nI (i + 1) := by
  obtain ⟨i, hi, e⟩ := on_nI (by decide) d
  refine ⟨i, hi, e, ?_⟩
  rw [cnt_is e, show (10 : Int32) = nI 10 from rfl, nI_subI (by omega)]
  congr 1
theorem cnt_lo {x : Int32} {i : Nat} (hi : i < 6) (e : x - 11 = nI i) : ¬ x ≤ 10 := by
  rw [cnt_is e]
  exact nI_ge (a := 10) (by omega) (by omega)
theorem cnt_hi {x : Int32} (e : offN (x - 11) 6) (e2 : ¬ x ≤ 10) : nI 7 ≤ x - 10 := by
  have h0 : ¬ x < 0 := fun z => e2 (Int32.le_of_lt (Int32.lt_of_lt_of_le z (by decide)))
  obtain ⟨m, hm, rfl⟩ := nI_of h0
  have h1 : 10 < m := Nat.lt_of_not_le fun z => e2 (nI_le (b := 10) z (by decide))
  rw [show (11 : Int32) = nI 11 from rfl, nI_subI (by omega)] at e
  have h2 : ¬ m - 11 < 6 := fun z => nI_on (by decide) z e
  rw [show (10 : Int32) = nI 10 from rfl, nI_subI (by omega)]
  exact nI_le (by omega) (by omega)
theorem t_P_count (o : okS s) (x : Int32) : PQ m_P_count [.int x] s 0 (v_count s x) := by
  intro h k I _ hv
  have hv' := hv rfl h (FT_refl h)
  have w := pw I.1
  have L := PL I
  have h5 := okf o
  have st := I.2.2.2
  obtain ⟨n, hn, n1, n2, n3⟩ := st.2.2.1
  rw [c_P_count, e_P_count_1]
  simp only [w, true_and]
  unfold v_count at hv'
  by_cases d0 : x = 0
  · rw [if_pos d0] at hv'
    rw [if_pos d0, L.2.2.1.1]; exact hv'
  rw [if_neg d0] at hv'
  rw [if_neg d0]
  by_cases d1 : x = 1
  · rw [if_pos d1] at hv'
    rw [if_pos d1, L.2.2.1.2.1]; exact hv'
  rw [if_neg d1] at hv'
  rw [if_neg d1]
  by_cases d2 : x = 2
  · rw [if_pos d2] at hv'
    rw [if_pos d2, L.2.2.1.2.2.1]; exact hv'
  rw [if_neg d2] at hv'
  rw [if_neg d2]
  by_cases d3 : x = 3
  · rw [if_pos d3] at hv'
    rw [if_pos d3, L.2.2.1.2.2.2]; exact hv'
  rw [if_neg d3] at hv'
  rw [if_neg d3]
  by_cases d4 : x = 4
  · rw [if_pos d4] at hv'
    rw [if_pos d4, s_Ledger_everybody L.1 L.2.2.1.1 h5]
    simp only [w, true_and]
    rw [s_allHeads L]; exact hv'
  rw [if_neg d4] at hv'
  rw [if_neg d4]
  by_cases d5 : x = 5
  · rw [if_pos d5] at hv'
    rw [if_pos d5, u_Ledger_allDebts L]; exact hv'
  rw [if_neg d5] at hv'
  rw [if_neg d5]
  by_cases d6 : x = 6
  · rw [if_pos d6] at hv'
    rw [if_pos d6, (PB I).2.1]; exact hv'
  rw [if_neg d6] at hv'
  rw [if_neg d6]
  by_cases d7 : x = 7
  · rw [if_pos d7] at hv'
    rw [if_pos d7, st.2.2.2.1.1]; exact hv'
  rw [if_neg d7] at hv'
  rw [if_neg d7]
  by_cases d8 : x = 8
  · rw [if_pos d8] at hv'
    rw [if_pos d8, st.2.2.2.2.1.1]; exact hv'
  rw [if_neg d8] at hv'
  rw [if_neg d8]
  by_cases d9 : x = 9
  · rw [if_pos d9] at hv'
    rw [if_pos d9, n2]; exact hv'
  rw [if_neg d9] at hv'
  rw [if_neg d9]
  simp only [e_P_count_170, e_P_count_172]
  by_cases e : offN (x - 11) 6
  · rw [if_pos e] at hv'
    by_cases e2 : x ≤ 10
    · rw [if_pos e2]; exact hv'
    · rw [if_neg e2]
      refine ⟨by decide, ?_⟩
      rw [show Int32.ofNat 7 = nI 7 from rfl, if_pos (cnt_hi e e2)]
      exact hv'
  · rw [if_neg e] at hv'
    obtain ⟨i, hi, e1, e2⟩ := cnt_x e
    rw [e1, ix_nI (by omega)] at hv'
    rw [if_neg (cnt_lo hi e1), e2, show Int32.ofNat 7 = nI 7 from rfl, if_neg (nI_ge (by omega) (by decide)), ix_nI (by omega)]
    simp only [true_or, true_and, inb_nI (show i + 1 < 7 by omega) (show 7 < 2 ^ 31 by decide)]
    rw [st.2.2.2.2.2 (i + 1) (by omega)]
    exact ⟨by decide, hv'⟩
end IoP
