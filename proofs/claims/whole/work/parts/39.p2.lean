/-! ===== the class: behind, all, solvent, lump, first, highest, peak, interest, doubled, births ===== -/
def lumpR (x y v : Int32) : Nat → Row → Row
  | 0, r => r
  | n + 1, r => rPay v (rYear x (y + nI n + 1) (lumpR x y v n r))
theorem lumpR_e {r r' : Row} (e : Ew 4 r r') (x y v : Int32) : ∀ n, Ew 4 (lumpR x y v n r) (lumpR x y v n r')
  | 0 => e
  | n + 1 => rPay_e (by decide) (rYear_e (lumpR_e e x y v n) _ _ (Or.inl rfl)) _ (by omega)
def v_free (c : Core) (f : Nat) (v : Int32) : Int32 := fstF (fun n => decide (lumpR (Cr c) (Cy c) v n (Cm c f) 1 = 0)) 0 101
def v_firstFree (c : Core) : Int32 := (mnF (-9) 101 (fun f => decide (¬ v_free c f 0 = -9)) (fun f => v_free c f 0) (Cf c)).1
def v_grow (c : Core) : Int32 := bm (fun f => decide (¬ Cm (goC 1 c) f 1 ≤ Cm c f 1)) (Cf c)
def v_stuck (c : Core) : Int32 := fstF (fun n => anyN (fun f => decide (Cm (goC n c) f 1 = 99999)) (Cf c)) 0 101
def v_rate (c : Core) (f n : Nat) : Int32 := lstF (fun x => decide (rYears (nI x) (Cy c) n (Cm c f) 1 = 0)) 21
def v_pay (c : Core) (f n : Nat) : Int32 := fstF (fun x => decide (rYears (Cr c) (Cy c) n (rs (Cm c f) 2 (nI x)) 1 = 0)) 0 10
def pkN (c : Core) (f : Nat) : Nat → Int32 × Int32
  | 0 => (Cm c f 1, 0)
  | n + 1 => if Cm (goC (n + 1) c) f 1 ≤ (pkN c f n).1 then pkN c f n else (Cm (goC (n + 1) c) f 1, nI (n + 1))
def v_doubled (c : Core) (f : Nat) : Int32 := if Cm c f 1 ≤ 0 then -9 else fstF (fun n => decide (¬ Cm (goC n c) f 1 < 2 * Cm c f 1)) 1 100
def v_births (c : Core) (f n : Nat) : Int32 := (mnF 0 2147483647 (fun _ => true) (fun b => hoR (rYears (Cr c) (Cy c) n (rs (Cm c f) 3 (nI b)))) 10).1
def v_half (c : Core) : Int32 := fstF (fun n => decide (¬ debtsC c < 2 * debtsC (goC n c))) 0 101
def v_crosses (c : Core) (f g : Nat) : Int32 := fstF (fun n => decide (¬ hoR (Cm (goC n c) g) ≤ hoR (Cm (goC n c) f))) 0 101
theorem okf {s : Sta} (o : okS s) : Cf (zC s) ≤ 5 := o.1.1.1.1
theorem okw {s : Sta} (o : okS s) : Cw (zC s) ≤ 6 := o.1.1.1.2
section P2
variable {h h0 : PH} {s : Sta} {c : Core} {f n : Nat}
theorem t_P_freeBehind (I : IP h0 s) (F : FT h0 h) (hf : f < Cf (zC s)) (v : Int32) {k : PH → Int32 → Prop} (hk : ∀ h', FT h0 h' → k h' (v_free (zC s) f v)) : ccI m_P_freeBehind h [.ref 2, .int (nI f), .int v] k := by
  have I1 := IP_FT I F
  have w := pw I1.1
  have L := PL I1
  have h5 := L.2.1.1
  rw [c_P_freeBehind]
  simp only [w, true_and]
  rw [Led_at L (by omega)]
  simp only [w, true_and]
  refine t_im_copy I F hf fun h2 F2 e2 _ => ?_
  generalize hp' : (fun n => decide (lumpR (Cr (zC s)) (Cy (zC s)) v n (Cm (zC s) f) 1 = 0)) = p
  have hv : v_free (zC s) f v = fstF p 0 101 := by rw [← hp']; rfl
  refine hp (A := fun j h' => FT h0 h' ∧ Ew 7 (gI h' 119) (lumpR (Cr (zC s)) (Cy (zC s)) v j (fz (Cm (zC s) f))) ∧ v_free (zC s) f v = fstF p j (101 - j)) (X := fun j h' => wp m_P_freeBehind h' 17 [some (.ref 2), some (.int (nI f)), some (.int v), some (.int (nI j))] [] (tyI k)) 101 ?_ ?_ 0 (Nat.zero_le _) h2 ⟨F2, e2, hv⟩
  · intro h' ⟨F', _, hv'⟩
    rw [e_P_freeBehind_17, if_pos (show (100 : Int32) < nI 101 by decide)]
    have := hk h' F'
    rw [hv'] at this
    exact this
  · intro j hj h' ⟨F', e', hv'⟩ ih
    have I' := IP_FT I F'
    have w' := pw I'.1
    have L' := PL I'
    rw [e_P_freeBehind_17, if_neg (show ¬ (100 : Int32) < nI j from nI_nlt (a := 100) (by omega) (by decide))]
    simp only [w', true_and]
    have hd : gI h' 119 1 = lumpR (Cr (zC s)) (Cy (zC s)) v j (Cm (zC s) f) 1 := (e' 1 (by decide)).trans (lumpR_e (fz_e _) _ _ _ j 1 (by decide))
    have hpj : p j = decide (gI h' 119 1 = 0) := by rw [← hp', hd]
    rw [fstF_step p hj, hpj] at hv'
    by_cases d : gI h' 119 1 = 0
    · rw [if_neg (fun z => z d)]
      rw [decide_eq_true d, if_pos rfl] at hv'
      have := hk h' F'
      rw [hv'] at this
      exact this
    · rw [if_pos d]
      rw [decide_eq_false d, if_neg (by decide)] at hv'
      rw [L'.2.2.1.2.2.1, L'.2.2.1.2.2.2]
      refine t_im_year I F' e' fun h3 F3 e3 => ?_
      have w3 := pw (IP_FT I F3).1
      simp only [w3, true_and]
      refine t_im_pay I F3 e3 fun h4 F4 e4 => ?_
      rw [nI_1]
      exact ih h4 ⟨F4, e4, hv'⟩
theorem t_P_lump (o : okS s) (x y : Int32) : PQ m_P_lump [.int x, .int y] s (th (nF (zC s) x) (outN y 0 9999)) (v_free (zC s) (ix x) y) := by
  intro h k I hr hv
  have w := pw I.1
  have L := PL I
  have e22 : wp m_P_lump h 22 [some (.ref 2), some (.int x), some (.int y), some (.int (th (nF (zC s) x) (outN y 0 9999)))] [] (tyI k) := by
    rw [e_P_lump_22]
    simp only [e_P_lump_40]
    by_cases c : th (nF (zC s) x) (outN y 0 9999) = 0
    · obtain ⟨f, hf, rfl⟩ := nF_0 (okf o) (th_0.mp c).1
      have h5 := okf o
      rw [if_pos c]
      refine ⟨w.1, t_P_freeBehind I (FT_refl h) hf y fun h' F' => ?_⟩
      have := hv c h' F'
      rw [ix_nI (by omega)] at this
      exact this
    · rw [if_neg c]
      exact ⟨w.1, hr c h (FT_refl h)⟩
  rw [c_P_lump]
  simp only [w, true_and]
  rw [s_Ledger_lacksFamily L.1 L.2.2.1.1]
  simp only [s_P_outside]
  exact th_if (X := fun t => wp m_P_lump h 22 [some (.ref 2), some (.int x), some (.int y), some (.int t)] [] (tyI k)) e22
theorem t_P_solvent (o : okS s) (x : Int32) : PQ m_P_solvent [.int x] s (nF (zC s) x) (v_free (zC s) (ix x) 0) := by
  intro h k I hr hv
  have w := pw I.1
  have L := PL I
  rw [c_P_solvent]
  simp only [w, true_and]
  rw [s_Ledger_lacksFamily L.1 L.2.2.1.1]
  simp only [w, true_and, e_P_solvent_27]
  show if nF (zC s) x = 0 then ccI m_P_freeBehind h [.ref 2, .int x, .int 0] k else ccI m_P_refused h [.ref 2, .int (nF (zC s) x)] k
  by_cases c : nF (zC s) x = 0
  · obtain ⟨f, hf, rfl⟩ := nF_0 (okf o) c
    have h5 := okf o
    rw [if_pos c]
    refine t_P_freeBehind I (FT_refl h) hf 0 fun h' F' => ?_
    have := hv c h' F'
    rw [ix_nI (by omega)] at this
    exact this
  · rw [if_neg c]
    exact hr c h (FT_refl h)
def v_behind (c : Core) (x y z : Int32) : Int32 := if z = 0 then Cm (goC (ix y) c) (ix x) 1 else if z = 1 then Cm (goC (ix y) c) (ix x) 0 else hoR (Cm (goC (ix y) c) (ix x))
theorem t_P_behind (o : okS s) (x y z : Int32) : PQ m_P_behind [.int x, .int y, .int z] s (th (th (nF (zC s) x) (outN y 0 100)) (othN z 2)) (v_behind (zC s) x y z) := by
  intro h k I hr hv
  have w := pw I.1
  rw [c_P_behind]
  refine ⟨w.1, ?_⟩
  rw [s_P_noFamilyAhead I]
  simp only [s_P_otherThan]
  refine th_if (X := fun t => wp m_P_behind h 20 [some (.ref 2), some (.int x), some (.int y), some (.int z), some (.int t)] [] (tyI k)) ?_
  rw [e_P_behind_20]
  by_cases c : th (th (nF (zC s) x) (outN y 0 100)) (othN z 2) = 0
  · have c1 := th_0.mp (th_0.mp c).1
    obtain ⟨f, hf, rfl⟩ := nF_0 (okf o) c1.1
    obtain ⟨n, hn, rfl, _, hn2⟩ := outN_0 (lo := 0) (hi := 100) (by decide) c1.2
    have h5 := okf o
    rw [if_pos c]
    refine ⟨w.1, t_P_ahead I (FT_refl h) hf (by omega) fun h' F' e' _ => ?_⟩
    have w' := pw (IP_FT I F').1
    have hv' := hv c h' F'
    unfold v_behind at hv'
    rw [ix_nI (show f < 2 ^ 31 by omega), ix_nI hn] at hv'
    have e4 := e4_go e'
    rw [e_P_behind_39]
    simp only [w', true_and]
    rw [s_im_head (IP_FT I F') e', hoR_e (Ew_trans (Ew_sym (Ew_le (by decide) e')) e4), e4 1 (by decide), e4 0 (by decide)]
    by_cases c2 : z = 0
    · rw [if_pos c2] at hv' ⊢; exact hv'
    · rw [if_neg c2] at hv' ⊢
      by_cases c3 : z = 1
      · rw [if_pos c3] at hv' ⊢; exact hv'
      · rw [if_neg c3] at hv' ⊢; exact hv'
  · rw [if_neg c]
    exact ⟨w.1, hr c h (FT_refl h)⟩
theorem t_P_all (o : okS s) (y : Int32) : PQ m_P_all [.int y] s (outN y 0 100) (debtsC (goC (ix y) (zC s))) := by
  intro h k I hr hv
  have w := pw I.1
  rw [c_P_all, s_P_notAhead]
  by_cases c : outN y 0 100 = 0
  · obtain ⟨n, hn, rfl, _, hn2⟩ := outN_0 (lo := 0) (hi := 100) (by decide) c
    rw [if_pos c]
    simp only [w, true_and]
    refine t_mind_copy I (FT_refl h) fun h1 F1 L1 _ => ?_
    have w1 := pw (IP_FT I F1).1
    simp only [w1, true_and]
    refine t_mind_behind F1 L1 (by omega) fun h2 F2 _ => ?_
    have := hv c h2 F2
    rw [ix_nI hn] at this
    exact this
  · rw [if_neg c]
    exact ⟨w.1, hr c h (FT_refl h)⟩
theorem t_P_firstFree (I : IP h0 s) (o : okS s) (F : FT h0 h) {k : PH → Int32 → Prop} (hk : ∀ h', FT h0 h' → k h' (v_firstFree (zC s))) : ccI m_P_firstFree h [.ref 2] k := by
  have h5 := okf o
  rw [c_P_firstFree]
  refine hp (A := fun _ h' => FT h0 h') (X := fun j h' => ∀ q, wp m_P_firstFree h' 8 [some (.ref 2), some (.int (mnF (-9) 101 (fun f => decide (¬ v_free (zC s) f 0 = -9)) (fun f => v_free (zC s) f 0) j).1), some (.int (mnF (-9) 101 (fun f => decide (¬ v_free (zC s) f 0 = -9)) (fun f => v_free (zC s) f 0) j).2), some (.int (nI j)), q] [] (tyI k)) (Cf (zC s)) ?_ ?_ 0 (Nat.zero_le _) h F none
  · intro h' F' q
    have I' := IP_FT I F'
    have w' := pw I'.1
    rw [e_P_firstFree_8]
    simp only [w', true_and]
    rw [(PL I').2.2.1.1, if_pos (Int32.le_refl _)]
    exact hk h' F'
  · intro j hj h' F' ih q
    have I' := IP_FT I F'
    have w' := pw I'.1
    rw [e_P_firstFree_8]
    simp only [w', true_and]
    rw [(PL I').2.2.1.1, if_neg (nI_ge hj (by omega))]
    refine t_P_freeBehind I F' hj 0 fun h1 F1 => ?_
    have ih' := ih h1 F1
    simp only [mnF, mnU, decide_eq_true_eq] at ih'
    simp only [e_P_firstFree_45, nI_1]
    by_cases d1 : v_free (zC s) j 0 = -9
    · rw [if_pos d1]
      rw [if_neg (fun z => z.1 d1)] at ih'
      exact ih' _
    · rw [if_neg d1]
      by_cases d2 : v_free (zC s) j 0 < (mnF (-9) 101 (fun f => decide (¬ v_free (zC s) f 0 = -9)) (fun f => v_free (zC s) f 0) j).2
      · rw [if_neg (Int32.not_le.mpr d2)]
        rw [if_pos ⟨d1, d2⟩] at ih'
        exact ih' _
      · rw [if_pos (Int32.not_lt.mp d2)]
        rw [if_neg (fun z => d2 z.2)] at ih'
        exact ih' _
theorem t_P_growing (I : IP h0 s) (o : okS s) (F : FT h0 h) {k : PH → Int32 → Prop} (hk : ∀ h', FT h0 h' → k h' (v_grow (zC s))) : ccI m_P_growing h [.ref 2] k := by
  have h5 := okf o
  rw [c_P_growing]
  refine hp (A := fun _ h' => FT h0 h') (X := fun j h' => wp m_P_growing h' 4 [some (.ref 2), some (.int (bm (fun f => decide (¬ Cm (goC 1 (zC s)) f 1 ≤ Cm (zC s) f 1)) j)), some (.int (nI j))] [] (tyI k)) (Cf (zC s)) ?_ ?_ 0 (Nat.zero_le _) h F
  · intro h' F'
    have I' := IP_FT I F'
    have w' := pw I'.1
    rw [e_P_growing_4]
    simp only [w', true_and]
    rw [(PL I').2.2.1.1, if_pos (Int32.le_refl _)]
    exact hk h' F'
  · intro j hj h' F' ih
    have I' := IP_FT I F'
    have w' := pw I'.1
    rw [e_P_growing_4]
    simp only [w', true_and]
    rw [(PL I').2.2.1.1, if_neg (nI_ge hj (by omega))]
    refine t_P_ahead I F' hj (n := 1) (by decide) fun h1 F1 e1 _ => ?_
    have I1 := IP_FT I F1
    have w1 := pw I1.1
    have L1 := PL I1
    have e4 := e4_go e1
    have ih' := ih h1 F1
    simp only [bm, decide_eq_true_eq] at ih'
    simp only [w1, true_and]
    rw [Led_at L1 (by omega)]
    simp only [Led_tgf L1 (show j < 5 by omega), true_and]
    rw [e4 1 (by decide), L1.2.2.2.1 j hj 1 (by decide)]
    simp only [e_P_growing_48, nI_1]
    by_cases d : Cm (goC 1 (zC s)) j 1 ≤ Cm (zC s) j 1
    · rw [if_pos d]
      rw [if_neg (fun z => z d)] at ih'
      exact ih'
    · rw [if_neg d]
      rw [if_pos d] at ih'
      exact ih'
theorem t_P_firstStuck (I : IP h0 s) (o : okS s) (F : FT h0 h) {k : PH → Int32 → Prop} (hk : ∀ h', FT h0 h' → k h' (v_stuck (zC s))) : ccI m_P_firstStuck h [.ref 2] k := by
  have w := pw (IP_FT I F).1
  rw [c_P_firstStuck]
  simp only [w, true_and]
  refine t_mind_copy I F fun h1 F1 L1 _ => ?_
  generalize hp' : (fun n => anyN (fun f => decide (Cm (goC n (zC s)) f 1 = 99999)) (Cf (zC s))) = p
  have hv : v_stuck (zC s) = fstF p 0 101 := by rw [← hp']; rfl
  refine hp (A := fun j h' => FT h0 h' ∧ Led h' 13 (goC j (zC s)) ∧ v_stuck (zC s) = fstF p j (101 - j)) (X := fun j h' => wp m_P_firstStuck h' 13 [some (.ref 2), some (.int (nI j))] [] (tyI k)) 101 ?_ ?_ 0 (Nat.zero_le _) h1 ⟨F1, by rw [goC_0]; exact L1, hv⟩
  · intro h' ⟨F', _, hv'⟩
    rw [e_P_firstStuck_13, if_pos (show (100 : Int32) < nI 101 by decide)]
    have := hk h' F'
    rw [hv'] at this
    exact this
  · intro j hj h' ⟨F', L', hv'⟩ ih
    have w' := pw (IP_FT I F').1
    rw [e_P_firstStuck_13, if_neg (show ¬ (100 : Int32) < nI j from nI_nlt (a := 100) (by omega) (by decide))]
    simp only [w', true_and]
    rw [s_Ledger_isStuck L'.1 L'.2.2.1.1 L'.2.1.1]
    have e1 : anyN (fun f => decide (gI h' (13 + 2 + f) 1 = 99999)) (Cf (goC j (zC s))) = p j := by
      rw [← hp']
      exact anyN_c fun f hf => by rw [L'.2.2.2.1 f hf 1 (by decide)]
    rw [e1]
    rw [fstF_step p hj] at hv'
    by_cases d : p j = true
    · rw [if_pos d, if_neg (by decide)]
      rw [if_pos d] at hv'
      have := hk h' F'
      rw [hv'] at this
      exact this
    · rw [if_neg d, if_pos rfl]
      rw [if_neg d] at hv'
      simp only [w', true_and]
      refine t_mind_year F' L' fun h2 F2 L2 => ?_
      rw [nI_1]
      rw [goC_1] at L2
      exact ih h2 ⟨F2, L2, hv'⟩
def v_first (c : Core) (x : Int32) : Int32 := if x = 0 then v_firstFree c else if x = 1 then v_grow c else v_stuck c
theorem t_P_first (o : okS s) (x : Int32) : PQ m_P_first [.int x] s (othN x 2) (v_first (zC s) x) := by
  intro h k I hr hv
  have w := pw I.1
  rw [c_P_first, e_P_first_1]
  simp only [w, true_and]
  unfold v_first at hv
  by_cases c0 : x = 0
  · rw [if_pos c0]
    rw [if_pos c0] at hv
    exact t_P_firstFree I o (FT_refl h) (hv (by rw [c0]; decide))
  rw [if_neg c0]
  rw [if_neg c0] at hv
  by_cases c1 : x = 1
  · rw [if_pos c1]
    rw [if_pos c1] at hv
    exact t_P_growing I o (FT_refl h) (hv (by rw [c1]; decide))
  rw [if_neg c1]
  rw [if_neg c1] at hv
  by_cases c2 : x = 2
  · rw [if_pos c2]
    exact t_P_firstStuck I o (FT_refl h) (hv (by rw [c2]; decide))
  rw [if_neg c2]
  have hn : ¬ othN x 2 = 0 := fun z => by
    obtain ⟨i, hi, rfl⟩ := oth_0 (m := 2) (by decide) z
    have : i = 0 ∨ i = 1 ∨ i = 2 := by omega
    rcases this with rfl | rfl | rfl
    · exact c0 rfl
    · exact c1 rfl
    · exact c2 rfl
  have e : othN x 2 = -2 := by
    unfold othN at hn ⊢
    by_cases d : x < 0 ∨ 2 < x
    · rw [if_pos d]
    · rw [if_neg d] at hn; exact absurd rfl hn
  have := hr hn h (FT_refl h)
  rw [e] at this
  exact this
end P2
