/-! ===== shares by heads, alike ===== -/
section Share2
variable {h : PH} {a : Nat} {c : Core}
theorem t_Ledger_shareByHeads (L : isLed h a) {nf : Nat} (h0 : gI h a 0 = nI nf) (hn : nf ≤ 5) (l : Int32) {m : Nat} (hm : m < 64) {hd : Int32} (hhd : hd = sumN (fun f => if bt (nI m) f = true then gI h (a + 2 + f) 0 else 0) nf)
    {s : Nat → Int32} (hs : ∀ f, s f = if bt (nI m) f = true ∧ ¬ hd ≤ 0 then l * gI h (a + 2 + f) 0 / hd else 0) {k : PH → Prop}
    (hk : ∀ h', Fr (fun x => x = a + 9) (fun _ => False) h h' → (∀ f, f < 5 → gI h' (a + 9) f = shr s (bt (nI m)) l f) → k h') : ccV m_Ledger_shareByHeads h [.ref a, .int l, .int (nI m)] k := by
  rw [c_Ledger_shareByHeads]
  refine ⟨L.1, ?_⟩
  rw [s_Ledger_headsOf L h0 hn, ← hhd]
  refine hp (A := fun i h' => Fr (fun x => x = a + 9) (fun _ => False) h h' ∧ (∀ f, f < i → gI h' (a + 9) f = s f))
    (X := fun i h' => ∀ q, wp m_Ledger_shareByHeads h' 12 [some (.ref a), some (.int l), some (.int (nI m)), some (.int hd), some (.int (lftN s l i)), some (.int (nI i)), q] [] (tyV k)) 5 ?_ ?_ 0 (Nat.zero_le _) h ⟨Fr_refl _ _ _, fun f hf => absurd hf (by omega)⟩ none
  · intro h' ⟨fr, e⟩ q
    have L' := isLed_fr L fr (fun x => x) (fun x => x)
    rw [e_Ledger_shareByHeads_12]
    simp only [L'.1, L'.2.1.2.2.2, L'.2.2.2.2.2.2.1.1, L'.2.2.2.2.2.2.1.2, true_and]
    rw [show Int32.ofNat 5 = nI 5 from rfl, if_pos (Int32.le_refl _)]
    refine ⟨by decide, t_Ledger_shareLeftOver L' _ hm fun h2 fr2 e2 => hk h2 (Fr_trans fr fr2) fun f hf => ?_⟩
    rw [e2 f hf, e f hf]
    rfl
  · intro i hi h' ⟨fr, e⟩ ih q
    have L' := isLed_fr L fr (fun x => x) (fun x => x)
    have step : ∀ y q', y = s i → wp m_Ledger_shareByHeads (sI h' (a + 9) i y) 12 [some (.ref a), some (.int l), some (.int (nI m)), some (.int hd), some (.int (lftN s l i - y)), some (.int (nI (i + 1))), q'] [] (tyV k) := by
      intro y q' hy
      have : lftN s l i - y = lftN s l (i + 1) := by rw [hy]; rfl
      rw [this]
      refine ih _ ⟨Fr_trans fr (Fr_sI _ _ _ _ rfl), fun f hf => ?_⟩ q'
      rw [sI_wR, gI_wR]
      by_cases c4 : f = i
      · subst c4; rw [rs_eq, hy]
      · rw [rs_ne _ _ c4]; exact e f (by omega)
    have hq := inb_nI hi (show 5 < 2 ^ 31 by decide)
    have e71 : ∀ y q', y = s i → wp m_Ledger_shareByHeads h' 71 [some (.ref a), some (.int l), some (.int (nI m)), some (.int hd), some (.int (lftN s l i)), some (.int (nI i)), some (.int q')] [.int y, .int (nI i), .ref (a + 9)] (tyV k) := by
      intro y q' hy
      rw [e_Ledger_shareByHeads_71, ix_nI (by omega)]
      have fr3 : Fr (fun x => x = a + 9) (fun _ => False) h' (sI h' (a + 9) i y) := Fr_sI _ _ _ _ rfl
      have L3 := isLed_fr L' fr3 (fun x => x) (fun x => x)
      simp only [L3.1, L'.2.2.2.2.2.2.1.1, L'.2.2.2.2.2.2.1.2, L3.2.1.2.2.2, L3.2.2.2.2.2.2.1.1, L3.2.2.2.2.2.2.1.2, true_and, true_or, hq, nI_1]
      have : gI (sI h' (a + 9) i y) (a + 9) i = y := by rw [sI_wR, gI_wR, rs_eq]
      rw [this]
      exact step y _ hy
    have h0' : gI h' (a + 2 + i) 0 = gI h (a + 2 + i) 0 := fr.2.2.2 _ (by omega) _
    rw [e_Ledger_shareByHeads_12]
    simp only [L'.1, L'.2.1.2.2.2, L'.2.2.2.2.2.2.1.1, L'.2.2.2.2.2.2.1.2, true_and, e_Ledger_shareByHeads_40, e_Ledger_shareByHeads_41, if_true]
    rw [show Int32.ofNat 5 = nI 5 from rfl, if_neg (nI_ge hi (by decide)), s_Ledger_at L' hi]
    simp only [(L'.2.2.2.1 i hi).2, true_and, show ¬ ((1 : Int32) = 0) by decide, if_false, h0']
    refine ⟨by decide, ?_⟩
    by_cases c1 : ((nI m >>> (nI i &&& 31)) &&& 1) = 1
    · rw [if_neg (fun z => z c1)]
      have c1' : bt (nI m) i = true := by unfold bt; exact decide_eq_true c1
      by_cases c2 : hd ≤ 0
      · rw [if_pos c2]
        exact e71 0 0 (by rw [hs i, if_neg (fun z => z.2 c2)])
      · rw [if_neg c2]
        exact ⟨fun z => c2 (by rw [z]; exact Int32.le_refl _), e71 _ 1 (by rw [hs i, if_pos ⟨c1', c2⟩])⟩
    · rw [if_pos c1]
      have c1' : ¬ bt (nI m) i = true := by unfold bt; exact fun z => c1 (of_decide_eq_true z)
      exact e71 0 0 (by rw [hs i, if_neg (fun z => c1' z.1)])
theorem t_Ledger_shareAlike (L : isLed h a) {nf : Nat} (h0 : gI h a 0 = nI nf) (hn : nf ≤ 5) (l : Int32) {each : Int32} (he : each = if nf = 0 then 0 else l / nI nf) {k : PH → Prop}
    (hk : ∀ h', Fr (fun x => x = a + 9) (fun _ => False) h h' → (∀ f, f < 5 → gI h' (a + 9) f = (if f < nf then each else 0) + oneN (bt (nI (2 ^ nf - 1))) (l - each * nI nf) f) → k h') : ccV m_Ledger_shareAlike h [.ref a, .int l] k := by
  have key : wp m_Ledger_shareAlike h 21 [some (.ref a), some (.int l), some (.int each), some (.int 0)] [] (tyV k) := by
    refine hp (A := fun i h' => Fr (fun x => x = a + 9) (fun _ => False) h h' ∧ (∀ f, f < i → gI h' (a + 9) f = if f < nf then each else 0))
      (X := fun i h' => wp m_Ledger_shareAlike h' 21 [some (.ref a), some (.int l), some (.int each), some (.int (nI i))] [] (tyV k)) 5 ?_ ?_ 0 (Nat.zero_le _) h ⟨Fr_refl _ _ _, fun f hf => absurd hf (by omega)⟩
    · intro h' ⟨fr, e⟩
      have L' := isLed_fr L fr (fun x => x) (fun x => x)
      have h0' : gI h' a 0 = nI nf := by rw [fr.2.2.2 a (by omega)]; exact h0
      rw [e_Ledger_shareAlike_21]
      simp only [L'.1, L'.2.1.2.2.2, L'.2.2.2.2.2.2.1.1, L'.2.2.2.2.2.2.1.2, true_and, s_Ledger_everybody L' h0' hn, h0']
      rw [show Int32.ofNat 5 = nI 5 from rfl, if_pos (Int32.le_refl _)]
      have hp2 : 2 ^ nf ≤ 64 := p2_6 (by omega)
      refine ⟨by decide, t_Ledger_shareLeftOver L' _ (by omega) fun h2 fr2 e2 => hk h2 (Fr_trans fr fr2) fun f hf => ?_⟩
      rw [e2 f hf, e f hf]
    · intro i hi h' ⟨fr, e⟩ ih
      have L' := isLed_fr L fr (fun x => x) (fun x => x)
      have h0' : gI h' a 0 = nI nf := by rw [fr.2.2.2 a (by omega)]; exact h0
      have hq := inb_nI hi (show 5 < 2 ^ 31 by decide)
      have step : ∀ y, y = (if i < nf then each else 0) → wp m_Ledger_shareAlike (sI h' (a + 9) i y) 21 [some (.ref a), some (.int l), some (.int each), some (.int (nI (i + 1)))] [] (tyV k) := by
        intro y hy
        refine ih _ ⟨Fr_trans fr (Fr_sI _ _ _ _ rfl), fun f hf => ?_⟩
        rw [sI_wR, gI_wR]
        by_cases c4 : f = i
        · subst c4; rw [rs_eq, hy]
        · rw [rs_ne _ _ c4]; exact e f (by omega)
      rw [e_Ledger_shareAlike_21]
      simp only [L'.1, L'.2.1.2.2.2, L'.2.2.2.2.2.2.1.1, L'.2.2.2.2.2.2.1.2, true_and, h0', e_Ledger_shareAlike_48]
      rw [show Int32.ofNat 5 = nI 5 from rfl, if_neg (nI_ge hi (by decide)), ix_nI (by omega), nI_1]
      refine ⟨by decide, ?_⟩
      by_cases c2 : i < nf
      · rw [if_neg (nI_ge c2 (by omega))]
        exact ⟨hq, step each (by rw [if_pos c2])⟩
      · rw [if_pos (nI_le (by omega) (by omega))]
        exact ⟨hq, step 0 (by rw [if_neg c2])⟩
  rw [c_Ledger_shareAlike]
  simp only [L.1, true_and, h0, e_Ledger_shareAlike_18]
  by_cases c : nf = 0
  · rw [if_pos c] at he
    subst c
    subst he
    rw [if_neg (by decide)]
    exact key
  · rw [if_neg c] at he
    rw [if_pos (show (1 : Int32) ≤ nI nf from nI_le (a := 1) (by omega) (by omega)), ← he]
    exact ⟨nI_ne0 (by omega) (by omega), key⟩
end Share2
