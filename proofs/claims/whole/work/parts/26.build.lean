/-! ===== charging ===== -/
/-- what a work with row r does to the debts -/
def chargeC (c : Core) (r : Row) : Core := cM c (fun f => rOwe (shareC c r f) (Cm c f))
theorem oneN_bd (g : Nat → Bool) (l : Int32) (f : Nat) : bd (oneN g l f) 0 1 := by
  unfold oneN
  exact bd_ite (fun _ => bd_nI (n := 1) (by omega) (by omega) (by decide)) (fun _ => bd_nI (n := 0) (by omega) (by omega) (by decide))
theorem dueW_bd {r : Row} (R : RgW r) : bd (dueW r) 0 2007 := by
  obtain ⟨fg, h1, _, hf⟩ := bd_of R.2.1
  obtain ⟨cs, h2, hc1, hc⟩ := bd_of R.2.2
  unfold dueW
  rw [h1, h2, show (2 : Int32) = nI 2 from rfl, show (1 : Int32) = nI 1 from rfl, nI_add, nI_add, nI_mul, nI_div (by omega) (by omega)]
  refine bd_ite (fun _ => bd_nI (by omega) (by omega) (by decide)) (fun _ => ?_)
  refine bd_ite (fun _ => bd_nI (by omega) (by omega) (by decide)) (fun _ => ?_)
  refine bd_ite (fun _ => bd_nI (by omega) (by omega) (by decide)) (fun _ => ?_)
  refine bd_ite (fun _ => bd_ite (fun q => ?_) (fun _ => bd_nI (by omega) (by omega) (by decide))) (fun _ => ?_)
  · by_cases e : fg ≤ 2 * cs
    · rw [nI_subI e]; exact bd_nI (by omega) (by omega) (by decide)
    · exfalso
      have h3 : nI (2 * cs) - nI fg < 1 := by
        have h4 : nI (2 * cs) + nI 1 ≤ nI fg := by rw [nI_add]; exact nI_le (by omega) (by omega)
        obtain ⟨d, hd⟩ := Nat.le.dest (show 2 * cs ≤ fg by omega)
        have : cs ≤ 4 ∧ fg ≤ 9 := by omega
        have key : ∀ x : Fin 5, ∀ y : Fin 10, 2 * x.1 < y.1 → nI (2 * x.1) - nI y.1 < 1 := by decide +kernel
        exact key ⟨cs, by omega⟩ ⟨fg, by omega⟩ (by show 2 * cs < fg; omega)
      exact absurd h3 (Int32.not_lt.mpr (Int32.le_of_lt q))
  · exact bd_ite (fun _ => bd_nI (by omega) (by omega) (by decide)) (fun _ => bd_nI (by omega) (by omega) (by decide))
section Charge2
variable {h : PH} {a : Nat} {c : Core} {r : Row}
theorem ptC_bd (o : okC c) (f : Nat) : bd (ptC c r f) 0 20 := by
  have z0 : bd 0 0 20 := bd_nI (n := 0) (by omega) (by omega) (by decide)
  have z1 : bd 1 0 20 := bd_nI (n := 1) (by omega) (by omega) (by decide)
  unfold ptC
  refine bd_ite (fun hf => ?_) (fun _ => z0)
  have hh : bd (Cm c f 0) 0 20 := ⟨(o.2.2.1 f hf).1.1, Nat.zero_le _, (o.2.2.1 f hf).1.2.2⟩
  exact bd_ite (fun _ => z1) (fun _ => bd_ite (fun _ => bd_ite (fun _ => z1) (fun _ => z0)) (fun _ => bd_ite (fun _ => bd_ite (fun _ => z1) (fun _ => z0)) (fun _ => bd_ite (fun _ => z0) (fun _ => hh))))
theorem baseC_bd (o : okC c) (R : RgW r) (f : Nat) : bd (baseC c r f) 0 40140 := by
  unfold baseC
  refine bd_ite (fun _ => bd_nI (n := 0) (by omega) (by omega) (by decide)) (fun _ => ?_)
  obtain ⟨d, hd, _, h2⟩ := bd_of (dueW_bd R)
  obtain ⟨t, ht, _, h4⟩ := bd_of (ptC_bd (r := r) o f)
  obtain ⟨s, hs, _, h6⟩ := bd_of (sumN_bd (g := ptC c r) (n := 5) (fun i _ => ptC_bd o i) (by decide))
  have hm : d * t ≤ 2007 * 20 := Nat.mul_le_mul h2 h4
  have e : allP c r = nI s := hs
  rw [hd, ht, e, nI_mul, nI_div (by omega) (by omega)]
  have := Nat.div_le_self (d * t) s
  generalize d * t / s = z at this ⊢
  exact bd_nI (by omega) (by omega) (by decide)
theorem shareC_bd (o : okC c) (R : RgW r) (f : Nat) : bd (shareC c r f) 0 40141 := bd_add (baseC_bd o R f) (oneN_bd _ _ f) (by decide)
theorem okC_charge (o : okC c) (R : RgW r) : okC (chargeC c r) := ⟨o.1, o.2.1, fun f hf => RgF_owe (o.2.2.1 f hf) (shareC_bd o R f) (by decide), o.2.2.2⟩
theorem t_Ledger_oweShares (L : Led h a c) {s : Nat → Int32} (hs : ∀ f, f < 5 → gI h (a + 9) f = s f) {k : PH → Prop}
    (hk : ∀ h', Fr (fun x => a + 2 ≤ x ∧ x ≤ a + 6) (fun _ => False) h h' → Led h' a (cM c (fun f => rOwe (s f) (Cm c f))) → k h') : ccV m_Ledger_oweShares h [.ref a] k := by
  have h5 := L.2.1.1
  rw [c_Ledger_oweShares]
  refine hp (A := fun i h' => Fr (fun x => a + 2 ≤ x ∧ x ≤ a + 6) (fun _ => False) h h' ∧ Led h' a (cM c (fun f => if f < i then rOwe (s f) (Cm c f) else Cm c f)))
    (X := fun i h' => wp m_Ledger_oweShares h' 2 [some (.ref a), some (.int (nI i))] [] (tyV k)) (Cf c) ?_ ?_ 0 (Nat.zero_le _) h ⟨Fr_refl _ _ _, Led_ext L rfl rfl rfl rfl (fun f _ => ?_) (fun _ _ => rfl)⟩
  · intro h' ⟨fr, L'⟩
    have c0 : gI h' a 0 = nI (Cf c) := L'.2.2.1.1
    rw [e_Ledger_oweShares_2, c0, if_pos (Int32.le_refl _), e_Ledger_oweShares_39]
    refine ⟨L'.1.1, hk h' fr (Led_ext L' rfl rfl rfl rfl (fun f hf => ?_) (fun _ _ => rfl))⟩
    show Ew 4 (if f < Cf c then rOwe (s f) (Cm c f) else Cm c f) (rOwe (s f) (Cm c f))
    rw [if_pos (show f < Cf c from hf)]
    exact Ew_refl _ _
  · intro i hi h' ⟨fr, L'⟩ ih
    have c0 : gI h' a 0 = nI (Cf c) := L'.2.2.1.1
    have hs' : gI h' (a + 9) i = s i := by rw [fr.2.2.2 _ (by omega)]; exact hs i (by omega)
    have hrow : Ew 4 (gI h' (a + 2 + i)) (Cm c i) := by
      have := L'.2.2.2.1 i hi
      have e : Cm (cM c (fun f => if f < i then rOwe (s f) (Cm c f) else Cm c f)) i = Cm c i := if_neg (Nat.lt_irrefl _)
      rw [e] at this; exact this
    have q := L'.1.2.2.2.2.2.2.1
    rw [e_Ledger_oweShares_2, c0, if_neg (nI_ge hi (by omega)), Led_at L' (by omega)]
    simp only [L'.1.1, L'.1.2.1.2.2.2, q.1, q.2, Led_tgf L' (show i < 5 by omega), true_and, true_or]
    rw [show Int32.ofNat 5 = nI 5 from rfl, if_neg (nI_ge (show i < 5 by omega) (by decide)), ix_nI (by omega), hs', nI_1, s_Family_owe (Led_tgf L' (by omega))]
    refine ⟨by decide, inb_nI (show i < 5 by omega) (by decide), ih _ ⟨Fr_trans fr (Fr_wR _ _ _ ⟨by omega, by omega⟩), ?_⟩⟩
    refine Led_ext (Led_wR L' (by omega) (rOwe_e (by decide) hrow (s i))) rfl rfl rfl rfl (fun f _ => ?_) (fun _ _ => rfl)
    show Ew 4 (setM (fun f => if f < i then rOwe (s f) (Cm c f) else Cm c f) i (rOwe (s i) (Cm c i)) f) (if f < i + 1 then rOwe (s f) (Cm c f) else Cm c f)
    unfold setM
    by_cases c1 : f = i
    · subst c1; rw [if_pos rfl, if_pos (Nat.lt_succ_self _)]; exact Ew_refl _ _
    · rw [if_neg c1]
      dsimp only
      by_cases c2 : f < i
      · rw [if_pos c2, if_pos (by omega)]; exact Ew_refl _ _
      · rw [if_neg c2, if_neg (by omega)]; exact Ew_refl _ _
  · show Ew 4 (Cm c f) (if f < 0 then rOwe (s f) (Cm c f) else Cm c f)
    rw [if_neg (by omega)]
    exact Ew_refl _ _
theorem t_Ledger_charge (L : Led h a c) (o : okC c) {w : Nat} (hw : w < Cw c) {k : PH → Prop}
    (hk : ∀ h', Fr (fun x => a + 2 ≤ x ∧ x ≤ a + 9) (fun _ => False) h h' → Led h' a (chargeC c (Ck c w)) → k h') : ccV m_Ledger_charge h [.ref a, .int (nI w)] k := by
  have c1 : gI h a 1 = nI (Cw c) := L.2.2.1.2.1
  have hp0 : ¬ gR h (a + 7) w = 0 := by have := (L.2.2.2.2 w hw).1.1; omega
  obtain ⟨M, hM, hsh⟩ := t_shareOut L o hw
  rw [c_Ledger_charge]
  refine ⟨L.1.1, ?_⟩
  rw [s_Ledger_workAt L.1 c1 L.2.1.2 hw, if_pos hp0]
  refine ⟨M, hM, hsh _ fun h1 fr1 e1 => ?_⟩
  have L1 : Led h1 a c := Led_fr L fr1 (fun x hx => ⟨by omega, by have := L.1.2.2.2.2.2.2.2.1; omega⟩) (fun x hx => hx.elim)
  exact ⟨L1.1.1, t_Ledger_oweShares L1 e1 fun h2 fr2 L2 => hk h2 (Fr_trans (Fr_mono fr1 (fun x hx => ⟨by omega, by omega⟩) (fun _ x => x)) (Fr_mono fr2 (fun x hx => ⟨by omega, by omega⟩) (fun _ x => x))) L2⟩
/-- the works of a set, charged one behind the other, up to w -/
def chargeN (B : Int32) (c : Core) : Nat → Core
  | 0 => c
  | n + 1 => if bt B n = true then chargeC (chargeN B c n) (Ck c n) else chargeN B c n
theorem chargeN_k (B : Int32) (c : Core) : ∀ n, Ck (chargeN B c n) = Ck c ∧ Cf (chargeN B c n) = Cf c ∧ Cw (chargeN B c n) = Cw c ∧ Cr (chargeN B c n) = Cr c ∧ Cy (chargeN B c n) = Cy c
  | 0 => ⟨rfl, rfl, rfl, rfl, rfl⟩
  | n + 1 => by
    have ih := chargeN_k B c n
    unfold chargeN
    split
    · exact ih
    · exact ih
theorem chargeN_ok {B : Int32} (o : okC c) : ∀ {n}, n ≤ Cw c → okC (chargeN B c n)
  | 0, _ => o
  | n + 1, hn => by
    have ih := chargeN_ok (B := B) o (show n ≤ Cw c by omega)
    unfold chargeN
    split
    · exact okC_charge ih (o.2.2.2 n (by omega))
    · exact ih
theorem t_Ledger_chargeSet (L : Led h a c) (o : okC c) (B : Int32) {k : PH → Prop}
    (hk : ∀ h', Fr (fun x => a + 2 ≤ x ∧ x ≤ a + 9) (fun _ => False) h h' → Led h' a (chargeN B c (Cw c)) → k h') : ccV m_Ledger_chargeSet h [.ref a, .int B] k := by
  have h6 := L.2.1.2
  rw [c_Ledger_chargeSet]
  refine hp (A := fun i h' => Fr (fun x => a + 2 ≤ x ∧ x ≤ a + 9) (fun _ => False) h h' ∧ Led h' a (chargeN B c i))
    (X := fun i h' => wp m_Ledger_chargeSet h' 2 [some (.ref a), some (.int B), some (.int (nI i))] [] (tyV k)) (Cw c) ?_ ?_ 0 (Nat.zero_le _) h ⟨Fr_refl _ _ _, L⟩
  · intro h' ⟨fr, L'⟩
    have c1 : gI h' a 1 = nI (Cw c) := by rw [L'.2.2.1.2.1, (chargeN_k B c _).2.2.1]
    rw [e_Ledger_chargeSet_2, c1, if_pos (Int32.le_refl _)]
    exact ⟨L'.1.1, hk h' fr L'⟩
  · intro i hi h' ⟨fr, L'⟩ ih
    have hk' := chargeN_k B c i
    have c1 : gI h' a 1 = nI (Cw c) := by rw [L'.2.2.1.2.1, hk'.2.2.1]
    rw [e_Ledger_chargeSet_2, c1, if_neg (nI_ge hi (by omega)), e_Ledger_chargeSet_24, nI_1]
    refine ⟨L'.1.1, ?_⟩
    by_cases e : ((B >>> (nI i &&& 31)) &&& 1) = 1
    · have e' : bt B i = true := decide_eq_true e
      rw [if_neg (fun z => z e)]
      refine ⟨L'.1.1, t_Ledger_charge L' (chargeN_ok o (by omega)) (w := i) (by rw [hk'.2.2.1]; exact hi) fun h2 fr2 L2 => ?_⟩
      rw [e_Ledger_chargeSet_24, nI_1]
      refine ih h2 ⟨Fr_trans fr fr2, ?_⟩
      rw [chargeN, if_pos e', ← hk'.1]
      exact L2
    · have e' : ¬ bt B i = true := fun z => e (of_decide_eq_true z)
      rw [if_pos e]
      refine ih h' ⟨fr, ?_⟩
      rw [chargeN, if_neg e']
      exact L'
theorem t_Ledger_shareOf (L : Led h a c) (o : okC c) {w f : Nat} (hw : w < Cw c) (hf : f < 5) {k : PH → Int32 → Prop}
    (hk : ∀ h', Fr (fun x => x = a + 9) (fun _ => False) h h' → k h' (shareC c (Ck c w) f)) : ccI m_Ledger_shareOf h [.ref a, .int (nI w), .int (nI f)] k := by
  have c1 : gI h a 1 = nI (Cw c) := L.2.2.1.2.1
  have hp0 : ¬ gR h (a + 7) w = 0 := by have := (L.2.2.2.2 w hw).1.1; omega
  obtain ⟨M, hM, hsh⟩ := t_shareOut L o hw
  rw [c_Ledger_shareOf]
  refine ⟨L.1.1, ?_⟩
  have q := L.1.2.2.2.2.2.2.1
  rw [s_Ledger_workAt L.1 c1 L.2.1.2 hw, if_neg hp0, if_neg (nI_pos (by omega))]
  simp only [L.1.1, L.1.2.1.2.2.2, q.1, q.2, true_and]
  rw [show Int32.ofNat 5 = nI 5 from rfl, if_pos (nI_lt hf (by decide))]
  refine ⟨by decide, M, hM, hsh _ fun h1 fr1 e1 => ?_⟩
  have L1 := isLed_fr L.1 fr1 (fun x => x) (fun x => x)
  have q1 := L1.2.2.2.2.2.2.1
  refine ⟨L1.1, ?_⟩
  rw [L1.2.1.2.2.2, q1.1, q1.2, ix_nI (by omega), e1 f hf]
  exact ⟨⟨Or.inl rfl, inb_nI hf (by decide)⟩, hk h1 fr1⟩
end Charge2
