/-! ===== the classes of works share out ===== -/
section Shout
variable {h : PH} {a : Nat} {c : Core} {r : Row}
theorem t_byHeads (L : Led h a c) (o : okC c) {m : Nat} (hm : m < 64) (hbt : ∀ f, f < 5 → bt (nI m) f = true → f < Cf c) (hpt : ∀ f, f < 5 → ptC c r f = if bt (nI m) f = true then Cm c f 0 else 0) {k : PH → Prop}
    (hk : ∀ h', Fr (fun x => x = a + 9) (fun _ => False) h h' → (∀ f, f < 5 → gI h' (a + 9) f = shareC c r f) → k h') : ccV m_Ledger_shareByHeads h [.ref a, .int (dueW r), .int (nI m)] k := by
  have e : ∀ f, f < Cf c → gI h (a + 2 + f) 0 = Cm c f 0 := fun f hf => L.2.2.2.1 f hf 0 (by decide)
  have hhd : sumN (fun f => if bt (nI m) f = true then Cm c f 0 else 0) (Cf c) = sumN (fun f => if bt (nI m) f = true then gI h (a + 2 + f) 0 else 0) (Cf c) := sumN_c fun i hi => by rw [e i hi]
  generalize hq : sumN (fun f => if bt (nI m) f = true then Cm c f 0 else 0) (Cf c) = hd at hhd
  refine t_Ledger_shareByHeads L.1 L.2.2.1.1 L.2.1.1 (dueW r) hm hhd (s := fun f => if bt (nI m) f = true ∧ ¬ hd ≤ 0 then dueW r * gI h (a + 2 + f) 0 / hd else 0) (fun f => rfl) (fun h' fr e2 => hk h' fr fun f hf => (e2 f hf).trans (shr_heads o hbt hpt hq.symm (fun f hf => ?_) hf))
  by_cases q : bt (nI m) f = true
  · rw [e f (hbt f hf q)]
  · rw [if_neg (fun z => q z.1), if_neg (fun z => q z.1)]
theorem mostC_eq (L : Led h a c) : bst (fun i j => decide (¬ gI h (a + 2 + i) 0 ≤ gI h (a + 2 + j) 0)) (Cf c) = mostC c :=
  bst_c fun i j hi hj => by rw [L.2.2.2.1 i hi 0 (by decide), L.2.2.2.1 j (by omega) 0 (by decide)]
theorem leastC_eq (L : Led h a c) : bst (fun i j => decide (¬ gI h (a + 2 + j) 1 ≤ gI h (a + 2 + i) 1)) (Cf c) = leastC c :=
  bst_c fun i j hi hj => by rw [L.2.2.2.1 i hi 1 (by decide), L.2.2.2.1 j (by omega) 1 (by decide)]
theorem bst_5 (r : Nat → Nat → Bool) {n : Nat} (hn : n ≤ 5) : bst r n < 5 := by
  by_cases h : 0 < n
  · have := bst_lt1 r n h; omega
  · have : n = 0 := by omega
    subst this; exact (by decide : 0 < 5)
theorem hbt_every (o : okC c) : ∀ f, f < 5 → bt (nI (2 ^ Cf c - 1)) f = true → f < Cf c := fun f hf e => by
  rw [bt_every o.1.1 hf] at e; exact of_decide_eq_true e
theorem hpt_every (o : okC c) (hp' : ∀ f, f < Cf c → ptC c r f = Cm c f 0) : ∀ f, f < 5 → ptC c r f = if bt (nI (2 ^ Cf c - 1)) f = true then Cm c f 0 else 0 := fun f hf => by
  rw [bt_every o.1.1 hf]
  by_cases e : f < Cf c
  · rw [if_pos (decide_eq_true e), hp' f e]
  · rw [if_neg (by simp [e])]; unfold ptC; rw [if_neg e]
/-- those who share: all, or for a cradle those with births, if there are any -/
theorem cradle_pt (o : okC c) (h3 : r 0 = nI 3) : ∃ m, m < 64 ∧ (∀ f, f < 5 → bt (nI m) f = true → f < Cf c) ∧ (∀ f, f < 5 → ptC c r f = if bt (nI m) f = true then Cm c f 0 else 0) ∧
    nI m = if bm (fun f => decide (¬ Cm c f 3 ≤ 0)) (Cf c) = 0 then nI (2 ^ Cf c - 1) else bm (fun f => decide (¬ Cm c f 3 ≤ 0)) (Cf c) := by
  have h5 := o.1.1
  have hM := nm_lt (fun f => decide (¬ Cm c f 3 ≤ 0)) (Cf c)
  have h64 := p2_6 (show Cf c ≤ 6 by omega)
  rw [bm_nm _ _ (show Cf c ≤ 6 by omega)]
  have hbit := fun f => nm_bit (fun f => decide (¬ Cm c f 3 ≤ 0)) f (Cf c)
  generalize nm (fun f => decide (¬ Cm c f 3 ≤ 0)) (Cf c) = M at hM hbit ⊢
  have n0 : ¬ nI 3 = 0 := by decide
  have n2 : ¬ nI 3 = 2 := by decide
  have n4 : ¬ nI 3 = 4 := by decide
  by_cases e : M = 0
  · refine ⟨2 ^ Cf c - 1, by omega, hbt_every o, hpt_every o fun f hf => ?_, by rw [e, if_pos (show nI 0 = 0 from rfl)]⟩
    have hw : withC c = 0 := by
      have hz : ∀ i, i < Cf c → (if Cm c i 3 ≤ 0 then (0 : Int32) else Cm c i 0) = nI 0 := by
        intro i hi
        have := hbit i
        rw [e, Nat.zero_testBit] at this
        simp only [hi, decide_true, Bool.true_and] at this
        have : ¬ ¬ Cm c i 3 ≤ 0 := of_decide_eq_false this.symm
        rw [if_pos (Decidable.not_not.mp this)]; rfl
      unfold withC
      rw [sumN_nI (G := fun _ => 0) hz]
      have : ∀ n, sumT (fun _ => 0) n = 0 := fun n => by induction n with
        | zero => rfl
        | succ n ih => unfold sumT; rw [ih]
      rw [this]; rfl
    unfold ptC
    rw [if_pos hf, h3, if_neg n0, if_neg n2, if_neg n4, if_neg (fun z => z.2.1 hw)]
  · have hw : ¬ withC c = 0 := by
      obtain ⟨i, hi⟩ := Nat.exists_testBit_of_ne_zero e
      rw [hbit] at hi
      simp only [Bool.and_eq_true, decide_eq_true_eq] at hi
      unfold withC
      have hG : ∀ i, i < Cf c → (if Cm c i 3 ≤ 0 then 0 else Cm c i 0) = nI (if Cm c i 3 ≤ 0 then 0 else ix (Cm c i 0)) := by
        intro i hi
        by_cases e : Cm c i 3 ≤ 0
        · rw [if_pos e, if_pos e]; rfl
        · rw [if_neg e, if_neg e]; exact (o.2.2.1 i hi).1.1
      have hge := sumT_ge (G := fun i => if Cm c i 3 ≤ 0 then 0 else ix (Cm c i 0)) hi.1
      have hle := sumT_le (G := fun i => if Cm c i 3 ≤ 0 then 0 else ix (Cm c i 0)) (B := 20) (n := Cf c) (fun i hi => by
        split
        · omega
        · exact (o.2.2.1 i hi).1.2.2)
      rw [if_neg hi.2] at hge
      have := (o.2.2.1 i hi.1).1.2.1
      rw [sumN_nI hG]
      exact nI_ne0 (by omega) (by omega)
    have hb : ∀ f, f < 5 → bt (nI M) f = (decide (f < Cf c) && decide (¬ Cm c f 3 ≤ 0)) := fun f hf => by rw [bt_nI (by omega) (by omega), hbit]
    refine ⟨M, by omega, fun f hf q => ?_, fun f hf => ?_, by rw [if_neg (nI_ne0 (by omega) (by omega))]⟩
    · rw [hb f hf] at q
      simp only [Bool.and_eq_true, decide_eq_true_eq] at q
      exact q.1
    · rw [hb f hf]
      unfold ptC
      by_cases q : f < Cf c
      · rw [if_pos q, h3, if_neg n0, if_neg n2, if_neg n4]
        by_cases q2 : Cm c f 3 ≤ 0
        · rw [if_pos ⟨rfl, hw, q2⟩, if_neg (by simp [q2])]
        · rw [if_neg (fun z => q2 z.2.2), if_pos (by simp [q, q2])]
      · rw [if_neg q, if_neg (by simp [q])]
end Shout
