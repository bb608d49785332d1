/-! ===== the pure machine, an instruction a row ===== -/
theorem ite_c {c : Prop} [Decidable c] {A B A' B' : Prop} (h1 : A = A') (h2 : B = B') : (if c then A else B) = (if c then A' else B') := by rw [h1, h2]
theorem and_c {g A A' : Prop} (h1 : A = A') : (g ∧ A) = (g ∧ A') := by rw [h1]
theorem ccV_c {M : Nat} {h : PH} {as : List Value} {K K' : PH → Prop} (hk : ∀ h', K h' = K' h') : ccV M h as K = ccV M h as K' := by rw [show K = K' from funext hk]
theorem ccI_c {M : Nat} {h : PH} {as : List Value} {K K' : PH → Int32 → Prop} (hk : ∀ h' x, K h' x = K' h' x) : ccI M h as K = ccI M h as K' := by rw [show K = K' from funext fun h' => funext fun x => hk h' x]
theorem ccL_c {M : Nat} {h : PH} {as : List Value} {K K' : PH → Int64 → Prop} (hk : ∀ h' x, K h' x = K' h' x) : ccL M h as K = ccL M h as K' := by rw [show K = K' from funext fun h' => funext fun x => hk h' x]
theorem ccA_c {M : Nat} {h : PH} {as : List Value} {K K' : PH → Nat → Prop} (hk : ∀ h' x, K h' x = K' h' x) : ccA M h as K = ccA M h as K' := by rw [show K = K' from funext fun h' => funext fun x => hk h' x]
theorem ex_c {α : Type} {K K' : α → Prop} (hk : ∀ x, K x = K' x) : (∃ x, K x) = ∃ x, K' x := by rw [show K = K' from funext hk]
theorem memB_one {c t : Nat} : memB c [t] = true ↔ c = t := by
  simp only [memB, Bool.or_false]
  exact ⟨fun z => (Nat.eq_of_beq_eq_true z).symm, fun z => by subst z; exact Nat.beq_refl _⟩
theorem find1_arg {as : List Value} (w : Nat) {l : List (Nat × Nat)} (hw : catS as = w) (ho : as.all okV = true) (hl : l.all (fun p => Nat.ble w (mxl p.2)) = true) : ∀ t M', find1 t l = some M' → argOK M' as = true := by
  induction l with
  | nil => intro t M' e; simp [find1] at e
  | cons p l ih =>
    intro t M' e
    obtain ⟨a, m⟩ := p
    simp only [List.all_cons, Bool.and_eq_true] at hl
    rw [find1] at e
    cases hb : Nat.beq a t with
    | true =>
      rw [hb] at e
      cases e
      unfold argOK
      rw [hw, ho, hl.1]
      rfl
    | false =>
      rw [hb] at e
      exact ih hl.2 t M' e
theorem find1_all {k : Nat} {M : Nat} {l : List (Nat × Nat)} (hl : l.all (fun p => fitM M p.2 && Nat.beq (rkOf p.2) k) = true) : ∀ t M', find1 t l = some M' → fitM M M' = true ∧ rkOf M' = k := by
  induction l with
  | nil => intro t M' e; simp [find1] at e
  | cons p l ih =>
    intro t M' e
    obtain ⟨a, m⟩ := p
    simp only [List.all_cons, Bool.and_eq_true] at hl
    rw [find1] at e
    cases hb : Nat.beq a t with
    | true =>
      rw [hb] at e
      cases e
      exact ⟨hl.1.1, Nat.eq_of_beq_eq_true hl.1.2⟩
    | false =>
      rw [hb] at e
      exact ih hl.2 t M' e
def allNe (x : Int32) : List Int32 → Prop
  | [] => True
  | k :: l => ¬ x = k ∧ allNe x l
theorem allNe_mem {x : Int32} : ∀ {l : List Int32}, allNe x l → x ∉ l
  | [], _, h => by cases h
  | k :: l, hz, h => by
    rcases List.mem_cons.mp h with e | e
    · exact hz.1 e
    · exact allNe_mem hz.2 e
theorem sw_out {x : Int32} {lo hi : Int} (ks : List Int32) (hc : (List.range ((hi - lo).toNat + 1)).all (fun n => ks.any (fun k => k.toInt == lo + (n : Int))) = true) (hz : allNe x ks) : x.toInt < lo ∨ hi < x.toInt := by
  by_cases h1 : x.toInt < lo
  · exact Or.inl h1
  by_cases h2 : hi < x.toInt
  · exact Or.inr h2
  exfalso
  have h3 := List.all_eq_true.mp hc (x.toInt - lo).toNat (List.mem_range.mpr (by omega))
  obtain ⟨k, hk, e⟩ := List.any_eq_true.mp h3
  have e2 : k.toInt = lo + ((x.toInt - lo).toNat : Int) := by simpa using e
  have e3 : k = x := Int32.toInt_inj.mp (by rw [e2]; omega)
  rw [e3] at hk
  exact allNe_mem hz hk
section Rules
variable {M : Nat} {h : PH} {pc : Nat} {ls : LSt} {st : List Value} {K : PH → Option Value → Prop} {cc : ByteArray}
theorem step_of (hc : codeOf M = cc) {i : Instr} {len : Nat} (hd : decode cc pc = .ok (i, len)) : step M h pc ls st = stepI M h pc ls st i len := by
  unfold step
  rw [hc, hd]
theorem wp_at (hc : codeOf M = cc) {i : Instr} {len : Nat} (hd : decode cc pc = .ok (i, len)) {h' : PH} {pc' : Nat} {ls' : LSt} {st' : List Value} (hs : stepI M h pc ls st i len = nxt h' pc' ls' st') : wp M h pc ls st K = wp M h' pc' ls' st' K := wp_next ((step_of hc hd).trans hs)
theorem wp_g (hc : codeOf M = cc) {i : Instr} {len : Nat} (hd : decode cc pc = .ok (i, len)) {g : Prop} {h' : PH} {pc' : Nat} {ls' : LSt} {st' : List Value} (h1 : g → stepI M h pc ls st i len = nxt h' pc' ls' st') (h2 : ¬ g → stepI M h pc ls st i len = none) : wp M h pc ls st K = (g ∧ wp M h' pc' ls' st' K) := by
  by_cases hg : g
  · rw [wp_at hc hd (h1 hg)]
    exact propext ⟨fun z => ⟨hg, z⟩, fun z => z.2⟩
  · rw [wp_stuck ((step_of hc hd).trans (h2 hg))]
    exact propext ⟨fun z => z.elim, fun z => hg z.1⟩
theorem wp_iconst (hc : codeOf M = cc) {n : Int} {v : Int32} (hd : decode cc pc = .ok (.iconst n, 1)) (hv : Int32.ofInt n = v) : wp M h pc ls st K = wp M h (pc + 1) ls (.int v :: st) K := by
  subst hv
  exact wp_at hc hd rfl
theorem wp_bipush (hc : codeOf M = cc) {n : Int} {v : Int32} (hd : decode cc pc = .ok (.bipush n, 2)) (hv : (Int8.ofInt n).toInt32 = v) : wp M h pc ls st K = wp M h (pc + 2) ls (.int v :: st) K := by
  subst hv
  exact wp_at hc hd rfl
theorem wp_sipush (hc : codeOf M = cc) {n : Int} {v : Int32} (hd : decode cc pc = .ok (.sipush n, 3)) (hv : (Int16.ofInt n).toInt32 = v) : wp M h pc ls st K = wp M h (pc + 3) ls (.int v :: st) K := by
  subst hv
  exact wp_at hc hd rfl
theorem wp_lconst (hc : codeOf M = cc) {n : Fin 2} {v : Int64} (hd : decode cc pc = .ok (.lconst n, 1)) (hv : Int64.ofNat (n : Nat) = v) : wp M h pc ls st K = wp M h (pc + 1) ls (.long v :: st) K := by
  subst hv
  exact wp_at hc hd rfl
theorem wp_aconst_null (hc : codeOf M = cc) (hd : decode cc pc = .ok (.aconst_null, 1)) : wp M h pc ls st K = wp M h (pc + 1) ls (.ref 0 :: st) K := wp_at hc hd rfl
theorem wp_ldc (hc : codeOf M = cc) {i : Nat} {v : Int32} (hd : decode cc pc = .ok (.ldc i, 2)) (hv : lk2 (ownOf M) i cstIL = some v) : wp M h pc ls st K = wp M h (pc + 2) ls (.int v :: st) K := wp_at hc hd (by simp [stepI, ck, hv])
theorem wp_ldc_w (hc : codeOf M = cc) {i : Nat} {v : Int32} (hd : decode cc pc = .ok (.ldc_w i, 3)) (hv : lk2 (ownOf M) i cstIL = some v) : wp M h pc ls st K = wp M h (pc + 3) ls (.int v :: st) K := wp_at hc hd (by simp [stepI, ck, hv])
theorem wp_ldc2_w (hc : codeOf M = cc) {i : Nat} {v : Int64} (hd : decode cc pc = .ok (.ldc2_w i, 3)) (hv : lk2 (ownOf M) i cstLL = some v) : wp M h pc ls st K = wp M h (pc + 3) ls (.long v :: st) K := wp_at hc hd (by simp [stepI, ck, hv])
theorem wp_iload (hc : codeOf M = cc) {i : Nat} {x : Int32} (hd : decode cc pc = .ok (.iload i, 2)) (hl : lget ls i = some (.int x)) : wp M h pc ls st K = wp M h (pc + 2) ls (.int x :: st) K := wp_at hc hd (by simp [stepI, ck, ldI, hl])
theorem wp_iload_n (hc : codeOf M = cc) {i : Fin 4} {x : Int32} (hd : decode cc pc = .ok (.iload_n i, 1)) (hl : lget ls (i : Nat) = some (.int x)) : wp M h pc ls st K = wp M h (pc + 1) ls (.int x :: st) K := wp_at hc hd (by simp [stepI, ck, ldI, hl])
theorem wp_lload (hc : codeOf M = cc) {i : Nat} {x : Int64} (hd : decode cc pc = .ok (.lload i, 2)) (hl : lget ls i = some (.long x)) : wp M h pc ls st K = wp M h (pc + 2) ls (.long x :: st) K := wp_at hc hd (by simp [stepI, ck, ldL, hl])
theorem wp_lload_n (hc : codeOf M = cc) {i : Fin 4} {x : Int64} (hd : decode cc pc = .ok (.lload_n i, 1)) (hl : lget ls (i : Nat) = some (.long x)) : wp M h pc ls st K = wp M h (pc + 1) ls (.long x :: st) K := wp_at hc hd (by simp [stepI, ck, ldL, hl])
theorem wp_aload (hc : codeOf M = cc) {i : Nat} {x : Nat} (hd : decode cc pc = .ok (.aload i, 2)) (hl : lget ls i = some (.ref x)) : wp M h pc ls st K = wp M h (pc + 2) ls (.ref x :: st) K := wp_at hc hd (by simp [stepI, ck, ldA, hl])
theorem wp_aload_n (hc : codeOf M = cc) {i : Fin 4} {x : Nat} (hd : decode cc pc = .ok (.aload_n i, 1)) (hl : lget ls (i : Nat) = some (.ref x)) : wp M h pc ls st K = wp M h (pc + 1) ls (.ref x :: st) K := wp_at hc hd (by simp [stepI, ck, ldA, hl])
theorem wp_istore (hc : codeOf M = cc) {i : Nat} {x : Int32} (ls' : LSt) (hd : decode cc pc = .ok (.istore i, 2)) (hi : i < mxl M) (hl : lset ls i (.int x) = ls') : wp M h pc ls (.int x :: st) K = wp M h (pc + 2) ls' st K := wp_at hc hd (by simp [stepI, ck, soI, hi, hl])
theorem wp_istore_n (hc : codeOf M = cc) {i : Fin 4} {x : Int32} (ls' : LSt) (hd : decode cc pc = .ok (.istore_n i, 1)) (hi : (i : Nat) < mxl M) (hl : lset ls (i : Nat) (.int x) = ls') : wp M h pc ls (.int x :: st) K = wp M h (pc + 1) ls' st K := wp_at hc hd (by simp [stepI, ck, soI, hi, hl])
theorem wp_lstore (hc : codeOf M = cc) {i : Nat} {x : Int64} (ls' : LSt) (hd : decode cc pc = .ok (.lstore i, 2)) (hi : i + 1 < mxl M) (hl : lclr (lset ls i (.long x)) (i + 1) = ls') : wp M h pc ls (.long x :: st) K = wp M h (pc + 2) ls' st K := wp_at hc hd (by simp [stepI, ck, soL, hi, hl])
theorem wp_lstore_n (hc : codeOf M = cc) {i : Fin 4} {x : Int64} (ls' : LSt) (hd : decode cc pc = .ok (.lstore_n i, 1)) (hi : (i : Nat) + 1 < mxl M) (hl : lclr (lset ls (i : Nat) (.long x)) ((i : Nat) + 1) = ls') : wp M h pc ls (.long x :: st) K = wp M h (pc + 1) ls' st K := wp_at hc hd (by simp [stepI, ck, soL, hi, hl])
theorem wp_astore (hc : codeOf M = cc) {i : Nat} {x : Nat} (ls' : LSt) (hd : decode cc pc = .ok (.astore i, 2)) (hi : i < mxl M) (hl : lset ls i (.ref x) = ls') : wp M h pc ls (.ref x :: st) K = wp M h (pc + 2) ls' st K := wp_at hc hd (by simp [stepI, ck, soA, hi, hl])
theorem wp_astore_n (hc : codeOf M = cc) {i : Fin 4} {x : Nat} (ls' : LSt) (hd : decode cc pc = .ok (.astore_n i, 1)) (hi : (i : Nat) < mxl M) (hl : lset ls (i : Nat) (.ref x) = ls') : wp M h pc ls (.ref x :: st) K = wp M h (pc + 1) ls' st K := wp_at hc hd (by simp [stepI, ck, soA, hi, hl])
theorem wp_iinc (hc : codeOf M = cc) {i : Nat} {n : Int} {x v : Int32} (ls' : LSt) (hd : decode cc pc = .ok (.iinc i n, 3)) (hg : lget ls i = some (.int x)) (hi : i < mxl M) (hv : Int32.ofInt n = v) (hl : lset ls i (.int (x + v)) = ls') : wp M h pc ls st K = wp M h (pc + 3) ls' st K := by
  subst hv
  exact wp_at hc hd (by simp [stepI, ck, hg, hi, hl])
theorem wp_iadd (hc : codeOf M = cc) {x y : Int32} (hd : decode cc pc = .ok (.iadd, 1)) : wp M h pc ls (.int y :: .int x :: st) K = wp M h (pc + 1) ls (.int (x + y) :: st) K := wp_at hc hd rfl
theorem wp_isub (hc : codeOf M = cc) {x y : Int32} (hd : decode cc pc = .ok (.isub, 1)) : wp M h pc ls (.int y :: .int x :: st) K = wp M h (pc + 1) ls (.int (x - y) :: st) K := wp_at hc hd rfl
theorem wp_imul (hc : codeOf M = cc) {x y : Int32} (hd : decode cc pc = .ok (.imul, 1)) : wp M h pc ls (.int y :: .int x :: st) K = wp M h (pc + 1) ls (.int (x * y) :: st) K := wp_at hc hd rfl
theorem wp_iand (hc : codeOf M = cc) {x y : Int32} (hd : decode cc pc = .ok (.iand, 1)) : wp M h pc ls (.int y :: .int x :: st) K = wp M h (pc + 1) ls (.int (x &&& y) :: st) K := wp_at hc hd rfl
theorem wp_ior (hc : codeOf M = cc) {x y : Int32} (hd : decode cc pc = .ok (.ior, 1)) : wp M h pc ls (.int y :: .int x :: st) K = wp M h (pc + 1) ls (.int (x ||| y) :: st) K := wp_at hc hd rfl
theorem wp_ixor (hc : codeOf M = cc) {x y : Int32} (hd : decode cc pc = .ok (.ixor, 1)) : wp M h pc ls (.int y :: .int x :: st) K = wp M h (pc + 1) ls (.int (x ^^^ y) :: st) K := wp_at hc hd rfl
theorem wp_ishl (hc : codeOf M = cc) {x y : Int32} (hd : decode cc pc = .ok (.ishl, 1)) : wp M h pc ls (.int y :: .int x :: st) K = wp M h (pc + 1) ls (.int (x <<< (y &&& 31)) :: st) K := wp_at hc hd rfl
theorem wp_ishr (hc : codeOf M = cc) {x y : Int32} (hd : decode cc pc = .ok (.ishr, 1)) : wp M h pc ls (.int y :: .int x :: st) K = wp M h (pc + 1) ls (.int (x >>> (y &&& 31)) :: st) K := wp_at hc hd rfl
theorem wp_ladd (hc : codeOf M = cc) {x y : Int64} (hd : decode cc pc = .ok (.ladd, 1)) : wp M h pc ls (.long y :: .long x :: st) K = wp M h (pc + 1) ls (.long (x + y) :: st) K := wp_at hc hd rfl
theorem wp_lsub (hc : codeOf M = cc) {x y : Int64} (hd : decode cc pc = .ok (.lsub, 1)) : wp M h pc ls (.long y :: .long x :: st) K = wp M h (pc + 1) ls (.long (x - y) :: st) K := wp_at hc hd rfl
theorem wp_lmul (hc : codeOf M = cc) {x y : Int64} (hd : decode cc pc = .ok (.lmul, 1)) : wp M h pc ls (.long y :: .long x :: st) K = wp M h (pc + 1) ls (.long (x * y) :: st) K := wp_at hc hd rfl
theorem wp_idiv (hc : codeOf M = cc) {x y : Int32} (hd : decode cc pc = .ok (.idiv, 1)) : wp M h pc ls (.int y :: .int x :: st) K = (¬ y = 0 ∧ wp M h (pc + 1) ls (.int (x / y) :: st) K) := wp_g hc hd (fun g => by simp [stepI, ck, bId, stk, g]) (fun g => by simp [stepI, ck, bId, stk, Classical.not_not.mp g])
theorem wp_irem (hc : codeOf M = cc) {x y : Int32} (hd : decode cc pc = .ok (.irem, 1)) : wp M h pc ls (.int y :: .int x :: st) K = (¬ y = 0 ∧ wp M h (pc + 1) ls (.int (x % y) :: st) K) := wp_g hc hd (fun g => by simp [stepI, ck, bId, stk, g]) (fun g => by simp [stepI, ck, bId, stk, Classical.not_not.mp g])
theorem wp_ldiv (hc : codeOf M = cc) {x y : Int64} (hd : decode cc pc = .ok (.ldiv, 1)) : wp M h pc ls (.long y :: .long x :: st) K = (¬ y = 0 ∧ wp M h (pc + 1) ls (.long (x / y) :: st) K) := wp_g hc hd (fun g => by simp [stepI, ck, bLd, stk, g]) (fun g => by simp [stepI, ck, bLd, stk, Classical.not_not.mp g])
theorem wp_lrem (hc : codeOf M = cc) {x y : Int64} (hd : decode cc pc = .ok (.lrem, 1)) : wp M h pc ls (.long y :: .long x :: st) K = (¬ y = 0 ∧ wp M h (pc + 1) ls (.long (x - x / y * y) :: st) K) := wp_g hc hd (fun g => by simp [stepI, ck, bLd, stk, g]) (fun g => by simp [stepI, ck, bLd, stk, Classical.not_not.mp g])
theorem wp_ineg (hc : codeOf M = cc) {x : Int32} (hd : decode cc pc = .ok (.ineg, 1)) : wp M h pc ls (.int x :: st) K = wp M h (pc + 1) ls (.int (-x) :: st) K := wp_at hc hd rfl
theorem wp_lcmp (hc : codeOf M = cc) {x y : Int64} (hd : decode cc pc = .ok (.lcmp, 1)) : wp M h pc ls (.long y :: .long x :: st) K = wp M h (pc + 1) ls (.int (lg_cmp x y) :: st) K := wp_at hc hd rfl
theorem wp_i2l (hc : codeOf M = cc) {x : Int32} (hd : decode cc pc = .ok (.i2l, 1)) : wp M h pc ls (.int x :: st) K = wp M h (pc + 1) ls (.long x.toInt64 :: st) K := wp_at hc hd rfl
theorem wp_l2i (hc : codeOf M = cc) {x : Int64} (hd : decode cc pc = .ok (.l2i, 1)) : wp M h pc ls (.long x :: st) K = wp M h (pc + 1) ls (.int x.toInt32 :: st) K := wp_at hc hd rfl
theorem wp_dupI (hc : codeOf M = cc) {x : Int32} (hd : decode cc pc = .ok (.dup, 1)) : wp M h pc ls (.int x :: st) K = wp M h (pc + 1) ls (.int x :: .int x :: st) K := wp_at hc hd rfl
theorem wp_dupA (hc : codeOf M = cc) {x : Nat} (hd : decode cc pc = .ok (.dup, 1)) : wp M h pc ls (.ref x :: st) K = wp M h (pc + 1) ls (.ref x :: .ref x :: st) K := wp_at hc hd rfl
theorem wp_dup2 (hc : codeOf M = cc) {x : Int32} {y : Nat} (hd : decode cc pc = .ok (.dup2, 1)) : wp M h pc ls (.int x :: .ref y :: st) K = wp M h (pc + 1) ls (.int x :: .ref y :: .int x :: .ref y :: st) K := wp_at hc hd rfl
theorem wp_b (hc : codeOf M = cc) {i : Instr} {off : Int} {tgt : Nat} {b : Bool} {c : Prop} [Decidable c] {st' : List Value} (hd : decode cc pc = .ok (i, 3)) (hs : stepI M h pc ls st i 3 = br h pc ls st' off b) (hb : b = true ↔ c) (ht : (pc : Int) + off = (tgt : Int)) : wp M h pc ls st K = if c then wp M h tgt ls st' K else wp M h (pc + 3) ls st' K := by
  by_cases hx : c
  · rw [if_pos hx]
    exact wp_at hc hd (by rw [hs, hb.mpr hx]; simp [br, ht])
  · rw [if_neg hx]
    have hf : b = false := by cases b with | false => rfl | true => exact absurd (hb.mp rfl) hx
    exact wp_at hc hd (by rw [hs, hf]; simp [br, ht])
theorem wp_if_eq (hc : codeOf M = cc) {x : Int32} {off : Int} (tgt : Nat) (hd : decode cc pc = .ok (.ifCond .eq off, 3)) (ht : (pc : Int) + off = (tgt : Int)) : wp M h pc ls (.int x :: st) K = if x = 0 then wp M h tgt ls st K else wp M h (pc + 3) ls st K := wp_b hc hd rfl (by simp [ifc]) ht
theorem wp_icmp_eq (hc : codeOf M = cc) {x y : Int32} {off : Int} (tgt : Nat) (hd : decode cc pc = .ok (.if_icmp .eq off, 3)) (ht : (pc : Int) + off = (tgt : Int)) : wp M h pc ls (.int y :: .int x :: st) K = if x = y then wp M h tgt ls st K else wp M h (pc + 3) ls st K := wp_b hc hd rfl (by simp [ifc]) ht
theorem wp_if_ne (hc : codeOf M = cc) {x : Int32} {off : Int} (tgt : Nat) (hd : decode cc pc = .ok (.ifCond .ne off, 3)) (ht : (pc : Int) + off = (tgt : Int)) : wp M h pc ls (.int x :: st) K = if ¬ x = 0 then wp M h tgt ls st K else wp M h (pc + 3) ls st K := wp_b hc hd rfl (by simp [ifc]) ht
theorem wp_icmp_ne (hc : codeOf M = cc) {x y : Int32} {off : Int} (tgt : Nat) (hd : decode cc pc = .ok (.if_icmp .ne off, 3)) (ht : (pc : Int) + off = (tgt : Int)) : wp M h pc ls (.int y :: .int x :: st) K = if ¬ x = y then wp M h tgt ls st K else wp M h (pc + 3) ls st K := wp_b hc hd rfl (by simp [ifc]) ht
theorem wp_if_lt (hc : codeOf M = cc) {x : Int32} {off : Int} (tgt : Nat) (hd : decode cc pc = .ok (.ifCond .lt off, 3)) (ht : (pc : Int) + off = (tgt : Int)) : wp M h pc ls (.int x :: st) K = if x < 0 then wp M h tgt ls st K else wp M h (pc + 3) ls st K := wp_b hc hd rfl (by simp [ifc]) ht
theorem wp_icmp_lt (hc : codeOf M = cc) {x y : Int32} {off : Int} (tgt : Nat) (hd : decode cc pc = .ok (.if_icmp .lt off, 3)) (ht : (pc : Int) + off = (tgt : Int)) : wp M h pc ls (.int y :: .int x :: st) K = if x < y then wp M h tgt ls st K else wp M h (pc + 3) ls st K := wp_b hc hd rfl (by simp [ifc]) ht
theorem wp_if_ge (hc : codeOf M = cc) {x : Int32} {off : Int} (tgt : Nat) (hd : decode cc pc = .ok (.ifCond .ge off, 3)) (ht : (pc : Int) + off = (tgt : Int)) : wp M h pc ls (.int x :: st) K = if 0 ≤ x then wp M h tgt ls st K else wp M h (pc + 3) ls st K := wp_b hc hd rfl (by simp [ifc]) ht
theorem wp_icmp_ge (hc : codeOf M = cc) {x y : Int32} {off : Int} (tgt : Nat) (hd : decode cc pc = .ok (.if_icmp .ge off, 3)) (ht : (pc : Int) + off = (tgt : Int)) : wp M h pc ls (.int y :: .int x :: st) K = if y ≤ x then wp M h tgt ls st K else wp M h (pc + 3) ls st K := wp_b hc hd rfl (by simp [ifc]) ht
theorem wp_if_gt (hc : codeOf M = cc) {x : Int32} {off : Int} (tgt : Nat) (hd : decode cc pc = .ok (.ifCond .gt off, 3)) (ht : (pc : Int) + off = (tgt : Int)) : wp M h pc ls (.int x :: st) K = if 0 < x then wp M h tgt ls st K else wp M h (pc + 3) ls st K := wp_b hc hd rfl (by simp [ifc]) ht
theorem wp_icmp_gt (hc : codeOf M = cc) {x y : Int32} {off : Int} (tgt : Nat) (hd : decode cc pc = .ok (.if_icmp .gt off, 3)) (ht : (pc : Int) + off = (tgt : Int)) : wp M h pc ls (.int y :: .int x :: st) K = if y < x then wp M h tgt ls st K else wp M h (pc + 3) ls st K := wp_b hc hd rfl (by simp [ifc]) ht
theorem wp_if_le (hc : codeOf M = cc) {x : Int32} {off : Int} (tgt : Nat) (hd : decode cc pc = .ok (.ifCond .le off, 3)) (ht : (pc : Int) + off = (tgt : Int)) : wp M h pc ls (.int x :: st) K = if x ≤ 0 then wp M h tgt ls st K else wp M h (pc + 3) ls st K := wp_b hc hd rfl (by simp [ifc]) ht
theorem wp_icmp_le (hc : codeOf M = cc) {x y : Int32} {off : Int} (tgt : Nat) (hd : decode cc pc = .ok (.if_icmp .le off, 3)) (ht : (pc : Int) + off = (tgt : Int)) : wp M h pc ls (.int y :: .int x :: st) K = if x ≤ y then wp M h tgt ls st K else wp M h (pc + 3) ls st K := wp_b hc hd rfl (by simp [ifc]) ht
theorem wp_ifnull (hc : codeOf M = cc) {x : Nat} {off : Int} (tgt : Nat) (hd : decode cc pc = .ok (.ifnull off, 3)) (ht : (pc : Int) + off = (tgt : Int)) : wp M h pc ls (.ref x :: st) K = if x = 0 then wp M h tgt ls st K else wp M h (pc + 3) ls st K := wp_b hc hd rfl (by simp) ht
theorem wp_ifnonnull (hc : codeOf M = cc) {x : Nat} {off : Int} (tgt : Nat) (hd : decode cc pc = .ok (.ifnonnull off, 3)) (ht : (pc : Int) + off = (tgt : Int)) : wp M h pc ls (.ref x :: st) K = if ¬ x = 0 then wp M h tgt ls st K else wp M h (pc + 3) ls st K := wp_b hc hd rfl (by cases x with | zero => simp | succ n => exact ⟨fun _ => Nat.succ_ne_zero n, fun _ => rfl⟩) ht
theorem wp_goto (hc : codeOf M = cc) {off : Int} (tgt : Nat) (hd : decode cc pc = .ok (.goto off, 3)) (ht : (pc : Int) + off = (tgt : Int)) : wp M h pc ls st K = wp M h tgt ls st K := wp_at hc hd (by simp [stepI, ck, jmp, ht])
theorem wp_tswOut (hc : codeOf M = cc) {x : Int32} {d lo hi : Int} {offs : Array Int} {len : Nat} (tgt : Nat) (hd : decode cc pc = .ok (.tableswitch d lo hi offs, len)) (hx : x.toInt < lo ∨ hi < x.toInt) (ht : (pc : Int) + d = (tgt : Int)) : wp M h pc ls (.int x :: st) K = wp M h tgt ls st K := wp_at hc hd (by simp [stepI, jmp, ht, hx])
theorem wp_tswIn (hc : codeOf M = cc) {x : Int32} {d lo hi off : Int} {offs : Array Int} {len : Nat} (tgt : Nat) (hd : decode cc pc = .ok (.tableswitch d lo hi offs, len)) (h1 : ¬ x.toInt < lo) (h2 : ¬ hi < x.toInt) (ho : offs[(x.toInt - lo).toNat]? = some off) (ht : (pc : Int) + off = (tgt : Int)) : wp M h pc ls (.int x :: st) K = wp M h tgt ls st K := wp_at hc hd (by simp [stepI, jmp, ht, h1, h2, ho])
theorem wp_lsw (hc : codeOf M = cc) {x : Int32} {d off : Int} {ps : Array (Int × Int)} {len : Nat} (tgt : Nat) (hd : decode cc pc = .ok (.lookupswitch d ps, len)) (hp : (ps.toList.zip (ps.toList.drop 1)).all (fun (a, next) => a.1 < next.1) = true) (ho : Op.lookupswitch.offset ps.toList d x.toInt = off) (ht : (pc : Int) + off = (tgt : Int)) : wp M h pc ls (.int x :: st) K = wp M h tgt ls st K := wp_at hc hd (by simp only [stepI]; rw [if_pos hp, ho]; simp [jmp, ht])
theorem wp_getI (hc : codeOf M = cc) {i k p t a : Nat} (hd : decode cc pc = .ok (.getfield i, 3)) (hf : lk2 (ownOf M) i fldL = some (k, 0, p, [t])) : wp M h pc ls (.ref a :: st) K = (tg h a = t ∧ wp M h (pc + 3) ls (.int (gI h a k) :: st) K) := wp_g hc hd (fun g => by simp [stepI, ck, gfld, hf, memB_one.mpr g]) (fun g => by simp [stepI, ck, gfld, hf, mt memB_one.mp g])
theorem wp_getZ (hc : codeOf M = cc) {i k p t a : Nat} (hd : decode cc pc = .ok (.getfield i, 3)) (hf : lk2 (ownOf M) i fldL = some (k, 1, p, [t])) : wp M h pc ls (.ref a :: st) K = (tg h a = t ∧ wp M h (pc + 3) ls (.int (gI h a k) :: st) K) := wp_g hc hd (fun g => by simp [stepI, ck, gfld, hf, memB_one.mpr g]) (fun g => by simp [stepI, ck, gfld, hf, mt memB_one.mp g])
theorem wp_getR (hc : codeOf M = cc) {i k p t a : Nat} (hd : decode cc pc = .ok (.getfield i, 3)) (hf : lk2 (ownOf M) i fldL = some (k, 2, p, [t])) : wp M h pc ls (.ref a :: st) K = (tg h a = t ∧ wp M h (pc + 3) ls (.ref (gR h a k) :: st) K) := wp_g hc hd (fun g => by simp [stepI, ck, gfld, hf, memB_one.mpr g]) (fun g => by simp [stepI, ck, gfld, hf, mt memB_one.mp g])
theorem wp_getW (hc : codeOf M = cc) {i k p a : Nat} {cs : List Nat} (hd : decode cc pc = .ok (.getfield i, 3)) (hf : lk2 (ownOf M) i fldL = some (k, 0, p, cs)) : wp M h pc ls (.ref a :: st) K = (memB (tg h a) cs = true ∧ wp M h (pc + 3) ls (.int (gI h a k) :: st) K) := wp_g hc hd (fun g => by simp [stepI, ck, gfld, hf, g]) (fun g => by simp [stepI, ck, gfld, hf, g])
theorem wp_putI (hc : codeOf M = cc) {i k t a : Nat} {x : Int32} (hd : decode cc pc = .ok (.putfield i, 3)) (hf : lk2 (ownOf M) i fldL = some (k, 0, 0, [t])) : wp M h pc ls (.int x :: .ref a :: st) K = (tg h a = t ∧ wp M (sI h a k x) (pc + 3) ls st K) := wp_g hc hd (fun g => by simp [stepI, ck, pfld, hf, memB_one.mpr g]) (fun g => by simp [stepI, ck, pfld, hf, mt memB_one.mp g])
theorem wp_putZ (hc : codeOf M = cc) {i k t a : Nat} {x : Int32} (hd : decode cc pc = .ok (.putfield i, 3)) (hf : lk2 (ownOf M) i fldL = some (k, 1, 0, [t])) : wp M h pc ls (.int x :: .ref a :: st) K = ((tg h a = t ∧ (x = 0 ∨ x = 1)) ∧ wp M (sI h a k x) (pc + 3) ls st K) := wp_g hc hd (fun g => by simp [stepI, ck, pfld, hf, memB_one.mpr g.1, g.2]) (fun g => by
  simp only [stepI, ck, pfld, hf]
  rw [if_pos trivial]
  exact if_neg (fun (z : memB (tg h a) [t] = true ∧ (True ∨ (0 : Nat) = 1 ∧ initM M = true) ∧ ((1 : Nat) = 0 ∨ True ∧ (x = 0 ∨ x = 1))) => g ⟨memB_one.mp z.1, z.2.2.elim (fun q => absurd q (by decide)) (fun q => q.2)⟩))
theorem wp_putR (hc : codeOf M = cc) {i k t a b : Nat} (hd : decode cc pc = .ok (.putfield i, 3)) (hf : lk2 (ownOf M) i fldL = some (k, 2, 0, [t])) : wp M h pc ls (.ref b :: .ref a :: st) K = (tg h a = t ∧ wp M (sR h a k b) (pc + 3) ls st K) := wp_g hc hd (fun g => by simp [stepI, ck, pfld, hf, memB_one.mpr g]) (fun g => by simp [stepI, ck, pfld, hf, mt memB_one.mp g])
theorem wp_putRF (hc : codeOf M = cc) {i k t a b : Nat} (hd : decode cc pc = .ok (.putfield i, 3)) (hf : lk2 (ownOf M) i fldL = some (k, 2, 1, [t])) (hm : initM M = true) : wp M h pc ls (.ref b :: .ref a :: st) K = (tg h a = t ∧ wp M (sR h a k b) (pc + 3) ls st K) := wp_g hc hd (fun g => by simp [stepI, ck, pfld, hf, memB_one.mpr g, hm]) (fun g => by simp [stepI, ck, pfld, hf, mt memB_one.mp g])
theorem wp_putWF (hc : codeOf M = cc) {i k a : Nat} {cs : List Nat} {x : Int32} (hd : decode cc pc = .ok (.putfield i, 3)) (hf : lk2 (ownOf M) i fldL = some (k, 0, 1, cs)) (hm : initM M = true) : wp M h pc ls (.int x :: .ref a :: st) K = (memB (tg h a) cs = true ∧ wp M (sI h a k x) (pc + 3) ls st K) := wp_g hc hd (fun g => by simp [stepI, ck, pfld, hf, g, hm]) (fun g => by simp [stepI, ck, pfld, hf, g])
theorem wp_iaload (hc : codeOf M = cc) {i : Int32} {a : Nat} (hd : decode cc pc = .ok (.iaload, 1)) : wp M h pc ls (.int i :: .ref a :: st) K = (((tg h a = 100 ∨ tg h a = 50) ∧ inb i (ln h a)) ∧ wp M h (pc + 1) ls (.int (gI h a (ix i)) :: st) K) := wp_g hc hd (fun g => by simp only [stepI, ck, if_pos rfl]; exact if_pos g) (fun g => by simp only [stepI, ck, if_pos rfl]; exact if_neg g)
theorem wp_aaload (hc : codeOf M = cc) {i : Int32} {a : Nat} (hd : decode cc pc = .ok (.aaload, 1)) : wp M h pc ls (.int i :: .ref a :: st) K = (((201 ≤ tg h a ∧ tg h a ≤ 212) ∧ inb i (ln h a)) ∧ wp M h (pc + 1) ls (.ref (gR h a (ix i)) :: st) K) := wp_g hc hd (fun g => by simp only [stepI, ck, if_pos rfl]; exact if_pos g) (fun g => by simp only [stepI, ck, if_pos rfl]; exact if_neg g)
theorem wp_iastore (hc : codeOf M = cc) {i x : Int32} {a : Nat} (hd : decode cc pc = .ok (.iastore, 1)) : wp M h pc ls (.int x :: .int i :: .ref a :: st) K = ((tg h a = 100 ∧ inb i (ln h a)) ∧ wp M (sI h a (ix i) x) (pc + 1) ls st K) := wp_g hc hd (fun g => by simp only [stepI, ck, if_pos rfl]; exact if_pos g) (fun g => by simp only [stepI, ck, if_pos rfl]; exact if_neg g)
theorem wp_aastore (hc : codeOf M = cc) {i : Int32} {a b : Nat} (hd : decode cc pc = .ok (.aastore, 1)) : wp M h pc ls (.ref b :: .int i :: .ref a :: st) K = (((201 ≤ tg h a ∧ tg h a ≤ 212) ∧ inb i (ln h a) ∧ (b = 0 ∨ asg (tg h a) (tg h b) = true)) ∧ wp M (sR h a (ix i) b) (pc + 1) ls st K) := wp_g hc hd (fun g => by simp only [stepI, ck, if_pos rfl]; exact if_pos g) (fun g => by simp only [stepI, ck, if_pos rfl]; exact if_neg g)
theorem wp_arraylength (hc : codeOf M = cc) {a : Nat} (hd : decode cc pc = .ok (.arraylength, 1)) : wp M h pc ls (.ref a :: st) K = (50 ≤ tg h a ∧ wp M h (pc + 1) ls (.int (Int32.ofNat (ln h a)) :: st) K) := wp_g hc hd (fun g => by simp only [stepI, ck, if_pos rfl]; exact if_pos g) (fun g => by simp only [stepI, ck, if_pos rfl]; exact if_neg g)
theorem wp_new (hc : codeOf M = cc) {i : Nat} (c w : Nat) (hd : decode cc pc = .ok (.new i, 3)) (hk : lk2 (ownOf M) i clsL = some c) (hl : c < 12) (hw : nslL.getD c 0 = w) : wp M h pc ls st K = wp M (mkc h (c + 1) 0 w) (pc + 3) ls (.ref (nx h) :: st) K := by
  subst hw
  exact wp_at hc hd (by simp only [stepI, ck, if_pos rfl, hk]; exact if_pos hl)
theorem wp_newarray (hc : codeOf M = cc) {n : Int32} (hd : decode cc pc = .ok (.newarray .int, 2)) : wp M h pc ls (.int n :: st) K = ((0 ≤ n ∧ ix n ≤ 1000) ∧ wp M (mkc h 100 (ix n) (ix n)) (pc + 2) ls (.ref (nx h) :: st) K) := wp_g hc hd (fun g => by simp only [stepI, ck, if_pos rfl]; exact if_pos g) (fun g => by simp only [stepI, ck, if_pos rfl]; exact if_neg g)
theorem wp_anewarray (hc : codeOf M = cc) {i : Nat} {n : Int32} (c : Nat) (hd : decode cc pc = .ok (.anewarray i, 3)) (hk : lk2 (ownOf M) i clsL = some c) (hcs : c = 2 ∨ c = 3 ∨ c = 9) : wp M h pc ls (.int n :: st) K = ((0 ≤ n ∧ ix n ≤ 1000) ∧ wp M (mkc h (201 + c) (ix n) (ix n)) (pc + 3) ls (.ref (nx h) :: st) K) := wp_g hc hd (fun g => by simp only [stepI, ck, hk]; rw [if_pos trivial]; exact if_pos (show (c = 2 ∨ c = 3 ∨ c = 9) ∧ 0 ≤ n ∧ ix n ≤ 1000 from ⟨hcs, g⟩)) (fun g => by simp only [stepI, ck, hk]; rw [if_pos trivial]; exact if_neg (fun (z : (c = 2 ∨ c = 3 ∨ c = 9) ∧ 0 ≤ n ∧ ix n ≤ 1000) => g z.2))
theorem aftV (P : PH → List Value → Prop) (r : List Value) (h' : PH) (v : Option Value) : (∃ st'', aft 0 v r = some st'' ∧ P h' st'') = (match v with | none => P h' r | _ => False) := by
  cases v with
  | none => simp [aft]
  | some v => cases v <;> simp [aft]
theorem aftI (P : PH → List Value → Prop) (r : List Value) (h' : PH) (v : Option Value) : (∃ st'', aft 1 v r = some st'' ∧ P h' st'') = (match v with | some (.int x) => P h' (.int x :: r) | _ => False) := by
  cases v with
  | none => simp [aft]
  | some v => cases v <;> simp [aft]
theorem aftL (P : PH → List Value → Prop) (r : List Value) (h' : PH) (v : Option Value) : (∃ st'', aft 2 v r = some st'' ∧ P h' st'') = (match v with | some (.long x) => P h' (.long x :: r) | _ => False) := by
  cases v with
  | none => simp [aft]
  | some v => cases v <;> simp [aft]
theorem aftA (P : PH → List Value → Prop) (r : List Value) (h' : PH) (v : Option Value) : (∃ st'', aft 3 v r = some st'' ∧ P h' st'') = (match v with | some (.ref x) => P h' (.ref x :: r) | _ => False) := by
  cases v with
  | none => simp [aft]
  | some v => cases v <;> simp [aft]
theorem wp_cV {i : Instr} {len M' : Nat} {as r : List Value} (hc : codeOf M = cc) (hd : decode cc pc = .ok (i, len)) (hr : rkOf M' = 0) (hs : stepI M h pc ls st i len = some (.inr (.inl (M', as, pc + 3, ls, r)))) : wp M h pc ls st K = ccV M' h as fun h' => wp M h' (pc + 3) ls r K := by
  rw [wp_call ((step_of hc hd).trans hs), hr]
  show cw M' h as _ = cw M' h as _
  congr 1
  funext h' v
  rw [aftV (fun h' st'' => wp M h' (pc + 3) ls st'' K) r h' v]
  cases v with
  | none => rfl
  | some v => cases v <;> rfl
theorem wp_vV {i n t M' a : Nat} {as r : List Value} (hc : codeOf M = cc) (hd : decode cc pc = .ok (.invokevirtual i, 3)) (hk : lk2 (ownOf M) i calL = some (0, n, [(t, M')])) (hp : popN n st = some (as, .ref a :: r)) (hf : fitM M M' = true) (hr : rkOf M' = 0) (hq : catS r ≤ 8) (hz : argOK M' (.ref a :: as) = true) : wp M h pc ls st K = (tg h a = t ∧ ccV M' h (.ref a :: as) fun h' => wp M h' (pc + 3) ls r K) := by
  by_cases hg : tg h a = t
  · rw [wp_cV (M' := M') (as := .ref a :: as) (r := r) hc hd hr (by simp [stepI, ck, invV, hk, hp, find1, hg, goCall, hf, hq, hz])]
    exact propext ⟨fun z => ⟨hg, z⟩, fun z => z.2⟩
  · rw [wp_stuck ((step_of hc hd).trans (by
      have e : Nat.beq t (tg h a) = false := by
        cases hb : Nat.beq t (tg h a) with
        | false => rfl
        | true => exact absurd (Nat.eq_of_beq_eq_true hb).symm hg
      simp [stepI, ck, invV, hk, hp, find1, e]))]
    exact propext ⟨fun z => z.elim, fun z => hg z.1⟩
theorem wp_dV {i n a : Nat} {tgs : List (Nat × Nat)} {as r : List Value} (hc : codeOf M = cc) (hd : decode cc pc = .ok (.invokevirtual i, 3)) (hk : lk2 (ownOf M) i calL = some (0, n, tgs)) (hp : popN n st = some (as, .ref a :: r)) (hf : ∀ t M', find1 t tgs = some M' → fitM M M' = true ∧ rkOf M' = 0) (hq : catS r ≤ 8) (hz : ∀ t M', find1 t tgs = some M' → argOK M' (.ref a :: as) = true) : wp M h pc ls st K = (∃ M', find1 (tg h a) tgs = some M' ∧ ccV M' h (.ref a :: as) fun h' => wp M h' (pc + 3) ls r K) := by
  cases hg : find1 (tg h a) tgs with
  | some M' =>
    obtain ⟨f1, f2⟩ := hf _ _ hg
    rw [wp_cV (M' := M') (as := .ref a :: as) (r := r) hc hd f2 (by simp [stepI, ck, invV, hk, hp, hg, goCall, f1, hq, hz _ _ hg])]
    exact propext ⟨fun z => ⟨M', rfl, z⟩, fun ⟨M2, e, z⟩ => by cases e; exact z⟩
  | none =>
    rw [wp_stuck ((step_of hc hd).trans (by simp [stepI, ck, invV, hk, hp, hg]))]
    exact propext ⟨fun z => z.elim, fun ⟨M2, e, z⟩ => by cases e⟩
theorem wp_sV {i n k M' t : Nat} {as r : List Value} (hc : codeOf M = cc) (hd : decode cc pc = .ok (.invokestatic i, 3)) (hk : lk2 (ownOf M) i calL = some (k, n, [(t, M')])) (hkk : k = 4 ∨ k = 5) (hp : popN n st = some (as, r)) (hf : fitM M M' = true) (hr : rkOf M' = 0) (hq : catS r ≤ 8) (hz : argOK M' as = true) : wp M h pc ls st K = ccV M' h as fun h' => wp M h' (pc + 3) ls r K := by
  refine wp_cV (M' := M') (as := as) (r := r) hc hd hr ?_
  rcases hkk with rfl | rfl <;> simp [stepI, ck, invS, hk, hp, goCall, hf, hq, hz]
theorem wp_uV {i n M' t a : Nat} {as r : List Value} (hc : codeOf M = cc) (hd : decode cc pc = .ok (.invokespecial i, 3)) (hk : lk2 (ownOf M) i calL = some (3, n, [(t, M')])) (hp : popN n st = some (as, .ref a :: r)) (hf : fitM M M' = true) (hr : rkOf M' = 0) (hq : catS r ≤ 8) (hz : argOK M' (.ref a :: as) = true) : wp M h pc ls st K = ((1 ≤ tg h a ∧ tg h a ≤ 12) ∧ ccV M' h (.ref a :: as) fun h' => wp M h' (pc + 3) ls r K) := by
  by_cases hg : 1 ≤ tg h a ∧ tg h a ≤ 12
  · rw [wp_cV (M' := M') (as := .ref a :: as) (r := r) hc hd hr (by simp [stepI, ck, invP, hk, hp, hg, goCall, hf, hq, hz])]
    exact propext ⟨fun z => ⟨hg, z⟩, fun z => z.2⟩
  · rw [wp_stuck ((step_of hc hd).trans (by simp only [stepI, ck, if_pos rfl, invP, hk, hp]; exact if_neg hg))]
    exact propext ⟨fun z => z.elim, fun z => hg z.1⟩
theorem wp_cI {i : Instr} {len M' : Nat} {as r : List Value} (hc : codeOf M = cc) (hd : decode cc pc = .ok (i, len)) (hr : rkOf M' = 1) (hs : stepI M h pc ls st i len = some (.inr (.inl (M', as, pc + 3, ls, r)))) : wp M h pc ls st K = ccI M' h as fun h' x => wp M h' (pc + 3) ls (.int x :: r) K := by
  rw [wp_call ((step_of hc hd).trans hs), hr]
  show cw M' h as _ = cw M' h as _
  congr 1
  funext h' v
  rw [aftI (fun h' st'' => wp M h' (pc + 3) ls st'' K) r h' v]
  cases v with
  | none => rfl
  | some v => cases v <;> rfl
theorem wp_vI {i n t M' a : Nat} {as r : List Value} (hc : codeOf M = cc) (hd : decode cc pc = .ok (.invokevirtual i, 3)) (hk : lk2 (ownOf M) i calL = some (0, n, [(t, M')])) (hp : popN n st = some (as, .ref a :: r)) (hf : fitM M M' = true) (hr : rkOf M' = 1) (hq : catS r ≤ 8) (hz : argOK M' (.ref a :: as) = true) : wp M h pc ls st K = (tg h a = t ∧ ccI M' h (.ref a :: as) fun h' x => wp M h' (pc + 3) ls (.int x :: r) K) := by
  by_cases hg : tg h a = t
  · rw [wp_cI (M' := M') (as := .ref a :: as) (r := r) hc hd hr (by simp [stepI, ck, invV, hk, hp, find1, hg, goCall, hf, hq, hz])]
    exact propext ⟨fun z => ⟨hg, z⟩, fun z => z.2⟩
  · rw [wp_stuck ((step_of hc hd).trans (by
      have e : Nat.beq t (tg h a) = false := by
        cases hb : Nat.beq t (tg h a) with
        | false => rfl
        | true => exact absurd (Nat.eq_of_beq_eq_true hb).symm hg
      simp [stepI, ck, invV, hk, hp, find1, e]))]
    exact propext ⟨fun z => z.elim, fun z => hg z.1⟩
theorem wp_dI {i n a : Nat} {tgs : List (Nat × Nat)} {as r : List Value} (hc : codeOf M = cc) (hd : decode cc pc = .ok (.invokevirtual i, 3)) (hk : lk2 (ownOf M) i calL = some (0, n, tgs)) (hp : popN n st = some (as, .ref a :: r)) (hf : ∀ t M', find1 t tgs = some M' → fitM M M' = true ∧ rkOf M' = 1) (hq : catS r ≤ 8) (hz : ∀ t M', find1 t tgs = some M' → argOK M' (.ref a :: as) = true) : wp M h pc ls st K = (∃ M', find1 (tg h a) tgs = some M' ∧ ccI M' h (.ref a :: as) fun h' x => wp M h' (pc + 3) ls (.int x :: r) K) := by
  cases hg : find1 (tg h a) tgs with
  | some M' =>
    obtain ⟨f1, f2⟩ := hf _ _ hg
    rw [wp_cI (M' := M') (as := .ref a :: as) (r := r) hc hd f2 (by simp [stepI, ck, invV, hk, hp, hg, goCall, f1, hq, hz _ _ hg])]
    exact propext ⟨fun z => ⟨M', rfl, z⟩, fun ⟨M2, e, z⟩ => by cases e; exact z⟩
  | none =>
    rw [wp_stuck ((step_of hc hd).trans (by simp [stepI, ck, invV, hk, hp, hg]))]
    exact propext ⟨fun z => z.elim, fun ⟨M2, e, z⟩ => by cases e⟩
theorem wp_sI {i n k M' t : Nat} {as r : List Value} (hc : codeOf M = cc) (hd : decode cc pc = .ok (.invokestatic i, 3)) (hk : lk2 (ownOf M) i calL = some (k, n, [(t, M')])) (hkk : k = 4 ∨ k = 5) (hp : popN n st = some (as, r)) (hf : fitM M M' = true) (hr : rkOf M' = 1) (hq : catS r ≤ 8) (hz : argOK M' as = true) : wp M h pc ls st K = ccI M' h as fun h' x => wp M h' (pc + 3) ls (.int x :: r) K := by
  refine wp_cI (M' := M') (as := as) (r := r) hc hd hr ?_
  rcases hkk with rfl | rfl <;> simp [stepI, ck, invS, hk, hp, goCall, hf, hq, hz]
theorem wp_uI {i n M' t a : Nat} {as r : List Value} (hc : codeOf M = cc) (hd : decode cc pc = .ok (.invokespecial i, 3)) (hk : lk2 (ownOf M) i calL = some (3, n, [(t, M')])) (hp : popN n st = some (as, .ref a :: r)) (hf : fitM M M' = true) (hr : rkOf M' = 1) (hq : catS r ≤ 8) (hz : argOK M' (.ref a :: as) = true) : wp M h pc ls st K = ((1 ≤ tg h a ∧ tg h a ≤ 12) ∧ ccI M' h (.ref a :: as) fun h' x => wp M h' (pc + 3) ls (.int x :: r) K) := by
  by_cases hg : 1 ≤ tg h a ∧ tg h a ≤ 12
  · rw [wp_cI (M' := M') (as := .ref a :: as) (r := r) hc hd hr (by simp [stepI, ck, invP, hk, hp, hg, goCall, hf, hq, hz])]
    exact propext ⟨fun z => ⟨hg, z⟩, fun z => z.2⟩
  · rw [wp_stuck ((step_of hc hd).trans (by simp only [stepI, ck, if_pos rfl, invP, hk, hp]; exact if_neg hg))]
    exact propext ⟨fun z => z.elim, fun z => hg z.1⟩
theorem wp_cL {i : Instr} {len M' : Nat} {as r : List Value} (hc : codeOf M = cc) (hd : decode cc pc = .ok (i, len)) (hr : rkOf M' = 2) (hs : stepI M h pc ls st i len = some (.inr (.inl (M', as, pc + 3, ls, r)))) : wp M h pc ls st K = ccL M' h as fun h' x => wp M h' (pc + 3) ls (.long x :: r) K := by
  rw [wp_call ((step_of hc hd).trans hs), hr]
  show cw M' h as _ = cw M' h as _
  congr 1
  funext h' v
  rw [aftL (fun h' st'' => wp M h' (pc + 3) ls st'' K) r h' v]
  cases v with
  | none => rfl
  | some v => cases v <;> rfl
theorem wp_vL {i n t M' a : Nat} {as r : List Value} (hc : codeOf M = cc) (hd : decode cc pc = .ok (.invokevirtual i, 3)) (hk : lk2 (ownOf M) i calL = some (0, n, [(t, M')])) (hp : popN n st = some (as, .ref a :: r)) (hf : fitM M M' = true) (hr : rkOf M' = 2) (hq : catS r ≤ 8) (hz : argOK M' (.ref a :: as) = true) : wp M h pc ls st K = (tg h a = t ∧ ccL M' h (.ref a :: as) fun h' x => wp M h' (pc + 3) ls (.long x :: r) K) := by
  by_cases hg : tg h a = t
  · rw [wp_cL (M' := M') (as := .ref a :: as) (r := r) hc hd hr (by simp [stepI, ck, invV, hk, hp, find1, hg, goCall, hf, hq, hz])]
    exact propext ⟨fun z => ⟨hg, z⟩, fun z => z.2⟩
  · rw [wp_stuck ((step_of hc hd).trans (by
      have e : Nat.beq t (tg h a) = false := by
        cases hb : Nat.beq t (tg h a) with
        | false => rfl
        | true => exact absurd (Nat.eq_of_beq_eq_true hb).symm hg
      simp [stepI, ck, invV, hk, hp, find1, e]))]
    exact propext ⟨fun z => z.elim, fun z => hg z.1⟩
theorem wp_dL {i n a : Nat} {tgs : List (Nat × Nat)} {as r : List Value} (hc : codeOf M = cc) (hd : decode cc pc = .ok (.invokevirtual i, 3)) (hk : lk2 (ownOf M) i calL = some (0, n, tgs)) (hp : popN n st = some (as, .ref a :: r)) (hf : ∀ t M', find1 t tgs = some M' → fitM M M' = true ∧ rkOf M' = 2) (hq : catS r ≤ 8) (hz : ∀ t M', find1 t tgs = some M' → argOK M' (.ref a :: as) = true) : wp M h pc ls st K = (∃ M', find1 (tg h a) tgs = some M' ∧ ccL M' h (.ref a :: as) fun h' x => wp M h' (pc + 3) ls (.long x :: r) K) := by
  cases hg : find1 (tg h a) tgs with
  | some M' =>
    obtain ⟨f1, f2⟩ := hf _ _ hg
    rw [wp_cL (M' := M') (as := .ref a :: as) (r := r) hc hd f2 (by simp [stepI, ck, invV, hk, hp, hg, goCall, f1, hq, hz _ _ hg])]
    exact propext ⟨fun z => ⟨M', rfl, z⟩, fun ⟨M2, e, z⟩ => by cases e; exact z⟩
  | none =>
    rw [wp_stuck ((step_of hc hd).trans (by simp [stepI, ck, invV, hk, hp, hg]))]
    exact propext ⟨fun z => z.elim, fun ⟨M2, e, z⟩ => by cases e⟩
theorem wp_sL {i n k M' t : Nat} {as r : List Value} (hc : codeOf M = cc) (hd : decode cc pc = .ok (.invokestatic i, 3)) (hk : lk2 (ownOf M) i calL = some (k, n, [(t, M')])) (hkk : k = 4 ∨ k = 5) (hp : popN n st = some (as, r)) (hf : fitM M M' = true) (hr : rkOf M' = 2) (hq : catS r ≤ 8) (hz : argOK M' as = true) : wp M h pc ls st K = ccL M' h as fun h' x => wp M h' (pc + 3) ls (.long x :: r) K := by
  refine wp_cL (M' := M') (as := as) (r := r) hc hd hr ?_
  rcases hkk with rfl | rfl <;> simp [stepI, ck, invS, hk, hp, goCall, hf, hq, hz]
theorem wp_cA {i : Instr} {len M' : Nat} {as r : List Value} (hc : codeOf M = cc) (hd : decode cc pc = .ok (i, len)) (hr : rkOf M' = 3) (hs : stepI M h pc ls st i len = some (.inr (.inl (M', as, pc + 3, ls, r)))) : wp M h pc ls st K = ccA M' h as fun h' x => wp M h' (pc + 3) ls (.ref x :: r) K := by
  rw [wp_call ((step_of hc hd).trans hs), hr]
  show cw M' h as _ = cw M' h as _
  congr 1
  funext h' v
  rw [aftA (fun h' st'' => wp M h' (pc + 3) ls st'' K) r h' v]
  cases v with
  | none => rfl
  | some v => cases v <;> rfl
theorem wp_vA {i n t M' a : Nat} {as r : List Value} (hc : codeOf M = cc) (hd : decode cc pc = .ok (.invokevirtual i, 3)) (hk : lk2 (ownOf M) i calL = some (0, n, [(t, M')])) (hp : popN n st = some (as, .ref a :: r)) (hf : fitM M M' = true) (hr : rkOf M' = 3) (hq : catS r ≤ 8) (hz : argOK M' (.ref a :: as) = true) : wp M h pc ls st K = (tg h a = t ∧ ccA M' h (.ref a :: as) fun h' x => wp M h' (pc + 3) ls (.ref x :: r) K) := by
  by_cases hg : tg h a = t
  · rw [wp_cA (M' := M') (as := .ref a :: as) (r := r) hc hd hr (by simp [stepI, ck, invV, hk, hp, find1, hg, goCall, hf, hq, hz])]
    exact propext ⟨fun z => ⟨hg, z⟩, fun z => z.2⟩
  · rw [wp_stuck ((step_of hc hd).trans (by
      have e : Nat.beq t (tg h a) = false := by
        cases hb : Nat.beq t (tg h a) with
        | false => rfl
        | true => exact absurd (Nat.eq_of_beq_eq_true hb).symm hg
      simp [stepI, ck, invV, hk, hp, find1, e]))]
    exact propext ⟨fun z => z.elim, fun z => hg z.1⟩
theorem wp_dA {i n a : Nat} {tgs : List (Nat × Nat)} {as r : List Value} (hc : codeOf M = cc) (hd : decode cc pc = .ok (.invokevirtual i, 3)) (hk : lk2 (ownOf M) i calL = some (0, n, tgs)) (hp : popN n st = some (as, .ref a :: r)) (hf : ∀ t M', find1 t tgs = some M' → fitM M M' = true ∧ rkOf M' = 3) (hq : catS r ≤ 8) (hz : ∀ t M', find1 t tgs = some M' → argOK M' (.ref a :: as) = true) : wp M h pc ls st K = (∃ M', find1 (tg h a) tgs = some M' ∧ ccA M' h (.ref a :: as) fun h' x => wp M h' (pc + 3) ls (.ref x :: r) K) := by
  cases hg : find1 (tg h a) tgs with
  | some M' =>
    obtain ⟨f1, f2⟩ := hf _ _ hg
    rw [wp_cA (M' := M') (as := .ref a :: as) (r := r) hc hd f2 (by simp [stepI, ck, invV, hk, hp, hg, goCall, f1, hq, hz _ _ hg])]
    exact propext ⟨fun z => ⟨M', rfl, z⟩, fun ⟨M2, e, z⟩ => by cases e; exact z⟩
  | none =>
    rw [wp_stuck ((step_of hc hd).trans (by simp [stepI, ck, invV, hk, hp, hg]))]
    exact propext ⟨fun z => z.elim, fun ⟨M2, e, z⟩ => by cases e⟩
theorem wp_sA {i n k M' t : Nat} {as r : List Value} (hc : codeOf M = cc) (hd : decode cc pc = .ok (.invokestatic i, 3)) (hk : lk2 (ownOf M) i calL = some (k, n, [(t, M')])) (hkk : k = 4 ∨ k = 5) (hp : popN n st = some (as, r)) (hf : fitM M M' = true) (hr : rkOf M' = 3) (hq : catS r ≤ 8) (hz : argOK M' as = true) : wp M h pc ls st K = ccA M' h as fun h' x => wp M h' (pc + 3) ls (.ref x :: r) K := by
  refine wp_cA (M' := M') (as := as) (r := r) hc hd hr ?_
  rcases hkk with rfl | rfl <;> simp [stepI, ck, invS, hk, hp, goCall, hf, hq, hz]
theorem wp_init {i n k M' t a : Nat} {as r : List Value} (hc : codeOf M = cc) (hd : decode cc pc = .ok (.invokespecial i, 3)) (hk : lk2 (ownOf M) i calL = some (k, n, [(t, M')])) (hkk : k = 1 ∨ k = 2) (hp : popN n st = some (as, .ref a :: r)) (hf : fitM M M' = true) (hr : rkOf M' = 0) (hq : catS r ≤ 8) (hz : argOK M' (.ref a :: as) = true) : wp M h pc ls st K = (a ≠ 0 ∧ ccV M' h (.ref a :: as) fun h' => wp M h' (pc + 3) ls r K) := by
  by_cases hg : a ≠ 0
  · rw [wp_cV (M' := M') (as := .ref a :: as) (r := r) hc hd hr (by rcases hkk with rfl | rfl <;> simp [stepI, ck, invP, hk, hp, hg, goCall, hf, hq, hz])]
    exact propext ⟨fun z => ⟨hg, z⟩, fun z => z.2⟩
  · rw [wp_stuck ((step_of hc hd).trans (by rcases hkk with rfl | rfl <;> simp [stepI, ck, invP, hk, hp, Classical.not_not.mp hg]))]
    exact propext ⟨fun z => z.elim, fun z => hg z.1⟩
theorem wp_obj {i n a : Nat} {tgs : List (Nat × Nat)} (hc : codeOf M = cc) (hd : decode cc pc = .ok (.invokespecial i, 3)) (hk : lk2 (ownOf M) i calL = some (6, n, tgs)) (hf : 1 ≤ frm M) (hq : catS st + 12 ≤ lom M) : wp M h pc ls (.ref a :: st) K = (a ≠ 0 ∧ wp M h (pc + 3) ls st K) := wp_g hc hd (fun g => by simp [stepI, ck, invP, hk, g, hf, hq]) (fun g => by simp [stepI, ck, invP, hk, Classical.not_not.mp g])
theorem wp_max {i n : Nat} {x y : Int32} {tgs : List (Nat × Nat)} (hc : codeOf M = cc) (hd : decode cc pc = .ok (.invokestatic i, 3)) (hk : lk2 (ownOf M) i calL = some (7, n, tgs)) (hf : 1 ≤ frm M) (hq : catS st + 13 ≤ lom M) : wp M h pc ls (.int y :: .int x :: st) K = wp M h (pc + 3) ls (.int (if x < y then y else x) :: st) K := wp_at hc hd (by simp [stepI, ck, invS, hk, hf, hq])
theorem wp_min {i n : Nat} {x y : Int32} {tgs : List (Nat × Nat)} (hc : codeOf M = cc) (hd : decode cc pc = .ok (.invokestatic i, 3)) (hk : lk2 (ownOf M) i calL = some (8, n, tgs)) (hf : 1 ≤ frm M) (hq : catS st + 13 ≤ lom M) : wp M h pc ls (.int y :: .int x :: st) K = wp M h (pc + 3) ls (.int (if y < x then y else x) :: st) K := wp_at hc hd (by simp [stepI, ck, invS, hk, hf, hq])
theorem wp_copy {i m a b : Nat} {n dp sp : Int32} {tgs : List (Nat × Nat)} (hc : codeOf M = cc) (hd : decode cc pc = .ok (.invokestatic i, 3)) (hk : lk2 (ownOf M) i calL = some (9, m, tgs)) (hf : 1 ≤ frm M) (hq : catS st + 18 ≤ lom M) : wp M h pc ls (.int n :: .int dp :: .ref b :: .int sp :: .ref a :: st) K = (((tg h a = 100 ∧ tg h b = 100 ∧ a ≠ b) ∧ (0 ≤ sp ∧ 0 ≤ dp ∧ 0 ≤ n) ∧ ix sp + ix n ≤ ln h a ∧ ix dp + ix n ≤ ln h b) ∧ wp M (cpI h a b (ix sp) (ix dp) (ix n)) (pc + 3) ls st K) :=
  wp_g hc hd (fun g => by simp only [stepI, ck, invS, hk]; rw [if_pos trivial]; exact if_pos (show (tg h a = 100 ∧ tg h b = 100 ∧ a ≠ b ∧ 1 ≤ frm M ∧ catS st + 18 ≤ lom M) ∧ (0 ≤ sp ∧ 0 ≤ dp ∧ 0 ≤ n) ∧ ix sp + ix n ≤ ln h a ∧ ix dp + ix n ≤ ln h b from ⟨⟨g.1.1, g.1.2.1, g.1.2.2, hf, hq⟩, g.2⟩)) (fun g => by simp only [stepI, ck, invS, hk]; rw [if_pos trivial]; exact if_neg (fun (z : (tg h a = 100 ∧ tg h b = 100 ∧ a ≠ b ∧ 1 ≤ frm M ∧ catS st + 18 ≤ lom M) ∧ (0 ≤ sp ∧ 0 ≤ dp ∧ 0 ≤ n) ∧ ix sp + ix n ≤ ln h a ∧ ix dp + ix n ≤ ln h b) => g ⟨⟨z.1.1, z.1.2.1, z.1.2.2.1⟩, z.2⟩))
theorem wp_vret (hc : codeOf M = cc) (hd : decode cc pc = .ok (.return_, 1)) (hr : retOf M = none) : wp M h pc ls [] K = K h none := wp_done ((step_of hc hd).trans (by simp [stepI, ck, hr]))
theorem wp_iret (hc : codeOf M = cc) {x : Int32} (hd : decode cc pc = .ok (.ireturn, 1)) (hr : retOf M = some .int) : wp M h pc ls [.int x] K = K h (some (.int x)) := wp_done ((step_of hc hd).trans (by simp [stepI, ck, hr]))
theorem wp_lret (hc : codeOf M = cc) {x : Int64} (hd : decode cc pc = .ok (.lreturn, 1)) (hr : retOf M = some .long) : wp M h pc ls [.long x] K = K h (some (.long x)) := wp_done ((step_of hc hd).trans (by simp [stepI, ck, hr]))
theorem wp_aret (hc : codeOf M = cc) {x : Nat} {C : String} (hd : decode cc pc = .ok (.areturn, 1)) (hr : retOf M = some (.object C)) : wp M h pc ls [.ref x] K = K h (some (.ref x)) := wp_done ((step_of hc hd).trans (by simp [stepI, ck, hr]))
theorem wp_zret (hc : codeOf M = cc) {x : Int32} (hd : decode cc pc = .ok (.ireturn, 1)) (hr : retOf M = some .boolean) : wp M h pc ls [.int x] K = ((x = 0 ∨ x = 1) ∧ K h (some (.int x))) := by
  by_cases hg : x = 0 ∨ x = 1
  · rw [wp_done ((step_of hc hd).trans (by simp only [stepI, ck, if_pos rfl, hr]; exact if_pos hg))]
    exact propext ⟨fun z => ⟨hg, z⟩, fun z => z.2⟩
  · rw [wp_stuck ((step_of hc hd).trans (by simp only [stepI, ck, if_pos rfl, hr]; exact if_neg hg))]
    exact propext ⟨fun z => z.elim, fun z => hg z.1⟩
end Rules
