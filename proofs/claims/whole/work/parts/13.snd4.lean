/-! ===== the pure machine as a whole (gen/mk13.py) ===== -/
section Inv
variable {P : Res → Prop} {M : Nat} {h : PH} {pc pc1 : Nat} {ls : LSt} {st : List Value} {len k i : Nat} {rs : Res}
theorem inv_ck (hn : ¬ P none) (hp : P (ck len k rs)) : len = k ∧ P rs := by
  unfold ck at hp
  split at hp
  · next e => exact ⟨e, hp⟩
  · exact (hn hp).elim
theorem inv_bI {f : Int32 → Int32 → Int32} (hn : ¬ P none) (hp : P (stk h pc ls (bI f st))) : ∃ x y r, st = .int y :: .int x :: r ∧ P (nxt h pc ls (.int (f x y) :: r)) := by
  rcases st with _ | ⟨v, _ | ⟨w, r⟩⟩
  · exact (hn hp).elim
  · cases v <;> exact (hn hp).elim
  · cases v <;> first | exact (hn hp).elim | (cases w <;> first | exact (hn hp).elim | exact ⟨_, _, _, rfl, hp⟩)
theorem inv_bL {f : Int64 → Int64 → Int64} (hn : ¬ P none) (hp : P (stk h pc ls (bL f st))) : ∃ x y r, st = .long y :: .long x :: r ∧ P (nxt h pc ls (.long (f x y) :: r)) := by
  rcases st with _ | ⟨v, _ | ⟨w, r⟩⟩
  · exact (hn hp).elim
  · cases v <;> exact (hn hp).elim
  · cases v <;> first | exact (hn hp).elim | (cases w <;> first | exact (hn hp).elim | exact ⟨_, _, _, rfl, hp⟩)
theorem inv_bId {f : Int32 → Int32 → Int32} (hn : ¬ P none) (hp : P (stk h pc ls (bId f st))) : ∃ x y r, st = .int y :: .int x :: r ∧ ¬ y = 0 ∧ P (nxt h pc ls (.int (f x y) :: r)) := by
  rcases st with _ | ⟨v, _ | ⟨w, r⟩⟩
  · exact (hn hp).elim
  · cases v <;> exact (hn hp).elim
  · cases v <;> first | exact (hn hp).elim | (cases w <;> first | exact (hn hp).elim | skip)
    rename_i y x
    by_cases e : y = 0
    · have : P none := by
        have h2 : bId f (.int y :: .int x :: r) = none := if_pos e
        rw [h2] at hp; exact hp
      exact (hn this).elim
    · have h2 : bId f (.int y :: .int x :: r) = some (.int (f x y) :: r) := if_neg e
      rw [h2] at hp
      exact ⟨x, y, r, rfl, e, hp⟩
theorem inv_bLd {f : Int64 → Int64 → Int64} (hn : ¬ P none) (hp : P (stk h pc ls (bLd f st))) : ∃ x y r, st = .long y :: .long x :: r ∧ ¬ y = 0 ∧ P (nxt h pc ls (.long (f x y) :: r)) := by
  rcases st with _ | ⟨v, _ | ⟨w, r⟩⟩
  · exact (hn hp).elim
  · cases v <;> exact (hn hp).elim
  · cases v <;> first | exact (hn hp).elim | (cases w <;> first | exact (hn hp).elim | skip)
    rename_i y x
    by_cases e : y = 0
    · have : P none := by
        have h2 : bLd f (.long y :: .long x :: r) = none := if_pos e
        rw [h2] at hp; exact hp
      exact (hn this).elim
    · have h2 : bLd f (.long y :: .long x :: r) = some (.long (f x y) :: r) := if_neg e
      rw [h2] at hp
      exact ⟨x, y, r, rfl, e, hp⟩
theorem inv_ldI (hn : ¬ P none) (hp : P (ldI h pc ls st i)) : ∃ x, lget ls i = some (.int x) ∧ P (nxt h pc ls (.int x :: st)) := by
  unfold ldI at hp
  split at hp
  · next x e => exact ⟨x, e, hp⟩
  · exact (hn hp).elim
theorem inv_ldL (hn : ¬ P none) (hp : P (ldL h pc ls st i)) : ∃ x, lget ls i = some (.long x) ∧ P (nxt h pc ls (.long x :: st)) := by
  unfold ldL at hp
  split at hp
  · next x e => exact ⟨x, e, hp⟩
  · exact (hn hp).elim
theorem inv_ldA (hn : ¬ P none) (hp : P (ldA h pc ls st i)) : ∃ x, lget ls i = some (.ref x) ∧ P (nxt h pc ls (.ref x :: st)) := by
  unfold ldA at hp
  split at hp
  · next x e => exact ⟨x, e, hp⟩
  · exact (hn hp).elim
theorem inv_if {c : Prop} [Decidable c] (hn : ¬ P none) (hp : P (if c then rs else none)) : c ∧ P rs := by
  by_cases e : c
  · rw [if_pos e] at hp; exact ⟨e, hp⟩
  · rw [if_neg e] at hp; exact (hn hp).elim
theorem inv_soI (hn : ¬ P none) (hp : P (soI M h pc ls st i)) : ∃ x r, st = .int x :: r ∧ i < mxl M ∧ P (nxt h pc (lset ls i (.int x)) r) := by
  rcases st with _ | ⟨v, r⟩
  · exact (hn hp).elim
  · cases v <;> first | exact (hn hp).elim | skip
    obtain ⟨e, hp⟩ := inv_if hn hp
    exact ⟨_, r, rfl, e, hp⟩
theorem inv_soL (hn : ¬ P none) (hp : P (soL M h pc ls st i)) : ∃ x r, st = .long x :: r ∧ i + 1 < mxl M ∧ P (nxt h pc (lclr (lset ls i (.long x)) (i + 1)) r) := by
  rcases st with _ | ⟨v, r⟩
  · exact (hn hp).elim
  · cases v <;> first | exact (hn hp).elim | skip
    obtain ⟨e, hp⟩ := inv_if hn hp
    exact ⟨_, r, rfl, e, hp⟩
theorem inv_soA (hn : ¬ P none) (hp : P (soA M h pc ls st i)) : ∃ x r, st = .ref x :: r ∧ i < mxl M ∧ P (nxt h pc (lset ls i (.ref x)) r) := by
  rcases st with _ | ⟨v, r⟩
  · exact (hn hp).elim
  · cases v <;> first | exact (hn hp).elim | skip
    obtain ⟨e, hp⟩ := inv_if hn hp
    exact ⟨_, r, rfl, e, hp⟩
theorem inv_jmp {off : Int} (hn : ¬ P none) (hp : P (jmp h pc ls st off)) : ∃ tgt : Nat, (pc : Int) + off = (tgt : Int) ∧ P (nxt h tgt ls st) := by
  obtain ⟨e, hp⟩ := inv_if hn hp
  exact ⟨_, (Int.toNat_of_nonneg e).symm, hp⟩
theorem inv_br {off : Int} {b : Bool} (hn : ¬ P none) (hp : P (br h pc ls st off b)) : ∃ tgt : Nat, (pc : Int) + off = (tgt : Int) ∧ (b = true → P (nxt h tgt ls st)) ∧ (b = false → P (nxt h (pc + 3) ls st)) := by
  obtain ⟨e, hp⟩ := inv_if hn hp
  refine ⟨_, (Int.toNat_of_nonneg e).symm, fun z => ?_, fun z => ?_⟩
  · subst z; exact hp
  · subst z; exact hp
theorem inv_goCall {M' : Nat} {as r : List Value} (hn : ¬ P none) (hp : P (goCall M M' as pc ls r)) : fitM M M' = true ∧ catS r ≤ 8 ∧ argOK M' as = true ∧ P (some (.inr (.inl (M', as, pc, ls, r)))) := by
  obtain ⟨e, hp⟩ := inv_if hn hp
  exact ⟨e.1, e.2.1, e.2.2, hp⟩
theorem inv_gfld (hn : ¬ P none) (hp : P (gfld M h pc ls st i)) : ∃ k ty put cs a r, lk2 (ownOf M) i fldL = some (k, ty, put, cs) ∧ st = .ref a :: r ∧ memB (tg h a) cs = true ∧ P (nxt h (pc + 3) ls ((if ty = 2 then .ref (gR h a k) else .int (gI h a k)) :: r)) := by
  unfold gfld at hp
  cases hf : lk2 (ownOf M) i fldL with
  | none => rw [hf] at hp; exact (hn hp).elim
  | some q =>
    obtain ⟨k, ty, put, cs⟩ := q
    rw [hf] at hp
    rcases st with _ | ⟨v, r⟩
    · exact (hn hp).elim
    · cases v <;> first | exact (hn hp).elim | skip
      obtain ⟨e, hp⟩ := inv_if hn hp
      exact ⟨k, ty, put, cs, _, r, rfl, rfl, e, hp⟩
theorem inv_pfld (hn : ¬ P none) (hp : P (pfld M h pc ls st i)) : ∃ k ty put cs a r, lk2 (ownOf M) i fldL = some (k, ty, put, cs) ∧ memB (tg h a) cs = true ∧ (put = 0 ∨ put = 1 ∧ initM M = true) ∧
    ((∃ x, st = .int x :: .ref a :: r ∧ (ty = 0 ∨ ty = 1 ∧ (x = 0 ∨ x = 1)) ∧ P (nxt (sI h a k x) (pc + 3) ls r)) ∨ (∃ b, st = .ref b :: .ref a :: r ∧ ty = 2 ∧ P (nxt (sR h a k b) (pc + 3) ls r))) := by
  unfold pfld at hp
  cases hf : lk2 (ownOf M) i fldL with
  | none => rw [hf] at hp; exact (hn hp).elim
  | some q =>
    obtain ⟨k, ty, put, cs⟩ := q
    rw [hf] at hp
    rcases st with _ | ⟨v, _ | ⟨w, r⟩⟩
    · exact (hn hp).elim
    · cases v <;> exact (hn hp).elim
    · cases v <;> first | exact (hn hp).elim | skip
      · cases w <;> first | exact (hn hp).elim | skip
        obtain ⟨e, hp⟩ := inv_if hn hp
        exact ⟨k, ty, put, cs, _, r, rfl, e.1, e.2.1, Or.inl ⟨_, rfl, e.2.2, hp⟩⟩
      · cases w <;> first | exact (hn hp).elim | skip
        obtain ⟨e, hp⟩ := inv_if hn hp
        exact ⟨k, ty, put, cs, _, r, rfl, e.1, e.2.1, Or.inr ⟨_, rfl, e.2.2, hp⟩⟩
theorem inv_invV (hn : ¬ P none) (hp : P (invV M h pc ls st i)) : ∃ n tgs as a r M', lk2 (ownOf M) i calL = some (0, n, tgs) ∧ popN n st = some (as, .ref a :: r) ∧ find1 (tg h a) tgs = some M' ∧ P (goCall M M' (.ref a :: as) (pc + 3) ls r) := by
  unfold invV at hp
  split at hp
  · next n tgs hk =>
    split at hp
    · next as a r hpn =>
      split at hp
      · next M' hf => exact ⟨n, tgs, as, a, r, M', hk, hpn, hf, hp⟩
      · exact (hn hp).elim
    · exact (hn hp).elim
  · exact (hn hp).elim
theorem inv_invP (hn : ¬ P none) (hp : P (invP M h pc ls st i)) : (∃ n tgs a r, lk2 (ownOf M) i calL = some (6, n, tgs) ∧ st = .ref a :: r ∧ (a ≠ 0 ∧ 1 ≤ frm M ∧ catS r + 12 ≤ lom M) ∧ P (nxt h (pc + 3) ls r)) ∨
    (∃ k n t M' rest as a r, lk2 (ownOf M) i calL = some (k, n, (t, M') :: rest) ∧ popN n st = some (as, .ref a :: r) ∧ ((k = 1 ∨ k = 2) ∧ a ≠ 0 ∨ k = 3 ∧ 1 ≤ tg h a ∧ tg h a ≤ 12) ∧ P (goCall M M' (.ref a :: as) (pc + 3) ls r)) := by
  unfold invP at hp
  split at hp
  · next n tgs hk =>
    split at hp
    · next a r =>
      obtain ⟨e, hp⟩ := inv_if hn hp
      exact Or.inl ⟨n, tgs, a, r, hk, rfl, e, hp⟩
    · exact (hn hp).elim
  · next n t M' rest hk =>
    split at hp
    · next as a r hpn =>
      obtain ⟨e, hp⟩ := inv_if hn hp
      exact Or.inr ⟨3, n, t, M', rest, as, a, r, hk, hpn, Or.inr ⟨rfl, e⟩, hp⟩
    · exact (hn hp).elim
  · next k n t M' rest _ _ hk =>
    obtain ⟨e, hp⟩ := inv_if hn hp
    split at hp
    · next as a r hpn =>
      obtain ⟨e2, hp⟩ := inv_if hn hp
      exact Or.inr ⟨k, n, t, M', rest, as, a, r, hk, hpn, Or.inl ⟨e, e2⟩, hp⟩
    · exact (hn hp).elim
  · exact (hn hp).elim
theorem inv_invS (hn : ¬ P none) (hp : P (invS M h pc ls st i)) :
    (∃ n tgs x y r, lk2 (ownOf M) i calL = some (7, n, tgs) ∧ st = .int y :: .int x :: r ∧ (1 ≤ frm M ∧ catS r + 13 ≤ lom M) ∧ P (nxt h (pc + 3) ls (.int (if x < y then y else x) :: r))) ∨
    (∃ n tgs x y r, lk2 (ownOf M) i calL = some (8, n, tgs) ∧ st = .int y :: .int x :: r ∧ (1 ≤ frm M ∧ catS r + 13 ≤ lom M) ∧ P (nxt h (pc + 3) ls (.int (if y < x then y else x) :: r))) ∨
    (∃ n' tgs n dp b sp a r, lk2 (ownOf M) i calL = some (9, n', tgs) ∧ st = .int n :: .int dp :: .ref b :: .int sp :: .ref a :: r ∧ ((tg h a = 100 ∧ tg h b = 100 ∧ a ≠ b ∧ 1 ≤ frm M ∧ catS r + 18 ≤ lom M) ∧ (0 ≤ sp ∧ 0 ≤ dp ∧ 0 ≤ n) ∧ ix sp + ix n ≤ ln h a ∧ ix dp + ix n ≤ ln h b) ∧ P (nxt (cpI h a b (ix sp) (ix dp) (ix n)) (pc + 3) ls r)) ∨
    (∃ k n t M' rest as r, lk2 (ownOf M) i calL = some (k, n, (t, M') :: rest) ∧ (k = 4 ∨ k = 5) ∧ popN n st = some (as, r) ∧ P (goCall M M' as (pc + 3) ls r)) := by
  unfold invS at hp
  split at hp
  · next n tgs hk =>
    split at hp
    · next y x r =>
      obtain ⟨e, hp⟩ := inv_if hn hp
      exact Or.inl ⟨n, tgs, x, y, r, hk, rfl, e, hp⟩
    · exact (hn hp).elim
  · next n tgs hk =>
    split at hp
    · next y x r =>
      obtain ⟨e, hp⟩ := inv_if hn hp
      exact Or.inr (Or.inl ⟨n, tgs, x, y, r, hk, rfl, e, hp⟩)
    · exact (hn hp).elim
  · next n' tgs hk =>
    split at hp
    · next n dp b sp a r =>
      obtain ⟨e, hp⟩ := inv_if hn hp
      exact Or.inr (Or.inr (Or.inl ⟨n', tgs, n, dp, b, sp, a, r, hk, rfl, e, hp⟩))
    · exact (hn hp).elim
  · next k n t M' rest _ _ _ hk =>
    obtain ⟨e, hp⟩ := inv_if hn hp
    split at hp
    · next as r hpn => exact Or.inr (Or.inr (Or.inr ⟨k, n, t, M', rest, as, r, hk, e, hpn, hp⟩))
    · exact (hn hp).elim
  · exact (hn hp).elim
end Inv
/-- which instruction answers so -/
def IsRet (M : Nat) (i : Instr) (v : Option Value) : Prop :=
  (i = .return_ ∧ v = none ∧ retOf M = none) ∨ (i = .ireturn ∧ ∃ x, v = some (.int x) ∧ (retOf M = some .int ∨ retOf M = some .boolean ∧ (x = 0 ∨ x = 1))) ∨
  (i = .lreturn ∧ ∃ x, v = some (.long x) ∧ retOf M = some .long) ∨ (i = .areturn ∧ ∃ x C, v = some (.ref x) ∧ retOf M = some (.object C))
section Snd4
variable {D : va_G} {b0 bs L : Nat} {xs : Nat → Int32} {p : Program} {l : Launch} {e : Env} {R : Room} {s : State} {m : MethodId} {args : Array Value} {below : List Frame} {meth : Method} {c : Code} {n0 s0 : Nat} {Q : State → Prop} {M : Nat} {h : PH} {pc : Nat} {ls : LSt} {st : List Value}
/-- what is to be known of where a step leads -/
def GR (D : va_G) (b0 bs L : Nat) (xs : Nat → Int32) (p : Program) (l : Launch) (e : Env) (R : Room) (s : State) (m : MethodId) (args : Array Value) (below : List Frame) (meth : Method) (c : Code) (n0 s0 : Nat) (Q : State → Prop) (M : Nat) (h : PH) (pc : Nat) (ls : LSt) : Res → Prop
  | none => False
  | some (.inl (h1, pc1, ls1, st1)) => (nx h1 - n0 ≤ R.cells ∧ sl h1 - s0 ≤ R.slots) ∧ Gd D b0 bs L xs p l e R s m args below meth c n0 s0 Q M h1 pc1 ls1 st1
  | some (.inr (.inl (M', as, pc1, ls1, st1))) => argOK M' as = true → M' < 277 → ∃ (h' : PH) (v : Option Value) (st'' : List Value), MetM D b0 bs L xs l M' h as h' v ∧ aft (rkOf M') v st1 = some st'' ∧ nx h ≤ nx h' ∧ sl h ≤ sl h' ∧ nx h' - n0 ≤ R.cells ∧ sl h' - s0 ≤ R.slots ∧ Gd D b0 bs L xs p l e R s m args below meth c n0 s0 Q M h' pc1 ls1 st''
  | some (.inr (.inr v)) => ∀ i, decode (codeOf M) pc = .ok (i, 1) → IsRet M i v → Gd D b0 bs L xs p l e R s m args below meth c n0 s0 Q M h pc ls v.toList
theorem step_snd (hB : BC D p s m args meth c M) (hfr : frm M ≤ R.frames) (hlo : lom M ≤ R.locals) (g3 : n0 ≤ nx h) (g4 : s0 ≤ sl h) (g5 : nx h - n0 ≤ R.cells) (g6 : sl h - s0 ≤ R.slots) {i : Instr} {len : Nat} (hd : decode (codeOf M) pc = .ok (i, len)) (hg : GR D b0 bs L xs p l e R s m args below meth c n0 s0 Q M h pc ls (stepI M h pc ls st i len)) : Gd D b0 bs L xs p l e R s m args below meth c n0 s0 Q M h pc ls st := by
  have hn : ¬ GR D b0 bs L xs p l e R s m args below meth c n0 s0 Q M h pc ls none := id
  cases i with
  | iconst n =>
    have hq := inv_ck hn hg; clear hg; obtain ⟨e0, hg⟩ := hq; subst e0
    exact sd_iconst hB hd hg.2
  | bipush n =>
    have hq := inv_ck hn hg; clear hg; obtain ⟨e0, hg⟩ := hq; subst e0
    exact sd_bipush hB hd hg.2
  | sipush n =>
    have hq := inv_ck hn hg; clear hg; obtain ⟨e0, hg⟩ := hq; subst e0
    exact sd_sipush hB hd hg.2
  | lconst n =>
    have hq := inv_ck hn hg; clear hg; obtain ⟨e0, hg⟩ := hq; subst e0
    exact sd_lconst hB hd hg.2
  | aconst_null =>
    have hq := inv_ck hn hg; clear hg; obtain ⟨e0, hg⟩ := hq; subst e0
    exact sd_aconst_null hB hd hg.2
  | ldc j =>
    have hq := inv_ck hn hg; clear hg; obtain ⟨e0, hg⟩ := hq; subst e0
    cases hk : lk2 (ownOf M) j cstIL with
    | none => rw [hk] at hg; exact (hn hg).elim
    | some x => rw [hk] at hg; exact sd_ldc hB hd hk hg.2
  | ldc_w j =>
    have hq := inv_ck hn hg; clear hg; obtain ⟨e0, hg⟩ := hq; subst e0
    cases hk : lk2 (ownOf M) j cstIL with
    | none => rw [hk] at hg; exact (hn hg).elim
    | some x => rw [hk] at hg; exact sd_ldc_w hB hd hk hg.2
  | ldc2_w j =>
    have hq := inv_ck hn hg; clear hg; obtain ⟨e0, hg⟩ := hq; subst e0
    cases hk : lk2 (ownOf M) j cstLL with
    | none => rw [hk] at hg; exact (hn hg).elim
    | some x => rw [hk] at hg; exact sd_ldc2_w hB hd hk hg.2
  | iload j =>
    have hq := inv_ck hn hg; clear hg; obtain ⟨e0, hg⟩ := hq; subst e0
    obtain ⟨x, e1, hg⟩ := inv_ldI hn hg
    exact sd_iload hB hd e1 hg.2
  | istore j =>
    have hq := inv_ck hn hg; clear hg; obtain ⟨e0, hg⟩ := hq; subst e0
    obtain ⟨x, r, rfl, e1, hg⟩ := inv_soI hn hg
    exact sd_istore hB hd e1 hg.2
  | iload_n j =>
    have hq := inv_ck hn hg; clear hg; obtain ⟨e0, hg⟩ := hq; subst e0
    obtain ⟨x, e1, hg⟩ := inv_ldI hn hg
    exact sd_iload_n hB hd e1 hg.2
  | istore_n j =>
    have hq := inv_ck hn hg; clear hg; obtain ⟨e0, hg⟩ := hq; subst e0
    obtain ⟨x, r, rfl, e1, hg⟩ := inv_soI hn hg
    exact sd_istore_n hB hd e1 hg.2
  | lload j =>
    have hq := inv_ck hn hg; clear hg; obtain ⟨e0, hg⟩ := hq; subst e0
    obtain ⟨x, e1, hg⟩ := inv_ldL hn hg
    exact sd_lload hB hd e1 hg.2
  | lstore j =>
    have hq := inv_ck hn hg; clear hg; obtain ⟨e0, hg⟩ := hq; subst e0
    obtain ⟨x, r, rfl, e1, hg⟩ := inv_soL hn hg
    exact sd_lstore hB hd e1 hg.2
  | lload_n j =>
    have hq := inv_ck hn hg; clear hg; obtain ⟨e0, hg⟩ := hq; subst e0
    obtain ⟨x, e1, hg⟩ := inv_ldL hn hg
    exact sd_lload_n hB hd e1 hg.2
  | lstore_n j =>
    have hq := inv_ck hn hg; clear hg; obtain ⟨e0, hg⟩ := hq; subst e0
    obtain ⟨x, r, rfl, e1, hg⟩ := inv_soL hn hg
    exact sd_lstore_n hB hd e1 hg.2
  | aload j =>
    have hq := inv_ck hn hg; clear hg; obtain ⟨e0, hg⟩ := hq; subst e0
    obtain ⟨x, e1, hg⟩ := inv_ldA hn hg
    exact sd_aload hB hd e1 hg.2
  | astore j =>
    have hq := inv_ck hn hg; clear hg; obtain ⟨e0, hg⟩ := hq; subst e0
    obtain ⟨x, r, rfl, e1, hg⟩ := inv_soA hn hg
    exact sd_astore hB hd e1 hg.2
  | aload_n j =>
    have hq := inv_ck hn hg; clear hg; obtain ⟨e0, hg⟩ := hq; subst e0
    obtain ⟨x, e1, hg⟩ := inv_ldA hn hg
    exact sd_aload_n hB hd e1 hg.2
  | astore_n j =>
    have hq := inv_ck hn hg; clear hg; obtain ⟨e0, hg⟩ := hq; subst e0
    obtain ⟨x, r, rfl, e1, hg⟩ := inv_soA hn hg
    exact sd_astore_n hB hd e1 hg.2
  | iinc j n =>
    have hq := inv_ck hn hg; clear hg; obtain ⟨e0, hg⟩ := hq; subst e0
    split at hg
    · next x e1 =>
      obtain ⟨e2, hg⟩ := inv_if hn hg
      exact sd_iinc hB hd e1 e2 hg.2
    · exact (hn hg).elim
  | iadd =>
    have hq := inv_ck hn hg; clear hg; obtain ⟨e0, hg⟩ := hq; subst e0
    obtain ⟨x, y, r, rfl, hg⟩ := inv_bI hn hg
    exact sd_iadd hB hd hg.2
  | isub =>
    have hq := inv_ck hn hg; clear hg; obtain ⟨e0, hg⟩ := hq; subst e0
    obtain ⟨x, y, r, rfl, hg⟩ := inv_bI hn hg
    exact sd_isub hB hd hg.2
  | imul =>
    have hq := inv_ck hn hg; clear hg; obtain ⟨e0, hg⟩ := hq; subst e0
    obtain ⟨x, y, r, rfl, hg⟩ := inv_bI hn hg
    exact sd_imul hB hd hg.2
  | iand =>
    have hq := inv_ck hn hg; clear hg; obtain ⟨e0, hg⟩ := hq; subst e0
    obtain ⟨x, y, r, rfl, hg⟩ := inv_bI hn hg
    exact sd_iand hB hd hg.2
  | ior =>
    have hq := inv_ck hn hg; clear hg; obtain ⟨e0, hg⟩ := hq; subst e0
    obtain ⟨x, y, r, rfl, hg⟩ := inv_bI hn hg
    exact sd_ior hB hd hg.2
  | ixor =>
    have hq := inv_ck hn hg; clear hg; obtain ⟨e0, hg⟩ := hq; subst e0
    obtain ⟨x, y, r, rfl, hg⟩ := inv_bI hn hg
    exact sd_ixor hB hd hg.2
  | ishl =>
    have hq := inv_ck hn hg; clear hg; obtain ⟨e0, hg⟩ := hq; subst e0
    obtain ⟨x, y, r, rfl, hg⟩ := inv_bI hn hg
    exact sd_ishl hB hd hg.2
  | ishr =>
    have hq := inv_ck hn hg; clear hg; obtain ⟨e0, hg⟩ := hq; subst e0
    obtain ⟨x, y, r, rfl, hg⟩ := inv_bI hn hg
    exact sd_ishr hB hd hg.2
  | ladd =>
    have hq := inv_ck hn hg; clear hg; obtain ⟨e0, hg⟩ := hq; subst e0
    obtain ⟨x, y, r, rfl, hg⟩ := inv_bL hn hg
    exact sd_ladd hB hd hg.2
  | lsub =>
    have hq := inv_ck hn hg; clear hg; obtain ⟨e0, hg⟩ := hq; subst e0
    obtain ⟨x, y, r, rfl, hg⟩ := inv_bL hn hg
    exact sd_lsub hB hd hg.2
  | lmul =>
    have hq := inv_ck hn hg; clear hg; obtain ⟨e0, hg⟩ := hq; subst e0
    obtain ⟨x, y, r, rfl, hg⟩ := inv_bL hn hg
    exact sd_lmul hB hd hg.2
  | idiv =>
    have hq := inv_ck hn hg; clear hg; obtain ⟨e0, hg⟩ := hq; subst e0
    obtain ⟨x, y, r, rfl, e1, hg⟩ := inv_bId hn hg
    exact sd_idiv hB hd e1 hg.2
  | irem =>
    have hq := inv_ck hn hg; clear hg; obtain ⟨e0, hg⟩ := hq; subst e0
    obtain ⟨x, y, r, rfl, e1, hg⟩ := inv_bId hn hg
    exact sd_irem hB hd e1 hg.2
  | ldiv =>
    have hq := inv_ck hn hg; clear hg; obtain ⟨e0, hg⟩ := hq; subst e0
    obtain ⟨x, y, r, rfl, e1, hg⟩ := inv_bLd hn hg
    exact sd_ldiv hB hd e1 hg.2
  | lrem =>
    have hq := inv_ck hn hg; clear hg; obtain ⟨e0, hg⟩ := hq; subst e0
    obtain ⟨x, y, r, rfl, e1, hg⟩ := inv_bLd hn hg
    exact sd_lrem hB hd e1 hg.2
  | ineg =>
    have hq := inv_ck hn hg; clear hg; obtain ⟨e0, hg⟩ := hq; subst e0
    rcases st with _ | ⟨v, r⟩
    · exact (hn hg).elim
    · cases v <;> first | exact (hn hg).elim | exact sd_ineg hB hd hg.2
  | i2l =>
    have hq := inv_ck hn hg; clear hg; obtain ⟨e0, hg⟩ := hq; subst e0
    rcases st with _ | ⟨v, r⟩
    · exact (hn hg).elim
    · cases v <;> first | exact (hn hg).elim | exact sd_i2l hB hd hg.2
  | l2i =>
    have hq := inv_ck hn hg; clear hg; obtain ⟨e0, hg⟩ := hq; subst e0
    rcases st with _ | ⟨v, r⟩
    · exact (hn hg).elim
    · cases v <;> first | exact (hn hg).elim | exact sd_l2i hB hd hg.2
  | dup =>
    have hq := inv_ck hn hg; clear hg; obtain ⟨e0, hg⟩ := hq; subst e0
    rcases st with _ | ⟨v, r⟩
    · exact (hn hg).elim
    · cases v <;> first | exact (hn hg).elim | exact sd_dup hB hd rfl hg.2
  | dup2 =>
    have hq := inv_ck hn hg; clear hg; obtain ⟨e0, hg⟩ := hq; subst e0
    rcases st with _ | ⟨v, _ | ⟨w, r⟩⟩
    · exact (hn hg).elim
    · cases v <;> exact (hn hg).elim
    · cases v <;> first | exact (hn hg).elim | (cases w <;> first | exact (hn hg).elim | exact sd_dup2 hB hd rfl rfl hg.2)
  | lcmp =>
    have hq := inv_ck hn hg; clear hg; obtain ⟨e0, hg⟩ := hq; subst e0
    rcases st with _ | ⟨v, _ | ⟨w, r⟩⟩
    · exact (hn hg).elim
    · cases v <;> exact (hn hg).elim
    · cases v <;> first | exact (hn hg).elim | (cases w <;> first | exact (hn hg).elim | exact sd_lcmp hB hd hg.2)
  | ifCond cd off =>
    have hq := inv_ck hn hg; clear hg; obtain ⟨e0, hg⟩ := hq; subst e0
    rcases st with _ | ⟨v, r⟩
    · exact (hn hg).elim
    · cases v <;> first | exact (hn hg).elim | (obtain ⟨tgt, e1, k1, k2⟩ := inv_br hn hg; exact sd_if hB hd e1 (fun z => (k1 z).2) (fun z => (k2 z).2))
  | if_icmp cd off =>
    have hq := inv_ck hn hg; clear hg; obtain ⟨e0, hg⟩ := hq; subst e0
    rcases st with _ | ⟨v, _ | ⟨w, r⟩⟩
    · exact (hn hg).elim
    · cases v <;> exact (hn hg).elim
    · cases v <;> first | exact (hn hg).elim | (cases w <;> first | exact (hn hg).elim | (obtain ⟨tgt, e1, k1, k2⟩ := inv_br hn hg; exact sd_icmp hB hd e1 (fun z => (k1 z).2) (fun z => (k2 z).2)))
  | ifnull off =>
    have hq := inv_ck hn hg; clear hg; obtain ⟨e0, hg⟩ := hq; subst e0
    rcases st with _ | ⟨v, r⟩
    · exact (hn hg).elim
    · cases v <;> first | exact (hn hg).elim | (obtain ⟨tgt, e1, k1, k2⟩ := inv_br hn hg; exact sd_ifnull hB hd e1 (fun z => (k1 z).2) (fun z => (k2 z).2))
  | ifnonnull off =>
    have hq := inv_ck hn hg; clear hg; obtain ⟨e0, hg⟩ := hq; subst e0
    rcases st with _ | ⟨v, r⟩
    · exact (hn hg).elim
    · cases v <;> first | exact (hn hg).elim | (obtain ⟨tgt, e1, k1, k2⟩ := inv_br hn hg; exact sd_ifnonnull hB hd e1 (fun z => (k1 z).2) (fun z => (k2 z).2))
  | goto off =>
    have hq := inv_ck hn hg; clear hg; obtain ⟨e0, hg⟩ := hq; subst e0
    obtain ⟨tgt, e1, hg⟩ := inv_jmp hn hg
    exact sd_goto hB hd e1 hg.2
  | tableswitch d lo hi offs =>
    rcases st with _ | ⟨v, r⟩
    · exact (hn hg).elim
    · cases v <;> first | exact (hn hg).elim | skip
      rename_i x
      by_cases hx : x.toInt < lo ∨ hi < x.toInt
      · have e0 : stepI M h pc ls (.int x :: r) (.tableswitch d lo hi offs) len = jmp h pc ls r d := if_pos hx
        rw [e0] at hg
        obtain ⟨tgt, e1, hg⟩ := inv_jmp hn hg
        exact sd_tswOut hB hd hx e1 hg.2
      · have e0 : stepI M h pc ls (.int x :: r) (.tableswitch d lo hi offs) len = (match offs[(x.toInt - lo).toNat]? with | some off => jmp h pc ls r off | none => none) := if_neg hx
        rw [e0] at hg
        cases ho : offs[(x.toInt - lo).toNat]? with
        | none => rw [ho] at hg; exact (hn hg).elim
        | some off =>
          rw [ho] at hg
          obtain ⟨tgt, e1, hg⟩ := inv_jmp hn hg
          exact sd_tswIn hB hd (fun z => hx (Or.inl z)) (fun z => hx (Or.inr z)) ho e1 hg.2
  | lookupswitch d ps =>
    rcases st with _ | ⟨v, r⟩
    · exact (hn hg).elim
    · cases v <;> first | exact (hn hg).elim | skip
      obtain ⟨e0, hg⟩ := inv_if hn hg
      obtain ⟨tgt, e1, hg⟩ := inv_jmp hn hg
      exact sd_lsw hB hd e0 rfl e1 hg.2
  | getfield j =>
    have hq := inv_ck hn hg; clear hg; obtain ⟨e0, hg⟩ := hq; subst e0
    obtain ⟨k, ty, put, cs, a, r, hf, rfl, hm, hg⟩ := inv_gfld hn hg
    exact sd_get hB hd hf hm hg.2
  | putfield j =>
    have hq := inv_ck hn hg; clear hg; obtain ⟨e0, hg⟩ := hq; subst e0
    obtain ⟨k, ty, put, cs, a, r, hf, hm, hp, ⟨x, rfl, hx, hg⟩ | ⟨b, rfl, rfl, hg⟩⟩ := inv_pfld hn hg
    · exact sd_putI hB hd hf hm hp hx hg.2
    · exact sd_putR hB hd hf hm hp hg.2
  | iaload =>
    have hq := inv_ck hn hg; clear hg; obtain ⟨e0, hg⟩ := hq; subst e0
    rcases st with _ | ⟨v, _ | ⟨w, r⟩⟩
    · exact (hn hg).elim
    · cases v <;> exact (hn hg).elim
    · cases v <;> first | exact (hn hg).elim | (cases w <;> first | exact (hn hg).elim | (obtain ⟨e1, hg⟩ := inv_if hn hg; exact sd_iaload hB hd e1 hg.2))
  | aaload =>
    have hq := inv_ck hn hg; clear hg; obtain ⟨e0, hg⟩ := hq; subst e0
    rcases st with _ | ⟨v, _ | ⟨w, r⟩⟩
    · exact (hn hg).elim
    · cases v <;> exact (hn hg).elim
    · cases v <;> first | exact (hn hg).elim | (cases w <;> first | exact (hn hg).elim | (obtain ⟨e1, hg⟩ := inv_if hn hg; exact sd_aaload hB hd e1 hg.2))
  | iastore =>
    have hq := inv_ck hn hg; clear hg; obtain ⟨e0, hg⟩ := hq; subst e0
    rcases st with _ | ⟨v, _ | ⟨w, _ | ⟨u, r⟩⟩⟩
    · exact (hn hg).elim
    · cases v <;> exact (hn hg).elim
    · cases v <;> first | exact (hn hg).elim | (cases w <;> exact (hn hg).elim)
    · cases v <;> first | exact (hn hg).elim | (cases w <;> first | exact (hn hg).elim | (cases u <;> first | exact (hn hg).elim | (obtain ⟨e1, hg⟩ := inv_if hn hg; exact sd_iastore hB hd e1 hg.2)))
  | aastore =>
    have hq := inv_ck hn hg; clear hg; obtain ⟨e0, hg⟩ := hq; subst e0
    rcases st with _ | ⟨v, _ | ⟨w, _ | ⟨u, r⟩⟩⟩
    · exact (hn hg).elim
    · cases v <;> exact (hn hg).elim
    · cases v <;> first | exact (hn hg).elim | (cases w <;> exact (hn hg).elim)
    · cases v <;> first | exact (hn hg).elim | (cases w <;> first | exact (hn hg).elim | (cases u <;> first | exact (hn hg).elim | (obtain ⟨e1, hg⟩ := inv_if hn hg; exact sd_aastore hB hd e1 hg.2)))
  | arraylength =>
    have hq := inv_ck hn hg; clear hg; obtain ⟨e0, hg⟩ := hq; subst e0
    rcases st with _ | ⟨v, r⟩
    · exact (hn hg).elim
    · cases v <;> first | exact (hn hg).elim | (obtain ⟨e1, hg⟩ := inv_if hn hg; exact sd_arraylength hB hd e1 hg.2)
  | new j =>
    have hq := inv_ck hn hg; clear hg; obtain ⟨e0, hg⟩ := hq; subst e0
    cases hk : lk2 (ownOf M) j clsL with
    | none => rw [hk] at hg; exact (hn hg).elim
    | some ci =>
      rw [hk] at hg
      obtain ⟨e1, hg⟩ := inv_if hn hg
      exact sd_new hB hd hk e1 g3 g4 hg.1.1 hg.1.2 hg.2
  | newarray t =>
    have hq := inv_ck hn hg; clear hg; obtain ⟨e0, hg⟩ := hq; subst e0
    rcases st with _ | ⟨v, r⟩
    · cases t <;> exact (hn hg).elim
    · cases t <;> first | exact (hn hg).elim | (cases v <;> first | exact (hn hg).elim | (obtain ⟨e1, hg⟩ := inv_if hn hg; exact sd_newarray hB hd e1 g3 g4 hg.1.1 hg.1.2 hg.2))
  | anewarray j =>
    have hq := inv_ck hn hg; clear hg; obtain ⟨e0, hg⟩ := hq; subst e0
    cases hk : lk2 (ownOf M) j clsL with
    | none => rw [hk] at hg; exact (hn hg).elim
    | some ci =>
      rw [hk] at hg
      rcases st with _ | ⟨v, r⟩
      · exact (hn hg).elim
      · cases v <;> first | exact (hn hg).elim | (obtain ⟨e1, hg⟩ := inv_if hn hg; exact sd_anewarray hB hd hk e1.1 e1.2 g3 g4 hg.1.1 hg.1.2 hg.2)
  | invokevirtual j =>
    have hq := inv_ck hn hg; clear hg; obtain ⟨e0, hg⟩ := hq; subst e0
    obtain ⟨n, tgs, as, a, r, M', hk, hp, hf, hg⟩ := inv_invV hn hg
    obtain ⟨f1, f2, f3, hg⟩ := inv_goCall hn hg
    obtain ⟨h', v, st'', hM, ha, k1, k2, k3, k4, k5⟩ := hg f3 (cal_lt _ (lk2_mem hk) _ (find1_mem hf))
    exact sd_virt hB hd hk hp hf f1 f2 hfr hlo hM ha k1 k2 g3 g4 k3 k4 k5
  | invokespecial j =>
    have hq := inv_ck hn hg; clear hg; obtain ⟨e0, hg⟩ := hq; subst e0
    rcases inv_invP hn hg with ⟨n, tgs, a, r, hk, rfl, e1, hg⟩ | ⟨k, n, t, M', rest, as, a, r, hk, hp, hkk, hg⟩
    · exact sd_obj hB hd hk e1.1 (by omega) (by omega) hg.2
    · obtain ⟨f1, f2, f3, hg⟩ := inv_goCall hn hg
      obtain ⟨h', v, st'', hM, ha, k1, k2, k3, k4, k5⟩ := hg f3 (cal_lt _ (lk2_mem hk) (t, M') List.mem_cons_self)
      exact sd_spec hB hd hk hkk hp f1 f2 hfr hlo hM ha k1 k2 g3 g4 k3 k4 k5
  | invokestatic j =>
    have hq := inv_ck hn hg; clear hg; obtain ⟨e0, hg⟩ := hq; subst e0
    rcases inv_invS hn hg with ⟨n, tgs, x, y, r, hk, rfl, e1, hg⟩ | ⟨n, tgs, x, y, r, hk, rfl, e1, hg⟩ | ⟨n', tgs, n, dp, b, sp, a, r, hk, rfl, e1, hg⟩ | ⟨k, n, t, M', rest, as, r, hk, hkk, hp, hg⟩
    · exact sd_max hB hd hk (by omega) (by omega) g5 g6 hg.2
    · exact sd_min hB hd hk (by omega) (by omega) g5 g6 hg.2
    · exact sd_copy hB hd hk (by omega) (by omega) ⟨e1.1.1, e1.1.2.1, e1.1.2.2.1⟩ e1.2.1.1 e1.2.1.2.1 e1.2.1.2.2 e1.2.2.1 e1.2.2.2 hg.2
    · obtain ⟨f1, f2, f3, hg⟩ := inv_goCall hn hg
      obtain ⟨h', v, st'', hM, ha, k1, k2, k3, k4, k5⟩ := hg f3 (cal_lt _ (lk2_mem hk) (t, M') List.mem_cons_self)
      exact sd_stat hB hd hk hkk hp f1 f2 hfr hlo hM ha k1 k2 g3 g4 k3 k4 k5
  | return_ =>
    have hq := inv_ck hn hg; clear hg; obtain ⟨e0, hg⟩ := hq; subst e0
    cases hr : retOf M with
    | some t => rw [hr] at hg; rcases st with _ | ⟨v, r⟩ <;> exact (hn hg).elim
    | none =>
      rw [hr] at hg
      rcases st with _ | ⟨v, r⟩
      · exact hg _ hd (Or.inl ⟨rfl, rfl, hr⟩)
      · exact (hn hg).elim
  | ireturn =>
    have hq := inv_ck hn hg; clear hg; obtain ⟨e0, hg⟩ := hq; subst e0
    rcases st with _ | ⟨v, _ | ⟨w, r⟩⟩
    · exact (hn hg).elim
    · cases v <;> first | exact (hn hg).elim | skip
      rename_i x
      cases hr : retOf M with
      | none => rw [hr] at hg; exact (hn hg).elim
      | some t =>
        rw [hr] at hg
        cases t <;> first | exact (hn hg).elim | exact hg _ hd (Or.inr (Or.inl ⟨rfl, x, rfl, Or.inl hr⟩)) | (obtain ⟨e1, hg⟩ := inv_if hn hg; exact hg _ hd (Or.inr (Or.inl ⟨rfl, x, rfl, Or.inr ⟨hr, e1⟩⟩)))
    · cases v <;> exact (hn hg).elim
  | lreturn =>
    have hq := inv_ck hn hg; clear hg; obtain ⟨e0, hg⟩ := hq; subst e0
    rcases st with _ | ⟨v, _ | ⟨w, r⟩⟩
    · exact (hn hg).elim
    · cases v <;> first | exact (hn hg).elim | skip
      rename_i x
      cases hr : retOf M with
      | none => rw [hr] at hg; exact (hn hg).elim
      | some t =>
        rw [hr] at hg
        cases t <;> first | exact (hn hg).elim | exact hg _ hd (Or.inr (Or.inr (Or.inl ⟨rfl, x, rfl, hr⟩)))
    · cases v <;> exact (hn hg).elim
  | areturn =>
    have hq := inv_ck hn hg; clear hg; obtain ⟨e0, hg⟩ := hq; subst e0
    rcases st with _ | ⟨v, _ | ⟨w, r⟩⟩
    · exact (hn hg).elim
    · cases v <;> first | exact (hn hg).elim | skip
      rename_i x
      cases hr : retOf M with
      | none => rw [hr] at hg; exact (hn hg).elim
      | some t =>
        rw [hr] at hg
        cases t <;> first | exact (hn hg).elim | exact hg _ hd (Or.inr (Or.inr (Or.inr ⟨rfl, x, _, rfl, hr⟩)))
    · cases v <;> exact (hn hg).elim
  | _ => exact (hn hg).elim
def resOK (h : PH) : Res → Prop
  | some (.inl (h1, _, _, _)) => nx h ≤ nx h1 ∧ sl h ≤ sl h1
  | _ => True
theorem stepI_mono (i : Instr) (len : Nat) : resOK h (stepI M h pc ls st i len) := by
  have r0 : resOK h none := trivial
  have r1 : ∀ pc' ls' st', resOK h (nxt h pc' ls' st') := fun _ _ _ => ⟨Nat.le_refl _, Nat.le_refl _⟩
  have rI : ∀ a j x pc' ls' st', resOK h (nxt (sI h a j x) pc' ls' st') := fun _ _ _ _ _ _ => ⟨Nat.le_refl _, Nat.le_refl _⟩
  have rR : ∀ a j x pc' ls' st', resOK h (nxt (sR h a j x) pc' ls' st') := fun _ _ _ _ _ _ => ⟨Nat.le_refl _, Nat.le_refl _⟩
  have rC : ∀ a b x y z pc' ls' st', resOK h (nxt (cpI h a b x y z) pc' ls' st') := fun _ _ _ _ _ _ _ _ => ⟨Nat.le_refl _, Nat.le_refl _⟩
  have rM : ∀ t n w pc' ls' st', resOK h (nxt (mkc h t n w) pc' ls' st') := fun _ _ _ _ _ _ => ⟨Nat.le_succ _, Nat.le_add_right _ _⟩
  have rk : ∀ k r, resOK h r → resOK h (ck len k r) := fun k r hr => by unfold ck; split <;> first | exact hr | exact r0
  have rs : ∀ pc' o, resOK h (stk h pc' ls o) := fun pc' o => by cases o <;> first | exact r0 | exact r1 _ _ _
  have rj : ∀ st' off, resOK h (jmp h pc ls st' off) := fun st' off => by unfold jmp; split <;> first | exact r0 | exact r1 _ _ _
  have rb : ∀ st' off b, resOK h (br h pc ls st' off b) := fun st' off b => by unfold br; split <;> first | exact r0 | (cases b <;> exact r1 _ _ _)
  have rg : ∀ M' as pc' r, resOK h (goCall M M' as pc' ls r) := fun M' as pc' r => by unfold goCall; split <;> exact trivial
  cases i
  case tableswitch d lo hi offs =>
    rcases st with _ | ⟨v, r⟩
    · exact r0
    · cases v <;> first | exact r0 | skip
      rename_i x
      by_cases hx : x.toInt < lo ∨ hi < x.toInt
      · have e0 : stepI M h pc ls (.int x :: r) (.tableswitch d lo hi offs) len = jmp h pc ls r d := if_pos hx
        rw [e0]; exact rj _ _
      · have e0 : stepI M h pc ls (.int x :: r) (.tableswitch d lo hi offs) len = (match offs[(x.toInt - lo).toNat]? with | some off => jmp h pc ls r off | none => none) := if_neg hx
        rw [e0]
        cases offs[(x.toInt - lo).toNat]? with
        | none => exact r0
        | some off => exact rj _ _
  case lookupswitch d ps =>
    rcases st with _ | ⟨v, r⟩
    · exact r0
    · cases v <;> first | exact r0 | skip
      rename_i x
      by_cases hx : (ps.toList.zip (ps.toList.drop 1)).all (fun (a, next) => a.1 < next.1) = true
      · have e0 : stepI M h pc ls (.int x :: r) (.lookupswitch d ps) len = jmp h pc ls r (Op.lookupswitch.offset ps.toList d x.toInt) := if_pos hx
        rw [e0]; exact rj _ _
      · have e0 : stepI M h pc ls (.int x :: r) (.lookupswitch d ps) len = none := if_neg hx
        rw [e0]; exact r0
  all_goals first
    | exact r0
    | exact rk _ _ (r1 _ _ _)
    | exact rk _ _ (rs _ _)
    | exact rk _ _ (rj _ _)
    | (refine rk _ _ ?_; unfold ldI; split <;> first | exact r0 | exact r1 _ _ _)
    | (refine rk _ _ ?_; unfold ldL; split <;> first | exact r0 | exact r1 _ _ _)
    | (refine rk _ _ ?_; unfold ldA; split <;> first | exact r0 | exact r1 _ _ _)
    | (refine rk _ _ ?_; unfold soI; (repeat' split) <;> first | exact r0 | exact r1 _ _ _)
    | (refine rk _ _ ?_; unfold soL; (repeat' split) <;> first | exact r0 | exact r1 _ _ _)
    | (refine rk _ _ ?_; unfold soA; (repeat' split) <;> first | exact r0 | exact r1 _ _ _)
    | (refine rk _ _ ?_; unfold gfld; (repeat' split) <;> first | exact r0 | exact r1 _ _ _)
    | (refine rk _ _ ?_; unfold pfld; (repeat' split) <;> first | exact r0 | exact rI _ _ _ _ _ _ | exact rR _ _ _ _ _ _)
    | (refine rk _ _ ?_; unfold invV; (repeat' split) <;> first | exact r0 | exact rg _ _ _ _)
    | (refine rk _ _ ?_; unfold invP; (repeat' split) <;> first | exact r0 | exact r1 _ _ _ | exact rg _ _ _ _)
    | (refine rk _ _ ?_; unfold invS; (repeat' split) <;> first | exact r0 | exact r1 _ _ _ | exact rC _ _ _ _ _ _ _ _ | exact rg _ _ _ _)
    | (unfold stepI; try dsimp only; try refine rk _ _ ?_; (repeat' split) <;> first | exact r0 | exact trivial | exact r1 _ _ _ | exact rj _ _ | exact rb _ _ _ | exact rI _ _ _ _ _ _ | exact rR _ _ _ _ _ _ | exact rM _ _ _ _ _ _)
theorem run_mono : ∀ (n M : Nat) (h : PH) (pc : Nat) (ls : LSt) (st : List Value) (h' : PH) (v : Option Value), run n M h pc ls st = some (h', v) → nx h ≤ nx h' ∧ sl h ≤ sl h' := by
  intro n
  induction n with
  | zero => intro M h pc ls st h' v hr; simp [run] at hr
  | succ n ih =>
    intro M h pc ls st h' v hr
    rw [run] at hr
    have hm : resOK h (step M h pc ls st) := by
      unfold step
      split
      · exact stepI_mono _ _
      · exact trivial
    generalize step M h pc ls st = q at hr hm
    rcases q with _ | (⟨h1, pc1, ls1, st1⟩ | ⟨M', as, pc1, ls1, st1⟩ | w)
    · cases hr
    · have := ih _ _ _ _ _ _ _ hr
      exact ⟨Nat.le_trans hm.1 this.1, Nat.le_trans hm.2 this.2⟩
    · dsimp only at hr
      cases hc : run n M' h 0 (entryL (mxl M') as) [] with
      | none => rw [hc] at hr; cases hr
      | some z =>
        obtain ⟨h2, v2⟩ := z
        rw [hc] at hr
        dsimp only at hr
        cases ha : aft (rkOf M') v2 st1 with
        | none => rw [ha] at hr; cases hr
        | some st2 =>
          rw [ha] at hr
          have q1 := ih _ _ _ _ _ _ _ hc
          have q2 := ih _ _ _ _ _ _ _ hr
          exact ⟨Nat.le_trans q1.1 q2.1, Nat.le_trans q1.2 q2.2⟩
    · cases hr
      exact ⟨Nat.le_refl _, Nat.le_refl _⟩
end Snd4
