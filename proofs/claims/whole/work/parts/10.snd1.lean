/-! ===== every instruction of the pure machine is walked by the machine (gen/mk10.py) ===== -/
def BC (D : va_G) (p : Program) (s : State) (m : MethodId) (args : Array Value) (meth : Method) (c : Code) (M : Nat) : Prop := p.tables.exec = Jvm.exec ∧ c.code = codeOf M ∧ meth.sig.returnType = retOf M ∧ c.maxLocals = mxl M ∧ s.vm.findClass (rn (ownOf M)) = some m.cls ∧ (∀ w ∈ TW, w.before args s = true) ∧ meth.locks = false ∧ (initM M = true → meth.name = "<init>") ∧ UK D s
/-- from the pure machine's place the machine comes to Q -/
def Gd (D : va_G) (b0 bs L : Nat) (xs : Nat → Int32) (p : Program) (l : Launch) (e : Env) (R : Room) (s : State) (m : MethodId) (args : Array Value) (below : List Frame) (meth : Method) (c : Code) (n0 s0 : Nat) (Q : State → Prop) (M : Nat) (h : PH) (pc : Nat) (ls : LSt) (st : List Value) : Prop :=
  ∀ (H : Heap) (locs : List Loc) (LS : Array Slot), Rel D b0 bs L xs s H h → LR b0 bs ls LS (mxl M) → (∀ q ∈ locs, b0 ≤ q.base) → W p l e R s m args below meth c H locs (nx h - n0) (sl h - s0) Q (F0 m pc LS (st.map (cvv b0 bs)))
section Snd
variable {D : va_G} {b0 bs L : Nat} {xs : Nat → Int32} {p : Program} {l : Launch} {e : Env} {R : Room} {s : State} {m : MethodId} {args : Array Value} {below : List Frame} {meth : Method} {c : Code} {n0 s0 : Nat} {Q : State → Prop} {M : Nat} {h : PH} {pc : Nat} {ls : LSt} {st r : List Value}
theorem BC.x (hB : BC D p s m args meth c M) : p.tables.exec = Jvm.exec := hB.1
theorem BC.b (hB : BC D p s m args meth c M) : c.code = codeOf M := hB.2.1
theorem BC.own (hB : BC D p s m args meth c M) : s.vm.findClass (rn (ownOf M)) = some m.cls := hB.2.2.2.2.1
theorem BC.ts (hB : BC D p s m args meth c M) : ∀ w ∈ TW, w.before args s = true := hB.2.2.2.2.2.1
theorem BC.uk (hB : BC D p s m args meth c M) : UK D s := hB.2.2.2.2.2.2.2.2
theorem BC.ini (hB : BC D p s m args meth c M) : initM M = true → meth.name = "<init>" := hB.2.2.2.2.2.2.2.1
theorem sd_iconst (hB : BC D p s m args meth c M) {n : Int} (hd : decode (codeOf M) pc = .ok (.iconst n, 1)) (k : Gd D b0 bs L xs p l e R s m args below meth c n0 s0 Q M h (pc + 1) ls (.int (Int32.ofInt n) :: st)) : Gd D b0 bs L xs p l e R s m args below meth c n0 s0 Q M h pc ls st := fun H locs LS hR hL hl => lv_iconst hB.x hB.b hd rfl (k H locs LS hR hL hl)
theorem sd_bipush (hB : BC D p s m args meth c M) {n : Int} (hd : decode (codeOf M) pc = .ok (.bipush n, 2)) (k : Gd D b0 bs L xs p l e R s m args below meth c n0 s0 Q M h (pc + 2) ls (.int (Int8.ofInt n).toInt32 :: st)) : Gd D b0 bs L xs p l e R s m args below meth c n0 s0 Q M h pc ls st := fun H locs LS hR hL hl => lv_bipush hB.x hB.b hd rfl (k H locs LS hR hL hl)
theorem sd_sipush (hB : BC D p s m args meth c M) {n : Int} (hd : decode (codeOf M) pc = .ok (.sipush n, 3)) (k : Gd D b0 bs L xs p l e R s m args below meth c n0 s0 Q M h (pc + 3) ls (.int (Int16.ofInt n).toInt32 :: st)) : Gd D b0 bs L xs p l e R s m args below meth c n0 s0 Q M h pc ls st := fun H locs LS hR hL hl => lv_sipush hB.x hB.b hd rfl (k H locs LS hR hL hl)
theorem sd_lconst (hB : BC D p s m args meth c M) {n : Fin 2} (hd : decode (codeOf M) pc = .ok (.lconst n, 1)) (k : Gd D b0 bs L xs p l e R s m args below meth c n0 s0 Q M h (pc + 1) ls (.long (Int64.ofNat (n : Nat)) :: st)) : Gd D b0 bs L xs p l e R s m args below meth c n0 s0 Q M h pc ls st := fun H locs LS hR hL hl => lv_lconst hB.x hB.b hd rfl (k H locs LS hR hL hl)
theorem sd_aconst_null (hB : BC D p s m args meth c M) (hd : decode (codeOf M) pc = .ok (.aconst_null, 1)) (k : Gd D b0 bs L xs p l e R s m args below meth c n0 s0 Q M h (pc + 1) ls (.ref 0 :: st)) : Gd D b0 bs L xs p l e R s m args below meth c n0 s0 Q M h pc ls st := fun H locs LS hR hL hl => lv_null hB.x hB.b hd (k H locs LS hR hL hl)
theorem sd_ldc (hB : BC D p s m args meth c M) {i : Nat} {x : Int32} (hd : decode (codeOf M) pc = .ok (.ldc i, 2)) (hv : lk2 (ownOf M) i cstIL = some x) (k : Gd D b0 bs L xs p l e R s m args below meth c n0 s0 Q M h (pc + 2) ls (.int x :: st)) : Gd D b0 bs L xs p l e R s m args below meth c n0 s0 Q M h pc ls st := fun H locs LS hR hL hl => lv_ldc hB.x hB.b hB.own (hB.ts _ (cstI_ok _ (lk2_mem hv))) hd (k H locs LS hR hL hl)
theorem sd_ldc_w (hB : BC D p s m args meth c M) {i : Nat} {x : Int32} (hd : decode (codeOf M) pc = .ok (.ldc_w i, 3)) (hv : lk2 (ownOf M) i cstIL = some x) (k : Gd D b0 bs L xs p l e R s m args below meth c n0 s0 Q M h (pc + 3) ls (.int x :: st)) : Gd D b0 bs L xs p l e R s m args below meth c n0 s0 Q M h pc ls st := fun H locs LS hR hL hl => lv_ldcw hB.x hB.b hB.own (hB.ts _ (cstI_ok _ (lk2_mem hv))) hd (k H locs LS hR hL hl)
theorem sd_ldc2_w (hB : BC D p s m args meth c M) {i : Nat} {x : Int64} (hd : decode (codeOf M) pc = .ok (.ldc2_w i, 3)) (hv : lk2 (ownOf M) i cstLL = some x) (k : Gd D b0 bs L xs p l e R s m args below meth c n0 s0 Q M h (pc + 3) ls (.long x :: st)) : Gd D b0 bs L xs p l e R s m args below meth c n0 s0 Q M h pc ls st := fun H locs LS hR hL hl => lv_ldc2 hB.x hB.b hB.own (hB.ts _ (cstL_ok _ (lk2_mem hv))) hd (k H locs LS hR hL hl)
theorem sd_iload (hB : BC D p s m args meth c M) {i : Nat} {x : Int32} (hd : decode (codeOf M) pc = .ok (.iload i, 2)) (hg : lget ls i = some (.int x)) (k : Gd D b0 bs L xs p l e R s m args below meth c n0 s0 Q M h (pc + 2) ls (.int x :: st)) : Gd D b0 bs L xs p l e R s m args below meth c n0 s0 Q M h pc ls st := fun H locs LS hR hL hl => lv_iload hB.x hB.b hd (hL.2.2 i _ hg) (k H locs LS hR hL hl)
theorem sd_iload_n (hB : BC D p s m args meth c M) {i : Fin 4} {x : Int32} (hd : decode (codeOf M) pc = .ok (.iload_n i, 1)) (hg : lget ls (i : Nat) = some (.int x)) (k : Gd D b0 bs L xs p l e R s m args below meth c n0 s0 Q M h (pc + 1) ls (.int x :: st)) : Gd D b0 bs L xs p l e R s m args below meth c n0 s0 Q M h pc ls st := fun H locs LS hR hL hl => lv_iload_n hB.x hB.b hd rfl (hL.2.2 _ _ hg) (k H locs LS hR hL hl)
theorem sd_lload (hB : BC D p s m args meth c M) {i : Nat} {x : Int64} (hd : decode (codeOf M) pc = .ok (.lload i, 2)) (hg : lget ls i = some (.long x)) (k : Gd D b0 bs L xs p l e R s m args below meth c n0 s0 Q M h (pc + 2) ls (.long x :: st)) : Gd D b0 bs L xs p l e R s m args below meth c n0 s0 Q M h pc ls st := fun H locs LS hR hL hl => lv_lload hB.x hB.b hd (hL.2.2 i _ hg) (k H locs LS hR hL hl)
theorem sd_lload_n (hB : BC D p s m args meth c M) {i : Fin 4} {x : Int64} (hd : decode (codeOf M) pc = .ok (.lload_n i, 1)) (hg : lget ls (i : Nat) = some (.long x)) (k : Gd D b0 bs L xs p l e R s m args below meth c n0 s0 Q M h (pc + 1) ls (.long x :: st)) : Gd D b0 bs L xs p l e R s m args below meth c n0 s0 Q M h pc ls st := fun H locs LS hR hL hl => lv_lload_n hB.x hB.b hd rfl (hL.2.2 _ _ hg) (k H locs LS hR hL hl)
theorem sd_aload (hB : BC D p s m args meth c M) {i : Nat} {x : Nat} (hd : decode (codeOf M) pc = .ok (.aload i, 2)) (hg : lget ls i = some (.ref x)) (k : Gd D b0 bs L xs p l e R s m args below meth c n0 s0 Q M h (pc + 2) ls (.ref x :: st)) : Gd D b0 bs L xs p l e R s m args below meth c n0 s0 Q M h pc ls st := by
  intro H locs LS hR hL hl
  have hv := hL.2.2 _ _ hg
  have hk := k H locs LS hR hL hl
  by_cases hx : x = 0
  · subst hx
    exact lv_aloadN hB.x hB.b hd hv hk
  · rw [cvv_ref hx] at hv
    rw [List.map_cons, cvv_ref hx] at hk
    exact lv_aload hB.x hB.b hd hv hk
theorem sd_istore (hB : BC D p s m args meth c M) {i : Nat} {x : Int32} (hd : decode (codeOf M) pc = .ok (.istore i, 2)) (hi : i < mxl M) (k : Gd D b0 bs L xs p l e R s m args below meth c n0 s0 Q M h (pc + 2) (lset ls i (.int x)) r) : Gd D b0 bs L xs p l e R s m args below meth c n0 s0 Q M h pc ls (.int x :: r) := fun H locs LS hR hL hl => lv_istore hB.x hB.b hd hL.has hi rfl (fun LS' h' => k H locs LS' hR (hL.st1 (v := .int x) h') hl)
theorem sd_lstore (hB : BC D p s m args meth c M) {i : Nat} {x : Int64} (hd : decode (codeOf M) pc = .ok (.lstore i, 2)) (hi : i + 1 < mxl M) (k : Gd D b0 bs L xs p l e R s m args below meth c n0 s0 Q M h (pc + 2) (lclr (lset ls i (.long x)) (i + 1)) r) : Gd D b0 bs L xs p l e R s m args below meth c n0 s0 Q M h pc ls (.long x :: r) := fun H locs LS hR hL hl => lv_lstore hB.x hB.b hd hL.has hi rfl (fun LS' h' => k H locs LS' hR (hL.st2 (v := .long x) h') hl)
theorem sd_astore (hB : BC D p s m args meth c M) {i : Nat} {x : Nat} (hd : decode (codeOf M) pc = .ok (.astore i, 2)) (hi : i < mxl M) (k : Gd D b0 bs L xs p l e R s m args below meth c n0 s0 Q M h (pc + 2) (lset ls i (.ref x)) r) : Gd D b0 bs L xs p l e R s m args below meth c n0 s0 Q M h pc ls (.ref x :: r) := by
  intro H locs LS hR hL hl
  by_cases hx : x = 0
  · subst hx
    exact lv_astoreN hB.x hB.b hd hL.has hi rfl (fun LS' h' => k H locs LS' hR (hL.st1 (v := .ref 0) h') hl)
  · rw [List.map_cons, cvv_ref hx]
    exact lv_astore hB.x hB.b hd hL.has hi rfl (fun LS' h' => k H locs LS' hR (hL.st1 (v := .ref x) (by rw [cvv_ref hx]; exact h')) hl)
theorem sd_aload_n (hB : BC D p s m args meth c M) {i : Fin 4} {x : Nat} (hd : decode (codeOf M) pc = .ok (.aload_n i, 1)) (hg : lget ls (i : Nat) = some (.ref x)) (k : Gd D b0 bs L xs p l e R s m args below meth c n0 s0 Q M h (pc + 1) ls (.ref x :: st)) : Gd D b0 bs L xs p l e R s m args below meth c n0 s0 Q M h pc ls st := by
  intro H locs LS hR hL hl
  have hv := hL.2.2 _ _ hg
  have hk := k H locs LS hR hL hl
  by_cases hx : x = 0
  · subst hx
    exact lv_aload_nN hB.x hB.b hd rfl hv hk
  · rw [cvv_ref hx] at hv
    rw [List.map_cons, cvv_ref hx] at hk
    exact lv_aload_n hB.x hB.b hd rfl hv hk
theorem sd_istore_n (hB : BC D p s m args meth c M) {i : Fin 4} {x : Int32} (hd : decode (codeOf M) pc = .ok (.istore_n i, 1)) (hi : (i : Nat) < mxl M) (k : Gd D b0 bs L xs p l e R s m args below meth c n0 s0 Q M h (pc + 1) (lset ls (i : Nat) (.int x)) r) : Gd D b0 bs L xs p l e R s m args below meth c n0 s0 Q M h pc ls (.int x :: r) := fun H locs LS hR hL hl => lv_istore_n hB.x hB.b hd rfl hL.has hi rfl (fun LS' h' => k H locs LS' hR (hL.st1 (v := .int x) h') hl)
theorem sd_lstore_n (hB : BC D p s m args meth c M) {i : Fin 4} {x : Int64} (hd : decode (codeOf M) pc = .ok (.lstore_n i, 1)) (hi : (i : Nat) + 1 < mxl M) (k : Gd D b0 bs L xs p l e R s m args below meth c n0 s0 Q M h (pc + 1) (lclr (lset ls (i : Nat) (.long x)) ((i : Nat) + 1)) r) : Gd D b0 bs L xs p l e R s m args below meth c n0 s0 Q M h pc ls (.long x :: r) := fun H locs LS hR hL hl => lv_lstore_n hB.x hB.b hd rfl hL.has hi rfl (fun LS' h' => k H locs LS' hR (hL.st2 (v := .long x) h') hl)
theorem sd_astore_n (hB : BC D p s m args meth c M) {i : Fin 4} {x : Nat} (hd : decode (codeOf M) pc = .ok (.astore_n i, 1)) (hi : (i : Nat) < mxl M) (k : Gd D b0 bs L xs p l e R s m args below meth c n0 s0 Q M h (pc + 1) (lset ls (i : Nat) (.ref x)) r) : Gd D b0 bs L xs p l e R s m args below meth c n0 s0 Q M h pc ls (.ref x :: r) := by
  intro H locs LS hR hL hl
  by_cases hx : x = 0
  · subst hx
    exact lv_astore_nN hB.x hB.b hd rfl hL.has hi rfl (fun LS' h' => k H locs LS' hR (hL.st1 (v := .ref 0) h') hl)
  · rw [List.map_cons, cvv_ref hx]
    exact lv_astore_n hB.x hB.b hd rfl hL.has hi rfl (fun LS' h' => k H locs LS' hR (hL.st1 (v := .ref x) (by rw [cvv_ref hx]; exact h')) hl)
theorem sd_iinc (hB : BC D p s m args meth c M) {i : Nat} {n : Int} {x : Int32} (hd : decode (codeOf M) pc = .ok (.iinc i n, 3)) (hg : lget ls i = some (.int x)) (hi : i < mxl M) (k : Gd D b0 bs L xs p l e R s m args below meth c n0 s0 Q M h (pc + 3) (lset ls i (.int (x + Int32.ofInt n))) st) : Gd D b0 bs L xs p l e R s m args below meth c n0 s0 Q M h pc ls st := by
  intro H locs LS hR hL hl
  obtain ⟨j, hj⟩ := List.getElem?_of_mem (prs_mem (b0 := b0) (bs := bs) hi hg)
  exact lv_iinc hB.x hB.b hd hL.has hj rfl hi rfl (fun LS' h' => k H locs LS' hR (hL.st1 (v := .int (x + Int32.ofInt n)) h') hl)
theorem sd_iadd (hB : BC D p s m args meth c M) {x y : Int32} (hd : decode (codeOf M) pc = .ok (.iadd, 1)) (k : Gd D b0 bs L xs p l e R s m args below meth c n0 s0 Q M h (pc + 1) ls (.int (x + y) :: r)) : Gd D b0 bs L xs p l e R s m args below meth c n0 s0 Q M h pc ls (.int y :: .int x :: r) := fun H locs LS hR hL hl => lv_iadd hB.x hB.b hd (k H locs LS hR hL hl)
theorem sd_isub (hB : BC D p s m args meth c M) {x y : Int32} (hd : decode (codeOf M) pc = .ok (.isub, 1)) (k : Gd D b0 bs L xs p l e R s m args below meth c n0 s0 Q M h (pc + 1) ls (.int (x - y) :: r)) : Gd D b0 bs L xs p l e R s m args below meth c n0 s0 Q M h pc ls (.int y :: .int x :: r) := fun H locs LS hR hL hl => lv_isub hB.x hB.b hd (k H locs LS hR hL hl)
theorem sd_imul (hB : BC D p s m args meth c M) {x y : Int32} (hd : decode (codeOf M) pc = .ok (.imul, 1)) (k : Gd D b0 bs L xs p l e R s m args below meth c n0 s0 Q M h (pc + 1) ls (.int (x * y) :: r)) : Gd D b0 bs L xs p l e R s m args below meth c n0 s0 Q M h pc ls (.int y :: .int x :: r) := fun H locs LS hR hL hl => lv_imul hB.x hB.b hd (k H locs LS hR hL hl)
theorem sd_iand (hB : BC D p s m args meth c M) {x y : Int32} (hd : decode (codeOf M) pc = .ok (.iand, 1)) (k : Gd D b0 bs L xs p l e R s m args below meth c n0 s0 Q M h (pc + 1) ls (.int (x &&& y) :: r)) : Gd D b0 bs L xs p l e R s m args below meth c n0 s0 Q M h pc ls (.int y :: .int x :: r) := fun H locs LS hR hL hl => lv_iand hB.x hB.b hd (k H locs LS hR hL hl)
theorem sd_ior (hB : BC D p s m args meth c M) {x y : Int32} (hd : decode (codeOf M) pc = .ok (.ior, 1)) (k : Gd D b0 bs L xs p l e R s m args below meth c n0 s0 Q M h (pc + 1) ls (.int (x ||| y) :: r)) : Gd D b0 bs L xs p l e R s m args below meth c n0 s0 Q M h pc ls (.int y :: .int x :: r) := fun H locs LS hR hL hl => lv_ior hB.x hB.b hd (k H locs LS hR hL hl)
theorem sd_ixor (hB : BC D p s m args meth c M) {x y : Int32} (hd : decode (codeOf M) pc = .ok (.ixor, 1)) (k : Gd D b0 bs L xs p l e R s m args below meth c n0 s0 Q M h (pc + 1) ls (.int (x ^^^ y) :: r)) : Gd D b0 bs L xs p l e R s m args below meth c n0 s0 Q M h pc ls (.int y :: .int x :: r) := fun H locs LS hR hL hl => lv_ixor hB.x hB.b hd (k H locs LS hR hL hl)
theorem sd_ishl (hB : BC D p s m args meth c M) {x y : Int32} (hd : decode (codeOf M) pc = .ok (.ishl, 1)) (k : Gd D b0 bs L xs p l e R s m args below meth c n0 s0 Q M h (pc + 1) ls (.int (x <<< (y &&& 31)) :: r)) : Gd D b0 bs L xs p l e R s m args below meth c n0 s0 Q M h pc ls (.int y :: .int x :: r) := fun H locs LS hR hL hl => lv_ishl hB.x hB.b hd (k H locs LS hR hL hl)
theorem sd_ishr (hB : BC D p s m args meth c M) {x y : Int32} (hd : decode (codeOf M) pc = .ok (.ishr, 1)) (k : Gd D b0 bs L xs p l e R s m args below meth c n0 s0 Q M h (pc + 1) ls (.int (x >>> (y &&& 31)) :: r)) : Gd D b0 bs L xs p l e R s m args below meth c n0 s0 Q M h pc ls (.int y :: .int x :: r) := fun H locs LS hR hL hl => lv_ishr hB.x hB.b hd (k H locs LS hR hL hl)
theorem sd_ladd (hB : BC D p s m args meth c M) {x y : Int64} (hd : decode (codeOf M) pc = .ok (.ladd, 1)) (k : Gd D b0 bs L xs p l e R s m args below meth c n0 s0 Q M h (pc + 1) ls (.long (x + y) :: r)) : Gd D b0 bs L xs p l e R s m args below meth c n0 s0 Q M h pc ls (.long y :: .long x :: r) := fun H locs LS hR hL hl => lv_ladd hB.x hB.b hd (k H locs LS hR hL hl)
theorem sd_lsub (hB : BC D p s m args meth c M) {x y : Int64} (hd : decode (codeOf M) pc = .ok (.lsub, 1)) (k : Gd D b0 bs L xs p l e R s m args below meth c n0 s0 Q M h (pc + 1) ls (.long (x - y) :: r)) : Gd D b0 bs L xs p l e R s m args below meth c n0 s0 Q M h pc ls (.long y :: .long x :: r) := fun H locs LS hR hL hl => lv_lsub hB.x hB.b hd (k H locs LS hR hL hl)
theorem sd_lmul (hB : BC D p s m args meth c M) {x y : Int64} (hd : decode (codeOf M) pc = .ok (.lmul, 1)) (k : Gd D b0 bs L xs p l e R s m args below meth c n0 s0 Q M h (pc + 1) ls (.long (x * y) :: r)) : Gd D b0 bs L xs p l e R s m args below meth c n0 s0 Q M h pc ls (.long y :: .long x :: r) := fun H locs LS hR hL hl => lv_lmul hB.x hB.b hd (k H locs LS hR hL hl)
theorem sd_idiv (hB : BC D p s m args meth c M) {x y : Int32} (hd : decode (codeOf M) pc = .ok (.idiv, 1)) (hy : ¬ y = 0) (k : Gd D b0 bs L xs p l e R s m args below meth c n0 s0 Q M h (pc + 1) ls (.int (x / y) :: r)) : Gd D b0 bs L xs p l e R s m args below meth c n0 s0 Q M h pc ls (.int y :: .int x :: r) := fun H locs LS hR hL hl => lv_idiv hB.x hB.b hd hy (k H locs LS hR hL hl)
theorem sd_irem (hB : BC D p s m args meth c M) {x y : Int32} (hd : decode (codeOf M) pc = .ok (.irem, 1)) (hy : ¬ y = 0) (k : Gd D b0 bs L xs p l e R s m args below meth c n0 s0 Q M h (pc + 1) ls (.int (x % y) :: r)) : Gd D b0 bs L xs p l e R s m args below meth c n0 s0 Q M h pc ls (.int y :: .int x :: r) := fun H locs LS hR hL hl => lv_irem hB.x hB.b hd hy (by rw [irem_eq_mod]; exact k H locs LS hR hL hl)
theorem sd_ldiv (hB : BC D p s m args meth c M) {x y : Int64} (hd : decode (codeOf M) pc = .ok (.ldiv, 1)) (hy : ¬ y = 0) (k : Gd D b0 bs L xs p l e R s m args below meth c n0 s0 Q M h (pc + 1) ls (.long (x / y) :: r)) : Gd D b0 bs L xs p l e R s m args below meth c n0 s0 Q M h pc ls (.long y :: .long x :: r) := fun H locs LS hR hL hl => lv_ldiv hB.x hB.b hd hy (k H locs LS hR hL hl)
theorem sd_lrem (hB : BC D p s m args meth c M) {x y : Int64} (hd : decode (codeOf M) pc = .ok (.lrem, 1)) (hy : ¬ y = 0) (k : Gd D b0 bs L xs p l e R s m args below meth c n0 s0 Q M h (pc + 1) ls (.long (x - x / y * y) :: r)) : Gd D b0 bs L xs p l e R s m args below meth c n0 s0 Q M h pc ls (.long y :: .long x :: r) := fun H locs LS hR hL hl => lv_lrem hB.x hB.b hd hy (k H locs LS hR hL hl)
theorem sd_ineg (hB : BC D p s m args meth c M) {x : Int32} (hd : decode (codeOf M) pc = .ok (.ineg, 1)) (k : Gd D b0 bs L xs p l e R s m args below meth c n0 s0 Q M h (pc + 1) ls (.int (-x) :: r)) : Gd D b0 bs L xs p l e R s m args below meth c n0 s0 Q M h pc ls (.int x :: r) := fun H locs LS hR hL hl => lv_ineg hB.x hB.b hd (k H locs LS hR hL hl)
theorem sd_lcmp (hB : BC D p s m args meth c M) {x y : Int64} (hd : decode (codeOf M) pc = .ok (.lcmp, 1)) (k : Gd D b0 bs L xs p l e R s m args below meth c n0 s0 Q M h (pc + 1) ls (.int (lg_cmp x y) :: r)) : Gd D b0 bs L xs p l e R s m args below meth c n0 s0 Q M h pc ls (.long y :: .long x :: r) := fun H locs LS hR hL hl => W.lcmp hB.x hB.b hd (k H locs LS hR hL hl)
theorem sd_i2l (hB : BC D p s m args meth c M) {x : Int32} (hd : decode (codeOf M) pc = .ok (.i2l, 1)) (k : Gd D b0 bs L xs p l e R s m args below meth c n0 s0 Q M h (pc + 1) ls (.long x.toInt64 :: r)) : Gd D b0 bs L xs p l e R s m args below meth c n0 s0 Q M h pc ls (.int x :: r) := fun H locs LS hR hL hl => lv_i2l hB.x hB.b hd rfl (k H locs LS hR hL hl)
theorem sd_l2i (hB : BC D p s m args meth c M) {x : Int64} (hd : decode (codeOf M) pc = .ok (.l2i, 1)) (k : Gd D b0 bs L xs p l e R s m args below meth c n0 s0 Q M h (pc + 1) ls (.int x.toInt32 :: r)) : Gd D b0 bs L xs p l e R s m args below meth c n0 s0 Q M h pc ls (.long x :: r) := fun H locs LS hR hL hl => lv_l2i hB.x hB.b hd rfl (k H locs LS hR hL hl)
theorem sd_dup (hB : BC D p s m args meth c M) {v : Value} (hd : decode (codeOf M) pc = .ok (.dup, 1)) (hv : v.category = 1) (k : Gd D b0 bs L xs p l e R s m args below meth c n0 s0 Q M h (pc + 1) ls (v :: v :: r)) : Gd D b0 bs L xs p l e R s m args below meth c n0 s0 Q M h pc ls (v :: r) := fun H locs LS hR hL hl => lv_dup hB.x hB.b hd ((cvv_cat b0 bs v).trans hv) (k H locs LS hR hL hl)
theorem sd_dup2 (hB : BC D p s m args meth c M) {v w : Value} (hd : decode (codeOf M) pc = .ok (.dup2, 1)) (hv : v.category = 1) (hw : w.category = 1) (k : Gd D b0 bs L xs p l e R s m args below meth c n0 s0 Q M h (pc + 1) ls (v :: w :: v :: w :: r)) : Gd D b0 bs L xs p l e R s m args below meth c n0 s0 Q M h pc ls (v :: w :: r) := fun H locs LS hR hL hl => lv_dup2_11 hB.x hB.b hd ((cvv_cat b0 bs v).trans hv) ((cvv_cat b0 bs w).trans hw) (k H locs LS hR hL hl)
theorem sd_if (hB : BC D p s m args meth c M) {cd : Jvm.ClassFile.Cond} {off : Int} {tgt : Nat} {x : Int32} (hd : decode (codeOf M) pc = .ok (.ifCond cd off, 3)) (ht : (pc : Int) + off = (tgt : Int)) (kt : ifc cd x 0 = true → Gd D b0 bs L xs p l e R s m args below meth c n0 s0 Q M h tgt ls r) (kf : ifc cd x 0 = false → Gd D b0 bs L xs p l e R s m args below meth c n0 s0 Q M h (pc + 3) ls r) : Gd D b0 bs L xs p l e R s m args below meth c n0 s0 Q M h pc ls (.int x :: r) := by
  intro H locs LS hR hL hl
  cases cd with
  | eq => exact lv_if_eq hB.x hB.b hd ht (fun q => kt (by first | exact decide_eq_true q | simp [ifc, q]) H locs LS hR hL hl) (fun q => kf (by first | exact decide_eq_false q | simp [ifc, q]) H locs LS hR hL hl)
  | ne => exact lv_if_ne hB.x hB.b hd ht (fun q => kt (by first | exact decide_eq_true q | simp [ifc, q]) H locs LS hR hL hl) (fun q => kf (by first | exact decide_eq_false q | simp [ifc, q]) H locs LS hR hL hl)
  | lt => exact lv_if_lt hB.x hB.b hd ht (fun q => kt (by first | exact decide_eq_true q | simp [ifc, q]) H locs LS hR hL hl) (fun q => kf (by first | exact decide_eq_false q | simp [ifc, q]) H locs LS hR hL hl)
  | ge => exact lv_if_ge hB.x hB.b hd ht (fun q => kt (by first | exact decide_eq_true q | simp [ifc, q]) H locs LS hR hL hl) (fun q => kf (by first | exact decide_eq_false q | simp [ifc, q]) H locs LS hR hL hl)
  | gt => exact lv_if_gt hB.x hB.b hd ht (fun q => kt (by first | exact decide_eq_true q | simp [ifc, q]) H locs LS hR hL hl) (fun q => kf (by first | exact decide_eq_false q | simp [ifc, q]) H locs LS hR hL hl)
  | le => exact lv_if_le hB.x hB.b hd ht (fun q => kt (by first | exact decide_eq_true q | simp [ifc, q]) H locs LS hR hL hl) (fun q => kf (by first | exact decide_eq_false q | simp [ifc, q]) H locs LS hR hL hl)
theorem sd_icmp (hB : BC D p s m args meth c M) {cd : Jvm.ClassFile.Cond} {off : Int} {tgt : Nat} {x y : Int32} (hd : decode (codeOf M) pc = .ok (.if_icmp cd off, 3)) (ht : (pc : Int) + off = (tgt : Int)) (kt : ifc cd x y = true → Gd D b0 bs L xs p l e R s m args below meth c n0 s0 Q M h tgt ls r) (kf : ifc cd x y = false → Gd D b0 bs L xs p l e R s m args below meth c n0 s0 Q M h (pc + 3) ls r) : Gd D b0 bs L xs p l e R s m args below meth c n0 s0 Q M h pc ls (.int y :: .int x :: r) := by
  intro H locs LS hR hL hl
  cases cd with
  | eq => exact lv_icmp_eq hB.x hB.b hd ht (fun q => kt (by first | exact decide_eq_true q | simp [ifc, q]) H locs LS hR hL hl) (fun q => kf (by first | exact decide_eq_false q | simp [ifc, q]) H locs LS hR hL hl)
  | ne => exact lv_icmp_ne hB.x hB.b hd ht (fun q => kt (by first | exact decide_eq_true q | simp [ifc, q]) H locs LS hR hL hl) (fun q => kf (by first | exact decide_eq_false q | simp [ifc, q]) H locs LS hR hL hl)
  | lt => exact lv_icmp_lt hB.x hB.b hd ht (fun q => kt (by first | exact decide_eq_true q | simp [ifc, q]) H locs LS hR hL hl) (fun q => kf (by first | exact decide_eq_false q | simp [ifc, q]) H locs LS hR hL hl)
  | ge => exact lv_icmp_ge hB.x hB.b hd ht (fun q => kt (by first | exact decide_eq_true q | simp [ifc, q]) H locs LS hR hL hl) (fun q => kf (by first | exact decide_eq_false q | simp [ifc, q]) H locs LS hR hL hl)
  | gt => exact lv_icmp_gt hB.x hB.b hd ht (fun q => kt (by first | exact decide_eq_true q | simp [ifc, q]) H locs LS hR hL hl) (fun q => kf (by first | exact decide_eq_false q | simp [ifc, q]) H locs LS hR hL hl)
  | le => exact lv_icmp_le hB.x hB.b hd ht (fun q => kt (by first | exact decide_eq_true q | simp [ifc, q]) H locs LS hR hL hl) (fun q => kf (by first | exact decide_eq_false q | simp [ifc, q]) H locs LS hR hL hl)
theorem sd_ifnull (hB : BC D p s m args meth c M) {off : Int} {tgt x : Nat} (hd : decode (codeOf M) pc = .ok (.ifnull off, 3)) (ht : (pc : Int) + off = (tgt : Int)) (kt : Nat.beq x 0 = true → Gd D b0 bs L xs p l e R s m args below meth c n0 s0 Q M h tgt ls r) (kf : Nat.beq x 0 = false → Gd D b0 bs L xs p l e R s m args below meth c n0 s0 Q M h (pc + 3) ls r) : Gd D b0 bs L xs p l e R s m args below meth c n0 s0 Q M h pc ls (.ref x :: r) := by
  intro H locs LS hR hL hl
  cases x with
  | zero => exact lv_ifnullN hB.x hB.b hd ht (kt rfl H locs LS hR hL hl)
  | succ x => exact lv_ifnull hB.x hB.b hd (kf rfl H locs LS hR hL hl)
theorem sd_ifnonnull (hB : BC D p s m args meth c M) {off : Int} {tgt x : Nat} (hd : decode (codeOf M) pc = .ok (.ifnonnull off, 3)) (ht : (pc : Int) + off = (tgt : Int)) (kt : (!Nat.beq x 0) = true → Gd D b0 bs L xs p l e R s m args below meth c n0 s0 Q M h tgt ls r) (kf : (!Nat.beq x 0) = false → Gd D b0 bs L xs p l e R s m args below meth c n0 s0 Q M h (pc + 3) ls r) : Gd D b0 bs L xs p l e R s m args below meth c n0 s0 Q M h pc ls (.ref x :: r) := by
  intro H locs LS hR hL hl
  cases x with
  | zero => exact lv_ifnonnullN hB.x hB.b hd (kf rfl H locs LS hR hL hl)
  | succ x => exact lv_ifnonnull hB.x hB.b hd ht (kt rfl H locs LS hR hL hl)
theorem sd_goto (hB : BC D p s m args meth c M) {off : Int} {tgt : Nat} (hd : decode (codeOf M) pc = .ok (.goto off, 3)) (ht : (pc : Int) + off = (tgt : Int)) (k : Gd D b0 bs L xs p l e R s m args below meth c n0 s0 Q M h tgt ls st) : Gd D b0 bs L xs p l e R s m args below meth c n0 s0 Q M h pc ls st := fun H locs LS hR hL hl => lv_goto hB.x hB.b hd ht (k H locs LS hR hL hl)
theorem sd_tswOut (hB : BC D p s m args meth c M) {d lo hi : Int} {offs : Array Int} {len tgt : Nat} {x : Int32} (hd : decode (codeOf M) pc = .ok (.tableswitch d lo hi offs, len)) (hx : x.toInt < lo ∨ hi < x.toInt) (ht : (pc : Int) + d = (tgt : Int)) (k : Gd D b0 bs L xs p l e R s m args below meth c n0 s0 Q M h tgt ls r) : Gd D b0 bs L xs p l e R s m args below meth c n0 s0 Q M h pc ls (.int x :: r) := fun H locs LS hR hL hl => lv_tableOut hB.x hB.b hd hx ht (k H locs LS hR hL hl)
theorem sd_tswIn (hB : BC D p s m args meth c M) {d lo hi off : Int} {offs : Array Int} {len tgt : Nat} {x : Int32} (hd : decode (codeOf M) pc = .ok (.tableswitch d lo hi offs, len)) (h1 : ¬ x.toInt < lo) (h2 : ¬ hi < x.toInt) (ho : offs[(x.toInt - lo).toNat]? = some off) (ht : (pc : Int) + off = (tgt : Int)) (k : Gd D b0 bs L xs p l e R s m args below meth c n0 s0 Q M h tgt ls r) : Gd D b0 bs L xs p l e R s m args below meth c n0 s0 Q M h pc ls (.int x :: r) := fun H locs LS hR hL hl => lv_tableIn hB.x hB.b hd h1 h2 ho ht (k H locs LS hR hL hl)
theorem sd_lsw (hB : BC D p s m args meth c M) {d off : Int} {ps : Array (Int × Int)} {len tgt : Nat} {x : Int32} (hd : decode (codeOf M) pc = .ok (.lookupswitch d ps, len)) (hp : (ps.toList.zip (ps.toList.drop 1)).all (fun (a, next) => a.1 < next.1) = true) (ho : Op.lookupswitch.offset ps.toList d x.toInt = off) (ht : (pc : Int) + off = (tgt : Int)) (k : Gd D b0 bs L xs p l e R s m args below meth c n0 s0 Q M h tgt ls r) : Gd D b0 bs L xs p l e R s m args below meth c n0 s0 Q M h pc ls (.int x :: r) := fun H locs LS hR hL hl => lv_lookup hB.x hB.b hd hp ho ht (k H locs LS hR hL hl)
/-- a field, as the tables have it -/
theorem fld_at (hB : BC D p s m args meth c M) {i k ty put a : Nat} {cs : List Nat} {H : Heap} (hf : lk2 (ownOf M) i fldL = some (k, ty, put, cs)) (hm : memB (tg h a) cs = true) (hR : Rel D b0 bs L xs s H h) :
    ∃ (C : String) (T : u_T) (N : Nat) (ref : String) (FT : FieldType) (cell : Cell) (kC : Class) (cf : ClassId) (kf : Class) (fi : Nat) (f : Field), (2 ≤ a ∧ a < nx h ∧ 1 ≤ tg h a ∧ tg h a ≤ 12) ∧ vwCl[tg h a - 1]? = some (C, T, N) ∧ k < N ∧
      (Cond.fieldLink (rn (ownOf M)) i ref (T k).2.1 (T k).2.2.1).before args s = true ∧ s.fieldFound? (T k).1 (T k).2.1 (T k).2.2.1 = some (cf, kf, fi, f) ∧ s.fieldFound? ref (T k).2.1 (T k).2.2.1 = some (cf, kf, fi, f) ∧ f.isStatic = false ∧ f.slot = D.2 (tg h a - 1) k ∧
      parseFieldDescriptor (T k).2.2.1 = some FT ∧ fty (tg h a - 1) k = ty ∧ ftOK ty FT = true ∧ (put = 0 → (T k).2.2.2 = false) ∧ (put = 1 → (T k).2.2.2 = true ∧ (T k).1 = rn (ownOf M)) ∧
      s.vm.findClass C = some (D.1 (tg h a - 1)) ∧ s.vm.classes[D.1 (tg h a - 1)]? = some kC ∧ kC.kind = .ordinary ∧ (u_lay C T k).before args s = true ∧
      H[ad b0 bs a]? = some cell ∧ cell.cls = D.1 (tg h a - 1) ∧ cell.vm = .none ∧ ∀ j, j < N → cell.slots[D.2 (tg h a - 1) j]? = some (cvv b0 bs (fva h a (tg h a - 1) j)) := by
  obtain ⟨C, T, N, ref, FT, v1, v2, v3, v4, v5, v6, v7, v8, v9, v10, v11⟩ := fld_ok _ (lk2_mem hf) (tg h a) hm
  dsimp only at v1 v2 v3 v4 v5 v6 v7 v8 v9 v10 v11
  obtain ⟨q2, q3, cr⟩ := hR.at (k := a) (by omega) (by omega)
  obtain ⟨r', e1, cell, f1, f2, f3, f4⟩ := cr.1 v2 v3
  cases e1.symm.trans v1
  obtain ⟨hS, hfc, kC, hkC, hkind⟩ := hB.uk.1.1 (tg h a - 1) _ v1
  obtain ⟨cf, kf, fi, f, hi, hsl⟩ := hS k v4
  have hin := in_u _ _ v1
  have hlay := hB.ts _ (hin _ (u_in_lay v4))
  refine ⟨C, T, N, ref, FT, cell, kC, cf, kf, fi, f, ⟨q2, q3, v2, v3⟩, v1, v4, hB.ts _ v5, hi, ?_, (u_facts hfc hkC (u_lays hB.ts hin v4) hi).1, hsl, v7, v8, v9, v10, v11, hfc, hkC, hkind, hlay, f1, f2, f3, f4⟩
  rcases v6 with rfl | v6
  · exact hi
  · exact u_same (hB.ts _ v6) _ hi
theorem sd_get (hB : BC D p s m args meth c M) {i k ty put a : Nat} {cs : List Nat} (hd : decode (codeOf M) pc = .ok (.getfield i, 3)) (hf : lk2 (ownOf M) i fldL = some (k, ty, put, cs)) (hm : memB (tg h a) cs = true) (kk : Gd D b0 bs L xs p l e R s m args below meth c n0 s0 Q M h (pc + 3) ls ((if ty = 2 then .ref (gR h a k) else .int (gI h a k)) :: r)) : Gd D b0 bs L xs p l e R s m args below meth c n0 s0 Q M h pc ls (.ref a :: r) := by
  intro H locs LS hR hL hl
  obtain ⟨C, T, N, ref, FT, cell, kC, cf, kf, fi, f, ⟨q2, -, -, -⟩, -, v4, v5, -, hi2, hst, hsl, -, v8, -, -, -, -, -, -, -, f1, -, f3, f4⟩ := fld_at hB hf hm hR
  have ea : cvv b0 bs (.ref a) = .ref (ad b0 bs a) := cvv_ref (by omega)
  rw [List.map_cons, ea]
  have hk := kk H locs LS hR hL hl
  refine W.getf hB.x hB.b hB.own v5 hi2 hst f1 (by rw [f3]; exact fun z => by cases z) (v := cvv b0 bs (fva h a (tg h a - 1) k)) (by rw [hsl]; exact f4 k v4) rfl rfl hd ?_
  have ev : fva h a (tg h a - 1) k = (if ty = 2 then .ref (gR h a k) else .int (gI h a k)) := by unfold fva; rw [v8]
  rw [ev]
  exact hk
theorem slots_apart (hU : UK D s) (hts : ∀ w ∈ TW, w.before args s = true) {c : Nat} {q : vw_C} (hq : vwCl[c]? = some q) : ∀ x y, x < q.2.2 → y < q.2.2 → x ≠ y → D.2 c x ≠ D.2 c y := by
  have key : ∃ ty : Nat → FieldType, (∀ k, k < q.2.2 → parseFieldDescriptor (q.2.1 k).2.2.1 = some (ty k)) ∧ ∀ a, a < q.2.2 → ∀ b, b < q.2.2 → a ≠ b → (q.2.1 a).2.1 ≠ (q.2.1 b).2.1 := by
    match c, hq with
    | 0, hq => cases hq; exact ⟨tyX0, tyX0_ok, nmX0⟩
    | 1, hq => cases hq; exact ⟨tyX1, tyX1_ok, nmX1⟩
    | 2, hq => cases hq; exact ⟨tyX2, tyX2_ok, nmX2⟩
    | 3, hq => cases hq; exact ⟨tyX3, tyX3_ok, nmX3⟩
    | 4, hq => cases hq; exact ⟨tyX4, tyX4_ok, nmX4⟩
    | 5, hq => cases hq; exact ⟨tyX5, tyX5_ok, nmX5⟩
    | 6, hq => cases hq; exact ⟨tyX6, tyX6_ok, nmX6⟩
    | 7, hq => cases hq; exact ⟨tyX7, tyX7_ok, nmX7⟩
    | 8, hq => cases hq; exact ⟨tyX8, tyX8_ok, nmX8⟩
    | 9, hq => cases hq; exact ⟨tyX9, tyX9_ok, nmX9⟩
    | 10, hq => cases hq; exact ⟨tyX10, tyX10_ok, nmX10⟩
    | 11, hq => cases hq; exact ⟨tyX11, tyX11_ok, nmX11⟩
    | n + 12, hq => simp [vwCl] at hq
  obtain ⟨ty, h1, h2⟩ := key
  exact va_apart (own := "") (tys := []) hts (in_u _ _ hq) ty h1 h2 hU.1 hq
theorem fva_sI {h : PH} {a c k : Nat} {x : Int32} (hty : fty c k ≠ 2) (j : Nat) : cvv b0 bs (fva (sI h a k x) a c j) = updV (fun j => cvv b0 bs (fva h a c j)) k (.int x) j := by
  by_cases e : j = k
  · subst e
    simp [fva, hty, updV, gI, sI, cvv]
  · have e1 : gI (sI h a k x) a j = gI h a j := if_neg (fun q => e q.2)
    simp only [fva, updV, if_neg e, e1]
    rfl
theorem fva_sR {h : PH} {a c k b : Nat} (hty : fty c k = 2) (j : Nat) : cvv b0 bs (fva (sR h a k b) a c j) = updV (fun j => cvv b0 bs (fva h a c j)) k (cvv b0 bs (.ref b)) j := by
  by_cases e : j = k
  · subst e
    simp [fva, hty, updV, gR, sR]
  · have e1 : gR (sR h a k b) a j = gR h a j := if_neg (fun q => e q.2)
    simp only [fva, updV, if_neg e, e1]
    rfl
/-- a store into a field, whatever its type -/
theorem sd_put (hB : BC D p s m args meth c M) {i k ty put a : Nat} {cs : List Nat} {v : Value} {h1 : PH} (hd : decode (codeOf M) pc = .ok (.putfield i, 3)) (hf : lk2 (ownOf M) i fldL = some (k, ty, put, cs)) (hm : memB (tg h a) cs = true) (hp : put = 0 ∨ put = 1 ∧ initM M = true)
    (hv : ∀ FT, ftOK ty FT = true → narrow FT (cvv b0 bs v) = cvv b0 bs v ∧ fits FT (cvv b0 bs v) = true) (hc : h1.1 = h.1 ∧ h1.2.1 = h.2.1 ∧ (∀ q, q ≠ a → gI h1 q = gI h q) ∧ ∀ q, q ≠ a → gR h1 q = gR h q)
    (hu : fty (tg h a - 1) k = ty → ∀ j, cvv b0 bs (fva h1 a (tg h a - 1) j) = updV (fun j => cvv b0 bs (fva h a (tg h a - 1) j)) k (cvv b0 bs v) j) (kk : Gd D b0 bs L xs p l e R s m args below meth c n0 s0 Q M h1 (pc + 3) ls r) : Gd D b0 bs L xs p l e R s m args below meth c n0 s0 Q M h pc ls (v :: .ref a :: r) := by
  intro H locs LS hR hL hl
  obtain ⟨C, T, N, ref, FT, cell, kC, cf, kf, fi, f, ⟨q2, q3, t1, t2⟩, v1, v4, v5, hi, hi2, hst, hsl, v7, v8, v9, v10, v11, hfc, hkC, hkind, hlay, f1, f2, f3, f4⟩ := fld_at hB hf hm hR
  have ea : cvv b0 bs (.ref a) = .ref (ad b0 bs a) := cvv_ref (by omega)
  rw [List.map_cons, List.map_cons, ea]
  obtain ⟨n1, n2⟩ := hv FT v9
  have hap := slots_apart hB.uk hB.ts v1
  have htg : ∀ q, tg h1 q = tg h q := fun q => by unfold tg; rw [hc.2.1]
  have fin : ∀ H' : Heap, H'[ad b0 bs a]? = some (cell.setSlot f.slot (cvv b0 bs v)) → H'.size = H.size → (∀ q, q ≠ ad b0 bs a → H'[q]? = H[q]?) → W p l e R s m args below meth c H' (locs ++ [⟨ad b0 bs a, f.slot⟩]) (nx h - n0) (sl h - s0) Q { F0 m pc LS (cvv b0 bs v :: .ref (ad b0 bs a) :: r.map (cvv b0 bs)) with pc := pc + 3, stack := r.map (cvv b0 bs) } := by
    intro H' e1 e2 e3
    have hR1 : Rel D b0 bs L xs s H' h1 := by
      refine hR.put q2 (by unfold nx; rw [hc.1]) (fun q => by rw [hc.2.1]) hc.2.2.1 hc.2.2.2 e2 e3 ⟨fun _ _ => ?_, fun z => ?_, fun z _ => ?_⟩
      · rw [htg]
        refine ⟨_, v1, cell.setSlot f.slot (cvv b0 bs v), e1, f2, f3, fun j hj => ?_⟩
        show _ = some (cvv b0 bs (fva h1 a (tg h a - 1) j))
        rw [hsl, hu v8]
        exact t_set f4 (fun x y hx hy hne => hap x y hx hy hne) v4 _ j hj
      · rw [htg] at z; omega
      · rw [htg] at z; omega
    have hk := kk H' (locs ++ [⟨ad b0 bs a, f.slot⟩]) LS hR1 hL (fun q hq => by
      rcases List.mem_append.mp hq with z | z
      · exact hl q z
      · rw [List.mem_singleton.mp z]
        show b0 ≤ ad b0 bs a
        rw [ad_ge q2]; omega)
    unfold nx sl at hk ⊢
    rw [hc.1] at hk
    exact hk
  unfold u_lay at hlay
  rcases hp with hp | ⟨hp, him⟩
  · rw [if_neg (by rw [v10 hp]; decide)] at hlay
    have h6 := u_store hfc hkC hkind hlay hi v7 n1 n2
    exact W.putK hB.x hB.b (f := f) ⟨hB.own, v5, ⟨_, _, _, hi2⟩, hst⟩ (by rw [f2]; exact h6) f1 f3 (by rw [hsl]; exact k2_hasslot (f4 k v4)) rfl rfl hd fin
  · obtain ⟨w1, w2⟩ := v11 hp
    rw [if_pos w1] at hlay
    have hcf : m.cls = cf := by
      obtain ⟨_, _, c', _, _, _, -, -, hf', -, -, -, hown2, -⟩ := Cond.laysFinal_spec hlay
      have e1 : c' = cf := by have := hi.symm.trans hf'; simp at this; exact this.1.symm
      rw [w2] at hown2
      rw [← e1]; exact Option.some.inj (hB.own.symm.trans hown2)
    have h6 := u_fits hfc hkC hkind (Or.inr hlay) hi v7 n1 n2
    exact W.putFinK hB.x hB.b hB.own v5 hi2 hst hcf (hB.ini him) (by rw [f2]; exact h6) f1 f3 (by rw [hsl]; exact k2_hasslot (f4 k v4)) rfl rfl hd fin
theorem ftOK_int {ty : Nat} {x : Int32} (hx : ty = 0 ∨ ty = 1 ∧ (x = 0 ∨ x = 1)) (FT : FieldType) (hf : ftOK ty FT = true) : narrow FT (.int x) = .int x ∧ fits FT (.int x) = true := by
  rcases hx with rfl | ⟨rfl, hx⟩
  · cases FT <;> first | exact ⟨rfl, rfl⟩ | (simp [ftOK] at hf)
  · cases FT <;> first | (rcases hx with rfl | rfl <;> exact ⟨by decide, by decide⟩) | (simp [ftOK] at hf)
theorem ftOK_ref {b : Nat} (FT : FieldType) (hf : ftOK 2 FT = true) : narrow FT (cvv b0 bs (.ref b)) = cvv b0 bs (.ref b) ∧ fits FT (cvv b0 bs (.ref b)) = true := by
  cases FT <;> first | (cases b <;> exact ⟨rfl, rfl⟩) | (simp [ftOK] at hf)
theorem sd_putI (hB : BC D p s m args meth c M) {i k ty put a : Nat} {cs : List Nat} {x : Int32} (hd : decode (codeOf M) pc = .ok (.putfield i, 3)) (hf : lk2 (ownOf M) i fldL = some (k, ty, put, cs)) (hm : memB (tg h a) cs = true) (hp : put = 0 ∨ put = 1 ∧ initM M = true) (hx : ty = 0 ∨ ty = 1 ∧ (x = 0 ∨ x = 1)) (kk : Gd D b0 bs L xs p l e R s m args below meth c n0 s0 Q M (sI h a k x) (pc + 3) ls r) : Gd D b0 bs L xs p l e R s m args below meth c n0 s0 Q M h pc ls (.int x :: .ref a :: r) :=
  sd_put hB (v := .int x) (h1 := sI h a k x) hd hf hm hp (ftOK_int hx) ⟨rfl, rfl, fun q hq => funext fun j => show (if q = a ∧ j = k then x else gI h q j) = gI h q j from if_neg (fun z => hq z.1), fun q hq => rfl⟩ (fun e j => fva_sI (by rw [e]; rcases hx with rfl | ⟨rfl, -⟩ <;> decide) j) kk
theorem sd_putR (hB : BC D p s m args meth c M) {i k put a b : Nat} {cs : List Nat} (hd : decode (codeOf M) pc = .ok (.putfield i, 3)) (hf : lk2 (ownOf M) i fldL = some (k, 2, put, cs)) (hm : memB (tg h a) cs = true) (hp : put = 0 ∨ put = 1 ∧ initM M = true) (kk : Gd D b0 bs L xs p l e R s m args below meth c n0 s0 Q M (sR h a k b) (pc + 3) ls r) : Gd D b0 bs L xs p l e R s m args below meth c n0 s0 Q M h pc ls (.ref b :: .ref a :: r) :=
  sd_put hB (v := .ref b) (h1 := sR h a k b) hd hf hm hp ftOK_ref ⟨rfl, rfl, fun q hq => rfl, fun q hq => funext fun j => show (if q = a ∧ j = k then b else gR h q j) = gR h q j from if_neg (fun z => hq z.1)⟩ (fun e j => fva_sR e j) kk
end Snd
