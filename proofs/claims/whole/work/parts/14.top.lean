/-! ===== the pure machine over the machine, and the law out of the pure law (gen/mk14.py) ===== -/
section Top
variable {D : va_G} {b0 bs L : Nat} {xs : Nat → Int32} {l : Launch}
def BS (D : va_G) (b0 bs L : Nat) (xs : Nat → Int32) (l : Launch) (n : Nat) : Prop := ∀ (M : Nat) (h : PH) (pc : Nat) (ls : LSt) (st : List Value) (h' : PH) (v : Option Value), run n M h pc ls st = some (h', v) →
  ∀ (p : Program) (e : Env) (R : Room) (s : State) (m : MethodId) (args : Array Value) (below : List Frame) (meth : Method) (c : Code) (n0 s0 : Nat) (Q : State → Prop), BC D p s m args meth c M → frm M ≤ R.frames → lom M ≤ R.locals → n0 ≤ nx h → s0 ≤ sl h → nx h' - n0 ≤ R.cells → sl h' - s0 ≤ R.slots →
  (∀ (pc' : Nat) (ls' : LSt) (i : Instr), decode (codeOf M) pc' = .ok (i, 1) → IsRet M i v → Gd D b0 bs L xs p l e R s m args below meth c n0 s0 Q M h' pc' ls' v.toList) → Gd D b0 bs L xs p l e R s m args below meth c n0 s0 Q M h pc ls st
theorem lg_len : ∀ vs : List Value, (lg_sl vs).length = (vs.map fun v => v.category).sum
  | [] => rfl
  | v :: vs => by
    have ih := lg_len vs
    rcases lv_cat v with q | q
    · simp only [lg_sl, List.flatMap_cons, List.length_append, List.map_cons, List.sum_cons, q] at ih ⊢
      rw [ih]; rfl
    · simp only [lg_sl, List.flatMap_cons, List.length_append, List.map_cons, List.sum_cons, q] at ih ⊢
      rw [ih]; rfl
theorem ret_snd {p : Program} {e : Env} {R : Room} {s : State} {m : MethodId} {args : Array Value} {below : List Frame} {meth : Method} {c : Code} {n0 s0 M : Nat} {h h' : PH} {v : Option Value} {as : List Value} (hB : BC D p s m args meth c M) (pc' : Nat) (ls' : LSt) (i : Instr) (hd : decode (codeOf M) pc' = .ok (i, 1)) (hi : IsRet M i v) :
    Gd D b0 bs L xs p l e R s m args below meth c n0 s0 (MQ below (fun _ _ o t => o = .returned (v.map (cvv b0 bs)) ∧ Rel D b0 bs L xs t t.heap h') args s (nx h' - n0) (sl h' - s0) (fun q => b0 ≤ q)) M h' pc' ls' v.toList := by
  intro H locs LS hR hL hl
  rcases hi with ⟨rfl, rfl, e3⟩ | ⟨rfl, x, rfl, e3⟩ | ⟨rfl, x, rfl, e3⟩ | ⟨rfl, x, C, rfl, e3⟩
  · exact W.vret hB.x hB.b (hB.2.2.1.trans e3) (fun t ht hW => ⟨rfl, by rw [ht]; exact hR.moved hW.alike⟩) hl hd hB.2.2.2.2.2.2.1
  · rcases e3 with e3 | ⟨e3, e4⟩
    · exact W.iret hB.x hB.b (hB.2.2.1.trans e3) (fun t ht hW => ⟨rfl, by rw [ht]; exact hR.moved hW.alike⟩) hl hd hB.2.2.2.2.2.2.1
    · exact W.zret hB.x hB.b (hB.2.2.1.trans e3) (by rcases e4 with rfl | rfl <;> rfl) (fun t ht hW => ⟨rfl, by rw [ht]; exact hR.moved hW.alike⟩) hl hd hB.2.2.2.2.2.2.1
  · exact W.lret hB.x hB.b (hB.2.2.1.trans e3) (fun t ht hW => ⟨rfl, by rw [ht]; exact hR.moved hW.alike⟩) hl hd hB.2.2.2.2.2.2.1
  · refine W.aret hB.x hB.b (hB.2.2.1.trans e3) (Or.inl ⟨C, rfl⟩) ?_ (fun t ht hW => ⟨rfl, by rw [ht]; exact hR.moved hW.alike⟩) hl hd hB.2.2.2.2.2.2.1
    cases x with
    | zero => exact Or.inl rfl
    | succ x => exact Or.inr ⟨_, rfl⟩
theorem entry_LR {as : List Value} {n : Nat} (ha : catS as ≤ n) (ho : as.all okV = true) : LR b0 bs (entryL n as) ((lg_sl (as.map (cvv b0 bs)) ++ List.replicate (n - (lg_sl (as.map (cvv b0 bs))).length) Slot.unset).toArray) n := by
  have hl := lv_entry (as.map (cvv b0 bs)) (n := n) (by rw [lg_len, cvv_catS]; exact ha)
  refine ⟨hl.1, hl.2.1, fun i v hi => ?_⟩
  have := lget_entry b0 bs as n i 0 v ho hi
  rw [Nat.zero_add] at this
  exact hl.2.2 _ this
theorem met_of {n : Nat} (ih : BS D b0 bs L xs l n) {M : Nat} {h h' : PH} {as : List Value} {v : Option Value} (hr : run n M h 0 (entryL (mxl M) as) [] = some (h', v)) (ha : argOK M as = true) (hm : M < 277) : MetM D b0 bs L xs l M h as h' v := by
  obtain ⟨m1, m2, m3⟩ := met_ok M hm
  unfold argOK at ha
  simp only [Bool.and_eq_true] at ha
  unfold MetM
  refine Met.ofW (cc := codeOf M) (maxL := mxl M) (ret := retOf M) m3 rfl ?_
  intro p e s m args below meth c s₁ B hml hv
  obtain ⟨rfl, hR, hU⟩ := hv
  have hts := atoms_spec (ws := wsM M) B.pre
  have hB : BC D p s m (as.map (cvv b0 bs)).toArray meth c M := ⟨B.exec, B.bytes, B.returns, hml, by rw [← m2]; exact findClass_of_methodNamed B.named, fun w hw => hts w (List.mem_cons_of_mem _ hw), B.notSynchronized, fun hi => by rw [(name_of_methodNamed B.named B.method).1]; exact of_decide_eq_true hi, hU⟩
  rw [lg_entry_eq]
  have hk := ih M h 0 (entryL (mxl M) as) [] h' v hr p e { frames := frm M, cells := nx h' - nx h, slots := sl h' - sl h, locals := lom M } s m (as.map (cvv b0 bs)).toArray below meth c (nx h) (sl h) (MQ below (fun _ _ o t => o = .returned (v.map (cvv b0 bs)) ∧ Rel D b0 bs L xs t t.heap h') (as.map (cvv b0 bs)).toArray s (nx h' - nx h) (sl h' - sl h) (fun q => b0 ≤ q)) hB (Nat.le_refl _) (Nat.le_refl _) (Nat.le_refl _) (Nat.le_refl _) (Nat.le_refl _) (Nat.le_refl _) (fun pc' ls' i hd hi => ret_snd (as := as) (h := h) hB pc' ls' i hd hi) s.heap [] _ hR (entry_LR (Nat.le_of_ble_eq_true ha.1) ha.2) (fun q hq => by cases hq)
  rw [Nat.sub_self, Nat.sub_self] at hk
  exact hk
theorem run_snd : ∀ n, BS D b0 bs L xs l n := by
  intro n
  induction n with
  | zero => intro M h pc ls st h' v hr; simp [run] at hr
  | succ n ih =>
    intro M h pc ls st h' v hr p e R s m args below meth c n0 s0 Q hB hfr hlo g3 g4 g5 g6 hfin
    have hmono := run_mono _ _ _ _ _ _ _ _ hr
    rw [run] at hr
    cases hd : decode (codeOf M) pc with
    | error er =>
      have hs : step M h pc ls st = none := by unfold step; rw [hd]
      rw [hs] at hr; cases hr
    | ok q =>
      obtain ⟨i, len⟩ := q
      have hs : step M h pc ls st = stepI M h pc ls st i len := by unfold step; rw [hd]
      rw [hs] at hr
      refine step_snd hB hfr hlo g3 g4 (by omega) (by omega) hd ?_
      have hm := stepI_mono (M := M) (h := h) (pc := pc) (ls := ls) (st := st) i len
      generalize stepI M h pc ls st i len = q at hr hm ⊢
      rcases q with _ | (⟨h1, pc1, ls1, st1⟩ | ⟨M', as, pc1, ls1, st1⟩ | w)
      · cases hr
      · have hr1 : run n M h1 pc1 ls1 st1 = some (h', v) := hr
        have q1 := run_mono _ _ _ _ _ _ _ _ hr1
        have q2 : nx h ≤ nx h1 ∧ sl h ≤ sl h1 := hm
        exact ⟨⟨by omega, by omega⟩, ih _ _ _ _ _ _ _ hr1 p e R s m args below meth c n0 s0 Q hB hfr hlo (by omega) (by omega) g5 g6 hfin⟩
      · intro ha hM'
        dsimp only at hr
        cases hc : run n M' h 0 (entryL (mxl M') as) [] with
        | none => rw [hc] at hr; cases hr
        | some z =>
          obtain ⟨h2, v2⟩ := z
          rw [hc] at hr
          dsimp only at hr
          cases ha2 : aft (rkOf M') v2 st1 with
          | none => rw [ha2] at hr; cases hr
          | some st2 =>
            rw [ha2] at hr
            have hr1 : run n M h2 pc1 ls1 st2 = some (h', v) := hr
            have q1 := run_mono _ _ _ _ _ _ _ _ hr1
            have q2 := run_mono _ _ _ _ _ _ _ _ hc
            exact ⟨h2, v2, st2, met_of ih hc ha hM', ha2, q2.1, q2.2, by omega, by omega, ih _ _ _ _ _ _ _ hr1 p e R s m args below meth c n0 s0 Q hB hfr hlo (by omega) (by omega) g5 g6 hfin⟩
      · cases hr
        exact fun i hd hi => hfin pc ls i hd hi
end Top
/-- the heap with which the law begins: the script alone -/
def h0 (L : Nat) (xs : Nat → Int32) : PH := ((2, 0), (fun k => if k = 1 then (50, L) else (0, 0)), (fun b j => if b = 1 then xs j else 0), fun _ _ => 0)
theorem inst_ok : ∀ (c : Nat) (q : vw_C), vwCl[c]? = some q → Cond.instantiable q.1 q.2.2 ∈ TW := by
  intro c q hq
  match c, hq with
  | 0, hq => cases hq; exact inTW1 32 (by decide +kernel) rfl
  | 1, hq => cases hq; exact inTW1 66 (by decide +kernel) rfl
  | 2, hq => cases hq; exact inTW0 31 (by decide +kernel) rfl
  | 3, hq => cases hq; exact inTW0 24 (by decide +kernel) rfl
  | 4, hq => cases hq; exact inTW0 109 (by decide +kernel) rfl
  | 5, hq => cases hq; exact inTW1 75 (by decide +kernel) rfl
  | 6, hq => cases hq; exact inTW1 84 (by decide +kernel) rfl
  | 7, hq => cases hq; exact inTW0 129 (by decide +kernel) rfl
  | 8, hq => cases hq; exact inTW1 57 (by decide +kernel) rfl
  | 9, hq => cases hq; exact inTW1 92 (by decide +kernel) rfl
  | 10, hq => cases hq; exact inTW0 16 (by decide +kernel) rfl
  | 11, hq => cases hq; exact inTW3 239 (by decide +kernel) rfl
  | n + 12, hq => simp [vwCl] at hq
theorem uk_start {s : State} {b : Nat} (hts : ∀ w ∈ lw_tbl, w.before #[Value.ref b] s = true) : ∃ D, UK D s := by
  have htw : ∀ w ∈ TW, w.before #[Value.ref b] s = true := fun w hw => hts w (List.mem_filter.mp hw).1
  have key : ∀ c : Nat, ∃ x : ClassId × (Nat → Nat), ∀ q : vw_C, vwCl[c]? = some q → u_Kn s q.1 q.2.1 q.2.2 x.1 x.2 := by
    intro c
    cases hq : vwCl[c]? with
    | none => exact ⟨(0, fun _ => 0), fun q h => by cases h⟩
    | some q =>
      obtain ⟨cC, iS, hk⟩ := u_known (C := q.1) (T := q.2.1) (N := q.2.2) (n := q.2.2) htw (in_u c q hq) (htw _ (inst_ok c q hq))
      exact ⟨(cC, iS), fun q' h => by cases h; exact hk⟩
  refine ⟨(fun c => (Classical.choose (key c)).1, fun c => (Classical.choose (key c)).2), ⟨fun c q hq => Classical.choose_spec (key c) q hq, fun k q hq => by simp at hq⟩, ⟨va_AO.of (hts _ (List.mem_append_right _ (List.mem_of_getElem? (i := 30) (by decide +kernel)))), va_AO.of (hts _ (List.mem_append_right _ (List.mem_of_getElem? (i := 115) (by decide +kernel)))), va_AO.of (hts _ (List.mem_append_right _ (List.mem_of_getElem? (i := 69) (by decide +kernel))))⟩, ?_, ?_⟩
  · have hall : ∀ q ∈ nestL, Cond.methodLinkNest q.1 q.2.1 q.2.2.1 q.2.2.2 ∈ lw_tbl := List.forall_mem_cons.mpr ⟨(List.mem_append_right _ (List.mem_of_getElem? (i := 32) (by decide +kernel))), List.forall_mem_cons.mpr ⟨(List.mem_append_right _ (List.mem_of_getElem? (i := 143) (by decide +kernel))), List.forall_mem_cons.mpr ⟨(List.mem_append_right _ (List.mem_of_getElem? (i := 265) (by decide +kernel))), List.forall_mem_cons.mpr ⟨(List.mem_append_right _ (List.mem_of_getElem? (i := 461) (by decide +kernel))), List.forall_mem_cons.mpr ⟨(List.mem_append_right _ (List.mem_of_getElem? (i := 519) (by decide +kernel))), (fun _ z => by cases z)⟩⟩⟩⟩⟩
    exact fun q hq => va_Nw.of rfl (hts _ (hall q hq))
  · have hall : ∀ c ∈ [0, 1, 5, 6, 8], Cond.castable (rn c) (rn 9) ∈ lw_tbl := List.forall_mem_cons.mpr ⟨(List.mem_append_right _ (List.mem_of_getElem? (i := 1490) (by decide +kernel))), List.forall_mem_cons.mpr ⟨(List.mem_append_right _ (List.mem_of_getElem? (i := 1492) (by decide +kernel))), List.forall_mem_cons.mpr ⟨(List.mem_append_right _ (List.mem_of_getElem? (i := 1493) (by decide +kernel))), List.forall_mem_cons.mpr ⟨(List.mem_append_right _ (List.mem_of_getElem? (i := 1494) (by decide +kernel))), List.forall_mem_cons.mpr ⟨(List.mem_append_right _ (List.mem_of_getElem? (i := 1491) (by decide +kernel))), (fun _ z => by cases z)⟩⟩⟩⟩⟩
    exact fun c hc => va_Nw.of rfl (hts _ (hall c hc))
/-- what is to be shown of the pure machine alone -/
def PureLaw : Prop := ∀ (L : Nat) (xs : Nat → Int32), L ≤ 3072 → ccI m_Law_law (h0 L xs) [.ref 1] (fun h' x => x = 1 ∧ nx h' ≤ 778261 ∧ sl h' ≤ 6767472)
def R_law : String := "PaidByTheUnbornLaw"
def lw_P (b : Addr) (xs : List Int32) (args : Array Value) (s : State) : Prop := args = #[.ref b] ∧ s.IntsAt b xs ∧ xs.length ≤ 3072 ∧ (Jvm.Cond.and given_1 narrow_1).before args s = true
def lw_Q (_ : Array Value) (s : State) (o : Outcome) (t : State) : Prop := o = .returned (some (.int 1)) ∧ Framed s o t [] 778259 6767472
def lw_Z (below : List Frame) (a : Array Value) (s : State) : State → Prop := fun t => ∃ o, t.status = .running ∧ Ended t below o ∧ lw_Q a s o t
/-- the law's own end, with 1 on the stack, nothing written that was there before, its room as the claim has it -/
theorem lw_ret {p : Program} {l : Launch} {e : Env} {s : State} {m : MethodId} {below : List Frame} {meth : Method} {c : Code} {b : Nat} (hx : p.tables.exec = Jvm.exec) (hb : c.code = code) (hr : meth.sig.returnType = ret) (hlocks : meth.locks = false) {pc : Nat} {H : Heap} {ls : Array Slot} (hdg : decode code pc = .ok (.ireturn, 1)) : W p l e room_1 s m #[Value.ref b] below meth c H [] 778259 6767472 (lw_Z below #[Value.ref b] s) (F0 m pc ls [.int 1]) := by
  intro T hT X
  obtain ⟨fs, hret, hrun, hended, hW, hframe⟩ := X.leave (v := some (.int 1)) (hlocks := hlocks) (fun h => by rw [hr] at h; cases h)
  have hmeth' : T.vm.method? m = some meth := X.method'
  refine ⟨T.setFrames fs, ?_, .returned (some (.int 1)), hrun, hended, rfl, ⟨_, rfl⟩, hW, hframe⟩
  jvm_step X.here [X.here.top, hx, hb, hdg, hmeth', hr, ret, narrow_b1]
  (try refine ⟨rfl, ?_⟩); (try refine ⟨rfl, ?_⟩)
  first | (intro acts; rw [hret _ acts rfl rfl rfl]) | rw [hret _ _ rfl rfl rfl]
  exact Steps.refl _
/-- what holds at the law's entry: the machine, the code, the tables' words (any of lw_tbl by 'hts w (by decide +kernel)'), the script of L ints xs at the cell b, what the Statement gives of the start (any of its parts by flat_of_before) -/
def lw_At (p : Program) (s : State) (m : MethodId) (meth : Method) (c : Code) (b L : Nat) (xs : Nat → Int32) : Prop :=
  p.tables.exec = Jvm.exec ∧ c.code = code ∧ meth.sig.returnType = ret ∧ c.maxLocals = 4 ∧ s.vm.findClass R_law = some m.cls ∧ (∀ w ∈ lw_tbl, w.before #[Value.ref b] s = true) ∧ va_X b L xs s s.heap ∧ b < s.heap.size ∧ meth.locks = false ∧ (Jvm.Cond.and given_1 narrow_1).before #[Value.ref b] s = true
theorem whole_of (hp : PureLaw) {p : Program} {e : Env} {s : State} {m : MethodId} {below : List Frame} {meth : Method} {c : Code} (l : Launch) {b L : Nat} {xs : Nat → Int32} (hL : L ≤ 3072) (C0 : lw_At p s m meth c b L xs) : W p l e room_1 s m #[Value.ref b] below meth c s.heap [] 0 0 (lw_Z below #[Value.ref b] s) (entryFrame m ([Value.ref b] : List Value).toArray 4) := by
  obtain ⟨hx, hb, hr, hml, hown, hts, hX, hbl, hlocks, hgv⟩ := C0
  obtain ⟨D, hU⟩ := uk_start hts
  obtain ⟨n, h', v, hrun, hv⟩ := hp L xs hL
  have ev : v = some (.int 1) ∧ nx h' ≤ 778261 ∧ sl h' ≤ 6767472 := by
    cases v with
    | none => exact hv.elim
    | some w => cases w <;> first | exact hv.elim | (obtain ⟨e1, e2⟩ := hv; subst e1; exact ⟨rfl, e2⟩)
  obtain ⟨rfl, e2, e3⟩ := ev
  have hB : BC D p s m #[Value.ref b] meth c m_Law_law := ⟨hx, hb, hr, hml, hown, fun w hw => hts w (List.mem_filter.mp hw).1, hlocks, fun z => absurd z (by decide +kernel), hU⟩
  have htg : ∀ k, tg (h0 L xs) k = if k = 1 then 50 else 0 := fun k => by
    unfold tg h0
    dsimp only
    split <;> rfl
  have hR : Rel D s.heap.size b L xs s s.heap (h0 L xs) := by
    refine ⟨fun k k1 k2 => ?_, fun k hk => ?_, ⟨rfl, rfl, fun j _ => rfl⟩, hX, hbl, rfl, Nat.le_refl _, fun k => ?_⟩
    · have : nx (h0 L xs) = 2 := rfl
      omega
    · rw [htg] at hk
      by_cases e1 : k = 1
      · subst e1; exact ⟨Nat.le_refl _, by show 1 < 2; omega⟩
      · rw [if_neg e1] at hk; exact absurd rfl hk
    · rw [htg]
      by_cases e1 : k = 1
      · subst e1; exact ⟨Or.inr (Or.inl rfl), fun z => by omega⟩
      · rw [if_neg e1]; exact ⟨Or.inl (by omega), fun _ => by omega⟩
  have hm := run_mono _ _ _ _ _ _ _ _ hrun
  rw [lg_entry_eq]
  have hk := run_snd (D := D) (b0 := s.heap.size) (bs := b) (L := L) (xs := xs) (l := l) n m_Law_law (h0 L xs) 0 (entryL (mxl m_Law_law) [.ref 1]) [] h' (some (.int 1)) hrun p e room_1 s m #[Value.ref b] below meth c 2 0 (lw_Z below #[Value.ref b] s) hB (by decide +kernel) (by decide +kernel) (Nat.le_refl _) (Nat.le_refl _) (by show nx h' - 2 ≤ 778259; omega) (by show sl h' - 0 ≤ 6767472; omega) (fun pc' ls' i hd hi H locs LS hR' hL' hl' => by
    have hi2 : i = .ireturn := by
      rcases hi with ⟨-, q, -⟩ | ⟨q, -⟩ | ⟨-, x, q, -⟩ | ⟨-, x, C, q, -⟩
      · cases q
      · exact q
      · cases q
      · cases q
    subst hi2
    refine va_forget hl' ?_
    refine W.widen (k := 778259) (n := 6767472) (by omega) (by omega) ?_
    exact lw_ret hx hb hr hlocks hd) s.heap [] _ hR (entry_LR (as := [.ref 1]) (by decide +kernel) rfl) (fun q hq => by cases hq)
  exact hk
