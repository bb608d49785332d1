/-! ===== what ties the pure machine to the machine: addresses, values, cells, locals ===== -/
def ad (b0 bs k : Nat) : Nat := if k = 1 then bs else b0 + (k - 2)
def cvv (b0 bs : Nat) : Value → Value
  | .ref 0 => .null
  | .ref (k + 1) => .ref (ad b0 bs (k + 1))
  | v => v
theorem cvv_ref {b0 bs k : Nat} (h : k ≠ 0) : cvv b0 bs (.ref k) = .ref (ad b0 bs k) := by
  cases k with
  | zero => exact absurd rfl h
  | succ k => rfl
theorem cvv_cat (b0 bs : Nat) (v : Value) : (cvv b0 bs v).category = v.category := by
  cases v with
  | ref a => cases a <;> rfl
  | _ => rfl
theorem cvv_catS (b0 bs : Nat) (st : List Value) : ((st.map (cvv b0 bs)).map fun v => v.category).sum = catS st := by
  unfold catS
  congr 1
  rw [List.map_map]
  exact List.map_congr_left fun v _ => cvv_cat b0 bs v
theorem ad_inj {b0 bs : Nat} (h : bs < b0) {i j : Nat} (hi : 1 ≤ i) (hj : 1 ≤ j) (e : ad b0 bs i = ad b0 bs j) : i = j := by
  unfold ad at e
  split at e <;> split at e <;> omega
theorem ad_ge {b0 bs k : Nat} (h : 2 ≤ k) : ad b0 bs k = b0 + (k - 2) := if_neg (by omega)
theorem ad_ne {b0 bs i j : Nat} (h : bs < b0) (hi : 1 ≤ i) (hj : 1 ≤ j) (e : i ≠ j) : ad b0 bs i ≠ ad b0 bs j := fun q => e (ad_inj h hi hj q)
/-! locals -/
theorem lget_lset : ∀ (ls : LSt) (i : Nat) (v : Value) (j : Nat) (w : Value), lget (lset ls i v) j = some w → (j = i ∧ w = v) ∨ (j ≠ i ∧ lget ls j = some w ∧ (j + 1 = i → w.category ≠ 2))
  | [], _, _, _, _, h => by simp [lset, lget] at h
  | _ :: l, 0, v, 0, w, h => by
    simp only [lset, lget] at h
    exact Or.inl ⟨rfl, (Option.some.inj h).symm⟩
  | _ :: l, 0, v, j + 1, w, h => by
    simp only [lset, lget] at h
    exact Or.inr ⟨by omega, by simpa [lget] using h, fun q => by omega⟩
  | x :: l, 1, v, 0, w, h => by
    simp only [lset, lget] at h
    refine Or.inr ⟨by omega, ?_, fun _ => ?_⟩
    · cases x with
      | none => simp [nlong] at h
      | some x => cases x <;> first | (simp [nlong] at h; done) | (simpa [nlong, lget] using h)
    · cases x with
      | none => simp [nlong] at h
      | some x => cases x <;> first | (simp [nlong] at h; done) | (simp only [nlong] at h; rw [← Option.some.inj h]; decide) | (simp only [nlong] at h; rw [← Option.some.inj h]; simp [Value.category])
  | x :: l, n + 2, v, 0, w, h => by
    simp only [lset, lget] at h
    exact Or.inr ⟨by omega, by simpa [lget] using h, fun q => by omega⟩
  | x :: l, n + 1, v, j + 1, w, h => by
    have h' : lget (lset l n v) j = some w := by simpa [lset, lget] using h
    rcases lget_lset l n v j w h' with ⟨e1, e2⟩ | ⟨e1, e2, e3⟩
    · exact Or.inl ⟨by omega, e2⟩
    · exact Or.inr ⟨by omega, by simpa [lget] using e2, fun q => e3 (by omega)⟩
theorem lget_lclr : ∀ (ls : LSt) (i : Nat) (j : Nat) (w : Value), lget (lclr ls i) j = some w → j ≠ i ∧ lget ls j = some w
  | [], _, _, _, h => by simp [lclr, lget] at h
  | _ :: l, 0, 0, w, h => by simp [lclr, lget] at h
  | _ :: l, 0, j + 1, w, h => ⟨by omega, by simpa [lclr, lget] using h⟩
  | x :: l, n + 1, 0, w, h => ⟨by omega, by simpa [lclr, lget] using h⟩
  | x :: l, n + 1, j + 1, w, h => by
    obtain ⟨e1, e2⟩ := lget_lclr l n j w (by simpa [lclr, lget] using h)
    exact ⟨by omega, by simpa [lget] using e2⟩
def LR (b0 bs : Nat) (ls : LSt) (LS : Array Slot) (nL : Nat) : Prop := LS.size = nL ∧ lv_wf LS ∧ ∀ (i : Nat) (v : Value), lget ls i = some v → LS[i]? = some (.val (cvv b0 bs v))
def prs (b0 bs : Nat) (ls : LSt) (n : Nat) : List (Nat × Value) := (List.range n).filterMap fun j => (lget ls j).map fun v => (j, cvv b0 bs v)
theorem prs_mem {b0 bs : Nat} {ls : LSt} {n j : Nat} {v : Value} (hj : j < n) (h : lget ls j = some v) : (j, cvv b0 bs v) ∈ prs b0 bs ls n := List.mem_filterMap.mpr ⟨j, List.mem_range.mpr hj, by rw [h]; rfl⟩
theorem LR.lt {b0 bs : Nat} {ls : LSt} {LS : Array Slot} {nL : Nat} (h : LR b0 bs ls LS nL) {j : Nat} {v : Value} (hj : lget ls j = some v) : j < nL := by
  rw [← h.1]
  exact (Array.getElem?_eq_some_iff.mp (h.2.2 j v hj)).1
theorem LR.has {b0 bs : Nat} {ls : LSt} {LS : Array Slot} {nL : Nat} (h : LR b0 bs ls LS nL) : lv_has LS nL (prs b0 bs ls nL) := by
  refine ⟨h.1, h.2.1, fun q hq => ?_⟩
  obtain ⟨j, -, hj⟩ := List.mem_filterMap.mp hq
  obtain ⟨v, hv, e⟩ := Option.map_eq_some_iff.mp hj
  rw [← e]
  exact h.2.2 j v hv
theorem LR.st1 {b0 bs : Nat} {ls : LSt} {LS LS' : Array Slot} {nL i : Nat} {v : Value} (h : LR b0 bs ls LS nL) (h' : lv_has LS' nL ((i, cvv b0 bs v) :: (prs b0 bs ls nL).filter (fun q => !(q.1 == i) && !(q.1 + 1 == i && q.2.category == 2)))) : LR b0 bs (lset ls i v) LS' nL := by
  refine ⟨h'.1, h'.2.1, fun j w hj => ?_⟩
  rcases lget_lset ls i v j w hj with ⟨e1, e2⟩ | ⟨e1, e2, e3⟩
  · subst e1; subst e2
    exact h'.2.2 _ List.mem_cons_self
  · refine h'.2.2 (j, cvv b0 bs w) (List.mem_cons_of_mem _ (List.mem_filter.mpr ⟨prs_mem (h.lt e2) e2, ?_⟩))
    have c1 : (j == i) = false := by simpa using e1
    simp only [c1, Bool.not_false, Bool.true_and]
    by_cases e : j + 1 = i
    · simp [cvv_cat, e3 e]
    · simp [e]
theorem LR.st2 {b0 bs : Nat} {ls : LSt} {LS LS' : Array Slot} {nL i : Nat} {v : Value} (h : LR b0 bs ls LS nL) (h' : lv_has LS' nL ((i, cvv b0 bs v) :: (prs b0 bs ls nL).filter (fun q => !(q.1 == i) && (!(q.1 == i + 1) && !(q.1 + 1 == i && q.2.category == 2))))) : LR b0 bs (lclr (lset ls i v) (i + 1)) LS' nL := by
  refine ⟨h'.1, h'.2.1, fun j w hj => ?_⟩
  obtain ⟨e0, hj⟩ := lget_lclr _ _ _ _ hj
  rcases lget_lset ls i v j w hj with ⟨e1, e2⟩ | ⟨e1, e2, e3⟩
  · subst e1; subst e2
    exact h'.2.2 _ List.mem_cons_self
  · refine h'.2.2 (j, cvv b0 bs w) (List.mem_cons_of_mem _ (List.mem_filter.mpr ⟨prs_mem (h.lt e2) e2, ?_⟩))
    have c1 : (j == i) = false := by simpa using e1
    have c2 : (j == i + 1) = false := by simpa using e0
    simp only [c1, c2, Bool.not_false, Bool.true_and]
    by_cases e : j + 1 = i
    · simp [cvv_cat, e3 e]
    · simp [e]
theorem lget_repl : ∀ (n j : Nat) (w : Value), lget (List.replicate n none) j = some w → False
  | 0, j, w, h => by simp [lget] at h
  | n + 1, 0, w, h => by simp [List.replicate_succ, lget] at h
  | n + 1, j + 1, w, h => lget_repl n j w (by simpa [List.replicate_succ, lget] using h)
theorem lget_entry (b0 bs : Nat) : ∀ (as : List Value) (n j i : Nat) (w : Value), as.all okV = true → lget (entryL n as) j = some w → (i + j, cvv b0 bs w) ∈ lv_args i (as.map (cvv b0 bs))
  | [], n, j, i, w, _, h => (lget_repl n j w (by simpa [entryL] using h)).elim
  | v :: l, n, j, i, w, hk, h => by
    simp only [List.all_cons, Bool.and_eq_true] at hk
    obtain ⟨k1, k2⟩ := hk
    cases v with
    | long x =>
      match j with
      | 0 =>
        simp only [entryL, lget, Option.some.injEq] at h
        subst h
        simp [lv_args]
      | 1 => simp [entryL, lget] at h
      | j + 2 =>
        have h2 : lget (entryL (n - 2) l) j = some w := by simpa [entryL, lget] using h
        have := lget_entry b0 bs l (n - 2) j (i + 2) w k2 h2
        simp only [List.map_cons, lv_args, cvv, Value.category, if_pos]
        exact List.mem_cons_of_mem _ (by rw [show i + (j + 2) = i + 2 + j by omega]; exact this)
    | int x =>
      match j with
      | 0 =>
        simp only [entryL, lget, Option.some.injEq] at h
        subst h
        simp [lv_args]
      | j + 1 =>
        have h2 : lget (entryL (n - 1) l) j = some w := by simpa [entryL, lget] using h
        have := lget_entry b0 bs l (n - 1) j (i + 1) w k2 h2
        simp only [List.map_cons, lv_args]
        exact List.mem_cons_of_mem _ (by rw [show i + (j + 1) = i + 1 + j by omega, if_neg (by rw [cvv_cat]; simp [Value.category])]; exact this)
    | ref x =>
      match j with
      | 0 =>
        simp only [entryL, lget, Option.some.injEq] at h
        subst h
        simp [lv_args]
      | j + 1 =>
        have h2 : lget (entryL (n - 1) l) j = some w := by simpa [entryL, lget] using h
        have := lget_entry b0 bs l (n - 1) j (i + 1) w k2 h2
        simp only [List.map_cons, lv_args]
        exact List.mem_cons_of_mem _ (by rw [show i + (j + 1) = i + 1 + j by omega, if_neg (by rw [cvv_cat]; simp [Value.category])]; exact this)
    | _ => simp [okV] at k1
/-! cells -/
def fva (h : PH) (a c j : Nat) : Value := if fty c j = 2 then .ref (gR h a j) else .int (gI h a j)
def tgOK (t : Nat) : Prop := t ≤ 12 ∨ t = 50 ∨ t = 100 ∨ (201 ≤ t ∧ t ≤ 212)
def CR (D : va_G) (b0 bs : Nat) (U : State) (H : Heap) (h : PH) (k : Nat) : Prop :=
  (1 ≤ tg h k → tg h k ≤ 12 → ∃ r : vw_C, vwCl[tg h k - 1]? = some r ∧ t_OB (ad b0 bs k) (D.1 (tg h k - 1)) r.2.2 (D.2 (tg h k - 1)) H (fun j => cvv b0 bs (fva h k (tg h k - 1) j))) ∧
  (tg h k = 100 → ∃ cA : ClassId, H[ad b0 bs k]? = some (arrV cA (ln h k) (fun j => .int (gI h k j))) ∧ ArrOfT U cA .int) ∧
  (201 ≤ tg h k → tg h k ≤ 212 → ∃ cA : ClassId, H[ad b0 bs k]? = some (arrV cA (ln h k) (fun j => cvv b0 bs (.ref (gR h k j)))) ∧ ArrOfT U cA (.object (rn (tg h k - 201))) ∧ va_RA U cA (.object (rn (tg h k - 201))))
def Rel (D : va_G) (b0 bs L : Nat) (xs : Nat → Int32) (U : State) (H : Heap) (h : PH) : Prop :=
  (∀ k, 2 ≤ k → k < nx h → CR D b0 bs U H h k) ∧ (∀ k, tg h k ≠ 0 → 1 ≤ k ∧ k < nx h) ∧ (tg h 1 = 50 ∧ ln h 1 = L ∧ ∀ j, j < L → gI h 1 j = xs j) ∧ va_X bs L xs U H ∧ bs < b0 ∧ H.size + 2 = b0 + nx h ∧ 2 ≤ nx h ∧ ∀ k, tgOK (tg h k) ∧ (2 ≤ k → tg h k ≠ 50)
theorem CR.moved {D : va_G} {b0 bs : Nat} {u U : State} {H : Heap} {h : PH} {k : Nat} (hvm : u.vm.Alike U.vm) (c : CR D b0 bs u H h k) : CR D b0 bs U H h k :=
  ⟨c.1, fun e => by obtain ⟨cA, q1, q2⟩ := c.2.1 e; exact ⟨cA, q1, arrOfT_moved hvm q2⟩, fun e1 e2 => by obtain ⟨cA, q1, q2, q3⟩ := c.2.2 e1 e2; exact ⟨cA, q1, arrOfT_moved hvm q2, q3.moved hvm⟩⟩
theorem Rel.moved {D : va_G} {b0 bs L : Nat} {xs : Nat → Int32} {u U : State} {H : Heap} {h : PH} (hvm : u.vm.Alike U.vm) (r : Rel D b0 bs L xs u H h) : Rel D b0 bs L xs U H h :=
  ⟨fun k h1 h2 => (r.1 k h1 h2).moved hvm, r.2.1, r.2.2.1, r.2.2.2.1.moved hvm, r.2.2.2.2⟩
theorem Rel.at {D : va_G} {b0 bs L : Nat} {xs : Nat → Int32} {U : State} {H : Heap} {h : PH} (r : Rel D b0 bs L xs U H h) {k : Nat} (h0 : tg h k ≠ 0) (h1 : tg h k ≠ 50) : 2 ≤ k ∧ k < nx h ∧ CR D b0 bs U H h k := by
  obtain ⟨a1, a2⟩ := r.2.1 k h0
  have h2 : 2 ≤ k := by
    rcases Nat.lt_or_ge k 2 with q | q
    · have : k = 1 := by omega
      subst this
      exact absurd r.2.2.1.1 h1
    · exact q
  exact ⟨h2, a2, r.1 k h2 a2⟩
/-- what the tables say that no reader of steady words carries -/
def UK (D : va_G) (U : State) : Prop := va_K D vwCl [] U ∧ (va_AO RX2 U ∧ va_AO RX3 U ∧ va_AO RX9 U) ∧ (∀ q ∈ nestL, va_Nw (.methodLinkNest q.1 q.2.1 q.2.2.1 q.2.2.2) U) ∧ ∀ c ∈ [0, 1, 5, 6, 8], va_Nw (.castable (rn c) (rn 9)) U
theorem UK.moved {D : va_G} {s U : State} (hW : s.WarmedH U.vm) (h : UK D s) : UK D U :=
  ⟨va_K.moved hW.alike h.1, ⟨h.2.1.1.moved hW.alike, h.2.1.2.1.moved hW.alike, h.2.1.2.2.moved hW.alike⟩, fun q hq => va_Nw.warmM hW (h.2.2.1 q hq), fun c hc => va_Nw.warmC hW (h.2.2.2 c hc)⟩
/-- a store into one cell leaves the others -/
theorem Rel.put {D : va_G} {b0 bs L : Nat} {xs : Nat → Int32} {U : State} {H H1 : Heap} {h h1 : PH} {a : Nat} (r : Rel D b0 bs L xs U H h) (ha : 2 ≤ a) (hn : nx h1 = nx h) (ht : ∀ k, h1.2.1 k = h.2.1 k) (hI : ∀ k, k ≠ a → gI h1 k = gI h k) (hR : ∀ k, k ≠ a → gR h1 k = gR h k) (hz : H1.size = H.size) (ho : ∀ q, q ≠ ad b0 bs a → H1[q]? = H[q]?) (hc : CR D b0 bs U H1 h1 a) : Rel D b0 bs L xs U H1 h1 := by
  obtain ⟨r1, r2, ⟨r3, r4, r5⟩, r6, r7, r8, r9, r10⟩ := r
  have htg : ∀ k, tg h1 k = tg h k := fun k => by unfold tg; rw [ht]
  have hln : ∀ k, ln h1 k = ln h k := fun k => by unfold ln; rw [ht]
  refine ⟨fun k k1 k2 => ?_, fun k hk => by rw [hn]; rw [htg] at hk; exact r2 k hk, ⟨by rw [htg]; exact r3, by rw [hln]; exact r4, fun j hj => by rw [hI 1 (by omega)]; exact r5 j hj⟩, r6.kept (ho bs ?_), r7, by rw [hz, hn]; exact r8, by rw [hn]; exact r9, fun k => by rw [htg]; exact r10 k⟩
  · by_cases e : k = a
    · subst e; exact hc
    · have hq := ho (ad b0 bs k) (ad_ne r7 (by omega) (by omega) e)
      obtain ⟨c1, c2, c3⟩ := r1 k k1 (by rw [hn] at k2; exact k2)
      have ef : ∀ c j, fva h1 k c j = fva h k c j := fun c j => by unfold fva; rw [hI k e, hR k e]
      refine ⟨fun z1 z2 => ?_, fun z => ?_, fun z1 z2 => ?_⟩
      · rw [htg] at z1 z2
        obtain ⟨q, q1, q2⟩ := c1 z1 z2
        refine ⟨q, by rw [htg]; exact q1, ?_⟩
        rw [htg]
        exact (q2.kept hq).to fun j _ => by rw [ef]
      · rw [htg] at z
        obtain ⟨cA, q1, q2⟩ := c2 z
        exact ⟨cA, by rw [hq, hln, hI k e]; exact q1, q2⟩
      · rw [htg] at z1 z2
        obtain ⟨cA, q1, q2⟩ := c3 z1 z2
        exact ⟨cA, by rw [hq, hln, hR k e]; exact q1, by rw [htg]; exact q2⟩
  · rw [ad_ge ha]; omega
/-- a new cell behind the others -/
theorem Rel.new {D : va_G} {b0 bs L : Nat} {xs : Nat → Int32} {U : State} {H H1 : Heap} {h : PH} {t n w : Nat} (r : Rel D b0 bs L xs U H h) (hk : tgOK t) (h5 : t ≠ 50) (hz : H1.size = H.size + 1) (ho : ∀ q, q < H.size → H1[q]? = H[q]?) (hc : CR D b0 bs U H1 (mkc h t n w) (nx h)) : Rel D b0 bs L xs U H1 (mkc h t n w) := by
  obtain ⟨r1, r2, ⟨r3, r4, r5⟩, r6, r7, r8, r9, r10⟩ := r
  have ht : ∀ k, k ≠ nx h → (mkc h t n w).2.1 k = h.2.1 k := fun k e => if_neg e
  have htg : ∀ k, k ≠ nx h → tg (mkc h t n w) k = tg h k := fun k e => by unfold tg; rw [ht k e]
  have hln : ∀ k, k ≠ nx h → ln (mkc h t n w) k = ln h k := fun k e => by unfold ln; rw [ht k e]
  have hI : ∀ k, k ≠ nx h → gI (mkc h t n w) k = gI h k := fun k e => funext fun j => if_neg e
  have hR : ∀ k, k ≠ nx h → gR (mkc h t n w) k = gR h k := fun k e => funext fun j => if_neg e
  have hnx : nx (mkc h t n w) = nx h + 1 := rfl
  have hnew : tg (mkc h t n w) (nx h) = t := by show (if nx h = nx h then (t, n) else _).1 = t; rw [if_pos rfl]
  refine ⟨fun k k1 k2 => ?_, fun k hk0 => ?_, ⟨by rw [htg 1 (by omega)]; exact r3, by rw [hln 1 (by omega)]; exact r4, fun j hj => by rw [hI 1 (by omega)]; exact r5 j hj⟩, r6.kept (ho bs (by omega)), r7, by rw [hz, hnx]; omega, by rw [hnx]; omega, fun k => ?_⟩
  · by_cases e : k = nx h
    · subst e; exact hc
    · have hlt : k < nx h := by rw [hnx] at k2; omega
      have hq := ho (ad b0 bs k) (by rw [ad_ge k1]; omega)
      obtain ⟨c1, c2, c3⟩ := r1 k k1 hlt
      have ef : ∀ c j, fva (mkc h t n w) k c j = fva h k c j := fun c j => by unfold fva; rw [hI k e, hR k e]
      refine ⟨fun z1 z2 => ?_, fun z => ?_, fun z1 z2 => ?_⟩
      · rw [htg k e] at z1 z2
        obtain ⟨q, q1, q2⟩ := c1 z1 z2
        refine ⟨q, by rw [htg k e]; exact q1, ?_⟩
        rw [htg k e]
        exact (q2.kept hq).to fun j _ => by rw [ef]
      · rw [htg k e] at z
        obtain ⟨cA, q1, q2⟩ := c2 z
        exact ⟨cA, by rw [hq, hln k e, hI k e]; exact q1, q2⟩
      · rw [htg k e] at z1 z2
        obtain ⟨cA, q1, q2⟩ := c3 z1 z2
        exact ⟨cA, by rw [hq, hln k e, hR k e]; exact q1, by rw [htg k e]; exact q2⟩
  · by_cases e : k = nx h
    · subst e; rw [hnx]; omega
    · rw [htg k e] at hk0
      have := r2 k hk0
      rw [hnx]; omega
  · by_cases e : k = nx h
    · subst e; rw [hnew]; exact ⟨hk, fun _ => h5⟩
    · rw [htg k e]; exact r10 k
