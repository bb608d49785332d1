/-! ===== arrays, new cells, calls, answers (gen/mk11.py) ===== -/
section Snd2
variable {D : va_G} {b0 bs L : Nat} {xs : Nat → Int32} {p : Program} {l : Launch} {e : Env} {R : Room} {s : State} {m : MethodId} {args : Array Value} {below : List Frame} {meth : Method} {c : Code} {n0 s0 : Nat} {Q : State → Prop} {M : Nat} {h : PH} {pc : Nat} {ls : LSt} {st r : List Value}
theorem inb_not {i : Int32} {n : Nat} (h : 0 ≤ i ∧ ix i < n) : ¬ (i < 0 ∨ n ≤ i.toNatClampNeg) := by
  rintro (z | z)
  · exact absurd h.1 (Int32.not_le.mpr z)
  · exact absurd h.2 (Nat.not_lt.mpr z)
theorem scr_one {a : Nat} {U : State} {H : Heap} (hR : Rel D b0 bs L xs U H h) (ht : tg h a = 50) : a = 1 := by
  have h1 := (hR.2.1 a (by omega)).1
  have h2 := (hR.2.2.2.2.2.2.2 a).2
  rcases Nat.lt_or_ge a 2 with z | z
  · omega
  · exact absurd ht (h2 z)
theorem sd_iaload (hB : BC D p s m args meth c M) {a : Nat} {i : Int32} (hd : decode (codeOf M) pc = .ok (.iaload, 1)) (hg : (tg h a = 100 ∨ tg h a = 50) ∧ (0 ≤ i ∧ ix i < ln h a)) (k : Gd D b0 bs L xs p l e R s m args below meth c n0 s0 Q M h (pc + 1) ls (.int (gI h a (ix i)) :: r)) : Gd D b0 bs L xs p l e R s m args below meth c n0 s0 Q M h pc ls (.int i :: .ref a :: r) := by
  intro H locs LS hR hL hl
  have hk := k H locs LS hR hL hl
  rcases hg.1 with ht | ht
  · obtain ⟨q2, q3, cr⟩ := hR.at (k := a) (by omega) (by omega)
    obtain ⟨cA, f1, f2⟩ := cr.2.1 ht
    rw [List.map_cons, List.map_cons, cvv_ref (k := a) (by omega)]
    exact W.iald (v := .int (gI h a (ix i))) hB.x hB.b f1 (f2 _ _) (fun z => by cases z) (by rw [arrV_size]; exact inb_not hg.2) (by rw [arrV_read _ _ hg.2.2]) rfl rfl hd hk
  · have ea := scr_one hR ht
    subst ea
    obtain ⟨scr, g1, g2, g3, g4, g5⟩ := hR.2.2.2.1
    have hlt : ix i < L := by rw [← hR.2.2.1.2.1]; exact hg.2.2
    rw [hR.2.2.1.2.2 _ hlt] at hk
    exact W.iald (v := .int (xs (ix i))) hB.x hB.b g1 g2 g3 (by rw [g4]; exact inb_not ⟨hg.2.1, hlt⟩) (g5 _ hlt) rfl rfl hd hk
theorem sd_aaload (hB : BC D p s m args meth c M) {a : Nat} {i : Int32} (hd : decode (codeOf M) pc = .ok (.aaload, 1)) (hg : (201 ≤ tg h a ∧ tg h a ≤ 212) ∧ (0 ≤ i ∧ ix i < ln h a)) (k : Gd D b0 bs L xs p l e R s m args below meth c n0 s0 Q M h (pc + 1) ls (.ref (gR h a (ix i)) :: r)) : Gd D b0 bs L xs p l e R s m args below meth c n0 s0 Q M h pc ls (.int i :: .ref a :: r) := by
  intro H locs LS hR hL hl
  have hk := k H locs LS hR hL hl
  obtain ⟨q2, q3, cr⟩ := hR.at (k := a) (by omega) (by omega)
  obtain ⟨cA, f1, f2, f3⟩ := cr.2.2 hg.1.1 hg.1.2
  rw [List.map_cons, List.map_cons, cvv_ref (k := a) (by omega)]
  exact W.aald (v := cvv b0 bs (.ref (gR h a (ix i)))) (ty := .object (rn (tg h a - 201))) hB.x hB.b f1 (f2 _ _) rfl (fun z => by cases z) (by rw [arrV_size]; exact inb_not hg.2) (by rw [arrV_read _ _ hg.2.2]) rfl rfl hd hk
theorem sd_arraylength (hB : BC D p s m args meth c M) {a : Nat} (hd : decode (codeOf M) pc = .ok (.arraylength, 1)) (hg : 50 ≤ tg h a) (k : Gd D b0 bs L xs p l e R s m args below meth c n0 s0 Q M h (pc + 1) ls (.int (Int32.ofNat (ln h a)) :: r)) : Gd D b0 bs L xs p l e R s m args below meth c n0 s0 Q M h pc ls (.ref a :: r) := by
  intro H locs LS hR hL hl
  have hk := k H locs LS hR hL hl
  rcases (hR.2.2.2.2.2.2.2 a).1 with ht | ht | ht | ht
  · omega
  · have ea := scr_one hR ht
    subst ea
    obtain ⟨scr, g1, g2, g3, g4, g5⟩ := hR.2.2.2.1
    rw [hR.2.2.1.2.1] at hk
    exact W.alen (n := Int32.ofNat L) hB.x hB.b g1 g2 (by rw [g4] <;> rfl) rfl rfl hd hk
  · obtain ⟨q2, q3, cr⟩ := hR.at (k := a) (by omega) (by omega)
    obtain ⟨cA, f1, f2⟩ := cr.2.1 ht
    rw [List.map_cons, cvv_ref (k := a) (by omega)]
    exact W.alen (n := Int32.ofNat (ln h a)) hB.x hB.b f1 (f2 _ _) (by rw [arrV_size] <;> rfl) rfl rfl hd hk
  · obtain ⟨q2, q3, cr⟩ := hR.at (k := a) (by omega) (by omega)
    obtain ⟨cA, f1, f2, f3⟩ := cr.2.2 ht.1 ht.2
    rw [List.map_cons, cvv_ref (k := a) (by omega)]
    exact W.alen (n := Int32.ofNat (ln h a)) hB.x hB.b f1 (f2 _ _) (by rw [arrV_size] <;> rfl) rfl rfl hd hk
theorem locs_add {locs : List Loc} {a i : Nat} (hl : ∀ q ∈ locs, b0 ≤ q.base) (ha : 2 ≤ a) : ∀ q ∈ locs ++ [⟨ad b0 bs a, i⟩], b0 ≤ q.base := fun q hq => by
  rcases List.mem_append.mp hq with z | z
  · exact hl q z
  · rw [List.mem_singleton.mp z]
    show b0 ≤ ad b0 bs a
    rw [ad_ge ha]; omega
theorem sd_iastore (hB : BC D p s m args meth c M) {a : Nat} {i x : Int32} (hd : decode (codeOf M) pc = .ok (.iastore, 1)) (hg : tg h a = 100 ∧ (0 ≤ i ∧ ix i < ln h a)) (k : Gd D b0 bs L xs p l e R s m args below meth c n0 s0 Q M (sI h a (ix i) x) (pc + 1) ls r) : Gd D b0 bs L xs p l e R s m args below meth c n0 s0 Q M h pc ls (.int x :: .int i :: .ref a :: r) := by
  intro H locs LS hR hL hl
  obtain ⟨q2, q3, cr⟩ := hR.at (k := a) (by omega) (by omega)
  obtain ⟨cA, f1, f2⟩ := cr.2.1 hg.1
  rw [List.map_cons, List.map_cons, List.map_cons, cvv_ref (k := a) (by omega)]
  refine W.iast hB.x hB.b f1 (f2 _ _) (fun z => by cases z) (by rw [arrV_size]; exact inb_not hg.2) rfl rfl hd fun H' e1 e2 e3 => ?_
  have htg : tg (sI h a (ix i) x) a = 100 := hg.1
  refine k H' _ LS (hR.put q2 rfl (fun _ => rfl) (fun q hq => funext fun j => if_neg (fun z => hq z.1)) (fun _ _ => rfl) e2 e3 ⟨fun z1 z2 => by omega, fun _ => ⟨cA, ?_, f2⟩, fun z1 z2 => by omega⟩) hL (locs_add hl q2)
  rw [e1, arrV_store]
  congr 2
  funext j
  by_cases ej : j = ix i
  · subst ej; simp [updV, gI, sI]
  · have : gI (sI h a (ix i) x) a j = gI h a j := if_neg (fun z => ej z.2)
    simp [updV, ej, this]
theorem asg_ok (hB : BC D p s m args meth c M) {H : Heap} {a b : Nat} (hR : Rel D b0 bs L xs s H h) (ht : 201 ≤ tg h a ∧ tg h a ≤ 212) (hg : asg (tg h a) (tg h b) = true) {comp : ClassId} (hc : s.vm.findClass (rn (tg h a - 201)) = some comp) :
    ∃ (cv : Cell) (kv kc : Class), b ≠ 0 ∧ H[ad b0 bs b]? = some cv ∧ cv.vm = .none ∧ s.vm.classes[cv.cls]? = some kv ∧ s.vm.classes[comp]? = some kc ∧ s.vm.assignable cv.cls comp = true := by
  have cls : ∀ (n : Nat), n < 12 → ∃ q : vw_C, vwCl[n]? = some q ∧ q.1 = rn n := fun n hn => by
    match n, hn with
    | 0, _ => exact ⟨_, rfl, rfl⟩
    | 1, _ => exact ⟨_, rfl, rfl⟩
    | 2, _ => exact ⟨_, rfl, rfl⟩
    | 3, _ => exact ⟨_, rfl, rfl⟩
    | 4, _ => exact ⟨_, rfl, rfl⟩
    | 5, _ => exact ⟨_, rfl, rfl⟩
    | 6, _ => exact ⟨_, rfl, rfl⟩
    | 7, _ => exact ⟨_, rfl, rfl⟩
    | 8, _ => exact ⟨_, rfl, rfl⟩
    | 9, _ => exact ⟨_, rfl, rfl⟩
    | 10, _ => exact ⟨_, rfl, rfl⟩
    | 11, _ => exact ⟨_, rfl, rfl⟩
    | n + 12, h => exact absurd h (by omega)
  have hat : ∀ n, n < 12 → ClassAt s (rn n) (D.1 n) := fun n hn => by
    obtain ⟨q, q1, q2⟩ := cls n hn
    rw [← q2]
    exact (hB.uk.1.1 n q q1).2
  have fin : ∀ n, n < 12 → tg h b = n + 1 → s.vm.assignable (D.1 n) comp = true → ∃ (cv : Cell) (kv kc : Class), b ≠ 0 ∧ H[ad b0 bs b]? = some cv ∧ cv.vm = .none ∧ s.vm.classes[cv.cls]? = some kv ∧ s.vm.classes[comp]? = some kc ∧ s.vm.assignable cv.cls comp = true := by
    intro n hn hb hass
    obtain ⟨q2, q3, cr⟩ := hR.at (k := b) (by omega) (by omega)
    obtain ⟨r', -, cell, g1, g2, g3, -⟩ := cr.1 (by omega) (by omega)
    obtain ⟨-, kv, hkv, -⟩ := hat n hn
    obtain ⟨f1, kc, hkc, -⟩ := hat (tg h a - 201) (by omega)
    have ecomp : comp = D.1 (tg h a - 201) := Option.some.inj (hc.symm.trans f1)
    have en : tg h b - 1 = n := by omega
    rw [en] at g2
    exact ⟨cell, kv, kc, by omega, g1, g3, by rw [g2]; exact hkv, by rw [ecomp]; exact hkc, by rw [g2]; exact hass⟩
  have self : tg h b = tg h a - 200 → ∃ (cv : Cell) (kv kc : Class), b ≠ 0 ∧ H[ad b0 bs b]? = some cv ∧ cv.vm = .none ∧ s.vm.classes[cv.cls]? = some kv ∧ s.vm.classes[comp]? = some kc ∧ s.vm.assignable cv.cls comp = true := by
    intro hb
    have h9 := hat (tg h a - 201) (by omega)
    have ecomp : comp = D.1 (tg h a - 201) := Option.some.inj (hc.symm.trans h9.1)
    exact fin (tg h a - 201) (by omega) (by omega) (by rw [ecomp]; exact va_assign h9)
  by_cases h10 : tg h a = 210
  · rw [h10] at hg
    have hm : memB (tg h b) [1, 2, 6, 7, 9, 10] = true := hg
    have up : ∀ n, n ∈ [0, 1, 5, 6, 8] → n < 12 → tg h b = n + 1 → ∃ (cv : Cell) (kv kc : Class), b ≠ 0 ∧ H[ad b0 bs b]? = some cv ∧ cv.vm = .none ∧ s.vm.classes[cv.cls]? = some kv ∧ s.vm.classes[comp]? = some kc ∧ s.vm.assignable cv.cls comp = true := by
      intro n hn hn2 hb
      obtain ⟨c1, c2, e1, e2, e3⟩ := Cond.castable_spec (hB.uk.2.2.2 n hn)
      have d1 : c1 = D.1 n := Option.some.inj (e1.symm.trans (hat n hn2).1)
      rw [h10] at hc
      have d2 : c2 = comp := Option.some.inj (e2.symm.trans hc)
      subst d1; subst d2
      exact fin n hn2 hb e3
    simp only [memB, Bool.or_eq_true, Nat.beq_eq_true_eq, Bool.or_false] at hm
    rcases hm with q | q | q | q | q | q
    · exact up 0 (by decide) (by decide) (Nat.eq_of_beq_eq_true q).symm
    · exact up 1 (by decide) (by decide) (Nat.eq_of_beq_eq_true q).symm
    · exact up 5 (by decide) (by decide) (Nat.eq_of_beq_eq_true q).symm
    · exact up 6 (by decide) (by decide) (Nat.eq_of_beq_eq_true q).symm
    · exact up 8 (by decide) (by decide) (Nat.eq_of_beq_eq_true q).symm
    · exact self (by rw [← Nat.eq_of_beq_eq_true q]; omega)
  · have hz : asg (tg h a) (tg h b) = (Nat.beq (200 + tg h b) (tg h a) && Nat.ble 1 (tg h b) && Nat.ble (tg h b) 12) := by
      unfold asg
      split
      · next hh => exact absurd hh h10
      · rfl
    rw [hz] at hg
    simp only [Bool.and_eq_true] at hg
    have := Nat.eq_of_beq_eq_true hg.1.1
    exact self (by omega)
theorem sd_aastore (hB : BC D p s m args meth c M) {a b : Nat} {i : Int32} (hd : decode (codeOf M) pc = .ok (.aastore, 1)) (hg : (201 ≤ tg h a ∧ tg h a ≤ 212) ∧ (0 ≤ i ∧ ix i < ln h a) ∧ (b = 0 ∨ asg (tg h a) (tg h b) = true)) (k : Gd D b0 bs L xs p l e R s m args below meth c n0 s0 Q M (sR h a (ix i) b) (pc + 1) ls r) : Gd D b0 bs L xs p l e R s m args below meth c n0 s0 Q M h pc ls (.ref b :: .int i :: .ref a :: r) := by
  intro H locs LS hR hL hl
  obtain ⟨q2, q3, cr⟩ := hR.at (k := a) (by omega) (by omega)
  obtain ⟨cA, f1, f2, f3⟩ := cr.2.2 hg.1.1 hg.1.2
  have htg : tg (sR h a (ix i) b) a = tg h a := rfl
  have fin : ∀ H' : Heap, H'[ad b0 bs a]? = some ((arrV cA (ln h a) (fun j => cvv b0 bs (.ref (gR h a j)))).setSlot i.toNatClampNeg (cvv b0 bs (.ref b))) → H'.size = H.size → (∀ q, q ≠ ad b0 bs a → H'[q]? = H[q]?) → W p l e R s m args below meth c H' (locs ++ [⟨ad b0 bs a, i.toNatClampNeg⟩]) (nx h - n0) (sl h - s0) Q (F0 m (pc + 1) LS (r.map (cvv b0 bs))) := by
    intro H' e1 e2 e3
    refine k H' _ LS (hR.put q2 rfl (fun _ => rfl) (fun _ _ => rfl) (fun q hq => funext fun j => if_neg (fun z => hq z.1)) e2 e3 ⟨fun z1 z2 => by rw [htg] at z2; omega, fun z => by rw [htg] at z; omega, fun z1 z2 => ⟨cA, ?_, f2, f3⟩⟩) hL (locs_add hl q2)
    rw [e1, arrV_store]
    congr 2
    funext j
    by_cases ej : j = ix i
    · subst ej; simp [updV, gR, sR]
    · have : gR (sR h a (ix i) b) a j = gR h a j := if_neg (fun z => ej z.2)
      simp [updV, ej, this]
  rw [List.map_cons, List.map_cons, List.map_cons, cvv_ref (k := a) (by omega)]
  rcases hg.2.2 with hb | hb
  · subst hb
    exact va_WaastN (C := rn (tg h a - 201)) hB.x hB.b f1 (f2 _ _) (fun z => by cases z) (by rw [arrV_size]; exact inb_not hg.2.1) rfl rfl hd fin
  · obtain ⟨kA, comp, k1, k2, k3, -⟩ := f3
    obtain ⟨cv, kv, kc, b0', v1, v2, v3, v4, v5⟩ := asg_ok hB hR hg.1 hb k3
    rw [cvv_ref b0'] at fin ⊢
    exact W.aast hB.x hB.b f1 (fun q z => by cases z) (fun z => by cases z) k1 k2 rfl v4 ⟨fun z => inb_not hg.2.1 (Or.inl z), by rw [arrV_size]; exact hg.2.1.2⟩ v1 (fun q z => by rw [v2] at z; cases z) v3 v5 rfl rfl hd fin
theorem ad_new {H : Heap} {U : State} (hR : Rel D b0 bs L xs U H h) : ad b0 bs (nx h) = H.size := by
  have h1 := hR.2.2.2.2.2.1
  have h2 := hR.2.2.2.2.2.2.1
  rw [ad_ge h2]; omega
theorem born_ok : ∀ (c : Nat) (q : vw_C), vwCl[c]? = some q → ∃ ty : Nat → FieldType, (∀ k, k < q.2.2 → parseFieldDescriptor (q.2.1 k).2.2.1 = some (ty k)) ∧ ∀ j, j < q.2.2 → defaultValue (ty j) = if fty c j = 2 then .null else .int 0 := by
  intro c q hq
  match c, hq with
  | 0, hq => cases hq; exact ⟨tyX0, tyX0_ok, by decide +kernel⟩
  | 1, hq => cases hq; exact ⟨tyX1, tyX1_ok, by decide +kernel⟩
  | 2, hq => cases hq; exact ⟨tyX2, tyX2_ok, by decide +kernel⟩
  | 3, hq => cases hq; exact ⟨tyX3, tyX3_ok, by decide +kernel⟩
  | 4, hq => cases hq; exact ⟨tyX4, tyX4_ok, by decide +kernel⟩
  | 5, hq => cases hq; exact ⟨tyX5, tyX5_ok, by decide +kernel⟩
  | 6, hq => cases hq; exact ⟨tyX6, tyX6_ok, by decide +kernel⟩
  | 7, hq => cases hq; exact ⟨tyX7, tyX7_ok, by decide +kernel⟩
  | 8, hq => cases hq; exact ⟨tyX8, tyX8_ok, by decide +kernel⟩
  | 9, hq => cases hq; exact ⟨tyX9, tyX9_ok, by decide +kernel⟩
  | 10, hq => cases hq; exact ⟨tyX10, tyX10_ok, by decide +kernel⟩
  | 11, hq => cases hq; exact ⟨tyX11, tyX11_ok, by decide +kernel⟩
  | n + 12, hq => simp [vwCl] at hq
theorem sd_new (hB : BC D p s m args meth c M) {i ci : Nat} (hd : decode (codeOf M) pc = .ok (.new i, 3)) (hk : lk2 (ownOf M) i clsL = some ci) (hci : ci < 12) (h1 : n0 ≤ nx h) (h2 : s0 ≤ sl h) (h3 : nx h + 1 - n0 ≤ R.cells) (h4 : sl h + nslL.getD ci 0 - s0 ≤ R.slots) (k : Gd D b0 bs L xs p l e R s m args below meth c n0 s0 Q M (mkc h (ci + 1) 0 (nslL.getD ci 0)) (pc + 3) ls (.ref (nx h) :: st)) : Gd D b0 bs L xs p l e R s m args below meth c n0 s0 Q M h pc ls st := by
  intro H locs LS hR hL hl
  obtain ⟨w1, w2, w3⟩ := cls_ok _ (lk2_mem hk)
  obtain ⟨T, v1, w4⟩ := w3 hci
  dsimp only at w1 w2 v1 w4
  have hKn := hB.uk.1.1 ci _ v1
  have h9 := hR.2.2.2.2.2.2.1
  refine W.newcK hB.x hB.b hB.own (hB.ts _ w1) (hB.ts _ w4) (hB.ts _ w2) rfl hd (by omega) (by omega) hKn.2.1 rfl fun H' kC hkC e1 e2 e3 => ?_
  obtain ⟨ty, t1, t2⟩ := born_ok ci _ v1
  have hz : tg (mkc h (ci + 1) 0 (nslL.getD ci 0)) (nx h) = ci + 1 := by show (if nx h = nx h then (ci + 1, 0) else _).1 = ci + 1; rw [if_pos rfl]
  have hR' : Rel D b0 bs L xs s H' (mkc h (ci + 1) 0 (nslL.getD ci 0)) := by
    refine hR.new (Or.inl (by omega)) (by omega) e2 e3 ⟨fun _ _ => ?_, fun z => by omega, fun z _ => by omega⟩
    rw [hz, Nat.add_sub_cancel, ad_new hR]
    refine ⟨_, v1, (u_born ty hB.ts (in_u _ _ v1) hKn hkC e1 t1).to fun j hj => ?_⟩
    rw [t2 j hj]
    unfold fva
    by_cases e : fty ci j = 2
    · rw [if_pos e, if_pos e]
      have : gR (mkc h (ci + 1) 0 (nslL.getD ci 0)) (nx h) j = 0 := if_pos rfl
      rw [this]; rfl
    · rw [if_neg e, if_neg e]
      have : gI (mkc h (ci + 1) 0 (nslL.getD ci 0)) (nx h) j = 0 := if_pos rfl
      rw [this]; rfl
  have hk2 := k H' locs LS hR' hL hl
  rw [List.map_cons, cvv_ref (k := nx h) (by omega), ad_new hR] at hk2
  refine W.cs (cells' := nx (mkc h (ci + 1) 0 (nslL.getD ci 0)) - n0) (slots' := sl (mkc h (ci + 1) 0 (nslL.getD ci 0)) - s0) ?_ ?_ hk2
  · show nx h - n0 + 1 = nx h + 1 - n0; omega
  · show sl h - s0 + _ = sl h + _ - s0; omega
theorem sd_newarray (hB : BC D p s m args meth c M) {n : Int32} (hd : decode (codeOf M) pc = .ok (.newarray .int, 2)) (hn : 0 ≤ n ∧ ix n ≤ 1000) (h1 : n0 ≤ nx h) (h2 : s0 ≤ sl h) (h3 : nx h + 1 - n0 ≤ R.cells) (h4 : sl h + ix n - s0 ≤ R.slots) (k : Gd D b0 bs L xs p l e R s m args below meth c n0 s0 Q M (mkc h 100 (ix n) (ix n)) (pc + 2) ls (.ref (nx h) :: r)) : Gd D b0 bs L xs p l e R s m args below meth c n0 s0 Q M h pc ls (.int n :: r) := by
  intro H locs LS hR hL hl
  have h9 := hR.2.2.2.2.2.2.1
  have harr : (Cond.arrayClass (newarray.typeOf .int)).before args s = true := hB.ts _ (inTW0 107 (by decide +kernel) rfl)
  refine W.newaK hB.x hB.b harr rfl hd rfl (fun z => absurd hn.1 (Int32.not_le.mpr z)) rfl (by show ix n * 4 ≤ _; omega) (by omega) (by show _ + ix n ≤ _; omega) rfl fun H' cA e1 e2 e3 hA => ?_
  have hz : (mkc h 100 (ix n) (ix n)).2.1 (nx h) = (100, ix n) := if_pos rfl
  have hR' : Rel D b0 bs L xs s H' (mkc h 100 (ix n) (ix n)) := by
    refine hR.new (Or.inr (Or.inr (Or.inl rfl))) (by omega) e2 e3 ⟨fun _ z => by unfold tg at z; rw [hz] at z; omega, fun _ => ⟨cA, ?_, hA⟩, fun z _ => by unfold tg at z; rw [hz] at z; omega⟩
    rw [ad_new hR, e1]
    have hl2 : ln (mkc h 100 (ix n) (ix n)) (nx h) = ix n := by unfold ln; rw [hz]
    rw [hl2]
    congr 2
    funext j
    have : gI (mkc h 100 (ix n) (ix n)) (nx h) j = 0 := if_pos rfl
    rw [this]; rfl
  have hk2 := k H' locs LS hR' hL hl
  rw [List.map_cons, cvv_ref (k := nx h) (by omega), ad_new hR] at hk2
  refine W.cs (cells' := nx (mkc h 100 (ix n) (ix n)) - n0) (slots' := sl (mkc h 100 (ix n) (ix n)) - s0) ?_ ?_ hk2
  · show nx h - n0 + 1 = nx h + 1 - n0; omega
  · show sl h - s0 + ix n = sl h + ix n - s0; omega
theorem sd_anewarray (hB : BC D p s m args meth c M) {i ci : Nat} {n : Int32} (hd : decode (codeOf M) pc = .ok (.anewarray i, 3)) (hk : lk2 (ownOf M) i clsL = some ci) (hci : ci = 2 ∨ ci = 3 ∨ ci = 9) (hn : 0 ≤ n ∧ ix n ≤ 1000) (h1 : n0 ≤ nx h) (h2 : s0 ≤ sl h) (h3 : nx h + 1 - n0 ≤ R.cells) (h4 : sl h + ix n - s0 ≤ R.slots) (k : Gd D b0 bs L xs p l e R s m args below meth c n0 s0 Q M (mkc h (201 + ci) (ix n) (ix n)) (pc + 3) ls (.ref (nx h) :: r)) : Gd D b0 bs L xs p l e R s m args below meth c n0 s0 Q M h pc ls (.int n :: r) := by
  intro H locs LS hR hL hl
  have h9 := hR.2.2.2.2.2.2.1
  obtain ⟨w1, w2, w3⟩ := cls_ok _ (lk2_mem hk)
  dsimp only at w1
  have hover : (Cond.arrayOver (.object (rn ci))).before args s = true := by
    obtain ⟨u1, u2, u3⟩ := hB.uk.2.1
    rcases hci with rfl | rfl | rfl
    · exact va_AO.use u1
    · exact va_AO.use u2
    · exact va_AO.use u3
  refine W.anew hB.x hB.b hB.own (hB.ts _ w1) hover rfl hd rfl (fun z => absurd hn.1 (Int32.not_le.mpr z)) (by show ix n * 4 ≤ _; omega) (by omega) (by show _ + ix n ≤ _; omega) fun cA kA comp c1 c2 c3 c4 => ?_
  have hz : (mkc h (201 + ci) (ix n) (ix n)).2.1 (nx h) = (201 + ci, ix n) := if_pos rfl
  have hR' : Rel D b0 bs L xs s (H.push { cls := cA, slots := Array.replicate n.toNatClampNeg .null, vm := .none }) (mkc h (201 + ci) (ix n) (ix n)) := by
    refine hR.new (Or.inr (Or.inr (Or.inr (by omega)))) (by omega) (by simp) (fun q hq => by rw [Array.getElem?_push, if_neg (Nat.ne_of_lt hq)]) ⟨fun _ z => by unfold tg at z; rw [hz] at z; omega, fun z => by unfold tg at z; rw [hz] at z; omega, fun _ _ => ⟨cA, ?_, ?_, ?_⟩⟩
    · rw [ad_new hR, arrV_new]
      have hl2 : ln (mkc h (201 + ci) (ix n) (ix n)) (nx h) = ix n := by unfold ln; rw [hz]
      rw [hl2]
      have e0 : (fun j => cvv b0 bs (.ref (gR (mkc h (201 + ci) (ix n) (ix n)) (nx h) j))) = fun _ => Value.null := by
        funext j
        have : gR (mkc h (201 + ci) (ix n) (ix n)) (nx h) j = 0 := if_pos rfl
        rw [this]; rfl
      rw [e0]
      simp
    · unfold tg
      rw [hz]
      show ArrOfT s cA (.object (rn (201 + ci - 201)))
      rw [Nat.add_sub_cancel_left]
      exact fun n z => ⟨fun k h => (by cases h), kA, c2, comp, c3⟩
    · unfold tg
      rw [hz]
      show va_RA s cA (.object (rn (201 + ci - 201)))
      rw [Nat.add_sub_cancel_left]
      exact ⟨kA, comp, c2, c3, c4, c1⟩
  have hk2 := k _ locs LS hR' hL hl
  rw [List.map_cons, cvv_ref (k := nx h) (by omega), ad_new hR] at hk2
  refine W.cs (cells' := nx (mkc h (201 + ci) (ix n) (ix n)) - n0) (slots' := sl (mkc h (201 + ci) (ix n) (ix n)) - s0) ?_ ?_ hk2
  · show nx h - n0 + 1 = nx h + 1 - n0; omega
  · show sl h - s0 + ix n = sl h + ix n - s0; omega
end Snd2
