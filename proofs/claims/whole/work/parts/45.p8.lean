/-! ===== the class: what changes ===== -/
def PO (M : Nat) (as : List Value) (s : Sta) (r : Int32 × Sta) : Prop := ∀ (h : PH) (k : PH → Int32 → Prop), IP h s → (∀ h', IP h' r.2 → KQ h h' → k h' r.1) → ccI M h (.ref 2 :: as) k
def QO (M : Nat) (as : List Value) (s : Sta) (r : Int32 × Sta) : Prop := ∀ (h : PH) (k : PH → Int32 → Prop), IQ h s → (∀ h', IQ h' r.2 → KP h h' → k h' r.1) → ccI M h (.ref 123 :: as) k
theorem op_r {MP MQ : Nat} {as : List Value} {s : Sta} {r : Int32 × Sta} (o : okS r.2) (P : PO MP as s r) (Q : QO MQ as s r) : OpI MP MQ as s := ⟨r.1, r.2, o, P, Q⟩
def nowS (s : Sta) (z : Zl) : Sta := (z, zI s, zP s, zL s, zT s, zN s)
def pastS (s : Sta) (p : List Zl) : Sta := (s.1, zI s, p, zL s, zT s, zN s)
def imgS (s : Sta) (x : Option Zl) : Sta := (s.1, x, zP s, zL s, zT s, zN s)
def ltrS (s : Sta) (x : Nat × Row) : Sta := (s.1, zI s, zP s, x, zT s, zN s)
def tldS (s : Sta) (x : Nat × Row) : Sta := (s.1, zI s, zP s, zL s, x, zN s)
def refR (s : Sta) (no : Int32) : Int32 × Sta := (no, refS s no)
def keepL (p : List Zl) (z : Zl) : List Zl := if p.length = 8 then p.tail ++ [z] else p ++ [z]
section Changes
variable {h h' : PH} {s : Sta} {S R : Nat → Prop}
theorem isP_og (q : isP h) (f : Og S R h h') (hn : 147 ≤ nx h) (hR : ∀ b, R b → b < 147 → b = 10 ∨ b = 20) : isP h' := by
  have t := fun b (hb : b < 147) => (f.2 b (by omega)).1
  have l := fun b (hb : b < 147) => (f.2 b (by omega)).2.1
  have r := fun b (hb : b < 147) (nr : ¬ R b) => funext ((f.2 b (by omega)).2.2.1 nr)
  unfold isP
  rw [t 2 (by omega), t 33 (by omega), t 34 (by omega), l 34 (by omega), t 115 (by omega), t 116 (by omega), l 116 (by omega), t 117 (by omega), l 117 (by omega), t 118 (by omega), l 118 (by omega), t 119 (by omega), t 120 (by omega), t 121 (by omega), l 121 (by omega), t 122 (by omega), l 122 (by omega), t 3 (by omega), t 13 (by omega), t 23 (by omega), r 2 (by omega) (fun x => by have := hR _ x; omega), r 33 (by omega) (fun x => by have := hR _ x; omega), r 34 (by omega) (fun x => by have := hR _ x; omega), r 115 (by omega) (fun x => by have := hR _ x; omega)]
  refine ⟨q.1, q.2.1, q.2.2.1, q.2.2.2.1, q.2.2.2.2.1, q.2.2.2.2.2.1, ⟨?_, ?_, ?_⟩, fun k hk => ⟨(q.2.2.2.2.2.2.2 k hk).1, ?_⟩⟩
  · exact Og_isLed q.2.2.2.2.2.2.1.1 f hn (fun x => by have := hR _ x; omega) (fun x => by have := hR _ x; omega)
  · exact Og_isLed q.2.2.2.2.2.2.1.2.1 f hn (fun x => by have := hR _ x; omega) (fun x => by have := hR _ x; omega)
  · exact Og_isLed q.2.2.2.2.2.2.1.2.2 f hn (fun x => by have := hR _ x; omega) (fun x => by have := hR _ x; omega)
  · exact Og_isLed (q.2.2.2.2.2.2.2 k hk).2 f hn (fun x => by have := hR _ x; omega) (fun x => by have := hR _ x; omega)
theorem LZ_og {a : Nat} {z : Zl} (L : LZ h a z) (f : Og S R h h') (hn : 147 ≤ nx h) (hS : ∀ b, S b → ¬ (a ≤ b ∧ b ≤ a + 8) ∧ b < 147) (hR : ∀ b, R b → ¬ (b = a ∨ b = a + 1 ∨ b = a + 7)) : LZ h' a z := by
  have hla := L.1.1.2.2.2.2.2.2.2.1
  refine ⟨Og_Led L.1 f hn (fun b x => by have := hS b x; omega) hR, ?_⟩
  have ea := (f.2 a (by omega)).2.2.2 (fun x => by have := hS _ x; omega)
  have e8 := (f.2 (a + 8) (by omega)).2.2.2 (fun x => by have := hS _ x; omega)
  obtain ⟨b1, b2, b3, b4⟩ := L.2
  exact ⟨b1, by rw [ea]; exact b2, by rw [ea]; exact b3, fun i hi => by rw [e8]; exact b4 i hi⟩
theorem IPst_og (q : IPst h s) (f : Og S R h h') (hn : 147 ≤ nx h) (hS : ∀ b, S b → ¬ b = 2 ∧ ¬ (23 ≤ b ∧ b ≤ 31) ∧ ¬ b = 33 ∧ ¬ (35 ≤ b ∧ b ≤ 118) ∧ b < 147) (hR : ∀ b, R b → b = 10 ∨ b = 20) : IPst h' s := by
  have e : ∀ b, (b = 2 ∨ (23 ≤ b ∧ b ≤ 31) ∨ b = 33 ∨ (35 ≤ b ∧ b ≤ 118)) → ∀ j, gI h' b j = gI h b j := fun b hb j => (f.2 b (by omega)).2.2.2 (fun x => by have := hS b x; omega) j
  refine ⟨?_, fun x hx => ?_, ?_, ?_, ?_, ?_⟩
  · rw [e 2 (by omega)]; exact q.1
  · exact LZ_og (q.2.1 x hx) f hn (fun b x => by have := hS b x; omega) (fun b x => by have := hR b x; omega)
  · obtain ⟨n, hn', n1, n2, n3⟩ := q.2.2.1
    refine ⟨n, hn', ?_, ?_, fun j x hx => ?_⟩
    · rw [e 33 (by omega)]; exact n1
    · rw [e 33 (by omega)]; exact n2
    · have : pl n (zP s).length j = 35 + 10 * ((n + 8 - (zP s).length + j) % 8) := rfl
      exact LZ_og (n3 j x hx) f hn (fun b x => by have := hS b x; omega) (fun b x => by have := hR b x; omega)
  · rw [e 115 (by omega)]
    exact ⟨q.2.2.2.1.1, fun i hi => by rw [e 116 (by omega)]; exact q.2.2.2.1.2 i hi⟩
  · rw [e 2 (by omega)]
    exact ⟨q.2.2.2.2.1.1, fun i hi => by rw [e 117 (by omega)]; exact q.2.2.2.2.1.2 i hi⟩
  · exact fun i hi => by rw [e 118 (by omega)]; exact q.2.2.2.2.2 i hi
theorem IP_now (I : IP h s) (f : Og S R h h') (hS : ∀ b, S b → (3 ≤ b ∧ b ≤ 22) ∨ (119 ≤ b ∧ b ≤ 122)) (hR : ∀ b, R b → b = 10 ∨ b = 20) {z : Zl} (L : LZ h' 3 z) : IP h' (nowS s z) :=
  ⟨isP_og I.1 f I.2.1 (fun b x _ => hR b x), Nat.le_trans I.2.1 f.1, L, IPst_og (s := nowS s z) I.2.2.2 f I.2.1 (fun b x => by have := hS b x; omega) hR⟩
theorem KQ_og (f : Og S R h h') (hn : 147 ≤ nx h) (hS : ∀ b, S b → ¬ (b = 1 ∨ (123 ≤ b ∧ b < 147))) (hR : ∀ b, R b → ¬ (b = 1 ∨ (123 ≤ b ∧ b < 147))) (h1 : nx h' ≤ nx h + 6) (h2 : sl h' ≤ sl h + 12) : KQ h h' :=
  ⟨⟨f.1, h1, h2⟩, fun b hb => ⟨(f.2 b (by omega)).1, (f.2 b (by omega)).2.1, (f.2 b (by omega)).2.2.1 (fun x => hR b x hb), (f.2 b (by omega)).2.2.2 (fun x => hS b x hb)⟩⟩
/-- cells 33, or 2, or some rows of letters and told numbers, are written -/
theorem IP_forget (I : IP h s) : IP (sI h 33 2 0) (pastS s []) := by
  have fr : Fr (fun b => b = 33) (fun _ => False) h (sI h 33 2 0) := Fr_sI _ _ _ _ rfl
  have ne : ∀ b, b ≠ 33 → gI (sI h 33 2 0) b = gI h b := fun b hb => gI_sI_nc _ _ _ _ hb
  have st := I.2.2.2
  refine ⟨isP_fr I.1 fr (fun b x => x.elim), I.2.1, LZ_fr I.2.2.1 fr (fun b x => by omega) (fun b x => x.elim), ?_, fun x hx => LZ_fr (st.2.1 x hx) fr (fun b x => by omega) (fun b x => x.elim), ?_, ?_, ?_, ?_⟩
  · rw [ne 2 (by decide)]; exact st.1
  · obtain ⟨n, hn, n1, _, _⟩ := st.2.2.1
    exact ⟨n, hn, by rw [gI_sI_ne _ _ _ _ (by omega)]; exact n1, gI_sI_eq _ _ _ _, fun j x hx => by have q : ([] : List Zl)[j]? = some x := hx; simp at q⟩
  · rw [ne 115 (by decide), ne 116 (by decide)]; exact st.2.2.2.1
  · rw [ne 2 (by decide), ne 117 (by decide)]; exact st.2.2.2.2.1
  · rw [ne 118 (by decide)]; exact st.2.2.2.2.2
theorem KQ_cell (b j : Nat) (x : Int32) (hb : ¬ (b = 1 ∨ (123 ≤ b ∧ b < 147))) : KQ h (sI h b j x) := KQ_fr (S := fun c => c = b) (R := fun _ => False) (Fr_sI _ _ _ _ rfl) (fun c e => by rw [e]; exact hb) (fun c e => e.elim)
theorem KQ_tr {h1 h2 h3 : PH} (f : KQ h1 h2) (g : KQ h2 h3) (a : nx h3 ≤ nx h1 + 6) (b : sl h3 ≤ sl h1 + 12) : KQ h1 h3 :=
  ⟨⟨Nat.le_trans f.1.1 g.1.1, a, b⟩, fun c hc => ⟨(g.2 c hc).1.trans (f.2 c hc).1, (g.2 c hc).2.1.trans (f.2 c hc).2.1, fun j => ((g.2 c hc).2.2.1 j).trans ((f.2 c hc).2.2.1 j), fun j => ((g.2 c hc).2.2.2 j).trans ((f.2 c hc).2.2.2 j)⟩⟩
theorem t_P_withoutPast (I : IP h s) {x : Int32} (hx : 0 ≤ x) {k : PH → Int32 → Prop} (hk : k (sI h 33 2 0) x) : ccI m_P_withoutPast h [.ref 2, .int x] k := by
  have w := pw I.1
  rw [c_P_withoutPast, if_pos hx]
  simp only [w, true_and]
  rw [c_Past_forget]
  exact ⟨w.2.2.1.1, hk⟩
theorem t_P_withoutNo (I : IP h s) {x : Int32} (hx : noK x) {k : PH → Int32 → Prop} (hk : ∀ h', IP h' (refS s x) → KQ h h' → k h' x) : ccI m_P_withoutPast h [.ref 2, .int x] k := by
  rw [c_P_withoutPast, if_neg (Int32.not_le.mpr (noK_neg hx))]
  exact ⟨I.1.1, t_P_refused I hx hk⟩
theorem t_P_withNo (I : IP h s) {x : Int32} (hx : noK x) {k : PH → Int32 → Prop} (hk : ∀ h', IP h' (refS s x) → KQ h h' → k h' x) : ccI m_P_withPast h [.ref 2, .int x] k := by
  rw [c_P_withPast, if_neg (Int32.not_le.mpr (noK_neg hx))]
  exact ⟨I.1.1, t_P_refused I hx hk⟩
theorem s_P_kept (I : IP h s) {n : Nat} (hn : n < 8) (k : PH → Nat → Prop) : ccA m_Past_kept h [.ref 33, .int (nI n)] k = k h (35 + 10 * n) := by
  have w := pw I.1
  rw [c_Past_kept, if_neg (nI_pos (by omega))]
  simp only [w, true_and, e_Past_kept_21, e_Past_kept_22]
  rw [show Int32.ofNat 8 = nI 8 from rfl, if_neg (nI_ge hn (by decide)), ix_nI (by omega), (I.1.2.2.2.2.2.2.2 n hn).1]
  simp [inb_nI hn]
theorem next_dec : ∀ n : Fin 8, (nI n.1 + 1) % 8 = nI ((n.1 + 1) % 8) ∧ (nI n.1 + 8 - 1) % 8 = nI ((n.1 + 7) % 8) := by decide +kernel
theorem min_dec : ∀ n : Fin 9, (if nI n.1 + 1 < 8 then nI n.1 + 1 else 8) = nI (if n.1 = 8 then 8 else n.1 + 1) := by decide +kernel
theorem keepL_len (p : List Zl) (z : Zl) (hp : p.length ≤ 8) : (keepL p z).length = if p.length = 8 then 8 else p.length + 1 := by
  unfold keepL
  split
  · next c => rw [List.length_append, List.length_tail, c]; rfl
  · rw [List.length_append]; rfl
theorem keepL_get {p : List Zl} {z : Zl} {j : Nat} {x : Zl} (hp : p.length ≤ 8) (e : (keepL p z)[j]? = some x) : (j + 1 = (keepL p z).length ∧ x = z) ∨ (j + 1 < (keepL p z).length ∧ p[j + (if p.length = 8 then 1 else 0)]? = some x) := by
  have hl := keepL_len p z hp
  unfold keepL at e
  by_cases c : p.length = 8
  · rw [if_pos c] at e hl ⊢
    have ht : p.tail.length = 7 := by rw [List.length_tail, c]
    by_cases d : j < 7
    · rw [List.getElem?_append_left (by omega), List.getElem?_tail] at e
      exact Or.inr ⟨by omega, e⟩
    · rw [List.getElem?_append_right (by omega), ht] at e
      have : j = 7 := by
        by_cases d2 : j = 7
        · exact d2
        · obtain ⟨i, hi⟩ : ∃ i, j - 7 = i + 1 := ⟨j - 8, by omega⟩
          rw [hi] at e; simp at e
      subst this
      simp at e
      exact Or.inl ⟨by omega, e.symm⟩
  · rw [if_neg c] at e hl ⊢
    by_cases d : j < p.length
    · rw [List.getElem?_append_left d] at e
      exact Or.inr ⟨by omega, e⟩
    · rw [List.getElem?_append_right (by omega)] at e
      have : j = p.length := by
        by_cases d2 : j = p.length
        · exact d2
        · obtain ⟨i, hi⟩ : ∃ i, j - p.length = i + 1 := ⟨j - p.length - 1, by omega⟩
          rw [hi] at e; simp at e
      subst this
      simp at e
      exact Or.inl ⟨by omega, e.symm⟩
theorem t_P_withPast (I : IP h s) (hp8 : (zP s).length ≤ 8) {z : Zl} (Z : LZ h 13 z) {x : Int32} (hx : 0 ≤ x) {k : PH → Int32 → Prop} (hk : ∀ h', IP h' (pastS s (keepL (zP s) z)) → KQ h h' → nx h' = nx h → sl h' = sl h → k h' x) : ccI m_P_withPast h [.ref 2, .int x] k := by
  have w := pw I.1
  have st := I.2.2.2
  obtain ⟨n, hn, n1, n2, n3⟩ := st.2.2.1
  rw [c_P_withPast, if_pos hx]
  simp only [w, true_and]
  rw [c_Past_keep, n1]
  simp only [w, true_and]
  rw [s_P_kept I hn]
  have q := I.1.2.2.2.2.2.2.2 n hn
  refine ⟨q.2.1, t_Ledger_copy Z.1 Z.2 q.2 (Or.inr (by omega)) fun h1 fr1 L1 B1 => ?_⟩
  have w1t : tg h1 33 = 5 := (Fr_tg fr1 33).trans w.2.2.1.1
  have g1 : gI h1 33 1 = nI n := by rw [fr1.2.2.2 33 (by omega)]; exact n1
  have g2 : gI h1 33 2 = nI (zP s).length := by rw [fr1.2.2.2 33 (by omega)]; exact n2
  simp only [tg_sI, w1t, true_and, e_Past_keep_40, g1]
  rw [gI_sI_ne _ _ _ _ (show ¬ (33 = 33 ∧ 2 = 1) by omega), g2, (next_dec ⟨n, hn⟩).1]
  have hmin := min_dec ⟨(zP s).length, by omega⟩
  rw [show (if nI (zP s).length + 1 < 8 then nI (zP s).length + 1 else 8) = nI (if (zP s).length = 8 then 8 else (zP s).length + 1) from hmin, ← keepL_len (zP s) z hp8]
  refine ⟨by decide, ?_⟩
  generalize hF : sI (sI h1 33 1 (nI ((n + 1) % 8))) 33 2 (nI (keepL (zP s) z).length) = h2
  have fr2 : Fr (fun b => b = 33) (fun _ => False) h1 h2 := by rw [← hF]; exact Fr_trans (Fr_sI _ _ _ _ rfl) (Fr_sI _ _ _ _ rfl)
  have frA : Fr (fun b => (35 + 10 * n ≤ b ∧ b ≤ 35 + 10 * n + 8) ∨ b = 33) (fun b => b = 35 + 10 * n + 7) h h2 := Fr_trans (Fr_mono fr1 (fun b x => Or.inl x) (fun b x => x)) (Fr_mono fr2 (fun b x => Or.inr x) (fun b x => x.elim))
  have e33a : gI h2 33 1 = nI ((n + 1) % 8) := by rw [← hF, gI_sI_ne _ _ _ _ (by omega), gI_sI_eq]
  have e33b : gI h2 33 2 = nI (keepL (zP s) z).length := by rw [← hF, gI_sI_eq]
  have Zn : LZ h2 (35 + 10 * n) z := LZ_fr ⟨L1, B1⟩ fr2 (fun b x => by omega) (fun b x => x.elim)
  have lz : ∀ a y, LZ h a y → (a + 8 < 35 + 10 * n ∨ 35 + 10 * n + 8 < a) → ¬ (a ≤ 33 ∧ 33 ≤ a + 8) → LZ h2 a y := fun a y l d d2 => LZ_fr l frA (fun b x => by omega) (fun b x => by omega)
  have ne : ∀ b, ¬ ((35 + 10 * n ≤ b ∧ b ≤ 35 + 10 * n + 8) ∨ b = 33) → gI h2 b = gI h b := fun b hb => funext fun j => frA.2.2.2 b hb j
  refine hk h2 ⟨isP_fr I.1 frA (fun b x => Or.inr (Or.inr (Or.inr ⟨n, hn, by omega⟩))), by rw [Fr_nx frA]; exact I.2.1, lz 3 _ I.2.2.1 (by omega) (by omega), ?_, fun y hy => lz 23 y (st.2.1 y hy) (by omega) (by omega), ?_, ?_, ?_, ?_⟩ (KQ_fr frA (fun b x => by omega) (fun b x => by omega)) (Fr_nx frA) (Fr_sl frA)
  · rw [ne 2 (by omega)]; exact st.1
  · refine ⟨(n + 1) % 8, by omega, e33a, e33b, fun j y hy => ?_⟩
    have hl := keepL_len (zP s) z hp8
    rcases keepL_get hp8 hy with ⟨e1, e2⟩ | ⟨e1, e2⟩
    · have : pl ((n + 1) % 8) (pastS s (keepL (zP s) z)).2.2.1.length j = 35 + 10 * n := by
        show 35 + 10 * (((n + 1) % 8 + 8 - (keepL (zP s) z).length + j) % 8) = 35 + 10 * n
        split at hl <;> omega
      rw [this, e2]; exact Zn
    · have h3 := n3 _ y e2
      have hj : j + (if (zP s).length = 8 then 1 else 0) < (zP s).length := by
        have := (List.getElem?_eq_some_iff.mp e2).1
        exact this
      have : pl ((n + 1) % 8) (pastS s (keepL (zP s) z)).2.2.1.length j = pl n (zP s).length (j + (if (zP s).length = 8 then 1 else 0)) := by
        show 35 + 10 * (((n + 1) % 8 + 8 - (keepL (zP s) z).length + j) % 8) = 35 + 10 * ((n + 8 - (zP s).length + (j + (if (zP s).length = 8 then 1 else 0))) % 8)
        split at hl <;> split <;> omega
      rw [this]
      refine lz _ y h3 ?_ (by unfold pl; omega)
      unfold pl
      split at hl <;> split at hj <;> split <;> omega
  · rw [ne 115 (by omega), ne 116 (by omega)]; exact st.2.2.2.1
  · rw [ne 2 (by omega), ne 117 (by omega)]; exact st.2.2.2.2.1
  · rw [ne 118 (by omega)]; exact st.2.2.2.2.2
end Changes
