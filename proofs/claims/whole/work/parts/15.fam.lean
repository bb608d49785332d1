/-! ===== rows of the heap; families ===== -/
abbrev Row : Type := Nat → Int32
def rs (r : Row) (j : Nat) (x : Int32) : Row := fun i => if i = j then x else r i
/-- the heap with row a written over -/
def wR (h : PH) (a : Nat) (r : Row) : PH := (h.1, h.2.1, (fun b => if b = a then r else h.2.2.1 b), h.2.2.2)
theorem sI_wR (h : PH) (a j : Nat) (x : Int32) : sI h a j x = wR h a (rs (gI h a) j x) := by
  unfold sI wR rs gI
  congr 3
  funext b i
  by_cases e : b = a
  · subst e; by_cases e2 : i = j <;> simp [e2]
  · simp [e]
theorem gI_wR (h : PH) (a : Nat) (r : Row) : gI (wR h a r) a = r := if_pos rfl
theorem gI_wR_ne (h : PH) {a b : Nat} (r : Row) (e : b ≠ a) : gI (wR h a r) b = gI h b := if_neg e
theorem tg_wR (h : PH) (a : Nat) (r : Row) (b : Nat) : tg (wR h a r) b = tg h b := rfl
theorem ln_wR (h : PH) (a : Nat) (r : Row) (b : Nat) : ln (wR h a r) b = ln h b := rfl
theorem gR_wR (h : PH) (a : Nat) (r : Row) (b : Nat) : gR (wR h a r) b = gR h b := rfl
theorem nx_wR (h : PH) (a : Nat) (r : Row) : nx (wR h a r) = nx h := rfl
theorem sl_wR (h : PH) (a : Nat) (r : Row) : sl (wR h a r) = sl h := rfl
theorem wR_wR (h : PH) (a : Nat) (r r' : Row) : wR (wR h a r) a r' = wR h a r' := by
  unfold wR
  congr 3
  funext b
  by_cases e : b = a <;> simp [e]
theorem wR_id (h : PH) (a : Nat) : wR h a (gI h a) = h := by
  unfold wR gI
  obtain ⟨h1, h2, h3, h4⟩ := h
  congr 3
  funext b
  by_cases e : b = a <;> simp [e]
theorem wR_comm (h : PH) {a b : Nat} (r r' : Row) (e : a ≠ b) : wR (wR h a r) b r' = wR (wR h b r') a r := by
  unfold wR
  congr 3
  funext x
  by_cases e1 : x = a
  · subst e1; simp [e]
  · simp [e1]
theorem rs_eq (r : Row) (j : Nat) (x : Int32) : rs r j x j = x := if_pos rfl
theorem rs_ne (r : Row) {i j : Nat} (x : Int32) (e : i ≠ j) : rs r j x i = r i := if_neg e
theorem ite_k {α β : Type} (c : Prop) [Decidable c] (k : α → β) (x y : α) : (if c then k x else k y) = k (if c then x else y) := by split <;> rfl
-- what comes to a family
def rOwe (x : Int32) (r : Row) : Row := rs r 1 (if r 1 + x ≤ 99999 then r 1 + x else 99999)
def rPay (x : Int32) (r : Row) : Row := rs (rs r 1 (r 1 - if x ≤ r 1 then x else r 1)) 5 (r 5 + if x ≤ r 1 then x else r 1)
def rSettle (rate : Int32) (r : Row) : Row :=
  let r1 := rOwe (r 1 * rate / 100) r
  let r2 := rs r1 4 (r1 4 + (r1 1 - r 1))
  rPay (r2 2 * r2 0) r2
def rBear (r : Row) : Row := if r 0 < 20 then (if r 1 = 0 then rs (rs r 0 (r 0 + 1)) 6 (r 6 + 1) else rs r 0 (r 0 + 1)) else r
def rYear (rate year : Int32) (r : Row) : Row := let r1 := rSettle rate r; if r1 3 ≤ 0 then r1 else if year % r1 3 = 0 then rBear r1 else r1
/-- n years on from the year y -/
def rYears (rate y : Int32) : Nat → Row → Row
  | 0, r => r
  | n + 1, r => rYear rate (y + nI (n + 1)) (rYears rate y n r)
def rCopy (r t : Row) : Row := rs (rs (rs (rs (rs (rs (rs t 0 (r 0)) 1 (r 1)) 2 (r 2)) 3 (r 3)) 4 0) 5 0) 6 0
def up (x y : Int32) : Int32 := if 1 ≤ y then (x + y - 1) / y else 0
theorem s_P_up (h : PH) (x y : Int32) (k : PH → Int32 → Prop) : ccI m_P_up h [.int x, .int y] k = k h (up x y) := by
  rw [c_P_up]
  by_cases c : 1 ≤ y
  · have : ¬ y = 0 := fun e => by rw [e] at c; exact absurd c (by decide)
    simp [e_P_up_16, up, c, this]
  · simp [e_P_up_16, up, c]
theorem s_Family_headOwes {h : PH} {a : Nat} (ht : tg h a = 3) (k : PH → Int32 → Prop) : ccI m_Family_headOwes h [.ref a] k = k h (up (gI h a 1) (gI h a 0)) := by
  rw [c_Family_headOwes]
  simp only [ht, true_and, s_P_up]
theorem s_Family_owe {h : PH} {a : Nat} (ht : tg h a = 3) (x : Int32) (k : PH → Prop) : ccV m_Family_owe h [.ref a, .int x] k = k (wR h a (rOwe x (gI h a))) := by
  rw [c_Family_owe]
  simp only [ht, true_and, e_Family_owe_23, sI_wR, rOwe]
  by_cases c : gI h a 1 + x ≤ 99999 <;> simp only [c, if_true, if_false]
theorem s_Family_pay {h : PH} {a : Nat} (ht : tg h a = 3) (x : Int32) (k : PH → Prop) : ccV m_Family_pay h [.ref a, .int x] k = k (wR h a (rPay x (gI h a))) := by
  rw [c_Family_pay]
  simp only [ht, true_and, e_Family_pay_16, sI_wR, gI_wR, wR_wR, tg_wR, rPay, rs_ne _ _ (show (5 : Nat) ≠ 1 by decide)]
  by_cases c : x ≤ gI h a 1 <;> simp only [c, if_true, if_false]
theorem s_Family_settle {h : PH} {a : Nat} (ht : tg h a = 3) (rate : Int32) (k : PH → Prop) : ccV m_Family_settle h [.ref a, .int rate] k = k (wR h a (rSettle rate (gI h a))) := by
  rw [c_Family_settle]
  have h100 : ¬ (100 : Int32) = 0 := by decide
  simp only [ht, h100, not_false_eq_true, true_and, s_Family_owe ht]
  simp only [sI_wR, tg_wR, ht, true_and, gI_wR, wR_wR]
  rw [s_Family_pay (by simp only [tg_wR]; exact ht)]
  simp only [gI_wR, wR_wR, rSettle]
theorem s_Family_bear {h : PH} {a : Nat} (ht : tg h a = 3) (k : PH → Prop) : ccV m_Family_bear h [.ref a] k = k (wR h a (rBear (gI h a))) := by
  rw [c_Family_bear]
  simp only [ht, sI_wR, tg_wR, gI_wR, wR_wR, true_and, e_Family_bear_37, rBear, rs_ne _ _ (show (1 : Nat) ≠ 0 by decide), rs_ne _ _ (show (6 : Nat) ≠ 0 by decide)]
  by_cases c : gI h a 0 < 20
  · by_cases d : gI h a 1 = 0 <;> simp only [c, d, if_true, if_false, not_true_eq_false, not_false_eq_true]
  · simp only [c, if_false, wR_id]
theorem s_Family_passYear {h : PH} {a : Nat} (ht : tg h a = 3) (rate year : Int32) (k : PH → Prop) : ccV m_Family_passYear h [.ref a, .int rate, .int year] k = k (wR h a (rYear rate year (gI h a))) := by
  rw [c_Family_passYear]
  simp only [ht, true_and, s_Family_settle ht, tg_wR, gI_wR, e_Family_passYear_25, rYear]
  by_cases c : rSettle rate (gI h a) 3 ≤ 0
  · simp only [c, if_true]
  · have c0 : ¬ rSettle rate (gI h a) 3 = 0 := fun e => c (by rw [e]; exact Int32.le_refl _)
    simp only [c, c0, if_false, not_false_eq_true, true_and]
    rw [s_Family_bear (by simp only [tg_wR]; exact ht)]
    simp only [gI_wR, wR_wR]
    by_cases d : year % rSettle rate (gI h a) 3 = 0 <;> simp only [d, if_true, if_false, not_true_eq_false, not_false_eq_true]
theorem s_Family_passYears {h : PH} {a : Nat} (ht : tg h a = 3) (rate y : Int32) {n : Nat} (hn : n < 2 ^ 30) (k : PH → Prop) : ccV m_Family_passYears h [.ref a, .int rate, .int y, .int (nI n)] k = k (wR h a (rYears rate y n (gI h a))) := by
  rw [c_Family_passYears]
  have key : ∀ (d i : Nat), i + d = n → wp m_Family_passYears (wR h a (rYears rate y i (gI h a))) 3 [some (.ref a), some (.int rate), some (.int y), some (.int (nI n)), some (.int (nI (i + 1)))] [] (tyV k) = k (wR h a (rYears rate y n (gI h a))) := by
    intro d
    induction d with
    | zero =>
      intro i hi
      have : i = n := by omega
      subst this
      rw [e_Family_passYears_3, if_pos ((nI_ltI (by omega) (by omega)).mpr (by omega))]
    | succ d ih =>
      intro i hi
      rw [e_Family_passYears_3, if_neg (fun z => by have := (nI_ltI (by omega) (by omega)).mp z; omega)]
      simp only [tg_wR, ht, true_and]
      rw [s_Family_passYear (by simp only [tg_wR]; exact ht)]
      simp only [gI_wR, wR_wR]
      have := ih (i + 1) (by omega)
      rw [nI_1]
      exact this
  have := key n 0 (by omega)
  rw [show rYears rate y 0 (gI h a) = gI h a from rfl, wR_id] at this
  exact this
theorem s_Family_copy {h : PH} {a b : Nat} (ha : tg h a = 3) (hb : tg h b = 3) (hne : b ≠ a) (k : PH → Prop) : ccV m_Family_copy h [.ref a, .ref b] k = k (wR h a (rCopy (gI h b) (gI h a))) := by
  rw [c_Family_copy]
  simp only [e_Family_copy_32, sI_wR, tg_wR, ha, hb, true_and, gI_wR, gI_wR_ne _ _ hne, wR_wR, rCopy]
def rBecome (x y z : Int32) (r : Row) : Row := rs (rs (rs (rs r 0 x) 1 0) 2 y) 3 z
theorem s_Family_become {h : PH} {a : Nat} (ha : tg h a = 3) (x y z : Int32) (k : PH → Prop) : ccV m_Family_become h [.ref a, .int x, .int y, .int z] k = k (wR h a (rBecome x y z (gI h a))) := by
  rw [c_Family_become]
  simp only [sI_wR, tg_wR, ha, true_and, gI_wR, wR_wR, rBecome]
theorem s_Family_isCheaperThan {h : PH} {a b : Nat} (ha : tg h a = 3) (hb : tg h b = 3) (k : PH → Int32 → Prop) : ccI m_Family_isCheaperThan h [.ref a, .ref b] k = k h (if gI h b 1 * gI h a 0 ≤ gI h a 1 * gI h b 0 then 0 else 1) := by
  rw [c_Family_isCheaperThan]
  simp only [ha, hb, true_and, e_Family_isCheaperThan_26]
  split <;> simp
