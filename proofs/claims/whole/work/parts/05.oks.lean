theorem fo0_11 : FldOK (0, 11, 0, 0, 2, [1, 2, 7]) := memB_cons (t := 0) _ ⟨RX0, TX0, 2, "PaidByTheUnborn$Bridge", .int, rfl, by decide, by decide, by decide, tw1, Or.inr tw0, by decide +kernel, rfl, rfl, (fun z => absurd z (by decide)), (fun z => absurd z (by decide))⟩ (memB_cons (t := 0) _ ⟨RX1, TX1, 2, "PaidByTheUnborn$Bridge", .int, rfl, by decide, by decide, by decide, tw1, Or.inr tw0, by decide +kernel, rfl, rfl, (fun z => absurd z (by decide)), (fun z => absurd z (by decide))⟩ (memB_cons (t := 0) _ ⟨RX6, TX6, 2, "PaidByTheUnborn$Bridge", .int, rfl, by decide, by decide, by decide, tw1, Or.inr tw0, by decide +kernel, rfl, rfl, (fun z => absurd z (by decide)), (fun z => absurd z (by decide))⟩ (memB_nil _)))
theorem fo2_9 : FldOK (2, 9, 0, 0, 0, [3]) := memB_cons (t := 0) _ ⟨RX2, TX2, 7, "PaidByTheUnborn$Family", .int, rfl, by decide, by decide, by decide, tw2, Or.inl rfl, by decide +kernel, rfl, rfl, (fun _ => rfl), (fun z => absurd z (by decide))⟩ (memB_nil _)
theorem fo2_15 : FldOK (2, 15, 1, 0, 0, [3]) := memB_cons (t := 0) _ ⟨RX2, TX2, 7, "PaidByTheUnborn$Family", .int, rfl, by decide, by decide, by decide, tw3, Or.inl rfl, by decide +kernel, rfl, rfl, (fun _ => rfl), (fun z => absurd z (by decide))⟩ (memB_nil _)
theorem fo2_18 : FldOK (2, 18, 2, 0, 0, [3]) := memB_cons (t := 0) _ ⟨RX2, TX2, 7, "PaidByTheUnborn$Family", .int, rfl, by decide, by decide, by decide, tw4, Or.inl rfl, by decide +kernel, rfl, rfl, (fun _ => rfl), (fun z => absurd z (by decide))⟩ (memB_nil _)
theorem fo2_21 : FldOK (2, 21, 3, 0, 0, [3]) := memB_cons (t := 0) _ ⟨RX2, TX2, 7, "PaidByTheUnborn$Family", .int, rfl, by decide, by decide, by decide, tw5, Or.inl rfl, by decide +kernel, rfl, rfl, (fun _ => rfl), (fun z => absurd z (by decide))⟩ (memB_nil _)
theorem fo2_24 : FldOK (2, 24, 4, 0, 0, [3]) := memB_cons (t := 0) _ ⟨RX2, TX2, 7, "PaidByTheUnborn$Family", .int, rfl, by decide, by decide, by decide, tw6, Or.inl rfl, by decide +kernel, rfl, rfl, (fun _ => rfl), (fun z => absurd z (by decide))⟩ (memB_nil _)
theorem fo2_27 : FldOK (2, 27, 5, 0, 0, [3]) := memB_cons (t := 0) _ ⟨RX2, TX2, 7, "PaidByTheUnborn$Family", .int, rfl, by decide, by decide, by decide, tw7, Or.inl rfl, by decide +kernel, rfl, rfl, (fun _ => rfl), (fun z => absurd z (by decide))⟩ (memB_nil _)
theorem fo2_30 : FldOK (2, 30, 6, 0, 0, [3]) := memB_cons (t := 0) _ ⟨RX2, TX2, 7, "PaidByTheUnborn$Family", .int, rfl, by decide, by decide, by decide, tw8, Or.inl rfl, by decide +kernel, rfl, rfl, (fun _ => rfl), (fun z => absurd z (by decide))⟩ (memB_nil _)
theorem fo3_9 : FldOK (3, 9, 3, 0, 0, [4]) := memB_cons (t := 0) _ ⟨RX3, TX3, 10, "PaidByTheUnborn$Ledger", .int, rfl, by decide, by decide, by decide, tw9, Or.inl rfl, by decide +kernel, rfl, rfl, (fun _ => rfl), (fun z => absurd z (by decide))⟩ (memB_nil _)
theorem fo3_17 : FldOK (3, 17, 6, 2, 1, [4]) := memB_cons (t := 0) _ ⟨RX3, TX3, 10, "PaidByTheUnborn$Ledger", (.array (.object "PaidByTheUnborn$Family")), rfl, by decide, by decide, by decide, tw10, Or.inl rfl, by decide +kernel, rfl, rfl, (fun z => absurd z (by decide)), (fun _ => ⟨rfl, rfl⟩)⟩ (memB_nil _)
theorem fo3_24 : FldOK (3, 24, 7, 2, 1, [4]) := memB_cons (t := 0) _ ⟨RX3, TX3, 10, "PaidByTheUnborn$Ledger", (.array (.object "PaidByTheUnborn$Work")), rfl, by decide, by decide, by decide, tw11, Or.inl rfl, by decide +kernel, rfl, rfl, (fun z => absurd z (by decide)), (fun _ => ⟨rfl, rfl⟩)⟩ (memB_nil _)
theorem fo3_28 : FldOK (3, 28, 8, 2, 1, [4]) := memB_cons (t := 0) _ ⟨RX3, TX3, 10, "PaidByTheUnborn$Ledger", (.array .int), rfl, by decide, by decide, by decide, tw12, Or.inl rfl, by decide +kernel, rfl, rfl, (fun z => absurd z (by decide)), (fun _ => ⟨rfl, rfl⟩)⟩ (memB_nil _)
theorem fo3_32 : FldOK (3, 32, 9, 2, 1, [4]) := memB_cons (t := 0) _ ⟨RX3, TX3, 10, "PaidByTheUnborn$Ledger", (.array .int), rfl, by decide, by decide, by decide, tw13, Or.inl rfl, by decide +kernel, rfl, rfl, (fun z => absurd z (by decide)), (fun _ => ⟨rfl, rfl⟩)⟩ (memB_nil _)
theorem fo3_35 : FldOK (3, 35, 0, 0, 0, [4]) := memB_cons (t := 0) _ ⟨RX3, TX3, 10, "PaidByTheUnborn$Ledger", .int, rfl, by decide, by decide, by decide, tw14, Or.inl rfl, by decide +kernel, rfl, rfl, (fun _ => rfl), (fun z => absurd z (by decide))⟩ (memB_nil _)
theorem fo3_38 : FldOK (3, 38, 1, 0, 0, [4]) := memB_cons (t := 0) _ ⟨RX3, TX3, 10, "PaidByTheUnborn$Ledger", .int, rfl, by decide, by decide, by decide, tw15, Or.inl rfl, by decide +kernel, rfl, rfl, (fun _ => rfl), (fun z => absurd z (by decide))⟩ (memB_nil _)
theorem fo3_41 : FldOK (3, 41, 2, 0, 0, [4]) := memB_cons (t := 0) _ ⟨RX3, TX3, 10, "PaidByTheUnborn$Ledger", .int, rfl, by decide, by decide, by decide, tw16, Or.inl rfl, by decide +kernel, rfl, rfl, (fun _ => rfl), (fun z => absurd z (by decide))⟩ (memB_nil _)
theorem fo3_44 : FldOK (3, 44, 4, 0, 0, [4]) := memB_cons (t := 0) _ ⟨RX3, TX3, 10, "PaidByTheUnborn$Ledger", .int, rfl, by decide, by decide, by decide, tw17, Or.inl rfl, by decide +kernel, rfl, rfl, (fun _ => rfl), (fun z => absurd z (by decide))⟩ (memB_nil _)
theorem fo3_47 : FldOK (3, 47, 5, 0, 0, [4]) := memB_cons (t := 0) _ ⟨RX3, TX3, 10, "PaidByTheUnborn$Ledger", .int, rfl, by decide, by decide, by decide, tw18, Or.inl rfl, by decide +kernel, rfl, rfl, (fun _ => rfl), (fun z => absurd z (by decide))⟩ (memB_nil _)
theorem fo3_123 : FldOK (3, 123, 1, 0, 0, [3]) := memB_cons (t := 0) _ ⟨RX2, TX2, 7, "PaidByTheUnborn$Family", .int, rfl, by decide, by decide, by decide, tw19, Or.inl rfl, by decide +kernel, rfl, rfl, (fun _ => rfl), (fun z => absurd z (by decide))⟩ (memB_nil _)
theorem fo3_129 : FldOK (3, 129, 3, 0, 0, [3]) := memB_cons (t := 0) _ ⟨RX2, TX2, 7, "PaidByTheUnborn$Family", .int, rfl, by decide, by decide, by decide, tw20, Or.inl rfl, by decide +kernel, rfl, rfl, (fun _ => rfl), (fun z => absurd z (by decide))⟩ (memB_nil _)
theorem fo3_132 : FldOK (3, 132, 0, 0, 0, [3]) := memB_cons (t := 0) _ ⟨RX2, TX2, 7, "PaidByTheUnborn$Family", .int, rfl, by decide, by decide, by decide, tw21, Or.inl rfl, by decide +kernel, rfl, rfl, (fun _ => rfl), (fun z => absurd z (by decide))⟩ (memB_nil _)
theorem fo3_150 : FldOK (3, 150, 1, 0, 2, [1, 2, 6, 7, 9, 10]) := memB_cons (t := 0) _ ⟨RX0, TX0, 2, "PaidByTheUnborn$Work", .int, rfl, by decide, by decide, by decide, tw22, Or.inl rfl, by decide +kernel, rfl, rfl, (fun z => absurd z (by decide)), (fun z => absurd z (by decide))⟩ (memB_cons (t := 0) _ ⟨RX1, TX1, 2, "PaidByTheUnborn$Work", .int, rfl, by decide, by decide, by decide, tw22, Or.inl rfl, by decide +kernel, rfl, rfl, (fun z => absurd z (by decide)), (fun z => absurd z (by decide))⟩ (memB_cons (t := 0) _ ⟨RX5, TX5, 2, "PaidByTheUnborn$Work", .int, rfl, by decide, by decide, by decide, tw22, Or.inl rfl, by decide +kernel, rfl, rfl, (fun z => absurd z (by decide)), (fun z => absurd z (by decide))⟩ (memB_cons (t := 0) _ ⟨RX6, TX6, 2, "PaidByTheUnborn$Work", .int, rfl, by decide, by decide, by decide, tw22, Or.inl rfl, by decide +kernel, rfl, rfl, (fun z => absurd z (by decide)), (fun z => absurd z (by decide))⟩ (memB_cons (t := 0) _ ⟨RX8, TX8, 2, "PaidByTheUnborn$Work", .int, rfl, by decide, by decide, by decide, tw22, Or.inl rfl, by decide +kernel, rfl, rfl, (fun z => absurd z (by decide)), (fun z => absurd z (by decide))⟩ (memB_cons (t := 0) _ ⟨RX9, TX9, 2, "PaidByTheUnborn$Work", .int, rfl, by decide, by decide, by decide, tw22, Or.inl rfl, by decide +kernel, rfl, rfl, (fun z => absurd z (by decide)), (fun z => absurd z (by decide))⟩ (memB_nil _))))))
theorem fo4_11 : FldOK (4, 11, 0, 2, 1, [5]) := memB_cons (t := 0) _ ⟨RX4, TX4, 3, "PaidByTheUnborn$Past", (.array (.object "PaidByTheUnborn$Ledger")), rfl, by decide, by decide, by decide, tw23, Or.inl rfl, by decide +kernel, rfl, rfl, (fun z => absurd z (by decide)), (fun _ => ⟨rfl, rfl⟩)⟩ (memB_nil _)
theorem fo4_18 : FldOK (4, 18, 1, 0, 0, [5]) := memB_cons (t := 0) _ ⟨RX4, TX4, 3, "PaidByTheUnborn$Past", .int, rfl, by decide, by decide, by decide, tw24, Or.inl rfl, by decide +kernel, rfl, rfl, (fun _ => rfl), (fun z => absurd z (by decide))⟩ (memB_nil _)
theorem fo4_30 : FldOK (4, 30, 2, 0, 0, [5]) := memB_cons (t := 0) _ ⟨RX4, TX4, 3, "PaidByTheUnborn$Past", .int, rfl, by decide, by decide, by decide, tw25, Or.inl rfl, by decide +kernel, rfl, rfl, (fun _ => rfl), (fun z => absurd z (by decide))⟩ (memB_nil _)
theorem fo5_11 : FldOK (5, 11, 0, 0, 2, [6]) := memB_cons (t := 0) _ ⟨RX5, TX5, 2, "PaidByTheUnborn$Pen", .int, rfl, by decide, by decide, by decide, tw27, Or.inr tw26, by decide +kernel, rfl, rfl, (fun z => absurd z (by decide)), (fun z => absurd z (by decide))⟩ (memB_nil _)
theorem fo6_11 : FldOK (6, 11, 1, 0, 2, [7]) := memB_cons (t := 0) _ ⟨RX6, TX6, 2, "PaidByTheUnborn$Ruin", .int, rfl, by decide, by decide, by decide, tw29, Or.inr tw28, by decide +kernel, rfl, rfl, (fun z => absurd z (by decide)), (fun z => absurd z (by decide))⟩ (memB_nil _)
theorem fo7_9 : FldOK (7, 9, 0, 2, 1, [8]) := memB_cons (t := 0) _ ⟨RX7, TX7, 2, "PaidByTheUnborn$Text", (.array .int), rfl, by decide, by decide, by decide, tw30, Or.inl rfl, by decide +kernel, rfl, rfl, (fun z => absurd z (by decide)), (fun _ => ⟨rfl, rfl⟩)⟩ (memB_nil _)
theorem fo7_15 : FldOK (7, 15, 1, 0, 0, [8]) := memB_cons (t := 0) _ ⟨RX7, TX7, 2, "PaidByTheUnborn$Text", .int, rfl, by decide, by decide, by decide, tw31, Or.inl rfl, by decide +kernel, rfl, rfl, (fun _ => rfl), (fun z => absurd z (by decide))⟩ (memB_nil _)
theorem fo9_7 : FldOK (9, 7, 0, 0, 1, [1, 2, 6, 7, 9, 10]) := memB_cons (t := 0) _ ⟨RX0, TX0, 2, "PaidByTheUnborn$Work", .int, rfl, by decide, by decide, by decide, tw32, Or.inl rfl, by decide +kernel, rfl, rfl, (fun z => absurd z (by decide)), (fun _ => ⟨rfl, rfl⟩)⟩ (memB_cons (t := 0) _ ⟨RX1, TX1, 2, "PaidByTheUnborn$Work", .int, rfl, by decide, by decide, by decide, tw32, Or.inl rfl, by decide +kernel, rfl, rfl, (fun z => absurd z (by decide)), (fun _ => ⟨rfl, rfl⟩)⟩ (memB_cons (t := 0) _ ⟨RX5, TX5, 2, "PaidByTheUnborn$Work", .int, rfl, by decide, by decide, by decide, tw32, Or.inl rfl, by decide +kernel, rfl, rfl, (fun z => absurd z (by decide)), (fun _ => ⟨rfl, rfl⟩)⟩ (memB_cons (t := 0) _ ⟨RX6, TX6, 2, "PaidByTheUnborn$Work", .int, rfl, by decide, by decide, by decide, tw32, Or.inl rfl, by decide +kernel, rfl, rfl, (fun z => absurd z (by decide)), (fun _ => ⟨rfl, rfl⟩)⟩ (memB_cons (t := 0) _ ⟨RX8, TX8, 2, "PaidByTheUnborn$Work", .int, rfl, by decide, by decide, by decide, tw32, Or.inl rfl, by decide +kernel, rfl, rfl, (fun z => absurd z (by decide)), (fun _ => ⟨rfl, rfl⟩)⟩ (memB_cons (t := 0) _ ⟨RX9, TX9, 2, "PaidByTheUnborn$Work", .int, rfl, by decide, by decide, by decide, tw32, Or.inl rfl, by decide +kernel, rfl, rfl, (fun z => absurd z (by decide)), (fun _ => ⟨rfl, rfl⟩)⟩ (memB_nil _))))))
theorem fo9_13 : FldOK (9, 13, 1, 0, 1, [1, 2, 6, 7, 9, 10]) := memB_cons (t := 0) _ ⟨RX0, TX0, 2, "PaidByTheUnborn$Work", .int, rfl, by decide, by decide, by decide, tw33, Or.inl rfl, by decide +kernel, rfl, rfl, (fun z => absurd z (by decide)), (fun _ => ⟨rfl, rfl⟩)⟩ (memB_cons (t := 0) _ ⟨RX1, TX1, 2, "PaidByTheUnborn$Work", .int, rfl, by decide, by decide, by decide, tw33, Or.inl rfl, by decide +kernel, rfl, rfl, (fun z => absurd z (by decide)), (fun _ => ⟨rfl, rfl⟩)⟩ (memB_cons (t := 0) _ ⟨RX5, TX5, 2, "PaidByTheUnborn$Work", .int, rfl, by decide, by decide, by decide, tw33, Or.inl rfl, by decide +kernel, rfl, rfl, (fun z => absurd z (by decide)), (fun _ => ⟨rfl, rfl⟩)⟩ (memB_cons (t := 0) _ ⟨RX6, TX6, 2, "PaidByTheUnborn$Work", .int, rfl, by decide, by decide, by decide, tw33, Or.inl rfl, by decide +kernel, rfl, rfl, (fun z => absurd z (by decide)), (fun _ => ⟨rfl, rfl⟩)⟩ (memB_cons (t := 0) _ ⟨RX8, TX8, 2, "PaidByTheUnborn$Work", .int, rfl, by decide, by decide, by decide, tw33, Or.inl rfl, by decide +kernel, rfl, rfl, (fun z => absurd z (by decide)), (fun _ => ⟨rfl, rfl⟩)⟩ (memB_cons (t := 0) _ ⟨RX9, TX9, 2, "PaidByTheUnborn$Work", .int, rfl, by decide, by decide, by decide, tw33, Or.inl rfl, by decide +kernel, rfl, rfl, (fun z => absurd z (by decide)), (fun _ => ⟨rfl, rfl⟩)⟩ (memB_nil _))))))
theorem fo10_10 : FldOK (10, 10, 0, 2, 1, [11]) := memB_cons (t := 0) _ ⟨RX10, TX10, 13, "PaidByTheUnborn", (.object "PaidByTheUnborn$Ledger"), rfl, by decide, by decide, by decide, tw34, Or.inl rfl, by decide +kernel, rfl, rfl, (fun z => absurd z (by decide)), (fun _ => ⟨rfl, rfl⟩)⟩ (memB_nil _)
theorem fo10_16 : FldOK (10, 16, 1, 2, 1, [11]) := memB_cons (t := 0) _ ⟨RX10, TX10, 13, "PaidByTheUnborn", (.object "PaidByTheUnborn$Ledger"), rfl, by decide, by decide, by decide, tw35, Or.inl rfl, by decide +kernel, rfl, rfl, (fun z => absurd z (by decide)), (fun _ => ⟨rfl, rfl⟩)⟩ (memB_nil _)
theorem fo10_19 : FldOK (10, 19, 2, 2, 1, [11]) := memB_cons (t := 0) _ ⟨RX10, TX10, 13, "PaidByTheUnborn", (.object "PaidByTheUnborn$Ledger"), rfl, by decide, by decide, by decide, tw36, Or.inl rfl, by decide +kernel, rfl, rfl, (fun z => absurd z (by decide)), (fun _ => ⟨rfl, rfl⟩)⟩ (memB_nil _)
theorem fo10_25 : FldOK (10, 25, 4, 2, 1, [11]) := memB_cons (t := 0) _ ⟨RX10, TX10, 13, "PaidByTheUnborn", (.object "PaidByTheUnborn$Past"), rfl, by decide, by decide, by decide, tw37, Or.inl rfl, by decide +kernel, rfl, rfl, (fun z => absurd z (by decide)), (fun _ => ⟨rfl, rfl⟩)⟩ (memB_nil _)
theorem fo10_32 : FldOK (10, 32, 5, 2, 1, [11]) := memB_cons (t := 0) _ ⟨RX10, TX10, 13, "PaidByTheUnborn", (.object "PaidByTheUnborn$Text"), rfl, by decide, by decide, by decide, tw38, Or.inl rfl, by decide +kernel, rfl, rfl, (fun z => absurd z (by decide)), (fun _ => ⟨rfl, rfl⟩)⟩ (memB_nil _)
theorem fo10_36 : FldOK (10, 36, 6, 2, 1, [11]) := memB_cons (t := 0) _ ⟨RX10, TX10, 13, "PaidByTheUnborn", (.array .int), rfl, by decide, by decide, by decide, tw39, Or.inl rfl, by decide +kernel, rfl, rfl, (fun z => absurd z (by decide)), (fun _ => ⟨rfl, rfl⟩)⟩ (memB_nil _)
theorem fo10_40 : FldOK (10, 40, 8, 2, 1, [11]) := memB_cons (t := 0) _ ⟨RX10, TX10, 13, "PaidByTheUnborn", (.array .int), rfl, by decide, by decide, by decide, tw40, Or.inl rfl, by decide +kernel, rfl, rfl, (fun z => absurd z (by decide)), (fun _ => ⟨rfl, rfl⟩)⟩ (memB_nil _)
theorem fo10_46 : FldOK (10, 46, 9, 2, 1, [11]) := memB_cons (t := 0) _ ⟨RX10, TX10, 13, "PaidByTheUnborn", (.object "PaidByTheUnborn$Family"), rfl, by decide, by decide, by decide, tw41, Or.inl rfl, by decide +kernel, rfl, rfl, (fun z => absurd z (by decide)), (fun _ => ⟨rfl, rfl⟩)⟩ (memB_nil _)
theorem fo10_50 : FldOK (10, 50, 10, 2, 1, [11]) := memB_cons (t := 0) _ ⟨RX10, TX10, 13, "PaidByTheUnborn", (.object "PaidByTheUnborn$Family"), rfl, by decide, by decide, by decide, tw42, Or.inl rfl, by decide +kernel, rfl, rfl, (fun z => absurd z (by decide)), (fun _ => ⟨rfl, rfl⟩)⟩ (memB_nil _)
theorem fo10_53 : FldOK (10, 53, 11, 2, 1, [11]) := memB_cons (t := 0) _ ⟨RX10, TX10, 13, "PaidByTheUnborn", (.array .int), rfl, by decide, by decide, by decide, tw43, Or.inl rfl, by decide +kernel, rfl, rfl, (fun z => absurd z (by decide)), (fun _ => ⟨rfl, rfl⟩)⟩ (memB_nil _)
theorem fo10_56 : FldOK (10, 56, 12, 2, 1, [11]) := memB_cons (t := 0) _ ⟨RX10, TX10, 13, "PaidByTheUnborn", (.array .int), rfl, by decide, by decide, by decide, tw44, Or.inl rfl, by decide +kernel, rfl, rfl, (fun z => absurd z (by decide)), (fun _ => ⟨rfl, rfl⟩)⟩ (memB_nil _)
theorem fo10_82 : FldOK (10, 82, 1, 0, 0, [8]) := memB_cons (t := 0) _ ⟨RX7, TX7, 2, "PaidByTheUnborn$Text", .int, rfl, by decide, by decide, by decide, tw45, Or.inl rfl, by decide +kernel, rfl, rfl, (fun _ => rfl), (fun z => absurd z (by decide))⟩ (memB_nil _)
theorem fo10_110 : FldOK (10, 110, 0, 0, 0, [3]) := memB_cons (t := 0) _ ⟨RX2, TX2, 7, "PaidByTheUnborn$Family", .int, rfl, by decide, by decide, by decide, tw46, Or.inl rfl, by decide +kernel, rfl, rfl, (fun _ => rfl), (fun z => absurd z (by decide))⟩ (memB_nil _)
theorem fo10_113 : FldOK (10, 113, 1, 0, 0, [3]) := memB_cons (t := 0) _ ⟨RX2, TX2, 7, "PaidByTheUnborn$Family", .int, rfl, by decide, by decide, by decide, tw47, Or.inl rfl, by decide +kernel, rfl, rfl, (fun _ => rfl), (fun z => absurd z (by decide))⟩ (memB_nil _)
theorem fo10_116 : FldOK (10, 116, 2, 0, 0, [3]) := memB_cons (t := 0) _ ⟨RX2, TX2, 7, "PaidByTheUnborn$Family", .int, rfl, by decide, by decide, by decide, tw48, Or.inl rfl, by decide +kernel, rfl, rfl, (fun _ => rfl), (fun z => absurd z (by decide))⟩ (memB_nil _)
theorem fo10_119 : FldOK (10, 119, 3, 0, 0, [3]) := memB_cons (t := 0) _ ⟨RX2, TX2, 7, "PaidByTheUnborn$Family", .int, rfl, by decide, by decide, by decide, tw49, Or.inl rfl, by decide +kernel, rfl, rfl, (fun _ => rfl), (fun z => absurd z (by decide))⟩ (memB_nil _)
theorem fo10_134 : FldOK (10, 134, 0, 0, 2, [1, 2, 6, 7, 9, 10]) := memB_cons (t := 0) _ ⟨RX0, TX0, 2, "PaidByTheUnborn$Work", .int, rfl, by decide, by decide, by decide, tw50, Or.inl rfl, by decide +kernel, rfl, rfl, (fun z => absurd z (by decide)), (fun z => absurd z (by decide))⟩ (memB_cons (t := 0) _ ⟨RX1, TX1, 2, "PaidByTheUnborn$Work", .int, rfl, by decide, by decide, by decide, tw50, Or.inl rfl, by decide +kernel, rfl, rfl, (fun z => absurd z (by decide)), (fun z => absurd z (by decide))⟩ (memB_cons (t := 0) _ ⟨RX5, TX5, 2, "PaidByTheUnborn$Work", .int, rfl, by decide, by decide, by decide, tw50, Or.inl rfl, by decide +kernel, rfl, rfl, (fun z => absurd z (by decide)), (fun z => absurd z (by decide))⟩ (memB_cons (t := 0) _ ⟨RX6, TX6, 2, "PaidByTheUnborn$Work", .int, rfl, by decide, by decide, by decide, tw50, Or.inl rfl, by decide +kernel, rfl, rfl, (fun z => absurd z (by decide)), (fun z => absurd z (by decide))⟩ (memB_cons (t := 0) _ ⟨RX8, TX8, 2, "PaidByTheUnborn$Work", .int, rfl, by decide, by decide, by decide, tw50, Or.inl rfl, by decide +kernel, rfl, rfl, (fun z => absurd z (by decide)), (fun z => absurd z (by decide))⟩ (memB_cons (t := 0) _ ⟨RX9, TX9, 2, "PaidByTheUnborn$Work", .int, rfl, by decide, by decide, by decide, tw50, Or.inl rfl, by decide +kernel, rfl, rfl, (fun z => absurd z (by decide)), (fun z => absurd z (by decide))⟩ (memB_nil _))))))
theorem fo10_137 : FldOK (10, 137, 1, 0, 2, [1, 2, 6, 7, 9, 10]) := memB_cons (t := 0) _ ⟨RX0, TX0, 2, "PaidByTheUnborn$Work", .int, rfl, by decide, by decide, by decide, tw51, Or.inl rfl, by decide +kernel, rfl, rfl, (fun z => absurd z (by decide)), (fun z => absurd z (by decide))⟩ (memB_cons (t := 0) _ ⟨RX1, TX1, 2, "PaidByTheUnborn$Work", .int, rfl, by decide, by decide, by decide, tw51, Or.inl rfl, by decide +kernel, rfl, rfl, (fun z => absurd z (by decide)), (fun z => absurd z (by decide))⟩ (memB_cons (t := 0) _ ⟨RX5, TX5, 2, "PaidByTheUnborn$Work", .int, rfl, by decide, by decide, by decide, tw51, Or.inl rfl, by decide +kernel, rfl, rfl, (fun z => absurd z (by decide)), (fun z => absurd z (by decide))⟩ (memB_cons (t := 0) _ ⟨RX6, TX6, 2, "PaidByTheUnborn$Work", .int, rfl, by decide, by decide, by decide, tw51, Or.inl rfl, by decide +kernel, rfl, rfl, (fun z => absurd z (by decide)), (fun z => absurd z (by decide))⟩ (memB_cons (t := 0) _ ⟨RX8, TX8, 2, "PaidByTheUnborn$Work", .int, rfl, by decide, by decide, by decide, tw51, Or.inl rfl, by decide +kernel, rfl, rfl, (fun z => absurd z (by decide)), (fun z => absurd z (by decide))⟩ (memB_cons (t := 0) _ ⟨RX9, TX9, 2, "PaidByTheUnborn$Work", .int, rfl, by decide, by decide, by decide, tw51, Or.inl rfl, by decide +kernel, rfl, rfl, (fun z => absurd z (by decide)), (fun z => absurd z (by decide))⟩ (memB_nil _))))))
theorem fo10_212 : FldOK (10, 212, 4, 0, 0, [4]) := memB_cons (t := 0) _ ⟨RX3, TX3, 10, "PaidByTheUnborn$Ledger", .int, rfl, by decide, by decide, by decide, tw52, Or.inl rfl, by decide +kernel, rfl, rfl, (fun _ => rfl), (fun z => absurd z (by decide))⟩ (memB_nil _)
theorem fo10_220 : FldOK (10, 220, 1, 0, 0, [4]) := memB_cons (t := 0) _ ⟨RX3, TX3, 10, "PaidByTheUnborn$Ledger", .int, rfl, by decide, by decide, by decide, tw53, Or.inl rfl, by decide +kernel, rfl, rfl, (fun _ => rfl), (fun z => absurd z (by decide))⟩ (memB_nil _)
theorem fo10_239 : FldOK (10, 239, 3, 0, 0, [4]) := memB_cons (t := 0) _ ⟨RX3, TX3, 10, "PaidByTheUnborn$Ledger", .int, rfl, by decide, by decide, by decide, tw54, Or.inl rfl, by decide +kernel, rfl, rfl, (fun _ => rfl), (fun z => absurd z (by decide))⟩ (memB_nil _)
theorem fo10_242 : FldOK (10, 242, 2, 0, 0, [4]) := memB_cons (t := 0) _ ⟨RX3, TX3, 10, "PaidByTheUnborn$Ledger", .int, rfl, by decide, by decide, by decide, tw55, Or.inl rfl, by decide +kernel, rfl, rfl, (fun _ => rfl), (fun z => absurd z (by decide))⟩ (memB_nil _)
theorem fo10_255 : FldOK (10, 255, 0, 0, 0, [4]) := memB_cons (t := 0) _ ⟨RX3, TX3, 10, "PaidByTheUnborn$Ledger", .int, rfl, by decide, by decide, by decide, tw56, Or.inl rfl, by decide +kernel, rfl, rfl, (fun _ => rfl), (fun z => absurd z (by decide))⟩ (memB_nil _)
theorem fo10_285 : FldOK (10, 285, 7, 0, 0, [11]) := memB_cons (t := 0) _ ⟨RX10, TX10, 13, "PaidByTheUnborn", .int, rfl, by decide, by decide, by decide, tw57, Or.inl rfl, by decide +kernel, rfl, rfl, (fun _ => rfl), (fun z => absurd z (by decide))⟩ (memB_nil _)
theorem fo10_298 : FldOK (10, 298, 2, 0, 0, [5]) := memB_cons (t := 0) _ ⟨RX4, TX4, 3, "PaidByTheUnborn$Past", .int, rfl, by decide, by decide, by decide, tw58, Or.inl rfl, by decide +kernel, rfl, rfl, (fun _ => rfl), (fun z => absurd z (by decide))⟩ (memB_nil _)
theorem fo10_302 : FldOK (10, 302, 5, 0, 0, [4]) := memB_cons (t := 0) _ ⟨RX3, TX3, 10, "PaidByTheUnborn$Ledger", .int, rfl, by decide, by decide, by decide, tw59, Or.inl rfl, by decide +kernel, rfl, rfl, (fun _ => rfl), (fun z => absurd z (by decide))⟩ (memB_nil _)
theorem fo10_334 : FldOK (10, 334, 4, 0, 0, [3]) := memB_cons (t := 0) _ ⟨RX2, TX2, 7, "PaidByTheUnborn$Family", .int, rfl, by decide, by decide, by decide, tw60, Or.inl rfl, by decide +kernel, rfl, rfl, (fun _ => rfl), (fun z => absurd z (by decide))⟩ (memB_nil _)
theorem fo10_371 : FldOK (10, 371, 3, 1, 0, [11]) := memB_cons (t := 0) _ ⟨RX10, TX10, 13, "PaidByTheUnborn", .boolean, rfl, by decide, by decide, by decide, tw61, Or.inl rfl, by decide +kernel, rfl, rfl, (fun _ => rfl), (fun z => absurd z (by decide))⟩ (memB_nil _)
theorem fo10_384 : FldOK (10, 384, 5, 0, 0, [3]) := memB_cons (t := 0) _ ⟨RX2, TX2, 7, "PaidByTheUnborn$Family", .int, rfl, by decide, by decide, by decide, tw62, Or.inl rfl, by decide +kernel, rfl, rfl, (fun _ => rfl), (fun z => absurd z (by decide))⟩ (memB_nil _)
theorem fo10_400 : FldOK (10, 400, 6, 0, 0, [3]) := memB_cons (t := 0) _ ⟨RX2, TX2, 7, "PaidByTheUnborn$Family", .int, rfl, by decide, by decide, by decide, tw63, Or.inl rfl, by decide +kernel, rfl, rfl, (fun _ => rfl), (fun z => absurd z (by decide))⟩ (memB_nil _)
theorem fo11_7 : FldOK (11, 7, 1, 2, 1, [12]) := memB_cons (t := 0) _ ⟨RX11, TX11, 40, "PaidByTheUnbornModel", (.array .int), rfl, by decide, by decide, by decide, tw64, Or.inl rfl, by decide +kernel, rfl, rfl, (fun z => absurd z (by decide)), (fun _ => ⟨rfl, rfl⟩)⟩ (memB_nil _)
theorem fo11_13 : FldOK (11, 13, 2, 2, 1, [12]) := memB_cons (t := 0) _ ⟨RX11, TX11, 40, "PaidByTheUnbornModel", (.array .int), rfl, by decide, by decide, by decide, tw65, Or.inl rfl, by decide +kernel, rfl, rfl, (fun z => absurd z (by decide)), (fun _ => ⟨rfl, rfl⟩)⟩ (memB_nil _)
theorem fo11_16 : FldOK (11, 16, 3, 2, 1, [12]) := memB_cons (t := 0) _ ⟨RX11, TX11, 40, "PaidByTheUnbornModel", (.array .int), rfl, by decide, by decide, by decide, tw66, Or.inl rfl, by decide +kernel, rfl, rfl, (fun z => absurd z (by decide)), (fun _ => ⟨rfl, rfl⟩)⟩ (memB_nil _)
theorem fo11_19 : FldOK (11, 19, 4, 2, 1, [12]) := memB_cons (t := 0) _ ⟨RX11, TX11, 40, "PaidByTheUnbornModel", (.array .int), rfl, by decide, by decide, by decide, tw67, Or.inl rfl, by decide +kernel, rfl, rfl, (fun z => absurd z (by decide)), (fun _ => ⟨rfl, rfl⟩)⟩ (memB_nil _)
theorem fo11_22 : FldOK (11, 22, 5, 0, 0, [12]) := memB_cons (t := 0) _ ⟨RX11, TX11, 40, "PaidByTheUnbornModel", .int, rfl, by decide, by decide, by decide, tw68, Or.inl rfl, by decide +kernel, rfl, rfl, (fun _ => rfl), (fun z => absurd z (by decide))⟩ (memB_nil _)
theorem fo11_26 : FldOK (11, 26, 8, 2, 1, [12]) := memB_cons (t := 0) _ ⟨RX11, TX11, 40, "PaidByTheUnbornModel", (.array .int), rfl, by decide, by decide, by decide, tw69, Or.inl rfl, by decide +kernel, rfl, rfl, (fun z => absurd z (by decide)), (fun _ => ⟨rfl, rfl⟩)⟩ (memB_nil _)
theorem fo11_29 : FldOK (11, 29, 9, 2, 1, [12]) := memB_cons (t := 0) _ ⟨RX11, TX11, 40, "PaidByTheUnbornModel", (.array .int), rfl, by decide, by decide, by decide, tw70, Or.inl rfl, by decide +kernel, rfl, rfl, (fun z => absurd z (by decide)), (fun _ => ⟨rfl, rfl⟩)⟩ (memB_nil _)
theorem fo11_32 : FldOK (11, 32, 10, 2, 1, [12]) := memB_cons (t := 0) _ ⟨RX11, TX11, 40, "PaidByTheUnbornModel", (.array .int), rfl, by decide, by decide, by decide, tw71, Or.inl rfl, by decide +kernel, rfl, rfl, (fun z => absurd z (by decide)), (fun _ => ⟨rfl, rfl⟩)⟩ (memB_nil _)
theorem fo11_35 : FldOK (11, 35, 11, 2, 1, [12]) := memB_cons (t := 0) _ ⟨RX11, TX11, 40, "PaidByTheUnbornModel", (.array .int), rfl, by decide, by decide, by decide, tw72, Or.inl rfl, by decide +kernel, rfl, rfl, (fun z => absurd z (by decide)), (fun _ => ⟨rfl, rfl⟩)⟩ (memB_nil _)
theorem fo11_38 : FldOK (11, 38, 13, 2, 1, [12]) := memB_cons (t := 0) _ ⟨RX11, TX11, 40, "PaidByTheUnbornModel", (.array .int), rfl, by decide, by decide, by decide, tw73, Or.inl rfl, by decide +kernel, rfl, rfl, (fun z => absurd z (by decide)), (fun _ => ⟨rfl, rfl⟩)⟩ (memB_nil _)
theorem fo11_41 : FldOK (11, 41, 14, 2, 1, [12]) := memB_cons (t := 0) _ ⟨RX11, TX11, 40, "PaidByTheUnbornModel", (.array .int), rfl, by decide, by decide, by decide, tw74, Or.inl rfl, by decide +kernel, rfl, rfl, (fun z => absurd z (by decide)), (fun _ => ⟨rfl, rfl⟩)⟩ (memB_nil _)
theorem fo11_44 : FldOK (11, 44, 15, 2, 1, [12]) := memB_cons (t := 0) _ ⟨RX11, TX11, 40, "PaidByTheUnbornModel", (.array .int), rfl, by decide, by decide, by decide, tw75, Or.inl rfl, by decide +kernel, rfl, rfl, (fun z => absurd z (by decide)), (fun _ => ⟨rfl, rfl⟩)⟩ (memB_nil _)
theorem fo11_47 : FldOK (11, 47, 17, 2, 1, [12]) := memB_cons (t := 0) _ ⟨RX11, TX11, 40, "PaidByTheUnbornModel", (.array .int), rfl, by decide, by decide, by decide, tw76, Or.inl rfl, by decide +kernel, rfl, rfl, (fun z => absurd z (by decide)), (fun _ => ⟨rfl, rfl⟩)⟩ (memB_nil _)
theorem fo11_50 : FldOK (11, 50, 18, 2, 1, [12]) := memB_cons (t := 0) _ ⟨RX11, TX11, 40, "PaidByTheUnbornModel", (.array .int), rfl, by decide, by decide, by decide, tw77, Or.inl rfl, by decide +kernel, rfl, rfl, (fun z => absurd z (by decide)), (fun _ => ⟨rfl, rfl⟩)⟩ (memB_nil _)
theorem fo11_53 : FldOK (11, 53, 23, 2, 1, [12]) := memB_cons (t := 0) _ ⟨RX11, TX11, 40, "PaidByTheUnbornModel", (.array .int), rfl, by decide, by decide, by decide, tw78, Or.inl rfl, by decide +kernel, rfl, rfl, (fun z => absurd z (by decide)), (fun _ => ⟨rfl, rfl⟩)⟩ (memB_nil _)
theorem fo11_56 : FldOK (11, 56, 24, 2, 1, [12]) := memB_cons (t := 0) _ ⟨RX11, TX11, 40, "PaidByTheUnbornModel", (.array .int), rfl, by decide, by decide, by decide, tw79, Or.inl rfl, by decide +kernel, rfl, rfl, (fun z => absurd z (by decide)), (fun _ => ⟨rfl, rfl⟩)⟩ (memB_nil _)
theorem fo11_59 : FldOK (11, 59, 25, 2, 1, [12]) := memB_cons (t := 0) _ ⟨RX11, TX11, 40, "PaidByTheUnbornModel", (.array .int), rfl, by decide, by decide, by decide, tw80, Or.inl rfl, by decide +kernel, rfl, rfl, (fun z => absurd z (by decide)), (fun _ => ⟨rfl, rfl⟩)⟩ (memB_nil _)
theorem fo11_62 : FldOK (11, 62, 26, 2, 1, [12]) := memB_cons (t := 0) _ ⟨RX11, TX11, 40, "PaidByTheUnbornModel", (.array .int), rfl, by decide, by decide, by decide, tw81, Or.inl rfl, by decide +kernel, rfl, rfl, (fun z => absurd z (by decide)), (fun _ => ⟨rfl, rfl⟩)⟩ (memB_nil _)
theorem fo11_65 : FldOK (11, 65, 27, 2, 1, [12]) := memB_cons (t := 0) _ ⟨RX11, TX11, 40, "PaidByTheUnbornModel", (.array .int), rfl, by decide, by decide, by decide, tw82, Or.inl rfl, by decide +kernel, rfl, rfl, (fun z => absurd z (by decide)), (fun _ => ⟨rfl, rfl⟩)⟩ (memB_nil _)
theorem fo11_68 : FldOK (11, 68, 32, 2, 1, [12]) := memB_cons (t := 0) _ ⟨RX11, TX11, 40, "PaidByTheUnbornModel", (.array .int), rfl, by decide, by decide, by decide, tw83, Or.inl rfl, by decide +kernel, rfl, rfl, (fun z => absurd z (by decide)), (fun _ => ⟨rfl, rfl⟩)⟩ (memB_nil _)
theorem fo11_71 : FldOK (11, 71, 33, 2, 1, [12]) := memB_cons (t := 0) _ ⟨RX11, TX11, 40, "PaidByTheUnbornModel", (.array .int), rfl, by decide, by decide, by decide, tw84, Or.inl rfl, by decide +kernel, rfl, rfl, (fun z => absurd z (by decide)), (fun _ => ⟨rfl, rfl⟩)⟩ (memB_nil _)
theorem fo11_74 : FldOK (11, 74, 35, 2, 1, [12]) := memB_cons (t := 0) _ ⟨RX11, TX11, 40, "PaidByTheUnbornModel", (.array .int), rfl, by decide, by decide, by decide, tw85, Or.inl rfl, by decide +kernel, rfl, rfl, (fun z => absurd z (by decide)), (fun _ => ⟨rfl, rfl⟩)⟩ (memB_nil _)
theorem fo11_77 : FldOK (11, 77, 37, 2, 1, [12]) := memB_cons (t := 0) _ ⟨RX11, TX11, 40, "PaidByTheUnbornModel", (.array .int), rfl, by decide, by decide, by decide, tw86, Or.inl rfl, by decide +kernel, rfl, rfl, (fun z => absurd z (by decide)), (fun _ => ⟨rfl, rfl⟩)⟩ (memB_nil _)
theorem fo11_80 : FldOK (11, 80, 38, 2, 1, [12]) := memB_cons (t := 0) _ ⟨RX11, TX11, 40, "PaidByTheUnbornModel", (.array .int), rfl, by decide, by decide, by decide, tw87, Or.inl rfl, by decide +kernel, rfl, rfl, (fun z => absurd z (by decide)), (fun _ => ⟨rfl, rfl⟩)⟩ (memB_nil _)
theorem fo11_83 : FldOK (11, 83, 12, 0, 0, [12]) := memB_cons (t := 0) _ ⟨RX11, TX11, 40, "PaidByTheUnbornModel", .int, rfl, by decide, by decide, by decide, tw88, Or.inl rfl, by decide +kernel, rfl, rfl, (fun _ => rfl), (fun z => absurd z (by decide))⟩ (memB_nil _)
theorem fo11_86 : FldOK (11, 86, 0, 0, 0, [12]) := memB_cons (t := 0) _ ⟨RX11, TX11, 40, "PaidByTheUnbornModel", .int, rfl, by decide, by decide, by decide, tw89, Or.inl rfl, by decide +kernel, rfl, rfl, (fun _ => rfl), (fun z => absurd z (by decide))⟩ (memB_nil _)
theorem fo11_93 : FldOK (11, 93, 7, 0, 0, [12]) := memB_cons (t := 0) _ ⟨RX11, TX11, 40, "PaidByTheUnbornModel", .int, rfl, by decide, by decide, by decide, tw90, Or.inl rfl, by decide +kernel, rfl, rfl, (fun _ => rfl), (fun z => absurd z (by decide))⟩ (memB_nil _)
theorem fo11_122 : FldOK (11, 122, 6, 0, 0, [12]) := memB_cons (t := 0) _ ⟨RX11, TX11, 40, "PaidByTheUnbornModel", .int, rfl, by decide, by decide, by decide, tw91, Or.inl rfl, by decide +kernel, rfl, rfl, (fun _ => rfl), (fun z => absurd z (by decide))⟩ (memB_nil _)
theorem fo11_128 : FldOK (11, 128, 16, 0, 0, [12]) := memB_cons (t := 0) _ ⟨RX11, TX11, 40, "PaidByTheUnbornModel", .int, rfl, by decide, by decide, by decide, tw92, Or.inl rfl, by decide +kernel, rfl, rfl, (fun _ => rfl), (fun z => absurd z (by decide))⟩ (memB_nil _)
theorem fo11_137 : FldOK (11, 137, 19, 0, 0, [12]) := memB_cons (t := 0) _ ⟨RX11, TX11, 40, "PaidByTheUnbornModel", .int, rfl, by decide, by decide, by decide, tw93, Or.inl rfl, by decide +kernel, rfl, rfl, (fun _ => rfl), (fun z => absurd z (by decide))⟩ (memB_nil _)
theorem fo11_140 : FldOK (11, 140, 20, 0, 0, [12]) := memB_cons (t := 0) _ ⟨RX11, TX11, 40, "PaidByTheUnbornModel", .int, rfl, by decide, by decide, by decide, tw94, Or.inl rfl, by decide +kernel, rfl, rfl, (fun _ => rfl), (fun z => absurd z (by decide))⟩ (memB_nil _)
theorem fo11_143 : FldOK (11, 143, 21, 1, 0, [12]) := memB_cons (t := 0) _ ⟨RX11, TX11, 40, "PaidByTheUnbornModel", .boolean, rfl, by decide, by decide, by decide, tw95, Or.inl rfl, by decide +kernel, rfl, rfl, (fun _ => rfl), (fun z => absurd z (by decide))⟩ (memB_nil _)
theorem fo11_157 : FldOK (11, 157, 22, 0, 0, [12]) := memB_cons (t := 0) _ ⟨RX11, TX11, 40, "PaidByTheUnbornModel", .int, rfl, by decide, by decide, by decide, tw96, Or.inl rfl, by decide +kernel, rfl, rfl, (fun _ => rfl), (fun z => absurd z (by decide))⟩ (memB_nil _)
theorem fo11_203 : FldOK (11, 203, 34, 0, 0, [12]) := memB_cons (t := 0) _ ⟨RX11, TX11, 40, "PaidByTheUnbornModel", .int, rfl, by decide, by decide, by decide, tw97, Or.inl rfl, by decide +kernel, rfl, rfl, (fun _ => rfl), (fun z => absurd z (by decide))⟩ (memB_nil _)
theorem fo11_206 : FldOK (11, 206, 30, 1, 0, [12]) := memB_cons (t := 0) _ ⟨RX11, TX11, 40, "PaidByTheUnbornModel", .boolean, rfl, by decide, by decide, by decide, tw98, Or.inl rfl, by decide +kernel, rfl, rfl, (fun _ => rfl), (fun z => absurd z (by decide))⟩ (memB_nil _)
theorem fo11_209 : FldOK (11, 209, 31, 2, 0, [12]) := memB_cons (t := 0) _ ⟨RX11, TX11, 40, "PaidByTheUnbornModel", (.array .int), rfl, by decide, by decide, by decide, tw99, Or.inl rfl, by decide +kernel, rfl, rfl, (fun _ => rfl), (fun z => absurd z (by decide))⟩ (memB_nil _)
theorem fo11_212 : FldOK (11, 212, 29, 0, 0, [12]) := memB_cons (t := 0) _ ⟨RX11, TX11, 40, "PaidByTheUnbornModel", .int, rfl, by decide, by decide, by decide, tw100, Or.inl rfl, by decide +kernel, rfl, rfl, (fun _ => rfl), (fun z => absurd z (by decide))⟩ (memB_nil _)
theorem fo11_222 : FldOK (11, 222, 28, 1, 0, [12]) := memB_cons (t := 0) _ ⟨RX11, TX11, 40, "PaidByTheUnbornModel", .boolean, rfl, by decide, by decide, by decide, tw101, Or.inl rfl, by decide +kernel, rfl, rfl, (fun _ => rfl), (fun z => absurd z (by decide))⟩ (memB_nil _)
theorem fo11_295 : FldOK (11, 295, 36, 0, 0, [12]) := memB_cons (t := 0) _ ⟨RX11, TX11, 40, "PaidByTheUnbornModel", .int, rfl, by decide, by decide, by decide, tw102, Or.inl rfl, by decide +kernel, rfl, rfl, (fun _ => rfl), (fun z => absurd z (by decide))⟩ (memB_nil _)
theorem fo11_304 : FldOK (11, 304, 39, 0, 0, [12]) := memB_cons (t := 0) _ ⟨RX11, TX11, 40, "PaidByTheUnbornModel", .int, rfl, by decide, by decide, by decide, tw103, Or.inl rfl, by decide +kernel, rfl, rfl, (fun _ => rfl), (fun z => absurd z (by decide))⟩ (memB_nil _)
set_option maxRecDepth 100000 in
theorem fld_ok : ∀ q ∈ fldL, FldOK q := List.forall_mem_cons.mpr ⟨fo0_11, List.forall_mem_cons.mpr ⟨fo2_9, List.forall_mem_cons.mpr ⟨fo2_15, List.forall_mem_cons.mpr ⟨fo2_18, List.forall_mem_cons.mpr ⟨fo2_21, List.forall_mem_cons.mpr ⟨fo2_24, List.forall_mem_cons.mpr ⟨fo2_27, List.forall_mem_cons.mpr ⟨fo2_30, List.forall_mem_cons.mpr ⟨fo3_9, List.forall_mem_cons.mpr ⟨fo3_17, List.forall_mem_cons.mpr ⟨fo3_24, List.forall_mem_cons.mpr ⟨fo3_28, List.forall_mem_cons.mpr ⟨fo3_32, List.forall_mem_cons.mpr ⟨fo3_35, List.forall_mem_cons.mpr ⟨fo3_38, List.forall_mem_cons.mpr ⟨fo3_41, List.forall_mem_cons.mpr ⟨fo3_44, List.forall_mem_cons.mpr ⟨fo3_47, List.forall_mem_cons.mpr ⟨fo3_123, List.forall_mem_cons.mpr ⟨fo3_129, List.forall_mem_cons.mpr ⟨fo3_132, List.forall_mem_cons.mpr ⟨fo3_150, List.forall_mem_cons.mpr ⟨fo4_11, List.forall_mem_cons.mpr ⟨fo4_18, List.forall_mem_cons.mpr ⟨fo4_30, List.forall_mem_cons.mpr ⟨fo5_11, List.forall_mem_cons.mpr ⟨fo6_11, List.forall_mem_cons.mpr ⟨fo7_9, List.forall_mem_cons.mpr ⟨fo7_15, List.forall_mem_cons.mpr ⟨fo9_7, List.forall_mem_cons.mpr ⟨fo9_13, List.forall_mem_cons.mpr ⟨fo10_10, List.forall_mem_cons.mpr ⟨fo10_16, List.forall_mem_cons.mpr ⟨fo10_19, List.forall_mem_cons.mpr ⟨fo10_25, List.forall_mem_cons.mpr ⟨fo10_32, List.forall_mem_cons.mpr ⟨fo10_36, List.forall_mem_cons.mpr ⟨fo10_40, List.forall_mem_cons.mpr ⟨fo10_46, List.forall_mem_cons.mpr ⟨fo10_50, List.forall_mem_cons.mpr ⟨fo10_53, List.forall_mem_cons.mpr ⟨fo10_56, List.forall_mem_cons.mpr ⟨fo10_82, List.forall_mem_cons.mpr ⟨fo10_110, List.forall_mem_cons.mpr ⟨fo10_113, List.forall_mem_cons.mpr ⟨fo10_116, List.forall_mem_cons.mpr ⟨fo10_119, List.forall_mem_cons.mpr ⟨fo10_134, List.forall_mem_cons.mpr ⟨fo10_137, List.forall_mem_cons.mpr ⟨fo10_212, List.forall_mem_cons.mpr ⟨fo10_220, List.forall_mem_cons.mpr ⟨fo10_239, List.forall_mem_cons.mpr ⟨fo10_242, List.forall_mem_cons.mpr ⟨fo10_255, List.forall_mem_cons.mpr ⟨fo10_285, List.forall_mem_cons.mpr ⟨fo10_298, List.forall_mem_cons.mpr ⟨fo10_302, List.forall_mem_cons.mpr ⟨fo10_334, List.forall_mem_cons.mpr ⟨fo10_371, List.forall_mem_cons.mpr ⟨fo10_384, List.forall_mem_cons.mpr ⟨fo10_400, List.forall_mem_cons.mpr ⟨fo11_7, List.forall_mem_cons.mpr ⟨fo11_13, List.forall_mem_cons.mpr ⟨fo11_16, List.forall_mem_cons.mpr ⟨fo11_19, List.forall_mem_cons.mpr ⟨fo11_22, List.forall_mem_cons.mpr ⟨fo11_26, List.forall_mem_cons.mpr ⟨fo11_29, List.forall_mem_cons.mpr ⟨fo11_32, List.forall_mem_cons.mpr ⟨fo11_35, List.forall_mem_cons.mpr ⟨fo11_38, List.forall_mem_cons.mpr ⟨fo11_41, List.forall_mem_cons.mpr ⟨fo11_44, List.forall_mem_cons.mpr ⟨fo11_47, List.forall_mem_cons.mpr ⟨fo11_50, List.forall_mem_cons.mpr ⟨fo11_53, List.forall_mem_cons.mpr ⟨fo11_56, List.forall_mem_cons.mpr ⟨fo11_59, List.forall_mem_cons.mpr ⟨fo11_62, List.forall_mem_cons.mpr ⟨fo11_65, List.forall_mem_cons.mpr ⟨fo11_68, List.forall_mem_cons.mpr ⟨fo11_71, List.forall_mem_cons.mpr ⟨fo11_74, List.forall_mem_cons.mpr ⟨fo11_77, List.forall_mem_cons.mpr ⟨fo11_80, List.forall_mem_cons.mpr ⟨fo11_83, List.forall_mem_cons.mpr ⟨fo11_86, List.forall_mem_cons.mpr ⟨fo11_93, List.forall_mem_cons.mpr ⟨fo11_122, List.forall_mem_cons.mpr ⟨fo11_128, List.forall_mem_cons.mpr ⟨fo11_137, List.forall_mem_cons.mpr ⟨fo11_140, List.forall_mem_cons.mpr ⟨fo11_143, List.forall_mem_cons.mpr ⟨fo11_157, List.forall_mem_cons.mpr ⟨fo11_203, List.forall_mem_cons.mpr ⟨fo11_206, List.forall_mem_cons.mpr ⟨fo11_209, List.forall_mem_cons.mpr ⟨fo11_212, List.forall_mem_cons.mpr ⟨fo11_222, List.forall_mem_cons.mpr ⟨fo11_295, List.forall_mem_cons.mpr ⟨fo11_304, (fun _ z => by cases z)⟩⟩⟩⟩⟩⟩⟩⟩⟩⟩⟩⟩⟩⟩⟩⟩⟩⟩⟩⟩⟩⟩⟩⟩⟩⟩⟩⟩⟩⟩⟩⟩⟩⟩⟩⟩⟩⟩⟩⟩⟩⟩⟩⟩⟩⟩⟩⟩⟩⟩⟩⟩⟩⟩⟩⟩⟩⟩⟩⟩⟩⟩⟩⟩⟩⟩⟩⟩⟩⟩⟩⟩⟩⟩⟩⟩⟩⟩⟩⟩⟩⟩⟩⟩⟩⟩⟩⟩⟩⟩⟩⟩⟩⟩⟩⟩⟩⟩⟩⟩⟩
theorem co0_1 : CalOK (0, 1, 1, 2, [(0, 87)]) := ⟨0, 87, rfl, tw105, tw106, tw104, rfl, rfl, ⟨by decide, by decide⟩, by decide +kernel⟩
theorem co0_7 : CalOK (0, 7, 3, 0, [(0, 89)]) := ⟨0, 89, rfl, tw107, tw108, tw109, tw110, tw104, by decide, by decide +kernel⟩
theorem co0_17 : CalOK (0, 17, 0, 0, [(4, 39)]) := find1_cons (a := 4) (m := 39) (VOK 0 17 0) ⟨⟨by decide, by decide⟩, tw111, tw112, ⟨by decide, by decide⟩, Or.inl ⟨rfl, by decide +kernel, tw114, tw113⟩⟩ (find1_nil _)
theorem co0_22 : CalOK (0, 22, 0, 0, [(1, 2), (2, 7), (7, 69)]) := find1_cons (a := 1) (m := 2) (VOK 0 22 0) ⟨⟨by decide, by decide⟩, tw119, tw125, ⟨by decide, by decide⟩, Or.inl ⟨rfl, by decide +kernel, tw117, tw126⟩⟩ (find1_cons (a := 2) (m := 7) (VOK 0 22 0) ⟨⟨by decide, by decide⟩, tw122, tw123, ⟨by decide, by decide⟩, Or.inr ⟨⟨"PaidByTheUnborn$Bridge", "due", "()I"⟩, "PaidByTheUnborn$Bridge", cX0_due, 1, (some .int), tw117, tw118, tw119, tw120, tw124, ⟨by decide, by decide⟩, by decide +kernel⟩⟩ (find1_cons (a := 7) (m := 69) (VOK 0 22 0) ⟨⟨by decide, by decide⟩, tw115, tw116, ⟨by decide, by decide⟩, Or.inr ⟨⟨"PaidByTheUnborn$Bridge", "due", "()I"⟩, "PaidByTheUnborn$Bridge", cX0_due, 1, (some .int), tw117, tw118, tw119, tw120, tw121, ⟨by decide, by decide⟩, by decide +kernel⟩⟩ (find1_nil _)))
theorem co0_23 : CalOK (0, 23, 0, 1, [(1, 3), (2, 8), (7, 3)]) := find1_cons (a := 1) (m := 3) (VOK 0 23 1) ⟨⟨by decide, by decide⟩, tw127, tw125, ⟨by decide, by decide⟩, Or.inl ⟨rfl, by decide +kernel, tw128, tw134⟩⟩ (find1_cons (a := 2) (m := 8) (VOK 0 23 1) ⟨⟨by decide, by decide⟩, tw132, tw123, ⟨by decide, by decide⟩, Or.inr ⟨⟨"PaidByTheUnborn$Bridge", "sharers", "(LPaidByTheUnborn$Ledger;)I"⟩, "PaidByTheUnborn$Bridge", cX0_sharers, 2, (some .int), tw128, tw129, tw127, tw130, tw133, ⟨by decide, by decide⟩, by decide +kernel⟩⟩ (find1_cons (a := 7) (m := 3) (VOK 0 23 1) ⟨⟨by decide, by decide⟩, tw127, tw125, ⟨by decide, by decide⟩, Or.inr ⟨⟨"PaidByTheUnborn$Bridge", "sharers", "(LPaidByTheUnborn$Ledger;)I"⟩, "PaidByTheUnborn$Bridge", cX0_sharers, 2, (some .int), tw128, tw129, tw127, tw130, tw131, ⟨by decide, by decide⟩, by decide +kernel⟩⟩ (find1_nil _)))
theorem co0_27 : CalOK (0, 27, 0, 2, [(4, 48)]) := find1_cons (a := 4) (m := 48) (VOK 0 27 2) ⟨⟨by decide, by decide⟩, tw135, tw112, ⟨by decide, by decide⟩, Or.inl ⟨rfl, by decide +kernel, tw137, tw136⟩⟩ (find1_nil _)
theorem co1_1 : CalOK (1, 1, 1, 2, [(0, 0)]) := ⟨0, 0, rfl, tw138, tw139, tw125, rfl, rfl, ⟨by decide, by decide⟩, by decide +kernel⟩
theorem co1_7 : CalOK (1, 7, 3, 0, [(0, 2)]) := ⟨0, 2, rfl, tw140, tw118, tw141, tw119, tw125, by decide, by decide +kernel⟩
theorem co1_11 : CalOK (1, 11, 0, 0, [(4, 40)]) := find1_cons (a := 4) (m := 40) (VOK 1 11 0) ⟨⟨by decide, by decide⟩, tw142, tw112, ⟨by decide, by decide⟩, Or.inl ⟨rfl, by decide +kernel, tw144, tw143⟩⟩ (find1_nil _)
theorem co1_16 : CalOK (1, 16, 0, 0, [(4, 39)]) := find1_cons (a := 4) (m := 39) (VOK 1 16 0) ⟨⟨by decide, by decide⟩, tw111, tw112, ⟨by decide, by decide⟩, Or.inl ⟨rfl, by decide +kernel, tw145, tw113⟩⟩ (find1_nil _)
theorem co2_3 : CalOK (2, 3, 6, 0, []) := ⟨tw146, tw147, tw148⟩
theorem co2_33 : CalOK (2, 33, 5, 2, [(0, 173)]) := ⟨0, 173, "PaidByTheUnborn", rfl, by decide +kernel, tw150, tw149, ⟨by decide, by decide⟩, by decide +kernel⟩
theorem co2_38 : CalOK (2, 38, 0, 1, [(3, 14)]) := find1_cons (a := 3) (m := 14) (VOK 2 38 1) ⟨⟨by decide, by decide⟩, tw151, tw152, ⟨by decide, by decide⟩, Or.inl ⟨rfl, by decide +kernel, tw154, tw153⟩⟩ (find1_nil _)
theorem co2_42 : CalOK (2, 42, 0, 1, [(3, 15)]) := find1_cons (a := 3) (m := 15) (VOK 2 42 1) ⟨⟨by decide, by decide⟩, tw155, tw152, ⟨by decide, by decide⟩, Or.inl ⟨rfl, by decide +kernel, tw157, tw156⟩⟩ (find1_nil _)
theorem co2_45 : CalOK (2, 45, 0, 1, [(3, 16)]) := find1_cons (a := 3) (m := 16) (VOK 2 45 1) ⟨⟨by decide, by decide⟩, tw158, tw152, ⟨by decide, by decide⟩, Or.inl ⟨rfl, by decide +kernel, tw160, tw159⟩⟩ (find1_nil _)
theorem co2_48 : CalOK (2, 48, 0, 0, [(3, 17)]) := find1_cons (a := 3) (m := 17) (VOK 2 48 0) ⟨⟨by decide, by decide⟩, tw161, tw152, ⟨by decide, by decide⟩, Or.inl ⟨rfl, by decide +kernel, tw163, tw162⟩⟩ (find1_nil _)
theorem co2_51 : CalOK (2, 51, 0, 2, [(3, 18)]) := find1_cons (a := 3) (m := 18) (VOK 2 51 2) ⟨⟨by decide, by decide⟩, tw164, tw152, ⟨by decide, by decide⟩, Or.inl ⟨rfl, by decide +kernel, tw166, tw165⟩⟩ (find1_nil _)
theorem co3_3 : CalOK (3, 3, 6, 0, []) := ⟨tw167, tw147, tw148⟩
theorem co3_21 : CalOK (3, 21, 2, 0, [(0, 9)]) := ⟨0, 9, "PaidByTheUnborn", rfl, by decide +kernel, tw168, tw152, rfl, rfl, ⟨by decide, by decide⟩, by decide +kernel⟩
theorem co3_50 : CalOK (3, 50, 0, 1, [(4, 22)]) := find1_cons (a := 4) (m := 22) (VOK 3 50 1) ⟨⟨by decide, by decide⟩, tw169, tw112, ⟨by decide, by decide⟩, Or.inl ⟨rfl, by decide +kernel, tw171, tw170⟩⟩ (find1_nil _)
theorem co3_54 : CalOK (3, 54, 0, 1, [(3, 11)]) := find1_cons (a := 3) (m := 11) (VOK 3 54 1) ⟨⟨by decide, by decide⟩, tw172, tw152, ⟨by decide, by decide⟩, Or.inl ⟨rfl, by decide +kernel, tw174, tw173⟩⟩ (find1_nil _)
theorem co3_58 : CalOK (3, 58, 0, 1, [(4, 23)]) := find1_cons (a := 4) (m := 23) (VOK 3 58 1) ⟨⟨by decide, by decide⟩, tw175, tw112, ⟨by decide, by decide⟩, Or.inl ⟨rfl, by decide +kernel, tw177, tw176⟩⟩ (find1_nil _)
theorem co3_62 : CalOK (3, 62, 0, 1, [(4, 24)]) := find1_cons (a := 4) (m := 24) (VOK 3 62 1) ⟨⟨by decide, by decide⟩, tw178, tw112, ⟨by decide, by decide⟩, Or.inl ⟨rfl, by decide +kernel, tw180, tw179⟩⟩ (find1_nil _)
theorem co3_66 : CalOK (3, 66, 0, 1, [(4, 26)]) := find1_cons (a := 4) (m := 26) (VOK 3 66 1) ⟨⟨by decide, by decide⟩, tw181, tw112, ⟨by decide, by decide⟩, Or.inl ⟨rfl, by decide +kernel, tw183, tw182⟩⟩ (find1_nil _)
theorem co3_69 : CalOK (3, 69, 0, 3, [(3, 10)]) := find1_cons (a := 3) (m := 10) (VOK 3 69 3) ⟨⟨by decide, by decide⟩, tw184, tw152, ⟨by decide, by decide⟩, Or.inl ⟨rfl, by decide +kernel, tw186, tw185⟩⟩ (find1_nil _)
theorem co3_73 : CalOK (3, 73, 5, 2, [(0, 146)]) := ⟨0, 146, "PaidByTheUnborn", rfl, by decide +kernel, tw187, tw149, ⟨by decide, by decide⟩, by decide +kernel⟩
theorem co3_77 : CalOK (3, 77, 4, 3, [(0, 31)]) := ⟨0, 31, rfl, tw188, tw189, tw112, ⟨by decide, by decide⟩, by decide +kernel⟩
theorem co3_83 : CalOK (3, 83, 1, 2, [(0, 0)]) := ⟨0, 0, rfl, tw190, tw139, tw125, rfl, rfl, ⟨by decide, by decide⟩, by decide +kernel⟩
theorem co3_88 : CalOK (3, 88, 1, 2, [(0, 82)]) := ⟨0, 82, rfl, tw192, tw193, tw191, rfl, rfl, ⟨by decide, by decide⟩, by decide +kernel⟩
theorem co3_91 : CalOK (3, 91, 1, 2, [(0, 5)]) := ⟨0, 5, rfl, tw194, tw195, tw123, rfl, rfl, ⟨by decide, by decide⟩, by decide +kernel⟩
theorem co3_94 : CalOK (3, 94, 1, 2, [(0, 63)]) := ⟨0, 63, rfl, tw197, tw198, tw196, rfl, rfl, ⟨by decide, by decide⟩, by decide +kernel⟩
theorem co3_97 : CalOK (3, 97, 1, 2, [(0, 67)]) := ⟨0, 67, rfl, tw199, tw200, tw116, rfl, rfl, ⟨by decide, by decide⟩, by decide +kernel⟩
theorem co3_98 : CalOK (3, 98, 1, 2, [(0, 87)]) := ⟨0, 87, rfl, tw201, tw106, tw104, rfl, rfl, ⟨by decide, by decide⟩, by decide +kernel⟩
theorem co3_99 : CalOK (3, 99, 0, 1, [(4, 25)]) := find1_cons (a := 4) (m := 25) (VOK 3 99 1) ⟨⟨by decide, by decide⟩, tw202, tw112, ⟨by decide, by decide⟩, Or.inl ⟨rfl, by decide +kernel, tw204, tw203⟩⟩ (find1_nil _)
theorem co3_103 : CalOK (3, 103, 0, 1, [(1, 4), (2, 4), (6, 86), (7, 4), (9, 86), (10, 90)]) := find1_cons (a := 1) (m := 4) (VOK 3 103 1) ⟨⟨by decide, by decide⟩, tw212, tw125, ⟨by decide, by decide⟩, Or.inr ⟨⟨"PaidByTheUnborn$Work", "shareOut", "(LPaidByTheUnborn$Ledger;)V"⟩, "PaidByTheUnborn$Work", cX9_shareOut, 2, none, tw207, tw209, tw205, tw210, tw216, ⟨by decide, by decide⟩, by decide +kernel⟩⟩ (find1_cons (a := 2) (m := 4) (VOK 3 103 1) ⟨⟨by decide, by decide⟩, tw212, tw125, ⟨by decide, by decide⟩, Or.inr ⟨⟨"PaidByTheUnborn$Work", "shareOut", "(LPaidByTheUnborn$Ledger;)V"⟩, "PaidByTheUnborn$Work", cX9_shareOut, 2, none, tw207, tw209, tw205, tw210, tw215, ⟨by decide, by decide⟩, by decide +kernel⟩⟩ (find1_cons (a := 6) (m := 86) (VOK 3 103 1) ⟨⟨by decide, by decide⟩, tw208, tw191, ⟨by decide, by decide⟩, Or.inr ⟨⟨"PaidByTheUnborn$Work", "shareOut", "(LPaidByTheUnborn$Ledger;)V"⟩, "PaidByTheUnborn$Work", cX9_shareOut, 2, none, tw207, tw209, tw205, tw210, tw214, ⟨by decide, by decide⟩, by decide +kernel⟩⟩ (find1_cons (a := 7) (m := 4) (VOK 3 103 1) ⟨⟨by decide, by decide⟩, tw212, tw125, ⟨by decide, by decide⟩, Or.inr ⟨⟨"PaidByTheUnborn$Work", "shareOut", "(LPaidByTheUnborn$Ledger;)V"⟩, "PaidByTheUnborn$Work", cX9_shareOut, 2, none, tw207, tw209, tw205, tw210, tw213, ⟨by decide, by decide⟩, by decide +kernel⟩⟩ (find1_cons (a := 9) (m := 86) (VOK 3 103 1) ⟨⟨by decide, by decide⟩, tw208, tw191, ⟨by decide, by decide⟩, Or.inr ⟨⟨"PaidByTheUnborn$Work", "shareOut", "(LPaidByTheUnborn$Ledger;)V"⟩, "PaidByTheUnborn$Work", cX9_shareOut, 2, none, tw207, tw209, tw205, tw210, tw211, ⟨by decide, by decide⟩, by decide +kernel⟩⟩ (find1_cons (a := 10) (m := 90) (VOK 3 103 1) ⟨⟨by decide, by decide⟩, tw205, tw104, ⟨by decide, by decide⟩, Or.inl ⟨rfl, by decide +kernel, tw207, tw206⟩⟩ (find1_nil _))))))
theorem co3_107 : CalOK (3, 107, 0, 0, [(4, 52)]) := find1_cons (a := 4) (m := 52) (VOK 3 107 0) ⟨⟨by decide, by decide⟩, tw217, tw112, ⟨by decide, by decide⟩, Or.inl ⟨rfl, by decide +kernel, tw219, tw218⟩⟩ (find1_nil _)
theorem co3_110 : CalOK (3, 110, 0, 0, [(4, 44)]) := find1_cons (a := 4) (m := 44) (VOK 3 110 0) ⟨⟨by decide, by decide⟩, tw220, tw112, ⟨by decide, by decide⟩, Or.inl ⟨rfl, by decide +kernel, tw222, tw221⟩⟩ (find1_nil _)
theorem co3_114 : CalOK (3, 114, 5, 3, [(0, 144)]) := ⟨0, 144, "PaidByTheUnborn", rfl, by decide +kernel, tw223, tw149, ⟨by decide, by decide⟩, by decide +kernel⟩
theorem co3_118 : CalOK (3, 118, 0, 1, [(4, 37)]) := find1_cons (a := 4) (m := 37) (VOK 3 118 1) ⟨⟨by decide, by decide⟩, tw224, tw112, ⟨by decide, by decide⟩, Or.inl ⟨rfl, by decide +kernel, tw226, tw225⟩⟩ (find1_nil _)
theorem co3_126 : CalOK (3, 126, 0, 2, [(3, 18)]) := find1_cons (a := 3) (m := 18) (VOK 3 126 2) ⟨⟨by decide, by decide⟩, tw164, tw152, ⟨by decide, by decide⟩, Or.inl ⟨rfl, by decide +kernel, tw227, tw165⟩⟩ (find1_nil _)
theorem co3_135 : CalOK (3, 135, 0, 0, [(4, 39)]) := find1_cons (a := 4) (m := 39) (VOK 3 135 0) ⟨⟨by decide, by decide⟩, tw111, tw112, ⟨by decide, by decide⟩, Or.inl ⟨rfl, by decide +kernel, tw228, tw113⟩⟩ (find1_nil _)
theorem co3_138 : CalOK (3, 138, 0, 2, [(4, 49)]) := find1_cons (a := 4) (m := 49) (VOK 3 138 2) ⟨⟨by decide, by decide⟩, tw229, tw112, ⟨by decide, by decide⟩, Or.inl ⟨rfl, by decide +kernel, tw230, (inPV (y := yOf 49) 4 10 (by decide +kernel))⟩⟩ (find1_nil _)
theorem co3_141 : CalOK (3, 141, 0, 1, [(4, 41)]) := find1_cons (a := 4) (m := 41) (VOK 3 141 1) ⟨⟨by decide, by decide⟩, tw231, tw112, ⟨by decide, by decide⟩, Or.inl ⟨rfl, by decide +kernel, tw233, tw232⟩⟩ (find1_nil _)
theorem co3_144 : CalOK (3, 144, 0, 1, [(3, 14)]) := find1_cons (a := 3) (m := 14) (VOK 3 144 1) ⟨⟨by decide, by decide⟩, tw151, tw152, ⟨by decide, by decide⟩, Or.inl ⟨rfl, by decide +kernel, tw234, tw153⟩⟩ (find1_nil _)
theorem co3_147 : CalOK (3, 147, 0, 1, [(4, 53)]) := find1_cons (a := 4) (m := 53) (VOK 3 147 1) ⟨⟨by decide, by decide⟩, tw235, tw112, ⟨by decide, by decide⟩, Or.inl ⟨rfl, by decide +kernel, tw237, tw236⟩⟩ (find1_nil _)
theorem co4_3 : CalOK (4, 3, 6, 0, []) := ⟨tw238, tw147, tw148⟩
theorem co4_17 : CalOK (4, 17, 1, 0, [(0, 20)]) := ⟨0, 20, rfl, tw239, tw240, tw112, rfl, rfl, ⟨by decide, by decide⟩, by decide +kernel⟩
theorem co4_22 : CalOK (4, 22, 0, 1, [(5, 59)]) := find1_cons (a := 5) (m := 59) (VOK 4 22 1) ⟨⟨by decide, by decide⟩, tw241, tw242, ⟨by decide, by decide⟩, Or.inl ⟨rfl, by decide +kernel, tw243, (inPV (y := yOf 59) 7 3 (by decide +kernel))⟩⟩ (find1_nil _)
theorem co4_26 : CalOK (4, 26, 0, 1, [(4, 21)]) := find1_cons (a := 4) (m := 21) (VOK 4 26 1) ⟨⟨by decide, by decide⟩, tw244, tw112, ⟨by decide, by decide⟩, Or.inl ⟨rfl, by decide +kernel, tw246, tw245⟩⟩ (find1_nil _)
theorem co4_33 : CalOK (4, 33, 8, 2, []) := ⟨tw247, tw248, tw249, tw250⟩
theorem co5_1 : CalOK (5, 1, 1, 2, [(0, 82)]) := ⟨0, 82, rfl, tw251, tw193, tw191, rfl, rfl, ⟨by decide, by decide⟩, by decide +kernel⟩
theorem co5_7 : CalOK (5, 7, 3, 0, [(0, 84)]) := ⟨0, 84, rfl, tw252, tw253, tw254, tw255, tw191, by decide, by decide +kernel⟩
theorem co5_17 : CalOK (5, 17, 7, 2, []) := ⟨tw256, tw257, tw249, tw258⟩
theorem co5_23 : CalOK (5, 23, 0, 0, [(4, 43)]) := find1_cons (a := 4) (m := 43) (VOK 5 23 0) ⟨⟨by decide, by decide⟩, tw259, tw112, ⟨by decide, by decide⟩, Or.inl ⟨rfl, by decide +kernel, tw261, tw260⟩⟩ (find1_nil _)
theorem co6_1 : CalOK (6, 1, 1, 2, [(0, 0)]) := ⟨0, 0, rfl, tw262, tw139, tw125, rfl, rfl, ⟨by decide, by decide⟩, by decide +kernel⟩
theorem co6_7 : CalOK (6, 7, 3, 0, [(0, 2)]) := ⟨0, 2, rfl, tw263, tw118, tw264, tw119, tw125, by decide, by decide +kernel⟩
theorem co7_3 : CalOK (7, 3, 6, 0, []) := ⟨tw265, tw147, tw148⟩
theorem co7_19 : CalOK (7, 19, 0, 1, [(8, 75)]) := find1_cons (a := 8) (m := 75) (VOK 7 19 1) ⟨⟨by decide, by decide⟩, tw266, tw267, ⟨by decide, by decide⟩, Or.inl ⟨rfl, by decide +kernel, tw268, (inPV (y := yOf 75) 1 2 (by decide +kernel))⟩⟩ (find1_nil _)
theorem co7_23 : CalOK (7, 23, 0, 1, [(8, 79)]) := find1_cons (a := 8) (m := 79) (VOK 7 23 1) ⟨⟨by decide, by decide⟩, tw269, tw267, ⟨by decide, by decide⟩, Or.inl ⟨rfl, by decide +kernel, tw270, (inPV (y := yOf 79) 2 2 (by decide +kernel))⟩⟩ (find1_nil _)
theorem co7_26 : CalOK (7, 26, 4, 1, [(0, 78)]) := ⟨0, 78, rfl, tw271, tw272, tw267, ⟨by decide, by decide⟩, by decide +kernel⟩
theorem co7_29 : CalOK (7, 29, 4, 1, [(0, 80)]) := ⟨0, 80, rfl, tw273, tw274, tw267, ⟨by decide, by decide⟩, by decide +kernel⟩
theorem co7_33 : CalOK (7, 33, 0, 2, [(8, 81)]) := find1_cons (a := 8) (m := 81) (VOK 7 33 2) ⟨⟨by decide, by decide⟩, tw275, tw267, ⟨by decide, by decide⟩, Or.inl ⟨rfl, by decide +kernel, tw276, (inPV (y := yOf 81) 3 2 (by decide +kernel))⟩⟩ (find1_nil _)
theorem co7_37 : CalOK (7, 37, 0, 3, [(4, 29)]) := find1_cons (a := 4) (m := 29) (VOK 7 37 3) ⟨⟨by decide, by decide⟩, tw277, tw112, ⟨by decide, by decide⟩, Or.inl ⟨rfl, by decide +kernel, tw279, tw278⟩⟩ (find1_nil _)
theorem co7_43 : CalOK (7, 43, 0, 3, [(4, 30)]) := find1_cons (a := 4) (m := 30) (VOK 7 43 3) ⟨⟨by decide, by decide⟩, tw280, tw112, ⟨by decide, by decide⟩, Or.inl ⟨rfl, by decide +kernel, tw282, tw281⟩⟩ (find1_nil _)
theorem co7_46 : CalOK (7, 46, 0, 1, [(4, 32)]) := find1_cons (a := 4) (m := 32) (VOK 7 46 1) ⟨⟨by decide, by decide⟩, tw283, tw112, ⟨by decide, by decide⟩, Or.inl ⟨rfl, by decide +kernel, tw285, tw284⟩⟩ (find1_nil _)
theorem co7_49 : CalOK (7, 49, 0, 1, [(4, 35)]) := find1_cons (a := 4) (m := 35) (VOK 7 49 1) ⟨⟨by decide, by decide⟩, tw286, tw112, ⟨by decide, by decide⟩, Or.inl ⟨rfl, by decide +kernel, tw288, tw287⟩⟩ (find1_nil _)
theorem co7_52 : CalOK (7, 52, 0, 1, [(4, 33)]) := find1_cons (a := 4) (m := 33) (VOK 7 52 1) ⟨⟨by decide, by decide⟩, tw289, tw112, ⟨by decide, by decide⟩, Or.inl ⟨rfl, by decide +kernel, tw291, tw290⟩⟩ (find1_nil _)
theorem co7_55 : CalOK (7, 55, 0, 2, [(4, 34)]) := find1_cons (a := 4) (m := 34) (VOK 7 55 2) ⟨⟨by decide, by decide⟩, tw292, tw112, ⟨by decide, by decide⟩, Or.inl ⟨rfl, by decide +kernel, tw294, tw293⟩⟩ (find1_nil _)
theorem co8_1 : CalOK (8, 1, 1, 2, [(0, 87)]) := ⟨0, 87, rfl, tw295, tw106, tw104, rfl, rfl, ⟨by decide, by decide⟩, by decide +kernel⟩
theorem co8_7 : CalOK (8, 7, 3, 0, [(0, 89)]) := ⟨0, 89, rfl, tw296, tw108, tw297, tw110, tw104, by decide, by decide +kernel⟩
theorem co8_11 : CalOK (8, 11, 0, 0, [(4, 42)]) := find1_cons (a := 4) (m := 42) (VOK 8 11 0) ⟨⟨by decide, by decide⟩, tw298, tw112, ⟨by decide, by decide⟩, Or.inl ⟨rfl, by decide +kernel, tw300, tw299⟩⟩ (find1_nil _)
theorem co8_16 : CalOK (8, 16, 0, 0, [(6, 65), (9, 84)]) := find1_cons (a := 6) (m := 65) (VOK 8 16 0) ⟨⟨by decide, by decide⟩, tw303, tw196, ⟨by decide, by decide⟩, Or.inr ⟨⟨"PaidByTheUnborn$War", "due", "()I"⟩, "PaidByTheUnborn$War", cX8_due, 1, (some .int), tw302, tw253, tw255, tw304, tw305, ⟨by decide, by decide⟩, by decide +kernel⟩⟩ (find1_cons (a := 9) (m := 84) (VOK 8 16 0) ⟨⟨by decide, by decide⟩, tw255, tw191, ⟨by decide, by decide⟩, Or.inl ⟨rfl, by decide +kernel, tw302, tw301⟩⟩ (find1_nil _))
theorem co8_19 : CalOK (8, 19, 0, 1, [(6, 66), (9, 85)]) := find1_cons (a := 6) (m := 66) (VOK 8 19 1) ⟨⟨by decide, by decide⟩, tw309, tw196, ⟨by decide, by decide⟩, Or.inr ⟨⟨"PaidByTheUnborn$War", "payer", "(LPaidByTheUnborn$Ledger;)I"⟩, "PaidByTheUnborn$War", cX8_payer, 2, (some .int), tw308, tw310, tw306, tw311, tw312, ⟨by decide, by decide⟩, by decide +kernel⟩⟩ (find1_cons (a := 9) (m := 85) (VOK 8 19 1) ⟨⟨by decide, by decide⟩, tw306, tw191, ⟨by decide, by decide⟩, Or.inl ⟨rfl, by decide +kernel, tw308, tw307⟩⟩ (find1_nil _))
theorem co8_23 : CalOK (8, 23, 0, 2, [(4, 50)]) := find1_cons (a := 4) (m := 50) (VOK 8 23 2) ⟨⟨by decide, by decide⟩, tw313, tw112, ⟨by decide, by decide⟩, Or.inl ⟨rfl, by decide +kernel, tw315, tw314⟩⟩ (find1_nil _)
theorem co9_1 : CalOK (9, 1, 6, 0, []) := ⟨tw316, tw147, tw148⟩
theorem co9_16 : CalOK (9, 16, 0, 0, [(1, 2), (2, 7), (6, 65), (7, 69), (9, 84), (10, 89)]) := find1_cons (a := 1) (m := 2) (VOK 9 16 0) ⟨⟨by decide, by decide⟩, tw119, tw125, ⟨by decide, by decide⟩, Or.inr ⟨⟨"PaidByTheUnborn$Work", "due", "()I"⟩, "PaidByTheUnborn$Work", cX9_due, 1, (some .int), tw318, tw108, tw110, tw319, tw324, ⟨by decide, by decide⟩, by decide +kernel⟩⟩ (find1_cons (a := 2) (m := 7) (VOK 9 16 0) ⟨⟨by decide, by decide⟩, tw122, tw123, ⟨by decide, by decide⟩, Or.inr ⟨⟨"PaidByTheUnborn$Work", "due", "()I"⟩, "PaidByTheUnborn$Work", cX9_due, 1, (some .int), tw318, tw108, tw110, tw319, tw323, ⟨by decide, by decide⟩, by decide +kernel⟩⟩ (find1_cons (a := 6) (m := 65) (VOK 9 16 0) ⟨⟨by decide, by decide⟩, tw303, tw196, ⟨by decide, by decide⟩, Or.inr ⟨⟨"PaidByTheUnborn$Work", "due", "()I"⟩, "PaidByTheUnborn$Work", cX9_due, 1, (some .int), tw318, tw108, tw110, tw319, tw322, ⟨by decide, by decide⟩, by decide +kernel⟩⟩ (find1_cons (a := 7) (m := 69) (VOK 9 16 0) ⟨⟨by decide, by decide⟩, tw115, tw116, ⟨by decide, by decide⟩, Or.inr ⟨⟨"PaidByTheUnborn$Work", "due", "()I"⟩, "PaidByTheUnborn$Work", cX9_due, 1, (some .int), tw318, tw108, tw110, tw319, tw321, ⟨by decide, by decide⟩, by decide +kernel⟩⟩ (find1_cons (a := 9) (m := 84) (VOK 9 16 0) ⟨⟨by decide, by decide⟩, tw255, tw191, ⟨by decide, by decide⟩, Or.inr ⟨⟨"PaidByTheUnborn$Work", "due", "()I"⟩, "PaidByTheUnborn$Work", cX9_due, 1, (some .int), tw318, tw108, tw110, tw319, tw320, ⟨by decide, by decide⟩, by decide +kernel⟩⟩ (find1_cons (a := 10) (m := 89) (VOK 9 16 0) ⟨⟨by decide, by decide⟩, tw110, tw104, ⟨by decide, by decide⟩, Or.inl ⟨rfl, by decide +kernel, tw318, tw317⟩⟩ (find1_nil _))))))
theorem co9_20 : CalOK (9, 20, 0, 1, [(4, 47)]) := find1_cons (a := 4) (m := 47) (VOK 9 20 1) ⟨⟨by decide, by decide⟩, tw325, tw112, ⟨by decide, by decide⟩, Or.inl ⟨rfl, by decide +kernel, tw327, tw326⟩⟩ (find1_nil _)
theorem co10_1 : CalOK (10, 1, 6, 0, []) := ⟨tw328, tw147, tw148⟩
theorem co10_9 : CalOK (10, 9, 1, 0, [(0, 20)]) := ⟨0, 20, rfl, tw329, tw240, tw112, rfl, rfl, ⟨by decide, by decide⟩, by decide +kernel⟩
theorem co10_24 : CalOK (10, 24, 1, 0, [(0, 58)]) := ⟨0, 58, rfl, tw330, tw331, tw242, rfl, rfl, ⟨by decide, by decide⟩, by decide +kernel⟩
theorem co10_31 : CalOK (10, 31, 1, 0, [(0, 70)]) := ⟨0, 70, rfl, tw332, tw333, tw267, rfl, rfl, ⟨by decide, by decide⟩, by decide +kernel⟩
theorem co10_45 : CalOK (10, 45, 2, 0, [(0, 9)]) := ⟨0, 9, "PaidByTheUnborn", rfl, by decide +kernel, tw168, tw152, rfl, rfl, ⟨by decide, by decide⟩, by decide +kernel⟩
theorem co10_59 : CalOK (10, 59, 4, 3, [(0, 144)]) := ⟨0, 144, rfl, tw334, tw223, tw149, ⟨by decide, by decide⟩, by decide +kernel⟩
theorem co10_63 : CalOK (10, 63, 0, 0, [(8, 71)]) := find1_cons (a := 8) (m := 71) (VOK 10 63 0) ⟨⟨by decide, by decide⟩, tw335, tw267, ⟨by decide, by decide⟩, Or.inl ⟨rfl, by decide +kernel, tw337, tw336⟩⟩ (find1_nil _)
theorem co10_67 : CalOK (10, 67, 0, 1, [(11, 141)]) := find1_cons (a := 11) (m := 141) (VOK 10 67 1) ⟨⟨by decide, by decide⟩, tw338, tw149, ⟨by decide, by decide⟩, Or.inl ⟨rfl, by decide +kernel, tw339, (inPV (y := yOf 141) 0 13 (by decide +kernel))⟩⟩ (find1_nil _)
theorem co10_71 : CalOK (10, 71, 0, 1, [(8, 72)]) := find1_cons (a := 8) (m := 72) (VOK 10 71 1) ⟨⟨by decide, by decide⟩, tw340, tw267, ⟨by decide, by decide⟩, Or.inl ⟨rfl, by decide +kernel, tw342, tw341⟩⟩ (find1_nil _)
theorem co10_74 : CalOK (10, 74, 0, 1, [(4, 21)]) := find1_cons (a := 4) (m := 21) (VOK 10 74 1) ⟨⟨by decide, by decide⟩, tw244, tw112, ⟨by decide, by decide⟩, Or.inl ⟨rfl, by decide +kernel, tw343, tw245⟩⟩ (find1_nil _)
theorem co10_78 : CalOK (10, 78, 0, 0, [(8, 74)]) := find1_cons (a := 8) (m := 74) (VOK 10 78 0) ⟨⟨by decide, by decide⟩, tw344, tw267, ⟨by decide, by decide⟩, Or.inl ⟨rfl, by decide +kernel, tw346, tw345⟩⟩ (find1_nil _)
theorem co10_86 : CalOK (10, 86, 0, 2, [(8, 77)]) := find1_cons (a := 8) (m := 77) (VOK 10 86 2) ⟨⟨by decide, by decide⟩, tw347, tw267, ⟨by decide, by decide⟩, Or.inl ⟨rfl, by decide +kernel, tw349, tw348⟩⟩ (find1_nil _)
theorem co10_90 : CalOK (10, 90, 0, 1, [(8, 76)]) := find1_cons (a := 8) (m := 76) (VOK 10 90 1) ⟨⟨by decide, by decide⟩, tw350, tw267, ⟨by decide, by decide⟩, Or.inl ⟨rfl, by decide +kernel, tw352, tw351⟩⟩ (find1_nil _)
theorem co10_93 : CalOK (10, 93, 0, 0, [(8, 73)]) := find1_cons (a := 8) (m := 73) (VOK 10 93 0) ⟨⟨by decide, by decide⟩, tw353, tw267, ⟨by decide, by decide⟩, Or.inl ⟨rfl, by decide +kernel, tw355, tw354⟩⟩ (find1_nil _)
theorem co10_96 : CalOK (10, 96, 0, 0, [(5, 62)]) := find1_cons (a := 5) (m := 62) (VOK 10 96 0) ⟨⟨by decide, by decide⟩, tw356, tw242, ⟨by decide, by decide⟩, Or.inl ⟨rfl, by decide +kernel, tw358, tw357⟩⟩ (find1_nil _)
theorem co10_99 : CalOK (10, 99, 0, 1, [(4, 26)]) := find1_cons (a := 4) (m := 26) (VOK 10 99 1) ⟨⟨by decide, by decide⟩, tw181, tw112, ⟨by decide, by decide⟩, Or.inl ⟨rfl, by decide +kernel, tw359, tw182⟩⟩ (find1_nil _)
theorem co10_102 : CalOK (10, 102, 4, 2, [(0, 146)]) := ⟨0, 146, rfl, tw360, tw187, tw149, ⟨by decide, by decide⟩, by decide +kernel⟩
theorem co10_106 : CalOK (10, 106, 0, 1, [(4, 22)]) := find1_cons (a := 4) (m := 22) (VOK 10 106 1) ⟨⟨by decide, by decide⟩, tw169, tw112, ⟨by decide, by decide⟩, Or.inl ⟨rfl, by decide +kernel, tw361, tw170⟩⟩ (find1_nil _)
theorem co10_122 : CalOK (10, 122, 0, 0, [(3, 12)]) := find1_cons (a := 3) (m := 12) (VOK 10 122 0) ⟨⟨by decide, by decide⟩, tw362, tw152, ⟨by decide, by decide⟩, Or.inl ⟨rfl, by decide +kernel, tw364, tw363⟩⟩ (find1_nil _)
theorem co10_125 : CalOK (10, 125, 0, 1, [(4, 23)]) := find1_cons (a := 4) (m := 23) (VOK 10 125 1) ⟨⟨by decide, by decide⟩, tw175, tw112, ⟨by decide, by decide⟩, Or.inl ⟨rfl, by decide +kernel, tw365, tw176⟩⟩ (find1_nil _)
theorem co10_129 : CalOK (10, 129, 0, 0, [(1, 1), (2, 6), (6, 64), (7, 68), (9, 83), (10, 88)]) := find1_cons (a := 1) (m := 1) (VOK 10 129 0) ⟨⟨by decide, by decide⟩, tw379, tw125, ⟨by decide, by decide⟩, Or.inr ⟨⟨"PaidByTheUnborn$Work", "kind", "()I"⟩, "PaidByTheUnborn$Work", cX9_kind, 1, (some .int), tw368, tw370, tw366, tw371, tw380, ⟨by decide, by decide⟩, by decide +kernel⟩⟩ (find1_cons (a := 2) (m := 6) (VOK 10 129 0) ⟨⟨by decide, by decide⟩, tw377, tw123, ⟨by decide, by decide⟩, Or.inr ⟨⟨"PaidByTheUnborn$Work", "kind", "()I"⟩, "PaidByTheUnborn$Work", cX9_kind, 1, (some .int), tw368, tw370, tw366, tw371, tw378, ⟨by decide, by decide⟩, by decide +kernel⟩⟩ (find1_cons (a := 6) (m := 64) (VOK 10 129 0) ⟨⟨by decide, by decide⟩, tw375, tw196, ⟨by decide, by decide⟩, Or.inr ⟨⟨"PaidByTheUnborn$Work", "kind", "()I"⟩, "PaidByTheUnborn$Work", cX9_kind, 1, (some .int), tw368, tw370, tw366, tw371, tw376, ⟨by decide, by decide⟩, by decide +kernel⟩⟩ (find1_cons (a := 7) (m := 68) (VOK 10 129 0) ⟨⟨by decide, by decide⟩, tw373, tw116, ⟨by decide, by decide⟩, Or.inr ⟨⟨"PaidByTheUnborn$Work", "kind", "()I"⟩, "PaidByTheUnborn$Work", cX9_kind, 1, (some .int), tw368, tw370, tw366, tw371, tw374, ⟨by decide, by decide⟩, by decide +kernel⟩⟩ (find1_cons (a := 9) (m := 83) (VOK 10 129 0) ⟨⟨by decide, by decide⟩, tw369, tw191, ⟨by decide, by decide⟩, Or.inr ⟨⟨"PaidByTheUnborn$Work", "kind", "()I"⟩, "PaidByTheUnborn$Work", cX9_kind, 1, (some .int), tw368, tw370, tw366, tw371, tw372, ⟨by decide, by decide⟩, by decide +kernel⟩⟩ (find1_cons (a := 10) (m := 88) (VOK 10 129 0) ⟨⟨by decide, by decide⟩, tw366, tw104, ⟨by decide, by decide⟩, Or.inl ⟨rfl, by decide +kernel, tw368, tw367⟩⟩ (find1_nil _))))))
theorem co10_140 : CalOK (10, 140, 0, 0, [(1, 2), (2, 7), (6, 65), (7, 69), (9, 84), (10, 89)]) := find1_cons (a := 1) (m := 2) (VOK 10 140 0) ⟨⟨by decide, by decide⟩, tw119, tw125, ⟨by decide, by decide⟩, Or.inr ⟨⟨"PaidByTheUnborn$Work", "due", "()I"⟩, "PaidByTheUnborn$Work", cX9_due, 1, (some .int), tw381, tw108, tw110, tw319, tw324, ⟨by decide, by decide⟩, by decide +kernel⟩⟩ (find1_cons (a := 2) (m := 7) (VOK 10 140 0) ⟨⟨by decide, by decide⟩, tw122, tw123, ⟨by decide, by decide⟩, Or.inr ⟨⟨"PaidByTheUnborn$Work", "due", "()I"⟩, "PaidByTheUnborn$Work", cX9_due, 1, (some .int), tw381, tw108, tw110, tw319, tw323, ⟨by decide, by decide⟩, by decide +kernel⟩⟩ (find1_cons (a := 6) (m := 65) (VOK 10 140 0) ⟨⟨by decide, by decide⟩, tw303, tw196, ⟨by decide, by decide⟩, Or.inr ⟨⟨"PaidByTheUnborn$Work", "due", "()I"⟩, "PaidByTheUnborn$Work", cX9_due, 1, (some .int), tw381, tw108, tw110, tw319, tw322, ⟨by decide, by decide⟩, by decide +kernel⟩⟩ (find1_cons (a := 7) (m := 69) (VOK 10 140 0) ⟨⟨by decide, by decide⟩, tw115, tw116, ⟨by decide, by decide⟩, Or.inr ⟨⟨"PaidByTheUnborn$Work", "due", "()I"⟩, "PaidByTheUnborn$Work", cX9_due, 1, (some .int), tw381, tw108, tw110, tw319, tw321, ⟨by decide, by decide⟩, by decide +kernel⟩⟩ (find1_cons (a := 9) (m := 84) (VOK 10 140 0) ⟨⟨by decide, by decide⟩, tw255, tw191, ⟨by decide, by decide⟩, Or.inr ⟨⟨"PaidByTheUnborn$Work", "due", "()I"⟩, "PaidByTheUnborn$Work", cX9_due, 1, (some .int), tw381, tw108, tw110, tw319, tw320, ⟨by decide, by decide⟩, by decide +kernel⟩⟩ (find1_cons (a := 10) (m := 89) (VOK 10 140 0) ⟨⟨by decide, by decide⟩, tw110, tw104, ⟨by decide, by decide⟩, Or.inl ⟨rfl, by decide +kernel, tw381, tw317⟩⟩ (find1_nil _))))))
theorem co10_143 : CalOK (10, 143, 0, 1, [(4, 25)]) := find1_cons (a := 4) (m := 25) (VOK 10 143 1) ⟨⟨by decide, by decide⟩, tw202, tw112, ⟨by decide, by decide⟩, Or.inl ⟨rfl, by decide +kernel, tw382, tw203⟩⟩ (find1_nil _)
theorem co10_147 : CalOK (10, 147, 0, 3, [(4, 29)]) := find1_cons (a := 4) (m := 29) (VOK 10 147 3) ⟨⟨by decide, by decide⟩, tw277, tw112, ⟨by decide, by decide⟩, Or.inl ⟨rfl, by decide +kernel, tw383, tw278⟩⟩ (find1_nil _)
theorem co10_150 : CalOK (10, 150, 0, 1, [(11, 142)]) := find1_cons (a := 11) (m := 142) (VOK 10 150 1) ⟨⟨by decide, by decide⟩, tw384, tw149, ⟨by decide, by decide⟩, Or.inl ⟨rfl, by decide +kernel, tw385, (inPV (y := yOf 142) 5 13 (by decide +kernel))⟩⟩ (find1_nil _)
theorem co10_153 : CalOK (10, 153, 0, 3, [(4, 30)]) := find1_cons (a := 4) (m := 30) (VOK 10 153 3) ⟨⟨by decide, by decide⟩, tw280, tw112, ⟨by decide, by decide⟩, Or.inl ⟨rfl, by decide +kernel, tw386, tw281⟩⟩ (find1_nil _)
theorem co10_156 : CalOK (10, 156, 0, 1, [(4, 32)]) := find1_cons (a := 4) (m := 32) (VOK 10 156 1) ⟨⟨by decide, by decide⟩, tw283, tw112, ⟨by decide, by decide⟩, Or.inl ⟨rfl, by decide +kernel, tw387, tw284⟩⟩ (find1_nil _)
theorem co10_159 : CalOK (10, 159, 0, 1, [(11, 143)]) := find1_cons (a := 11) (m := 143) (VOK 10 159 1) ⟨⟨by decide, by decide⟩, tw388, tw149, ⟨by decide, by decide⟩, Or.inl ⟨rfl, by decide +kernel, tw389, (inPV (y := yOf 143) 6 13 (by decide +kernel))⟩⟩ (find1_nil _)
theorem co10_162 : CalOK (10, 162, 0, 1, [(4, 33)]) := find1_cons (a := 4) (m := 33) (VOK 10 162 1) ⟨⟨by decide, by decide⟩, tw289, tw112, ⟨by decide, by decide⟩, Or.inl ⟨rfl, by decide +kernel, tw390, tw290⟩⟩ (find1_nil _)
theorem co10_165 : CalOK (10, 165, 0, 2, [(4, 34)]) := find1_cons (a := 4) (m := 34) (VOK 10 165 2) ⟨⟨by decide, by decide⟩, tw292, tw112, ⟨by decide, by decide⟩, Or.inl ⟨rfl, by decide +kernel, tw391, tw293⟩⟩ (find1_nil _)
theorem co10_168 : CalOK (10, 168, 0, 1, [(4, 35)]) := find1_cons (a := 4) (m := 35) (VOK 10 168 1) ⟨⟨by decide, by decide⟩, tw286, tw112, ⟨by decide, by decide⟩, Or.inl ⟨rfl, by decide +kernel, tw392, tw287⟩⟩ (find1_nil _)
theorem co10_171 : CalOK (10, 171, 0, 2, [(11, 148)]) := find1_cons (a := 11) (m := 148) (VOK 10 171 2) ⟨⟨by decide, by decide⟩, tw393, tw149, ⟨by decide, by decide⟩, Or.inl ⟨rfl, by decide +kernel, tw394, (inPV (y := yOf 148) 8 13 (by decide +kernel))⟩⟩ (find1_nil _)
theorem co10_174 : CalOK (10, 174, 0, 2, [(11, 150)]) := find1_cons (a := 11) (m := 150) (VOK 10 174 2) ⟨⟨by decide, by decide⟩, tw395, tw149, ⟨by decide, by decide⟩, Or.inl ⟨rfl, by decide +kernel, tw396, (inPV (y := yOf 150) 9 13 (by decide +kernel))⟩⟩ (find1_nil _)
theorem co10_178 : CalOK (10, 178, 4, 1, [(0, 147)]) := ⟨0, 147, rfl, tw397, tw398, tw149, ⟨by decide, by decide⟩, by decide +kernel⟩
theorem co10_181 : CalOK (10, 181, 0, 1, [(4, 38)]) := find1_cons (a := 4) (m := 38) (VOK 10 181 1) ⟨⟨by decide, by decide⟩, tw399, tw112, ⟨by decide, by decide⟩, Or.inl ⟨rfl, by decide +kernel, tw401, tw400⟩⟩ (find1_nil _)
theorem co10_184 : CalOK (10, 184, 0, 2, [(11, 152)]) := find1_cons (a := 11) (m := 152) (VOK 10 184 2) ⟨⟨by decide, by decide⟩, tw402, tw149, ⟨by decide, by decide⟩, Or.inl ⟨rfl, by decide +kernel, tw403, (inPV (y := yOf 152) 10 13 (by decide +kernel))⟩⟩ (find1_nil _)
theorem co10_187 : CalOK (10, 187, 0, 0, [(11, 160)]) := find1_cons (a := 11) (m := 160) (VOK 10 187 0) ⟨⟨by decide, by decide⟩, tw404, tw149, ⟨by decide, by decide⟩, Or.inl ⟨rfl, by decide +kernel, tw405, (inPV (y := yOf 160) 11 13 (by decide +kernel))⟩⟩ (find1_nil _)
theorem co10_190 : CalOK (10, 190, 0, 0, [(11, 161)]) := find1_cons (a := 11) (m := 161) (VOK 10 190 0) ⟨⟨by decide, by decide⟩, tw406, tw149, ⟨by decide, by decide⟩, Or.inl ⟨rfl, by decide +kernel, tw407, (inPV (y := yOf 161) 12 13 (by decide +kernel))⟩⟩ (find1_nil _)
theorem co10_193 : CalOK (10, 193, 0, 0, [(11, 162)]) := find1_cons (a := 11) (m := 162) (VOK 10 193 0) ⟨⟨by decide, by decide⟩, tw408, tw149, ⟨by decide, by decide⟩, Or.inl ⟨rfl, by decide +kernel, tw409, (inPV (y := yOf 162) 13 13 (by decide +kernel))⟩⟩ (find1_nil _)
theorem co10_196 : CalOK (10, 196, 0, 2, [(11, 153)]) := find1_cons (a := 11) (m := 153) (VOK 10 196 2) ⟨⟨by decide, by decide⟩, tw410, tw149, ⟨by decide, by decide⟩, Or.inl ⟨rfl, by decide +kernel, tw411, (inPV (y := yOf 153) 14 13 (by decide +kernel))⟩⟩ (find1_nil _)
theorem co10_199 : CalOK (10, 199, 0, 2, [(11, 154)]) := find1_cons (a := 11) (m := 154) (VOK 10 199 2) ⟨⟨by decide, by decide⟩, tw412, tw149, ⟨by decide, by decide⟩, Or.inl ⟨rfl, by decide +kernel, tw413, (inPV (y := yOf 154) 15 13 (by decide +kernel))⟩⟩ (find1_nil _)
theorem co10_202 : CalOK (10, 202, 4, 4, [(0, 145)]) := ⟨0, 145, rfl, tw414, tw415, tw149, ⟨by decide, by decide⟩, by decide +kernel⟩
theorem co10_206 : CalOK (10, 206, 0, 0, [(4, 55)]) := find1_cons (a := 4) (m := 55) (VOK 10 206 0) ⟨⟨by decide, by decide⟩, tw416, tw112, ⟨by decide, by decide⟩, Or.inl ⟨rfl, by decide +kernel, tw418, tw417⟩⟩ (find1_nil _)
theorem co10_209 : CalOK (10, 209, 0, 1, [(4, 56)]) := find1_cons (a := 4) (m := 56) (VOK 10 209 1) ⟨⟨by decide, by decide⟩, tw419, tw112, ⟨by decide, by decide⟩, Or.inl ⟨rfl, by decide +kernel, tw421, tw420⟩⟩ (find1_nil _)
theorem co10_215 : CalOK (10, 215, 0, 3, [(11, 167)]) := find1_cons (a := 11) (m := 167) (VOK 10 215 3) ⟨⟨by decide, by decide⟩, tw422, tw149, ⟨by decide, by decide⟩, Or.inl ⟨rfl, by decide +kernel, tw423, (inPV (y := yOf 167) 16 13 (by decide +kernel))⟩⟩ (find1_nil _)
theorem co10_223 : CalOK (10, 223, 0, 1, [(4, 53)]) := find1_cons (a := 4) (m := 53) (VOK 10 223 1) ⟨⟨by decide, by decide⟩, tw235, tw112, ⟨by decide, by decide⟩, Or.inl ⟨rfl, by decide +kernel, tw424, tw236⟩⟩ (find1_nil _)
theorem co10_227 : CalOK (10, 227, 0, 2, [(4, 28)]) := find1_cons (a := 4) (m := 28) (VOK 10 227 2) ⟨⟨by decide, by decide⟩, tw425, tw112, ⟨by decide, by decide⟩, Or.inl ⟨rfl, by decide +kernel, tw427, tw426⟩⟩ (find1_nil _)
theorem co10_230 : CalOK (10, 230, 0, 2, [(4, 51)]) := find1_cons (a := 4) (m := 51) (VOK 10 230 2) ⟨⟨by decide, by decide⟩, tw428, tw112, ⟨by decide, by decide⟩, Or.inl ⟨rfl, by decide +kernel, tw430, tw429⟩⟩ (find1_nil _)
theorem co10_233 : CalOK (10, 233, 0, 1, [(3, 11)]) := find1_cons (a := 3) (m := 11) (VOK 10 233 1) ⟨⟨by decide, by decide⟩, tw172, tw152, ⟨by decide, by decide⟩, Or.inl ⟨rfl, by decide +kernel, tw431, tw173⟩⟩ (find1_nil _)
theorem co10_236 : CalOK (10, 236, 0, 1, [(3, 15)]) := find1_cons (a := 3) (m := 15) (VOK 10 236 1) ⟨⟨by decide, by decide⟩, tw155, tw152, ⟨by decide, by decide⟩, Or.inl ⟨rfl, by decide +kernel, tw432, tw156⟩⟩ (find1_nil _)
theorem co10_245 : CalOK (10, 245, 0, 3, [(3, 19)]) := find1_cons (a := 3) (m := 19) (VOK 10 245 3) ⟨⟨by decide, by decide⟩, tw433, tw152, ⟨by decide, by decide⟩, Or.inl ⟨rfl, by decide +kernel, tw435, tw434⟩⟩ (find1_nil _)
theorem co10_249 : CalOK (10, 249, 0, 3, [(11, 149)]) := find1_cons (a := 11) (m := 149) (VOK 10 249 3) ⟨⟨by decide, by decide⟩, tw436, tw149, ⟨by decide, by decide⟩, Or.inl ⟨rfl, by decide +kernel, tw437, (inPV (y := yOf 149) 17 13 (by decide +kernel))⟩⟩ (find1_nil _)
theorem co10_252 : CalOK (10, 252, 0, 3, [(11, 155)]) := find1_cons (a := 11) (m := 155) (VOK 10 252 3) ⟨⟨by decide, by decide⟩, tw438, tw149, ⟨by decide, by decide⟩, Or.inl ⟨rfl, by decide +kernel, tw439, (inPV (y := yOf 155) 18 13 (by decide +kernel))⟩⟩ (find1_nil _)
theorem co10_258 : CalOK (10, 258, 0, 2, [(11, 151)]) := find1_cons (a := 11) (m := 151) (VOK 10 258 2) ⟨⟨by decide, by decide⟩, tw440, tw149, ⟨by decide, by decide⟩, Or.inl ⟨rfl, by decide +kernel, tw441, (inPV (y := yOf 151) 19 13 (by decide +kernel))⟩⟩ (find1_nil _)
theorem co10_263 : CalOK (10, 263, 4, 3, [(0, 174)]) := ⟨0, 174, rfl, tw442, tw443, tw149, ⟨by decide, by decide⟩, by decide +kernel⟩
theorem co10_267 : CalOK (10, 267, 0, 0, [(11, 163)]) := find1_cons (a := 11) (m := 163) (VOK 10 267 0) ⟨⟨by decide, by decide⟩, tw444, tw149, ⟨by decide, by decide⟩, Or.inl ⟨rfl, by decide +kernel, tw445, (inPV (y := yOf 163) 20 13 (by decide +kernel))⟩⟩ (find1_nil _)
theorem co10_270 : CalOK (10, 270, 0, 1, [(11, 164)]) := find1_cons (a := 11) (m := 164) (VOK 10 270 1) ⟨⟨by decide, by decide⟩, tw446, tw149, ⟨by decide, by decide⟩, Or.inl ⟨rfl, by decide +kernel, tw447, (inPV (y := yOf 164) 21 13 (by decide +kernel))⟩⟩ (find1_nil _)
theorem co10_273 : CalOK (10, 273, 0, 2, [(11, 156)]) := find1_cons (a := 11) (m := 156) (VOK 10 273 2) ⟨⟨by decide, by decide⟩, tw448, tw149, ⟨by decide, by decide⟩, Or.inl ⟨rfl, by decide +kernel, tw449, (inPV (y := yOf 156) 22 13 (by decide +kernel))⟩⟩ (find1_nil _)
theorem co10_276 : CalOK (10, 276, 0, 0, [(4, 39)]) := find1_cons (a := 4) (m := 39) (VOK 10 276 0) ⟨⟨by decide, by decide⟩, tw111, tw112, ⟨by decide, by decide⟩, Or.inl ⟨rfl, by decide +kernel, tw450, tw113⟩⟩ (find1_nil _)
theorem co10_279 : CalOK (10, 279, 0, 1, [(4, 41)]) := find1_cons (a := 4) (m := 41) (VOK 10 279 1) ⟨⟨by decide, by decide⟩, tw231, tw112, ⟨by decide, by decide⟩, Or.inl ⟨rfl, by decide +kernel, tw451, tw232⟩⟩ (find1_nil _)
theorem co10_282 : CalOK (10, 282, 4, 2, [(0, 173)]) := ⟨0, 173, rfl, tw452, tw150, tw149, ⟨by decide, by decide⟩, by decide +kernel⟩
theorem co10_288 : CalOK (10, 288, 0, 1, [(11, 168)]) := find1_cons (a := 11) (m := 168) (VOK 10 288 1) ⟨⟨by decide, by decide⟩, tw453, tw149, ⟨by decide, by decide⟩, Or.inl ⟨rfl, by decide +kernel, tw454, (inPV (y := yOf 168) 24 13 (by decide +kernel))⟩⟩ (find1_nil _)
theorem co10_291 : CalOK (10, 291, 4, 3, [(0, 158)]) := ⟨0, 158, rfl, tw455, tw456, tw149, ⟨by decide, by decide⟩, by decide +kernel⟩
theorem co10_295 : CalOK (10, 295, 0, 3, [(11, 159)]) := find1_cons (a := 11) (m := 159) (VOK 10 295 3) ⟨⟨by decide, by decide⟩, tw457, tw149, ⟨by decide, by decide⟩, Or.inl ⟨rfl, by decide +kernel, tw458, (inPV (y := yOf 159) 26 13 (by decide +kernel))⟩⟩ (find1_nil _)
theorem co10_299 : CalOK (10, 299, 0, 1, [(5, 61)]) := find1_cons (a := 5) (m := 61) (VOK 10 299 1) ⟨⟨by decide, by decide⟩, tw459, tw242, ⟨by decide, by decide⟩, Or.inl ⟨rfl, by decide +kernel, tw461, tw460⟩⟩ (find1_nil _)
theorem co10_305 : CalOK (10, 305, 0, 1, [(4, 24)]) := find1_cons (a := 4) (m := 24) (VOK 10 305 1) ⟨⟨by decide, by decide⟩, tw178, tw112, ⟨by decide, by decide⟩, Or.inl ⟨rfl, by decide +kernel, tw462, tw179⟩⟩ (find1_nil _)
theorem co10_308 : CalOK (10, 308, 4, 1, [(0, 170)]) := ⟨0, 170, rfl, tw463, tw464, tw149, ⟨by decide, by decide⟩, by decide +kernel⟩
theorem co10_311 : CalOK (10, 311, 0, 2, [(11, 171)]) := find1_cons (a := 11) (m := 171) (VOK 10 311 2) ⟨⟨by decide, by decide⟩, tw465, tw149, ⟨by decide, by decide⟩, Or.inl ⟨rfl, by decide +kernel, tw466, (inPV (y := yOf 171) 27 13 (by decide +kernel))⟩⟩ (find1_nil _)
theorem co10_314 : CalOK (10, 314, 0, 1, [(11, 172)]) := find1_cons (a := 11) (m := 172) (VOK 10 314 1) ⟨⟨by decide, by decide⟩, tw467, tw149, ⟨by decide, by decide⟩, Or.inl ⟨rfl, by decide +kernel, tw468, (inPV (y := yOf 172) 28 13 (by decide +kernel))⟩⟩ (find1_nil _)
theorem co10_317 : CalOK (10, 317, 8, 2, []) := ⟨tw469, tw248, tw249, tw250⟩
theorem co10_322 : CalOK (10, 322, 9, 5, []) := ⟨tw470, tw471, tw472, tw473⟩
theorem co10_328 : CalOK (10, 328, 0, 1, [(11, 165)]) := find1_cons (a := 11) (m := 165) (VOK 10 328 1) ⟨⟨by decide, by decide⟩, tw474, tw149, ⟨by decide, by decide⟩, Or.inl ⟨rfl, by decide +kernel, tw475, (inPV (y := yOf 165) 29 13 (by decide +kernel))⟩⟩ (find1_nil _)
theorem co10_331 : CalOK (10, 331, 0, 2, [(3, 18)]) := find1_cons (a := 3) (m := 18) (VOK 10 331 2) ⟨⟨by decide, by decide⟩, tw164, tw152, ⟨by decide, by decide⟩, Or.inl ⟨rfl, by decide +kernel, tw476, tw165⟩⟩ (find1_nil _)
theorem co10_338 : CalOK (10, 338, 0, 2, [(4, 27)]) := find1_cons (a := 4) (m := 27) (VOK 10 338 2) ⟨⟨by decide, by decide⟩, tw477, tw112, ⟨by decide, by decide⟩, Or.inl ⟨rfl, by decide +kernel, tw479, tw478⟩⟩ (find1_nil _)
theorem co10_341 : CalOK (10, 341, 0, 0, [(4, 36)]) := find1_cons (a := 4) (m := 36) (VOK 10 341 0) ⟨⟨by decide, by decide⟩, tw480, tw112, ⟨by decide, by decide⟩, Or.inl ⟨rfl, by decide +kernel, tw482, tw481⟩⟩ (find1_nil _)
theorem co10_343 : CalOK (10, 343, 0, 2, [(4, 48)]) := find1_cons (a := 4) (m := 48) (VOK 10 343 2) ⟨⟨by decide, by decide⟩, tw135, tw112, ⟨by decide, by decide⟩, Or.inl ⟨rfl, by decide +kernel, tw483, tw136⟩⟩ (find1_nil _)
theorem co10_346 : CalOK (10, 346, 0, 0, [(4, 52)]) := find1_cons (a := 4) (m := 52) (VOK 10 346 0) ⟨⟨by decide, by decide⟩, tw217, tw112, ⟨by decide, by decide⟩, Or.inl ⟨rfl, by decide +kernel, tw484, tw218⟩⟩ (find1_nil _)
theorem co10_349 : CalOK (10, 349, 7, 2, []) := ⟨tw485, tw257, tw249, tw258⟩
theorem co10_352 : CalOK (10, 352, 0, 0, [(4, 44)]) := find1_cons (a := 4) (m := 44) (VOK 10 352 0) ⟨⟨by decide, by decide⟩, tw220, tw112, ⟨by decide, by decide⟩, Or.inl ⟨rfl, by decide +kernel, tw486, tw221⟩⟩ (find1_nil _)
theorem co10_355 : CalOK (10, 355, 0, 0, [(11, 136)]) := find1_cons (a := 11) (m := 136) (VOK 10 355 0) ⟨⟨by decide, by decide⟩, tw487, tw149, ⟨by decide, by decide⟩, Or.inl ⟨rfl, by decide +kernel, tw489, tw488⟩⟩ (find1_nil _)
theorem co10_358 : CalOK (10, 358, 0, 2, [(11, 169)]) := find1_cons (a := 11) (m := 169) (VOK 10 358 2) ⟨⟨by decide, by decide⟩, tw490, tw149, ⟨by decide, by decide⟩, Or.inl ⟨rfl, by decide +kernel, tw491, (inPV (y := yOf 169) 25 13 (by decide +kernel))⟩⟩ (find1_nil _)
theorem co10_362 : CalOK (10, 362, 4, 1, [(0, 176)]) := ⟨0, 176, rfl, tw492, tw493, tw149, ⟨by decide, by decide⟩, by decide +kernel⟩
theorem co10_365 : CalOK (10, 365, 4, 2, [(0, 177)]) := ⟨0, 177, rfl, tw494, tw495, tw149, ⟨by decide, by decide⟩, by decide +kernel⟩
theorem co10_368 : CalOK (10, 368, 0, 0, [(4, 45)]) := find1_cons (a := 4) (m := 45) (VOK 10 368 0) ⟨⟨by decide, by decide⟩, tw496, tw112, ⟨by decide, by decide⟩, Or.inl ⟨rfl, by decide +kernel, tw498, tw497⟩⟩ (find1_nil _)
theorem co10_375 : CalOK (10, 375, 0, 1, [(5, 60)]) := find1_cons (a := 5) (m := 60) (VOK 10 375 1) ⟨⟨by decide, by decide⟩, tw499, tw242, ⟨by decide, by decide⟩, Or.inl ⟨rfl, by decide +kernel, tw501, tw500⟩⟩ (find1_nil _)
theorem co10_378 : CalOK (10, 378, 0, 1, [(3, 14)]) := find1_cons (a := 3) (m := 14) (VOK 10 378 1) ⟨⟨by decide, by decide⟩, tw151, tw152, ⟨by decide, by decide⟩, Or.inl ⟨rfl, by decide +kernel, tw502, tw153⟩⟩ (find1_nil _)
theorem co10_381 : CalOK (10, 381, 0, 3, [(11, 157)]) := find1_cons (a := 11) (m := 157) (VOK 10 381 3) ⟨⟨by decide, by decide⟩, tw503, tw149, ⟨by decide, by decide⟩, Or.inl ⟨rfl, by decide +kernel, tw504, (inPV (y := yOf 157) 23 13 (by decide +kernel))⟩⟩ (find1_nil _)
theorem co10_387 : CalOK (10, 387, 0, 1, [(3, 16)]) := find1_cons (a := 3) (m := 16) (VOK 10 387 1) ⟨⟨by decide, by decide⟩, tw158, tw152, ⟨by decide, by decide⟩, Or.inl ⟨rfl, by decide +kernel, tw505, tw159⟩⟩ (find1_nil _)
theorem co10_390 : CalOK (10, 390, 0, 0, [(3, 17)]) := find1_cons (a := 3) (m := 17) (VOK 10 390 0) ⟨⟨by decide, by decide⟩, tw161, tw152, ⟨by decide, by decide⟩, Or.inl ⟨rfl, by decide +kernel, tw506, tw162⟩⟩ (find1_nil _)
theorem co10_393 : CalOK (10, 393, 0, 0, [(4, 46)]) := find1_cons (a := 4) (m := 46) (VOK 10 393 0) ⟨⟨by decide, by decide⟩, tw507, tw112, ⟨by decide, by decide⟩, Or.inl ⟨rfl, by decide +kernel, tw509, tw508⟩⟩ (find1_nil _)
theorem co10_396 : CalOK (10, 396, 0, 1, [(3, 13)]) := find1_cons (a := 3) (m := 13) (VOK 10 396 1) ⟨⟨by decide, by decide⟩, tw510, tw152, ⟨by decide, by decide⟩, Or.inl ⟨rfl, by decide +kernel, tw512, tw511⟩⟩ (find1_nil _)
theorem co10_402 : CalOK (10, 402, 0, 1, [(11, 166)]) := find1_cons (a := 11) (m := 166) (VOK 10 402 1) ⟨⟨by decide, by decide⟩, tw513, tw149, ⟨by decide, by decide⟩, Or.inl ⟨rfl, by decide +kernel, tw514, (inPV (y := yOf 166) 30 13 (by decide +kernel))⟩⟩ (find1_nil _)
theorem co10_405 : CalOK (10, 405, 0, 1, [(4, 54)]) := find1_cons (a := 4) (m := 54) (VOK 10 405 1) ⟨⟨by decide, by decide⟩, tw515, tw112, ⟨by decide, by decide⟩, Or.inl ⟨rfl, by decide +kernel, tw517, tw516⟩⟩ (find1_nil _)
theorem co10_408 : CalOK (10, 408, 0, 1, [(4, 37)]) := find1_cons (a := 4) (m := 37) (VOK 10 408 1) ⟨⟨by decide, by decide⟩, tw224, tw112, ⟨by decide, by decide⟩, Or.inl ⟨rfl, by decide +kernel, tw518, tw225⟩⟩ (find1_nil _)
theorem co10_410 : CalOK (10, 410, 0, 2, [(4, 57)]) := find1_cons (a := 4) (m := 57) (VOK 10 410 2) ⟨⟨by decide, by decide⟩, tw519, tw112, ⟨by decide, by decide⟩, Or.inl ⟨rfl, by decide +kernel, tw521, tw520⟩⟩ (find1_nil _)
theorem co10_413 : CalOK (10, 413, 4, 2, [(0, 175)]) := ⟨0, 175, rfl, tw522, tw523, tw149, ⟨by decide, by decide⟩, by decide +kernel⟩
theorem co11_1 : CalOK (11, 1, 6, 0, []) := ⟨tw524, tw147, tw148⟩
theorem co11_89 : CalOK (11, 89, 4, 3, [(0, 179)]) := ⟨0, 179, rfl, tw526, tw527, tw525, ⟨by decide, by decide⟩, by decide +kernel⟩
theorem co11_97 : CalOK (11, 97, 4, 3, [(0, 186)]) := ⟨0, 186, rfl, tw528, tw529, tw525, ⟨by decide, by decide⟩, by decide +kernel⟩
theorem co11_101 : CalOK (11, 101, 0, 0, [(12, 191)]) := find1_cons (a := 12) (m := 191) (VOK 11 101 0) ⟨⟨by decide, by decide⟩, tw530, tw525, ⟨by decide, by decide⟩, Or.inl ⟨rfl, by decide +kernel, tw531, (inPV (y := yOf 191) 46 40 (by decide +kernel))⟩⟩ (find1_nil _)
theorem co11_105 : CalOK (11, 105, 0, 0, [(12, 192)]) := find1_cons (a := 12) (m := 192) (VOK 11 105 0) ⟨⟨by decide, by decide⟩, tw532, tw525, ⟨by decide, by decide⟩, Or.inl ⟨rfl, by decide +kernel, tw533, (inPV (y := yOf 192) 47 40 (by decide +kernel))⟩⟩ (find1_nil _)
theorem co11_108 : CalOK (11, 108, 0, 1, [(12, 193)]) := find1_cons (a := 12) (m := 193) (VOK 11 108 1) ⟨⟨by decide, by decide⟩, tw534, tw525, ⟨by decide, by decide⟩, Or.inl ⟨rfl, by decide +kernel, tw535, (inPV (y := yOf 193) 45 40 (by decide +kernel))⟩⟩ (find1_nil _)
theorem co11_112 : CalOK (11, 112, 0, 1, [(12, 190)]) := find1_cons (a := 12) (m := 190) (VOK 11 112 1) ⟨⟨by decide, by decide⟩, tw536, tw525, ⟨by decide, by decide⟩, Or.inl ⟨rfl, by decide +kernel, tw537, (inPV (y := yOf 190) 48 40 (by decide +kernel))⟩⟩ (find1_nil _)
theorem co11_116 : CalOK (11, 116, 0, 1, [(12, 194)]) := find1_cons (a := 12) (m := 194) (VOK 11 116 1) ⟨⟨by decide, by decide⟩, tw538, tw525, ⟨by decide, by decide⟩, Or.inl ⟨rfl, by decide +kernel, tw539, (inPV (y := yOf 194) 44 40 (by decide +kernel))⟩⟩ (find1_nil _)
theorem co11_119 : CalOK (11, 119, 0, 0, [(12, 195)]) := find1_cons (a := 12) (m := 195) (VOK 11 119 0) ⟨⟨by decide, by decide⟩, tw540, tw525, ⟨by decide, by decide⟩, Or.inl ⟨rfl, by decide +kernel, tw541, (inPV (y := yOf 195) 49 40 (by decide +kernel))⟩⟩ (find1_nil _)
theorem co11_125 : CalOK (11, 125, 0, 1, [(12, 197)]) := find1_cons (a := 12) (m := 197) (VOK 11 125 1) ⟨⟨by decide, by decide⟩, tw542, tw525, ⟨by decide, by decide⟩, Or.inl ⟨rfl, by decide +kernel, tw543, (inPV (y := yOf 197) 52 40 (by decide +kernel))⟩⟩ (find1_nil _)
theorem co11_131 : CalOK (11, 131, 0, 0, [(12, 198)]) := find1_cons (a := 12) (m := 198) (VOK 11 131 0) ⟨⟨by decide, by decide⟩, tw544, tw525, ⟨by decide, by decide⟩, Or.inl ⟨rfl, by decide +kernel, tw545, (inPV (y := yOf 198) 51 40 (by decide +kernel))⟩⟩ (find1_nil _)
theorem co11_134 : CalOK (11, 134, 0, 1, [(12, 180)]) := find1_cons (a := 12) (m := 180) (VOK 11 134 1) ⟨⟨by decide, by decide⟩, tw546, tw525, ⟨by decide, by decide⟩, Or.inl ⟨rfl, by decide +kernel, tw547, (inPV (y := yOf 180) 31 40 (by decide +kernel))⟩⟩ (find1_nil _)
theorem co11_147 : CalOK (11, 147, 0, 0, [(12, 201)]) := find1_cons (a := 12) (m := 201) (VOK 11 147 0) ⟨⟨by decide, by decide⟩, tw548, tw525, ⟨by decide, by decide⟩, Or.inl ⟨rfl, by decide +kernel, tw549, (inPV (y := yOf 201) 33 40 (by decide +kernel))⟩⟩ (find1_nil _)
theorem co11_154 : CalOK (11, 154, 0, 1, [(12, 202)]) := find1_cons (a := 12) (m := 202) (VOK 11 154 1) ⟨⟨by decide, by decide⟩, tw550, tw525, ⟨by decide, by decide⟩, Or.inl ⟨rfl, by decide +kernel, tw551, (inPV (y := yOf 202) 35 40 (by decide +kernel))⟩⟩ (find1_nil _)
theorem co11_160 : CalOK (11, 160, 4, 1, [(0, 203)]) := ⟨0, 203, rfl, tw552, tw553, tw525, ⟨by decide, by decide⟩, by decide +kernel⟩
theorem co11_164 : CalOK (11, 164, 0, 2, [(12, 204)]) := find1_cons (a := 12) (m := 204) (VOK 11 164 2) ⟨⟨by decide, by decide⟩, tw554, tw525, ⟨by decide, by decide⟩, Or.inl ⟨rfl, by decide +kernel, tw555, (inPV (y := yOf 204) 34 40 (by decide +kernel))⟩⟩ (find1_nil _)
theorem co11_170 : CalOK (11, 170, 0, 3, [(12, 206)]) := find1_cons (a := 12) (m := 206) (VOK 11 170 3) ⟨⟨by decide, by decide⟩, tw556, tw525, ⟨by decide, by decide⟩, Or.inl ⟨rfl, by decide +kernel, tw557, (inPV (y := yOf 206) 40 40 (by decide +kernel))⟩⟩ (find1_nil _)
theorem co11_174 : CalOK (11, 174, 0, 3, [(12, 207)]) := find1_cons (a := 12) (m := 207) (VOK 11 174 3) ⟨⟨by decide, by decide⟩, tw558, tw525, ⟨by decide, by decide⟩, Or.inl ⟨rfl, by decide +kernel, tw559, (inPV (y := yOf 207) 41 40 (by decide +kernel))⟩⟩ (find1_nil _)
theorem co11_177 : CalOK (11, 177, 0, 1, [(12, 182)]) := find1_cons (a := 12) (m := 182) (VOK 11 177 1) ⟨⟨by decide, by decide⟩, tw560, tw525, ⟨by decide, by decide⟩, Or.inl ⟨rfl, by decide +kernel, tw561, (inPV (y := yOf 182) 42 40 (by decide +kernel))⟩⟩ (find1_nil _)
theorem co11_180 : CalOK (11, 180, 0, 1, [(12, 196)]) := find1_cons (a := 12) (m := 196) (VOK 11 180 1) ⟨⟨by decide, by decide⟩, tw562, tw525, ⟨by decide, by decide⟩, Or.inl ⟨rfl, by decide +kernel, tw563, (inPV (y := yOf 196) 43 40 (by decide +kernel))⟩⟩ (find1_nil _)
theorem co11_185 : CalOK (11, 185, 0, 1, [(12, 199)]) := find1_cons (a := 12) (m := 199) (VOK 11 185 1) ⟨⟨by decide, by decide⟩, tw564, tw525, ⟨by decide, by decide⟩, Or.inl ⟨rfl, by decide +kernel, tw565, (inPV (y := yOf 199) 50 40 (by decide +kernel))⟩⟩ (find1_nil _)
theorem co11_188 : CalOK (11, 188, 0, 1, [(12, 181)]) := find1_cons (a := 12) (m := 181) (VOK 11 188 1) ⟨⟨by decide, by decide⟩, tw566, tw525, ⟨by decide, by decide⟩, Or.inl ⟨rfl, by decide +kernel, tw567, (inPV (y := yOf 181) 53 40 (by decide +kernel))⟩⟩ (find1_nil _)
theorem co11_191 : CalOK (11, 191, 0, 0, [(12, 205)]) := find1_cons (a := 12) (m := 205) (VOK 11 191 0) ⟨⟨by decide, by decide⟩, tw568, tw525, ⟨by decide, by decide⟩, Or.inl ⟨rfl, by decide +kernel, tw569, (inPV (y := yOf 205) 32 40 (by decide +kernel))⟩⟩ (find1_nil _)
theorem co11_194 : CalOK (11, 194, 0, 0, [(12, 212)]) := find1_cons (a := 12) (m := 212) (VOK 11 194 0) ⟨⟨by decide, by decide⟩, tw570, tw525, ⟨by decide, by decide⟩, Or.inl ⟨rfl, by decide +kernel, tw571, (inPV (y := yOf 212) 36 40 (by decide +kernel))⟩⟩ (find1_nil _)
theorem co11_197 : CalOK (11, 197, 0, 1, [(12, 208)]) := find1_cons (a := 12) (m := 208) (VOK 11 197 1) ⟨⟨by decide, by decide⟩, tw572, tw525, ⟨by decide, by decide⟩, Or.inl ⟨rfl, by decide +kernel, tw573, (inPV (y := yOf 208) 39 40 (by decide +kernel))⟩⟩ (find1_nil _)
theorem co11_200 : CalOK (11, 200, 0, 0, [(12, 213)]) := find1_cons (a := 12) (m := 213) (VOK 11 200 0) ⟨⟨by decide, by decide⟩, tw574, tw525, ⟨by decide, by decide⟩, Or.inl ⟨rfl, by decide +kernel, tw575, (inPV (y := yOf 213) 54 40 (by decide +kernel))⟩⟩ (find1_nil _)
theorem co11_215 : CalOK (11, 215, 0, 1, [(12, 210)]) := find1_cons (a := 12) (m := 210) (VOK 11 215 1) ⟨⟨by decide, by decide⟩, tw576, tw525, ⟨by decide, by decide⟩, Or.inl ⟨rfl, by decide +kernel, tw577, (inPV (y := yOf 210) 38 40 (by decide +kernel))⟩⟩ (find1_nil _)
theorem co11_218 : CalOK (11, 218, 0, 2, [(12, 211)]) := find1_cons (a := 12) (m := 211) (VOK 11 218 2) ⟨⟨by decide, by decide⟩, tw578, tw525, ⟨by decide, by decide⟩, Or.inl ⟨rfl, by decide +kernel, tw579, (inPV (y := yOf 211) 37 40 (by decide +kernel))⟩⟩ (find1_nil _)
theorem co11_227 : CalOK (11, 227, 0, 1, [(12, 189)]) := find1_cons (a := 12) (m := 189) (VOK 11 227 1) ⟨⟨by decide, by decide⟩, tw580, tw525, ⟨by decide, by decide⟩, Or.inl ⟨rfl, by decide +kernel, tw581, (inPV (y := yOf 189) 55 40 (by decide +kernel))⟩⟩ (find1_nil _)
theorem co11_232 : CalOK (11, 232, 0, 0, [(12, 216)]) := find1_cons (a := 12) (m := 216) (VOK 11 232 0) ⟨⟨by decide, by decide⟩, tw582, tw525, ⟨by decide, by decide⟩, Or.inl ⟨rfl, by decide +kernel, tw583, (inPV (y := yOf 216) 56 40 (by decide +kernel))⟩⟩ (find1_nil _)
theorem co11_235 : CalOK (11, 235, 0, 0, [(12, 188)]) := find1_cons (a := 12) (m := 188) (VOK 11 235 0) ⟨⟨by decide, by decide⟩, tw584, tw525, ⟨by decide, by decide⟩, Or.inl ⟨rfl, by decide +kernel, tw585, (inPV (y := yOf 188) 57 40 (by decide +kernel))⟩⟩ (find1_nil _)
theorem co11_238 : CalOK (11, 238, 4, 3, [(0, 183)]) := ⟨0, 183, rfl, tw586, tw587, tw525, ⟨by decide, by decide⟩, by decide +kernel⟩
theorem co11_241 : CalOK (11, 241, 4, 3, [(0, 184)]) := ⟨0, 184, rfl, tw588, tw589, tw525, ⟨by decide, by decide⟩, by decide +kernel⟩
theorem co11_244 : CalOK (11, 244, 0, 1, [(12, 227)]) := find1_cons (a := 12) (m := 227) (VOK 11 244 1) ⟨⟨by decide, by decide⟩, tw590, tw525, ⟨by decide, by decide⟩, Or.inl ⟨rfl, by decide +kernel, tw591, (inPV (y := yOf 227) 58 40 (by decide +kernel))⟩⟩ (find1_nil _)
theorem co11_247 : CalOK (11, 247, 0, 1, [(12, 229)]) := find1_cons (a := 12) (m := 229) (VOK 11 247 1) ⟨⟨by decide, by decide⟩, tw592, tw525, ⟨by decide, by decide⟩, Or.inl ⟨rfl, by decide +kernel, tw593, (inPV (y := yOf 229) 59 40 (by decide +kernel))⟩⟩ (find1_nil _)
theorem co11_252 : CalOK (11, 252, 0, 0, [(12, 232)]) := find1_cons (a := 12) (m := 232) (VOK 11 252 0) ⟨⟨by decide, by decide⟩, tw594, tw525, ⟨by decide, by decide⟩, Or.inl ⟨rfl, by decide +kernel, tw595, (inPV (y := yOf 232) 60 40 (by decide +kernel))⟩⟩ (find1_nil _)
theorem co11_255 : CalOK (11, 255, 0, 0, [(12, 231)]) := find1_cons (a := 12) (m := 231) (VOK 11 255 0) ⟨⟨by decide, by decide⟩, tw596, tw525, ⟨by decide, by decide⟩, Or.inl ⟨rfl, by decide +kernel, tw597, (inPV (y := yOf 231) 61 40 (by decide +kernel))⟩⟩ (find1_nil _)
theorem co11_258 : CalOK (11, 258, 4, 2, [(0, 185)]) := ⟨0, 185, rfl, tw598, tw599, tw525, ⟨by decide, by decide⟩, by decide +kernel⟩
theorem co11_262 : CalOK (11, 262, 0, 0, [(12, 236)]) := find1_cons (a := 12) (m := 236) (VOK 11 262 0) ⟨⟨by decide, by decide⟩, tw600, tw525, ⟨by decide, by decide⟩, Or.inl ⟨rfl, by decide +kernel, tw601, (inPV (y := yOf 236) 62 40 (by decide +kernel))⟩⟩ (find1_nil _)
theorem co11_265 : CalOK (11, 265, 0, 1, [(12, 237)]) := find1_cons (a := 12) (m := 237) (VOK 11 265 1) ⟨⟨by decide, by decide⟩, tw602, tw525, ⟨by decide, by decide⟩, Or.inl ⟨rfl, by decide +kernel, tw603, (inPV (y := yOf 237) 63 40 (by decide +kernel))⟩⟩ (find1_nil _)
theorem co11_268 : CalOK (11, 268, 0, 1, [(12, 235)]) := find1_cons (a := 12) (m := 235) (VOK 11 268 1) ⟨⟨by decide, by decide⟩, tw604, tw525, ⟨by decide, by decide⟩, Or.inl ⟨rfl, by decide +kernel, tw605, (inPV (y := yOf 235) 64 40 (by decide +kernel))⟩⟩ (find1_nil _)
theorem co11_272 : CalOK (11, 272, 0, 3, [(12, 243)]) := find1_cons (a := 12) (m := 243) (VOK 11 272 3) ⟨⟨by decide, by decide⟩, tw606, tw525, ⟨by decide, by decide⟩, Or.inl ⟨rfl, by decide +kernel, tw607, (inPV (y := yOf 243) 65 40 (by decide +kernel))⟩⟩ (find1_nil _)
theorem co11_275 : CalOK (11, 275, 0, 2, [(12, 242)]) := find1_cons (a := 12) (m := 242) (VOK 11 275 2) ⟨⟨by decide, by decide⟩, tw608, tw525, ⟨by decide, by decide⟩, Or.inl ⟨rfl, by decide +kernel, tw609, (inPV (y := yOf 242) 66 40 (by decide +kernel))⟩⟩ (find1_nil _)
theorem co11_279 : CalOK (11, 279, 4, 2, [(0, 246)]) := ⟨0, 246, rfl, tw610, tw611, tw525, ⟨by decide, by decide⟩, by decide +kernel⟩
theorem co11_285 : CalOK (11, 285, 4, 3, [(0, 247)]) := ⟨0, 247, rfl, tw612, tw613, tw525, ⟨by decide, by decide⟩, by decide +kernel⟩
theorem co11_289 : CalOK (11, 289, 0, 3, [(12, 250)]) := find1_cons (a := 12) (m := 250) (VOK 11 289 3) ⟨⟨by decide, by decide⟩, tw614, tw525, ⟨by decide, by decide⟩, Or.inl ⟨rfl, by decide +kernel, tw615, (inPV (y := yOf 250) 67 40 (by decide +kernel))⟩⟩ (find1_nil _)
theorem co11_292 : CalOK (11, 292, 0, 0, [(12, 187)]) := find1_cons (a := 12) (m := 187) (VOK 11 292 0) ⟨⟨by decide, by decide⟩, tw616, tw525, ⟨by decide, by decide⟩, Or.inl ⟨rfl, by decide +kernel, tw617, (inPV (y := yOf 187) 68 40 (by decide +kernel))⟩⟩ (find1_nil _)
theorem co11_298 : CalOK (11, 298, 4, 1, [(0, 256)]) := ⟨0, 256, rfl, tw618, tw619, tw525, ⟨by decide, by decide⟩, by decide +kernel⟩
theorem co11_301 : CalOK (11, 301, 0, 2, [(12, 257)]) := find1_cons (a := 12) (m := 257) (VOK 11 301 2) ⟨⟨by decide, by decide⟩, tw620, tw525, ⟨by decide, by decide⟩, Or.inl ⟨rfl, by decide +kernel, tw621, (inPV (y := yOf 257) 69 40 (by decide +kernel))⟩⟩ (find1_nil _)
theorem co11_310 : CalOK (11, 310, 0, 1, [(12, 274)]) := find1_cons (a := 12) (m := 274) (VOK 11 310 1) ⟨⟨by decide, by decide⟩, tw622, tw525, ⟨by decide, by decide⟩, Or.inl ⟨rfl, by decide +kernel, tw623, (inPV (y := yOf 274) 70 40 (by decide +kernel))⟩⟩ (find1_nil _)
theorem co12_9 : CalOK (12, 9, 1, 0, [(0, 91)]) := ⟨0, 91, rfl, tw624, tw625, tw149, rfl, rfl, ⟨by decide, by decide⟩, by decide +kernel⟩
theorem co12_12 : CalOK (12, 12, 1, 0, [(0, 178)]) := ⟨0, 178, rfl, tw626, tw627, tw525, rfl, rfl, ⟨by decide, by decide⟩, by decide +kernel⟩
theorem co12_13 : CalOK (12, 13, 0, 1, [(11, 92)]) := find1_cons (a := 11) (m := 92) (VOK 12 13 1) ⟨⟨by decide, by decide⟩, tw628, tw149, ⟨by decide, by decide⟩, Or.inl ⟨rfl, by decide +kernel, tw630, tw629⟩⟩ (find1_nil _)
theorem co12_17 : CalOK (12, 17, 0, 1, [(12, 200)]) := find1_cons (a := 12) (m := 200) (VOK 12 17 1) ⟨⟨by decide, by decide⟩, tw631, tw525, ⟨by decide, by decide⟩, Or.inl ⟨rfl, by decide +kernel, tw633, tw632⟩⟩ (find1_nil _)
theorem co12_18 : CalOK (12, 18, 0, 0, [(11, 93)]) := find1_cons (a := 11) (m := 93) (VOK 12 18 0) ⟨⟨by decide, by decide⟩, tw634, tw149, ⟨by decide, by decide⟩, Or.inl ⟨rfl, by decide +kernel, tw636, tw635⟩⟩ (find1_nil _)
theorem co12_22 : CalOK (12, 22, 0, 0, [(12, 209)]) := find1_cons (a := 12) (m := 209) (VOK 12 22 0) ⟨⟨by decide, by decide⟩, tw637, tw525, ⟨by decide, by decide⟩, Or.inl ⟨rfl, by decide +kernel, tw639, tw638⟩⟩ (find1_nil _)
theorem co12_23 : CalOK (12, 23, 0, 2, [(11, 94)]) := find1_cons (a := 11) (m := 94) (VOK 12 23 2) ⟨⟨by decide, by decide⟩, tw640, tw149, ⟨by decide, by decide⟩, Or.inl ⟨rfl, by decide +kernel, tw642, tw641⟩⟩ (find1_nil _)
theorem co12_27 : CalOK (12, 27, 0, 2, [(12, 218)]) := find1_cons (a := 12) (m := 218) (VOK 12 27 2) ⟨⟨by decide, by decide⟩, tw643, tw525, ⟨by decide, by decide⟩, Or.inl ⟨rfl, by decide +kernel, tw645, tw644⟩⟩ (find1_nil _)
theorem co12_28 : CalOK (12, 28, 0, 2, [(11, 95)]) := find1_cons (a := 11) (m := 95) (VOK 12 28 2) ⟨⟨by decide, by decide⟩, tw646, tw149, ⟨by decide, by decide⟩, Or.inl ⟨rfl, by decide +kernel, tw648, tw647⟩⟩ (find1_nil _)
theorem co12_31 : CalOK (12, 31, 0, 2, [(12, 219)]) := find1_cons (a := 12) (m := 219) (VOK 12 31 2) ⟨⟨by decide, by decide⟩, tw649, tw525, ⟨by decide, by decide⟩, Or.inl ⟨rfl, by decide +kernel, tw651, tw650⟩⟩ (find1_nil _)
theorem co12_32 : CalOK (12, 32, 0, 3, [(11, 96)]) := find1_cons (a := 11) (m := 96) (VOK 12 32 3) ⟨⟨by decide, by decide⟩, tw652, tw149, ⟨by decide, by decide⟩, Or.inl ⟨rfl, by decide +kernel, tw654, tw653⟩⟩ (find1_nil _)
theorem co12_36 : CalOK (12, 36, 0, 3, [(12, 220)]) := find1_cons (a := 12) (m := 220) (VOK 12 36 3) ⟨⟨by decide, by decide⟩, tw655, tw525, ⟨by decide, by decide⟩, Or.inl ⟨rfl, by decide +kernel, tw657, tw656⟩⟩ (find1_nil _)
theorem co12_37 : CalOK (12, 37, 0, 3, [(11, 97)]) := find1_cons (a := 11) (m := 97) (VOK 12 37 3) ⟨⟨by decide, by decide⟩, tw658, tw149, ⟨by decide, by decide⟩, Or.inl ⟨rfl, by decide +kernel, tw660, tw659⟩⟩ (find1_nil _)
theorem co12_40 : CalOK (12, 40, 0, 3, [(12, 221)]) := find1_cons (a := 12) (m := 221) (VOK 12 40 3) ⟨⟨by decide, by decide⟩, tw661, tw525, ⟨by decide, by decide⟩, Or.inl ⟨rfl, by decide +kernel, tw663, tw662⟩⟩ (find1_nil _)
theorem co12_41 : CalOK (12, 41, 0, 1, [(11, 98)]) := find1_cons (a := 11) (m := 98) (VOK 12 41 1) ⟨⟨by decide, by decide⟩, tw664, tw149, ⟨by decide, by decide⟩, Or.inl ⟨rfl, by decide +kernel, tw666, tw665⟩⟩ (find1_nil _)
theorem co12_44 : CalOK (12, 44, 0, 1, [(12, 222)]) := find1_cons (a := 12) (m := 222) (VOK 12 44 1) ⟨⟨by decide, by decide⟩, tw667, tw525, ⟨by decide, by decide⟩, Or.inl ⟨rfl, by decide +kernel, tw669, tw668⟩⟩ (find1_nil _)
theorem co12_45 : CalOK (12, 45, 0, 1, [(11, 99)]) := find1_cons (a := 11) (m := 99) (VOK 12 45 1) ⟨⟨by decide, by decide⟩, tw670, tw149, ⟨by decide, by decide⟩, Or.inl ⟨rfl, by decide +kernel, tw672, tw671⟩⟩ (find1_nil _)
theorem co12_48 : CalOK (12, 48, 0, 1, [(12, 223)]) := find1_cons (a := 12) (m := 223) (VOK 12 48 1) ⟨⟨by decide, by decide⟩, tw673, tw525, ⟨by decide, by decide⟩, Or.inl ⟨rfl, by decide +kernel, tw675, tw674⟩⟩ (find1_nil _)
theorem co12_49 : CalOK (12, 49, 0, 2, [(11, 100)]) := find1_cons (a := 11) (m := 100) (VOK 12 49 2) ⟨⟨by decide, by decide⟩, tw676, tw149, ⟨by decide, by decide⟩, Or.inl ⟨rfl, by decide +kernel, tw678, tw677⟩⟩ (find1_nil _)
theorem co12_52 : CalOK (12, 52, 0, 2, [(12, 224)]) := find1_cons (a := 12) (m := 224) (VOK 12 52 2) ⟨⟨by decide, by decide⟩, tw679, tw525, ⟨by decide, by decide⟩, Or.inl ⟨rfl, by decide +kernel, tw681, tw680⟩⟩ (find1_nil _)
theorem co12_53 : CalOK (12, 53, 0, 1, [(11, 101)]) := find1_cons (a := 11) (m := 101) (VOK 12 53 1) ⟨⟨by decide, by decide⟩, tw682, tw149, ⟨by decide, by decide⟩, Or.inl ⟨rfl, by decide +kernel, tw684, tw683⟩⟩ (find1_nil _)
theorem co12_56 : CalOK (12, 56, 0, 1, [(12, 225)]) := find1_cons (a := 12) (m := 225) (VOK 12 56 1) ⟨⟨by decide, by decide⟩, tw685, tw525, ⟨by decide, by decide⟩, Or.inl ⟨rfl, by decide +kernel, tw687, tw686⟩⟩ (find1_nil _)
theorem co12_57 : CalOK (12, 57, 0, 0, [(11, 119)]) := find1_cons (a := 11) (m := 119) (VOK 12 57 0) ⟨⟨by decide, by decide⟩, tw688, tw149, ⟨by decide, by decide⟩, Or.inl ⟨rfl, by decide +kernel, tw690, tw689⟩⟩ (find1_nil _)
theorem co12_60 : CalOK (12, 60, 0, 0, [(12, 217)]) := find1_cons (a := 12) (m := 217) (VOK 12 60 0) ⟨⟨by decide, by decide⟩, tw691, tw525, ⟨by decide, by decide⟩, Or.inl ⟨rfl, by decide +kernel, tw693, tw692⟩⟩ (find1_nil _)
theorem co12_61 : CalOK (12, 61, 0, 3, [(11, 102)]) := find1_cons (a := 11) (m := 102) (VOK 12 61 3) ⟨⟨by decide, by decide⟩, tw694, tw149, ⟨by decide, by decide⟩, Or.inl ⟨rfl, by decide +kernel, tw696, tw695⟩⟩ (find1_nil _)
theorem co12_64 : CalOK (12, 64, 0, 3, [(12, 226)]) := find1_cons (a := 12) (m := 226) (VOK 12 64 3) ⟨⟨by decide, by decide⟩, tw697, tw525, ⟨by decide, by decide⟩, Or.inl ⟨rfl, by decide +kernel, tw699, tw698⟩⟩ (find1_nil _)
theorem co12_65 : CalOK (12, 65, 0, 1, [(11, 103)]) := find1_cons (a := 11) (m := 103) (VOK 12 65 1) ⟨⟨by decide, by decide⟩, tw700, tw149, ⟨by decide, by decide⟩, Or.inl ⟨rfl, by decide +kernel, tw702, tw701⟩⟩ (find1_nil _)
theorem co12_68 : CalOK (12, 68, 0, 1, [(12, 228)]) := find1_cons (a := 12) (m := 228) (VOK 12 68 1) ⟨⟨by decide, by decide⟩, tw703, tw525, ⟨by decide, by decide⟩, Or.inl ⟨rfl, by decide +kernel, tw705, tw704⟩⟩ (find1_nil _)
theorem co12_69 : CalOK (12, 69, 0, 1, [(11, 104)]) := find1_cons (a := 11) (m := 104) (VOK 12 69 1) ⟨⟨by decide, by decide⟩, tw706, tw149, ⟨by decide, by decide⟩, Or.inl ⟨rfl, by decide +kernel, tw708, tw707⟩⟩ (find1_nil _)
theorem co12_72 : CalOK (12, 72, 0, 1, [(12, 230)]) := find1_cons (a := 12) (m := 230) (VOK 12 72 1) ⟨⟨by decide, by decide⟩, tw709, tw525, ⟨by decide, by decide⟩, Or.inl ⟨rfl, by decide +kernel, tw711, tw710⟩⟩ (find1_nil _)
theorem co12_73 : CalOK (12, 73, 0, 1, [(11, 105)]) := find1_cons (a := 11) (m := 105) (VOK 12 73 1) ⟨⟨by decide, by decide⟩, tw712, tw149, ⟨by decide, by decide⟩, Or.inl ⟨rfl, by decide +kernel, tw714, tw713⟩⟩ (find1_nil _)
theorem co12_76 : CalOK (12, 76, 0, 1, [(12, 233)]) := find1_cons (a := 12) (m := 233) (VOK 12 76 1) ⟨⟨by decide, by decide⟩, tw715, tw525, ⟨by decide, by decide⟩, Or.inl ⟨rfl, by decide +kernel, tw717, tw716⟩⟩ (find1_nil _)
theorem co12_77 : CalOK (12, 77, 0, 3, [(11, 106)]) := find1_cons (a := 11) (m := 106) (VOK 12 77 3) ⟨⟨by decide, by decide⟩, tw718, tw149, ⟨by decide, by decide⟩, Or.inl ⟨rfl, by decide +kernel, tw720, tw719⟩⟩ (find1_nil _)
theorem co12_80 : CalOK (12, 80, 0, 3, [(12, 234)]) := find1_cons (a := 12) (m := 234) (VOK 12 80 3) ⟨⟨by decide, by decide⟩, tw721, tw525, ⟨by decide, by decide⟩, Or.inl ⟨rfl, by decide +kernel, tw723, tw722⟩⟩ (find1_nil _)
theorem co12_81 : CalOK (12, 81, 0, 3, [(11, 107)]) := find1_cons (a := 11) (m := 107) (VOK 12 81 3) ⟨⟨by decide, by decide⟩, tw724, tw149, ⟨by decide, by decide⟩, Or.inl ⟨rfl, by decide +kernel, tw726, tw725⟩⟩ (find1_nil _)
theorem co12_84 : CalOK (12, 84, 0, 3, [(12, 238)]) := find1_cons (a := 12) (m := 238) (VOK 12 84 3) ⟨⟨by decide, by decide⟩, tw727, tw525, ⟨by decide, by decide⟩, Or.inl ⟨rfl, by decide +kernel, tw729, tw728⟩⟩ (find1_nil _)
theorem co12_85 : CalOK (12, 85, 0, 1, [(11, 108)]) := find1_cons (a := 11) (m := 108) (VOK 12 85 1) ⟨⟨by decide, by decide⟩, tw730, tw149, ⟨by decide, by decide⟩, Or.inl ⟨rfl, by decide +kernel, tw732, tw731⟩⟩ (find1_nil _)
theorem co12_88 : CalOK (12, 88, 0, 1, [(12, 239)]) := find1_cons (a := 12) (m := 239) (VOK 12 88 1) ⟨⟨by decide, by decide⟩, tw733, tw525, ⟨by decide, by decide⟩, Or.inl ⟨rfl, by decide +kernel, tw735, tw734⟩⟩ (find1_nil _)
theorem co12_89 : CalOK (12, 89, 0, 2, [(11, 109)]) := find1_cons (a := 11) (m := 109) (VOK 12 89 2) ⟨⟨by decide, by decide⟩, tw736, tw149, ⟨by decide, by decide⟩, Or.inl ⟨rfl, by decide +kernel, tw738, tw737⟩⟩ (find1_nil _)
theorem co12_92 : CalOK (12, 92, 0, 2, [(12, 240)]) := find1_cons (a := 12) (m := 240) (VOK 12 92 2) ⟨⟨by decide, by decide⟩, tw739, tw525, ⟨by decide, by decide⟩, Or.inl ⟨rfl, by decide +kernel, tw741, tw740⟩⟩ (find1_nil _)
theorem co12_93 : CalOK (12, 93, 0, 3, [(11, 110)]) := find1_cons (a := 11) (m := 110) (VOK 12 93 3) ⟨⟨by decide, by decide⟩, tw742, tw149, ⟨by decide, by decide⟩, Or.inl ⟨rfl, by decide +kernel, tw744, tw743⟩⟩ (find1_nil _)
theorem co12_96 : CalOK (12, 96, 0, 3, [(12, 241)]) := find1_cons (a := 12) (m := 241) (VOK 12 96 3) ⟨⟨by decide, by decide⟩, tw745, tw525, ⟨by decide, by decide⟩, Or.inl ⟨rfl, by decide +kernel, tw747, tw746⟩⟩ (find1_nil _)
theorem co12_97 : CalOK (12, 97, 0, 3, [(11, 111)]) := find1_cons (a := 11) (m := 111) (VOK 12 97 3) ⟨⟨by decide, by decide⟩, tw748, tw149, ⟨by decide, by decide⟩, Or.inl ⟨rfl, by decide +kernel, tw750, tw749⟩⟩ (find1_nil _)
theorem co12_100 : CalOK (12, 100, 0, 3, [(12, 244)]) := find1_cons (a := 12) (m := 244) (VOK 12 100 3) ⟨⟨by decide, by decide⟩, tw751, tw525, ⟨by decide, by decide⟩, Or.inl ⟨rfl, by decide +kernel, tw753, tw752⟩⟩ (find1_nil _)
theorem co12_101 : CalOK (12, 101, 0, 1, [(11, 112)]) := find1_cons (a := 11) (m := 112) (VOK 12 101 1) ⟨⟨by decide, by decide⟩, tw754, tw149, ⟨by decide, by decide⟩, Or.inl ⟨rfl, by decide +kernel, tw756, tw755⟩⟩ (find1_nil _)
theorem co12_104 : CalOK (12, 104, 0, 1, [(12, 245)]) := find1_cons (a := 12) (m := 245) (VOK 12 104 1) ⟨⟨by decide, by decide⟩, tw757, tw525, ⟨by decide, by decide⟩, Or.inl ⟨rfl, by decide +kernel, tw759, tw758⟩⟩ (find1_nil _)
theorem co12_105 : CalOK (12, 105, 0, 2, [(11, 113)]) := find1_cons (a := 11) (m := 113) (VOK 12 105 2) ⟨⟨by decide, by decide⟩, tw760, tw149, ⟨by decide, by decide⟩, Or.inl ⟨rfl, by decide +kernel, tw762, tw761⟩⟩ (find1_nil _)
theorem co12_109 : CalOK (12, 109, 0, 2, [(12, 248)]) := find1_cons (a := 12) (m := 248) (VOK 12 109 2) ⟨⟨by decide, by decide⟩, tw763, tw525, ⟨by decide, by decide⟩, Or.inl ⟨rfl, by decide +kernel, tw765, tw764⟩⟩ (find1_nil _)
theorem co12_110 : CalOK (12, 110, 0, 2, [(11, 114)]) := find1_cons (a := 11) (m := 114) (VOK 12 110 2) ⟨⟨by decide, by decide⟩, tw766, tw149, ⟨by decide, by decide⟩, Or.inl ⟨rfl, by decide +kernel, tw768, tw767⟩⟩ (find1_nil _)
theorem co12_113 : CalOK (12, 113, 0, 2, [(12, 249)]) := find1_cons (a := 12) (m := 249) (VOK 12 113 2) ⟨⟨by decide, by decide⟩, tw769, tw525, ⟨by decide, by decide⟩, Or.inl ⟨rfl, by decide +kernel, tw771, tw770⟩⟩ (find1_nil _)
theorem co12_114 : CalOK (12, 114, 0, 3, [(11, 115)]) := find1_cons (a := 11) (m := 115) (VOK 12 114 3) ⟨⟨by decide, by decide⟩, tw772, tw149, ⟨by decide, by decide⟩, Or.inl ⟨rfl, by decide +kernel, tw774, tw773⟩⟩ (find1_nil _)
theorem co12_117 : CalOK (12, 117, 0, 3, [(12, 251)]) := find1_cons (a := 12) (m := 251) (VOK 12 117 3) ⟨⟨by decide, by decide⟩, tw775, tw525, ⟨by decide, by decide⟩, Or.inl ⟨rfl, by decide +kernel, tw777, tw776⟩⟩ (find1_nil _)
theorem co12_118 : CalOK (12, 118, 0, 2, [(11, 116)]) := find1_cons (a := 11) (m := 116) (VOK 12 118 2) ⟨⟨by decide, by decide⟩, tw778, tw149, ⟨by decide, by decide⟩, Or.inl ⟨rfl, by decide +kernel, tw780, tw779⟩⟩ (find1_nil _)
theorem co12_121 : CalOK (12, 121, 0, 2, [(12, 252)]) := find1_cons (a := 12) (m := 252) (VOK 12 121 2) ⟨⟨by decide, by decide⟩, tw781, tw525, ⟨by decide, by decide⟩, Or.inl ⟨rfl, by decide +kernel, tw783, tw782⟩⟩ (find1_nil _)
theorem co12_122 : CalOK (12, 122, 0, 1, [(11, 117)]) := find1_cons (a := 11) (m := 117) (VOK 12 122 1) ⟨⟨by decide, by decide⟩, tw784, tw149, ⟨by decide, by decide⟩, Or.inl ⟨rfl, by decide +kernel, tw786, tw785⟩⟩ (find1_nil _)
theorem co12_125 : CalOK (12, 125, 0, 1, [(12, 253)]) := find1_cons (a := 12) (m := 253) (VOK 12 125 1) ⟨⟨by decide, by decide⟩, tw787, tw525, ⟨by decide, by decide⟩, Or.inl ⟨rfl, by decide +kernel, tw789, tw788⟩⟩ (find1_nil _)
theorem co12_126 : CalOK (12, 126, 0, 5, [(11, 118)]) := find1_cons (a := 11) (m := 118) (VOK 12 126 5) ⟨⟨by decide, by decide⟩, tw790, tw149, ⟨by decide, by decide⟩, Or.inl ⟨rfl, by decide +kernel, tw792, tw791⟩⟩ (find1_nil _)
theorem co12_130 : CalOK (12, 130, 0, 5, [(12, 254)]) := find1_cons (a := 12) (m := 254) (VOK 12 130 5) ⟨⟨by decide, by decide⟩, tw793, tw525, ⟨by decide, by decide⟩, Or.inl ⟨rfl, by decide +kernel, tw795, tw794⟩⟩ (find1_nil _)
theorem co12_131 : CalOK (12, 131, 0, 1, [(11, 120)]) := find1_cons (a := 11) (m := 120) (VOK 12 131 1) ⟨⟨by decide, by decide⟩, tw796, tw149, ⟨by decide, by decide⟩, Or.inl ⟨rfl, by decide +kernel, tw798, tw797⟩⟩ (find1_nil _)
theorem co12_134 : CalOK (12, 134, 0, 1, [(12, 255)]) := find1_cons (a := 12) (m := 255) (VOK 12 134 1) ⟨⟨by decide, by decide⟩, tw799, tw525, ⟨by decide, by decide⟩, Or.inl ⟨rfl, by decide +kernel, tw801, tw800⟩⟩ (find1_nil _)
theorem co12_135 : CalOK (12, 135, 0, 1, [(11, 121)]) := find1_cons (a := 11) (m := 121) (VOK 12 135 1) ⟨⟨by decide, by decide⟩, tw802, tw149, ⟨by decide, by decide⟩, Or.inl ⟨rfl, by decide +kernel, tw804, tw803⟩⟩ (find1_nil _)
theorem co12_138 : CalOK (12, 138, 0, 1, [(12, 258)]) := find1_cons (a := 12) (m := 258) (VOK 12 138 1) ⟨⟨by decide, by decide⟩, tw805, tw525, ⟨by decide, by decide⟩, Or.inl ⟨rfl, by decide +kernel, tw807, tw806⟩⟩ (find1_nil _)
theorem co12_139 : CalOK (12, 139, 0, 1, [(11, 122)]) := find1_cons (a := 11) (m := 122) (VOK 12 139 1) ⟨⟨by decide, by decide⟩, tw808, tw149, ⟨by decide, by decide⟩, Or.inl ⟨rfl, by decide +kernel, tw810, tw809⟩⟩ (find1_nil _)
theorem co12_142 : CalOK (12, 142, 0, 1, [(12, 259)]) := find1_cons (a := 12) (m := 259) (VOK 12 142 1) ⟨⟨by decide, by decide⟩, tw811, tw525, ⟨by decide, by decide⟩, Or.inl ⟨rfl, by decide +kernel, tw813, tw812⟩⟩ (find1_nil _)
theorem co12_143 : CalOK (12, 143, 0, 1, [(11, 123)]) := find1_cons (a := 11) (m := 123) (VOK 12 143 1) ⟨⟨by decide, by decide⟩, tw814, tw149, ⟨by decide, by decide⟩, Or.inl ⟨rfl, by decide +kernel, tw816, tw815⟩⟩ (find1_nil _)
theorem co12_146 : CalOK (12, 146, 0, 1, [(12, 260)]) := find1_cons (a := 12) (m := 260) (VOK 12 146 1) ⟨⟨by decide, by decide⟩, tw817, tw525, ⟨by decide, by decide⟩, Or.inl ⟨rfl, by decide +kernel, tw819, tw818⟩⟩ (find1_nil _)
theorem co12_147 : CalOK (12, 147, 0, 3, [(11, 124)]) := find1_cons (a := 11) (m := 124) (VOK 12 147 3) ⟨⟨by decide, by decide⟩, tw820, tw149, ⟨by decide, by decide⟩, Or.inl ⟨rfl, by decide +kernel, tw822, tw821⟩⟩ (find1_nil _)
theorem co12_150 : CalOK (12, 150, 0, 3, [(12, 261)]) := find1_cons (a := 12) (m := 261) (VOK 12 150 3) ⟨⟨by decide, by decide⟩, tw823, tw525, ⟨by decide, by decide⟩, Or.inl ⟨rfl, by decide +kernel, tw825, tw824⟩⟩ (find1_nil _)
theorem co12_151 : CalOK (12, 151, 0, 2, [(11, 125)]) := find1_cons (a := 11) (m := 125) (VOK 12 151 2) ⟨⟨by decide, by decide⟩, tw826, tw149, ⟨by decide, by decide⟩, Or.inl ⟨rfl, by decide +kernel, tw828, tw827⟩⟩ (find1_nil _)
theorem co12_154 : CalOK (12, 154, 0, 2, [(12, 262)]) := find1_cons (a := 12) (m := 262) (VOK 12 154 2) ⟨⟨by decide, by decide⟩, tw829, tw525, ⟨by decide, by decide⟩, Or.inl ⟨rfl, by decide +kernel, tw831, tw830⟩⟩ (find1_nil _)
theorem co12_155 : CalOK (12, 155, 0, 1, [(11, 126)]) := find1_cons (a := 11) (m := 126) (VOK 12 155 1) ⟨⟨by decide, by decide⟩, tw832, tw149, ⟨by decide, by decide⟩, Or.inl ⟨rfl, by decide +kernel, tw834, tw833⟩⟩ (find1_nil _)
theorem co12_158 : CalOK (12, 158, 0, 1, [(12, 263)]) := find1_cons (a := 12) (m := 263) (VOK 12 158 1) ⟨⟨by decide, by decide⟩, tw835, tw525, ⟨by decide, by decide⟩, Or.inl ⟨rfl, by decide +kernel, tw837, tw836⟩⟩ (find1_nil _)
theorem co12_159 : CalOK (12, 159, 0, 2, [(11, 127)]) := find1_cons (a := 11) (m := 127) (VOK 12 159 2) ⟨⟨by decide, by decide⟩, tw838, tw149, ⟨by decide, by decide⟩, Or.inl ⟨rfl, by decide +kernel, tw840, tw839⟩⟩ (find1_nil _)
theorem co12_162 : CalOK (12, 162, 0, 2, [(12, 264)]) := find1_cons (a := 12) (m := 264) (VOK 12 162 2) ⟨⟨by decide, by decide⟩, tw841, tw525, ⟨by decide, by decide⟩, Or.inl ⟨rfl, by decide +kernel, tw843, tw842⟩⟩ (find1_nil _)
theorem co12_163 : CalOK (12, 163, 0, 2, [(11, 128)]) := find1_cons (a := 11) (m := 128) (VOK 12 163 2) ⟨⟨by decide, by decide⟩, tw844, tw149, ⟨by decide, by decide⟩, Or.inl ⟨rfl, by decide +kernel, tw846, tw845⟩⟩ (find1_nil _)
theorem co12_166 : CalOK (12, 166, 0, 2, [(12, 265)]) := find1_cons (a := 12) (m := 265) (VOK 12 166 2) ⟨⟨by decide, by decide⟩, tw847, tw525, ⟨by decide, by decide⟩, Or.inl ⟨rfl, by decide +kernel, tw849, tw848⟩⟩ (find1_nil _)
theorem co12_167 : CalOK (12, 167, 0, 2, [(11, 129)]) := find1_cons (a := 11) (m := 129) (VOK 12 167 2) ⟨⟨by decide, by decide⟩, tw850, tw149, ⟨by decide, by decide⟩, Or.inl ⟨rfl, by decide +kernel, tw852, tw851⟩⟩ (find1_nil _)
theorem co12_170 : CalOK (12, 170, 0, 2, [(12, 266)]) := find1_cons (a := 12) (m := 266) (VOK 12 170 2) ⟨⟨by decide, by decide⟩, tw853, tw525, ⟨by decide, by decide⟩, Or.inl ⟨rfl, by decide +kernel, tw855, tw854⟩⟩ (find1_nil _)
theorem co12_171 : CalOK (12, 171, 0, 2, [(11, 130)]) := find1_cons (a := 11) (m := 130) (VOK 12 171 2) ⟨⟨by decide, by decide⟩, tw856, tw149, ⟨by decide, by decide⟩, Or.inl ⟨rfl, by decide +kernel, tw858, tw857⟩⟩ (find1_nil _)
theorem co12_174 : CalOK (12, 174, 0, 2, [(12, 267)]) := find1_cons (a := 12) (m := 267) (VOK 12 174 2) ⟨⟨by decide, by decide⟩, tw859, tw525, ⟨by decide, by decide⟩, Or.inl ⟨rfl, by decide +kernel, tw861, tw860⟩⟩ (find1_nil _)
theorem co12_175 : CalOK (12, 175, 0, 1, [(11, 131)]) := find1_cons (a := 11) (m := 131) (VOK 12 175 1) ⟨⟨by decide, by decide⟩, tw862, tw149, ⟨by decide, by decide⟩, Or.inl ⟨rfl, by decide +kernel, tw864, tw863⟩⟩ (find1_nil _)
theorem co12_178 : CalOK (12, 178, 0, 1, [(12, 268)]) := find1_cons (a := 12) (m := 268) (VOK 12 178 1) ⟨⟨by decide, by decide⟩, tw865, tw525, ⟨by decide, by decide⟩, Or.inl ⟨rfl, by decide +kernel, tw867, tw866⟩⟩ (find1_nil _)
theorem co12_179 : CalOK (12, 179, 0, 1, [(11, 132)]) := find1_cons (a := 11) (m := 132) (VOK 12 179 1) ⟨⟨by decide, by decide⟩, tw868, tw149, ⟨by decide, by decide⟩, Or.inl ⟨rfl, by decide +kernel, tw870, tw869⟩⟩ (find1_nil _)
theorem co12_182 : CalOK (12, 182, 0, 1, [(12, 269)]) := find1_cons (a := 12) (m := 269) (VOK 12 182 1) ⟨⟨by decide, by decide⟩, tw871, tw525, ⟨by decide, by decide⟩, Or.inl ⟨rfl, by decide +kernel, tw873, tw872⟩⟩ (find1_nil _)
theorem co12_183 : CalOK (12, 183, 0, 0, [(11, 133)]) := find1_cons (a := 11) (m := 133) (VOK 12 183 0) ⟨⟨by decide, by decide⟩, tw874, tw149, ⟨by decide, by decide⟩, Or.inl ⟨rfl, by decide +kernel, tw876, tw875⟩⟩ (find1_nil _)
theorem co12_186 : CalOK (12, 186, 0, 0, [(12, 270)]) := find1_cons (a := 12) (m := 270) (VOK 12 186 0) ⟨⟨by decide, by decide⟩, tw877, tw525, ⟨by decide, by decide⟩, Or.inl ⟨rfl, by decide +kernel, tw879, tw878⟩⟩ (find1_nil _)
theorem co12_187 : CalOK (12, 187, 0, 1, [(11, 134)]) := find1_cons (a := 11) (m := 134) (VOK 12 187 1) ⟨⟨by decide, by decide⟩, tw880, tw149, ⟨by decide, by decide⟩, Or.inl ⟨rfl, by decide +kernel, tw882, tw881⟩⟩ (find1_nil _)
theorem co12_190 : CalOK (12, 190, 0, 1, [(12, 271)]) := find1_cons (a := 12) (m := 271) (VOK 12 190 1) ⟨⟨by decide, by decide⟩, tw883, tw525, ⟨by decide, by decide⟩, Or.inl ⟨rfl, by decide +kernel, tw885, tw884⟩⟩ (find1_nil _)
theorem co12_191 : CalOK (12, 191, 0, 1, [(11, 135)]) := find1_cons (a := 11) (m := 135) (VOK 12 191 1) ⟨⟨by decide, by decide⟩, tw886, tw149, ⟨by decide, by decide⟩, Or.inl ⟨rfl, by decide +kernel, tw888, tw887⟩⟩ (find1_nil _)
theorem co12_194 : CalOK (12, 194, 0, 1, [(12, 272)]) := find1_cons (a := 12) (m := 272) (VOK 12 194 1) ⟨⟨by decide, by decide⟩, tw889, tw525, ⟨by decide, by decide⟩, Or.inl ⟨rfl, by decide +kernel, tw891, tw890⟩⟩ (find1_nil _)
theorem co12_195 : CalOK (12, 195, 0, 0, [(11, 136)]) := find1_cons (a := 11) (m := 136) (VOK 12 195 0) ⟨⟨by decide, by decide⟩, tw487, tw149, ⟨by decide, by decide⟩, Or.inl ⟨rfl, by decide +kernel, tw892, tw488⟩⟩ (find1_nil _)
theorem co12_198 : CalOK (12, 198, 0, 0, [(12, 273)]) := find1_cons (a := 12) (m := 273) (VOK 12 198 0) ⟨⟨by decide, by decide⟩, tw893, tw525, ⟨by decide, by decide⟩, Or.inl ⟨rfl, by decide +kernel, tw895, tw894⟩⟩ (find1_nil _)
theorem co12_199 : CalOK (12, 199, 0, 3, [(11, 137)]) := find1_cons (a := 11) (m := 137) (VOK 12 199 3) ⟨⟨by decide, by decide⟩, tw896, tw149, ⟨by decide, by decide⟩, Or.inl ⟨rfl, by decide +kernel, tw898, tw897⟩⟩ (find1_nil _)
theorem co12_202 : CalOK (12, 202, 0, 3, [(12, 275)]) := find1_cons (a := 12) (m := 275) (VOK 12 202 3) ⟨⟨by decide, by decide⟩, tw899, tw525, ⟨by decide, by decide⟩, Or.inl ⟨rfl, by decide +kernel, tw901, tw900⟩⟩ (find1_nil _)
theorem co12_203 : CalOK (12, 203, 0, 0, [(11, 138)]) := find1_cons (a := 11) (m := 138) (VOK 12 203 0) ⟨⟨by decide, by decide⟩, tw902, tw149, ⟨by decide, by decide⟩, Or.inl ⟨rfl, by decide +kernel, tw904, tw903⟩⟩ (find1_nil _)
theorem co12_206 : CalOK (12, 206, 0, 0, [(12, 214)]) := find1_cons (a := 12) (m := 214) (VOK 12 206 0) ⟨⟨by decide, by decide⟩, tw905, tw525, ⟨by decide, by decide⟩, Or.inl ⟨rfl, by decide +kernel, tw907, tw906⟩⟩ (find1_nil _)
theorem co12_207 : CalOK (12, 207, 0, 0, [(11, 139)]) := find1_cons (a := 11) (m := 139) (VOK 12 207 0) ⟨⟨by decide, by decide⟩, tw908, tw149, ⟨by decide, by decide⟩, Or.inl ⟨rfl, by decide +kernel, tw910, tw909⟩⟩ (find1_nil _)
theorem co12_210 : CalOK (12, 210, 0, 0, [(12, 215)]) := find1_cons (a := 12) (m := 215) (VOK 12 210 0) ⟨⟨by decide, by decide⟩, tw911, tw525, ⟨by decide, by decide⟩, Or.inl ⟨rfl, by decide +kernel, tw913, tw912⟩⟩ (find1_nil _)
theorem co12_211 : CalOK (12, 211, 0, 1, [(11, 140)]) := find1_cons (a := 11) (m := 140) (VOK 12 211 1) ⟨⟨by decide, by decide⟩, tw914, tw149, ⟨by decide, by decide⟩, Or.inl ⟨rfl, by decide +kernel, tw916, tw915⟩⟩ (find1_nil _)
theorem co12_214 : CalOK (12, 214, 0, 1, [(12, 276)]) := find1_cons (a := 12) (m := 276) (VOK 12 214 1) ⟨⟨by decide, by decide⟩, tw917, tw525, ⟨by decide, by decide⟩, Or.inl ⟨rfl, by decide +kernel, tw919, tw918⟩⟩ (find1_nil _)
set_option maxRecDepth 100000 in
theorem cal_ok : ∀ q ∈ calL, CalOK q := List.forall_mem_cons.mpr ⟨co0_1, List.forall_mem_cons.mpr ⟨co0_7, List.forall_mem_cons.mpr ⟨co0_17, List.forall_mem_cons.mpr ⟨co0_22, List.forall_mem_cons.mpr ⟨co0_23, List.forall_mem_cons.mpr ⟨co0_27, List.forall_mem_cons.mpr ⟨co1_1, List.forall_mem_cons.mpr ⟨co1_7, List.forall_mem_cons.mpr ⟨co1_11, List.forall_mem_cons.mpr ⟨co1_16, List.forall_mem_cons.mpr ⟨co2_3, List.forall_mem_cons.mpr ⟨co2_33, List.forall_mem_cons.mpr ⟨co2_38, List.forall_mem_cons.mpr ⟨co2_42, List.forall_mem_cons.mpr ⟨co2_45, List.forall_mem_cons.mpr ⟨co2_48, List.forall_mem_cons.mpr ⟨co2_51, List.forall_mem_cons.mpr ⟨co3_3, List.forall_mem_cons.mpr ⟨co3_21, List.forall_mem_cons.mpr ⟨co3_50, List.forall_mem_cons.mpr ⟨co3_54, List.forall_mem_cons.mpr ⟨co3_58, List.forall_mem_cons.mpr ⟨co3_62, List.forall_mem_cons.mpr ⟨co3_66, List.forall_mem_cons.mpr ⟨co3_69, List.forall_mem_cons.mpr ⟨co3_73, List.forall_mem_cons.mpr ⟨co3_77, List.forall_mem_cons.mpr ⟨co3_83, List.forall_mem_cons.mpr ⟨co3_88, List.forall_mem_cons.mpr ⟨co3_91, List.forall_mem_cons.mpr ⟨co3_94, List.forall_mem_cons.mpr ⟨co3_97, List.forall_mem_cons.mpr ⟨co3_98, List.forall_mem_cons.mpr ⟨co3_99, List.forall_mem_cons.mpr ⟨co3_103, List.forall_mem_cons.mpr ⟨co3_107, List.forall_mem_cons.mpr ⟨co3_110, List.forall_mem_cons.mpr ⟨co3_114, List.forall_mem_cons.mpr ⟨co3_118, List.forall_mem_cons.mpr ⟨co3_126, List.forall_mem_cons.mpr ⟨co3_135, List.forall_mem_cons.mpr ⟨co3_138, List.forall_mem_cons.mpr ⟨co3_141, List.forall_mem_cons.mpr ⟨co3_144, List.forall_mem_cons.mpr ⟨co3_147, List.forall_mem_cons.mpr ⟨co4_3, List.forall_mem_cons.mpr ⟨co4_17, List.forall_mem_cons.mpr ⟨co4_22, List.forall_mem_cons.mpr ⟨co4_26, List.forall_mem_cons.mpr ⟨co4_33, List.forall_mem_cons.mpr ⟨co5_1, List.forall_mem_cons.mpr ⟨co5_7, List.forall_mem_cons.mpr ⟨co5_17, List.forall_mem_cons.mpr ⟨co5_23, List.forall_mem_cons.mpr ⟨co6_1, List.forall_mem_cons.mpr ⟨co6_7, List.forall_mem_cons.mpr ⟨co7_3, List.forall_mem_cons.mpr ⟨co7_19, List.forall_mem_cons.mpr ⟨co7_23, List.forall_mem_cons.mpr ⟨co7_26, List.forall_mem_cons.mpr ⟨co7_29, List.forall_mem_cons.mpr ⟨co7_33, List.forall_mem_cons.mpr ⟨co7_37, List.forall_mem_cons.mpr ⟨co7_43, List.forall_mem_cons.mpr ⟨co7_46, List.forall_mem_cons.mpr ⟨co7_49, List.forall_mem_cons.mpr ⟨co7_52, List.forall_mem_cons.mpr ⟨co7_55, List.forall_mem_cons.mpr ⟨co8_1, List.forall_mem_cons.mpr ⟨co8_7, List.forall_mem_cons.mpr ⟨co8_11, List.forall_mem_cons.mpr ⟨co8_16, List.forall_mem_cons.mpr ⟨co8_19, List.forall_mem_cons.mpr ⟨co8_23, List.forall_mem_cons.mpr ⟨co9_1, List.forall_mem_cons.mpr ⟨co9_16, List.forall_mem_cons.mpr ⟨co9_20, List.forall_mem_cons.mpr ⟨co10_1, List.forall_mem_cons.mpr ⟨co10_9, List.forall_mem_cons.mpr ⟨co10_24, List.forall_mem_cons.mpr ⟨co10_31, List.forall_mem_cons.mpr ⟨co10_45, List.forall_mem_cons.mpr ⟨co10_59, List.forall_mem_cons.mpr ⟨co10_63, List.forall_mem_cons.mpr ⟨co10_67, List.forall_mem_cons.mpr ⟨co10_71, List.forall_mem_cons.mpr ⟨co10_74, List.forall_mem_cons.mpr ⟨co10_78, List.forall_mem_cons.mpr ⟨co10_86, List.forall_mem_cons.mpr ⟨co10_90, List.forall_mem_cons.mpr ⟨co10_93, List.forall_mem_cons.mpr ⟨co10_96, List.forall_mem_cons.mpr ⟨co10_99, List.forall_mem_cons.mpr ⟨co10_102, List.forall_mem_cons.mpr ⟨co10_106, List.forall_mem_cons.mpr ⟨co10_122, List.forall_mem_cons.mpr ⟨co10_125, List.forall_mem_cons.mpr ⟨co10_129, List.forall_mem_cons.mpr ⟨co10_140, List.forall_mem_cons.mpr ⟨co10_143, List.forall_mem_cons.mpr ⟨co10_147, List.forall_mem_cons.mpr ⟨co10_150, List.forall_mem_cons.mpr ⟨co10_153, List.forall_mem_cons.mpr ⟨co10_156, List.forall_mem_cons.mpr ⟨co10_159, List.forall_mem_cons.mpr ⟨co10_162, List.forall_mem_cons.mpr ⟨co10_165, List.forall_mem_cons.mpr ⟨co10_168, List.forall_mem_cons.mpr ⟨co10_171, List.forall_mem_cons.mpr ⟨co10_174, List.forall_mem_cons.mpr ⟨co10_178, List.forall_mem_cons.mpr ⟨co10_181, List.forall_mem_cons.mpr ⟨co10_184, List.forall_mem_cons.mpr ⟨co10_187, List.forall_mem_cons.mpr ⟨co10_190, List.forall_mem_cons.mpr ⟨co10_193, List.forall_mem_cons.mpr ⟨co10_196, List.forall_mem_cons.mpr ⟨co10_199, List.forall_mem_cons.mpr ⟨co10_202, List.forall_mem_cons.mpr ⟨co10_206, List.forall_mem_cons.mpr ⟨co10_209, List.forall_mem_cons.mpr ⟨co10_215, List.forall_mem_cons.mpr ⟨co10_223, List.forall_mem_cons.mpr ⟨co10_227, List.forall_mem_cons.mpr ⟨co10_230, List.forall_mem_cons.mpr ⟨co10_233, List.forall_mem_cons.mpr ⟨co10_236, List.forall_mem_cons.mpr ⟨co10_245, List.forall_mem_cons.mpr ⟨co10_249, List.forall_mem_cons.mpr ⟨co10_252, List.forall_mem_cons.mpr ⟨co10_258, List.forall_mem_cons.mpr ⟨co10_263, List.forall_mem_cons.mpr ⟨co10_267, List.forall_mem_cons.mpr ⟨co10_270, List.forall_mem_cons.mpr ⟨co10_273, List.forall_mem_cons.mpr ⟨co10_276, List.forall_mem_cons.mpr ⟨co10_279, List.forall_mem_cons.mpr ⟨co10_282, List.forall_mem_cons.mpr ⟨co10_288, List.forall_mem_cons.mpr ⟨co10_291, List.forall_mem_cons.mpr ⟨co10_295, List.forall_mem_cons.mpr ⟨co10_299, List.forall_mem_cons.mpr ⟨co10_305, List.forall_mem_cons.mpr ⟨co10_308, List.forall_mem_cons.mpr ⟨co10_311, List.forall_mem_cons.mpr ⟨co10_314, List.forall_mem_cons.mpr ⟨co10_317, List.forall_mem_cons.mpr ⟨co10_322, List.forall_mem_cons.mpr ⟨co10_328, List.forall_mem_cons.mpr ⟨co10_331, List.forall_mem_cons.mpr ⟨co10_338, List.forall_mem_cons.mpr ⟨co10_341, List.forall_mem_cons.mpr ⟨co10_343, List.forall_mem_cons.mpr ⟨co10_346, List.forall_mem_cons.mpr ⟨co10_349, List.forall_mem_cons.mpr ⟨co10_352, List.forall_mem_cons.mpr ⟨co10_355, List.forall_mem_cons.mpr ⟨co10_358, List.forall_mem_cons.mpr ⟨co10_362, List.forall_mem_cons.mpr ⟨co10_365, List.forall_mem_cons.mpr ⟨co10_368, List.forall_mem_cons.mpr ⟨co10_375, List.forall_mem_cons.mpr ⟨co10_378, List.forall_mem_cons.mpr ⟨co10_381, List.forall_mem_cons.mpr ⟨co10_387, List.forall_mem_cons.mpr ⟨co10_390, List.forall_mem_cons.mpr ⟨co10_393, List.forall_mem_cons.mpr ⟨co10_396, List.forall_mem_cons.mpr ⟨co10_402, List.forall_mem_cons.mpr ⟨co10_405, List.forall_mem_cons.mpr ⟨co10_408, List.forall_mem_cons.mpr ⟨co10_410, List.forall_mem_cons.mpr ⟨co10_413, List.forall_mem_cons.mpr ⟨co11_1, List.forall_mem_cons.mpr ⟨co11_89, List.forall_mem_cons.mpr ⟨co11_97, List.forall_mem_cons.mpr ⟨co11_101, List.forall_mem_cons.mpr ⟨co11_105, List.forall_mem_cons.mpr ⟨co11_108, List.forall_mem_cons.mpr ⟨co11_112, List.forall_mem_cons.mpr ⟨co11_116, List.forall_mem_cons.mpr ⟨co11_119, List.forall_mem_cons.mpr ⟨co11_125, List.forall_mem_cons.mpr ⟨co11_131, List.forall_mem_cons.mpr ⟨co11_134, List.forall_mem_cons.mpr ⟨co11_147, List.forall_mem_cons.mpr ⟨co11_154, List.forall_mem_cons.mpr ⟨co11_160, List.forall_mem_cons.mpr ⟨co11_164, List.forall_mem_cons.mpr ⟨co11_170, List.forall_mem_cons.mpr ⟨co11_174, List.forall_mem_cons.mpr ⟨co11_177, List.forall_mem_cons.mpr ⟨co11_180, List.forall_mem_cons.mpr ⟨co11_185, List.forall_mem_cons.mpr ⟨co11_188, List.forall_mem_cons.mpr ⟨co11_191, List.forall_mem_cons.mpr ⟨co11_194, List.forall_mem_cons.mpr ⟨co11_197, List.forall_mem_cons.mpr ⟨co11_200, List.forall_mem_cons.mpr ⟨co11_215, List.forall_mem_cons.mpr ⟨co11_218, List.forall_mem_cons.mpr ⟨co11_227, List.forall_mem_cons.mpr ⟨co11_232, List.forall_mem_cons.mpr ⟨co11_235, List.forall_mem_cons.mpr ⟨co11_238, List.forall_mem_cons.mpr ⟨co11_241, List.forall_mem_cons.mpr ⟨co11_244, List.forall_mem_cons.mpr ⟨co11_247, List.forall_mem_cons.mpr ⟨co11_252, List.forall_mem_cons.mpr ⟨co11_255, List.forall_mem_cons.mpr ⟨co11_258, List.forall_mem_cons.mpr ⟨co11_262, List.forall_mem_cons.mpr ⟨co11_265, List.forall_mem_cons.mpr ⟨co11_268, List.forall_mem_cons.mpr ⟨co11_272, List.forall_mem_cons.mpr ⟨co11_275, List.forall_mem_cons.mpr ⟨co11_279, List.forall_mem_cons.mpr ⟨co11_285, List.forall_mem_cons.mpr ⟨co11_289, List.forall_mem_cons.mpr ⟨co11_292, List.forall_mem_cons.mpr ⟨co11_298, List.forall_mem_cons.mpr ⟨co11_301, List.forall_mem_cons.mpr ⟨co11_310, List.forall_mem_cons.mpr ⟨co12_9, List.forall_mem_cons.mpr ⟨co12_12, List.forall_mem_cons.mpr ⟨co12_13, List.forall_mem_cons.mpr ⟨co12_17, List.forall_mem_cons.mpr ⟨co12_18, List.forall_mem_cons.mpr ⟨co12_22, List.forall_mem_cons.mpr ⟨co12_23, List.forall_mem_cons.mpr ⟨co12_27, List.forall_mem_cons.mpr ⟨co12_28, List.forall_mem_cons.mpr ⟨co12_31, List.forall_mem_cons.mpr ⟨co12_32, List.forall_mem_cons.mpr ⟨co12_36, List.forall_mem_cons.mpr ⟨co12_37, List.forall_mem_cons.mpr ⟨co12_40, List.forall_mem_cons.mpr ⟨co12_41, List.forall_mem_cons.mpr ⟨co12_44, List.forall_mem_cons.mpr ⟨co12_45, List.forall_mem_cons.mpr ⟨co12_48, List.forall_mem_cons.mpr ⟨co12_49, List.forall_mem_cons.mpr ⟨co12_52, List.forall_mem_cons.mpr ⟨co12_53, List.forall_mem_cons.mpr ⟨co12_56, List.forall_mem_cons.mpr ⟨co12_57, List.forall_mem_cons.mpr ⟨co12_60, List.forall_mem_cons.mpr ⟨co12_61, List.forall_mem_cons.mpr ⟨co12_64, List.forall_mem_cons.mpr ⟨co12_65, List.forall_mem_cons.mpr ⟨co12_68, List.forall_mem_cons.mpr ⟨co12_69, List.forall_mem_cons.mpr ⟨co12_72, List.forall_mem_cons.mpr ⟨co12_73, List.forall_mem_cons.mpr ⟨co12_76, List.forall_mem_cons.mpr ⟨co12_77, List.forall_mem_cons.mpr ⟨co12_80, List.forall_mem_cons.mpr ⟨co12_81, List.forall_mem_cons.mpr ⟨co12_84, List.forall_mem_cons.mpr ⟨co12_85, List.forall_mem_cons.mpr ⟨co12_88, List.forall_mem_cons.mpr ⟨co12_89, List.forall_mem_cons.mpr ⟨co12_92, List.forall_mem_cons.mpr ⟨co12_93, List.forall_mem_cons.mpr ⟨co12_96, List.forall_mem_cons.mpr ⟨co12_97, List.forall_mem_cons.mpr ⟨co12_100, List.forall_mem_cons.mpr ⟨co12_101, List.forall_mem_cons.mpr ⟨co12_104, List.forall_mem_cons.mpr ⟨co12_105, List.forall_mem_cons.mpr ⟨co12_109, List.forall_mem_cons.mpr ⟨co12_110, List.forall_mem_cons.mpr ⟨co12_113, List.forall_mem_cons.mpr ⟨co12_114, List.forall_mem_cons.mpr ⟨co12_117, List.forall_mem_cons.mpr ⟨co12_118, List.forall_mem_cons.mpr ⟨co12_121, List.forall_mem_cons.mpr ⟨co12_122, List.forall_mem_cons.mpr ⟨co12_125, List.forall_mem_cons.mpr ⟨co12_126, List.forall_mem_cons.mpr ⟨co12_130, List.forall_mem_cons.mpr ⟨co12_131, List.forall_mem_cons.mpr ⟨co12_134, List.forall_mem_cons.mpr ⟨co12_135, List.forall_mem_cons.mpr ⟨co12_138, List.forall_mem_cons.mpr ⟨co12_139, List.forall_mem_cons.mpr ⟨co12_142, List.forall_mem_cons.mpr ⟨co12_143, List.forall_mem_cons.mpr ⟨co12_146, List.forall_mem_cons.mpr ⟨co12_147, List.forall_mem_cons.mpr ⟨co12_150, List.forall_mem_cons.mpr ⟨co12_151, List.forall_mem_cons.mpr ⟨co12_154, List.forall_mem_cons.mpr ⟨co12_155, List.forall_mem_cons.mpr ⟨co12_158, List.forall_mem_cons.mpr ⟨co12_159, List.forall_mem_cons.mpr ⟨co12_162, List.forall_mem_cons.mpr ⟨co12_163, List.forall_mem_cons.mpr ⟨co12_166, List.forall_mem_cons.mpr ⟨co12_167, List.forall_mem_cons.mpr ⟨co12_170, List.forall_mem_cons.mpr ⟨co12_171, List.forall_mem_cons.mpr ⟨co12_174, List.forall_mem_cons.mpr ⟨co12_175, List.forall_mem_cons.mpr ⟨co12_178, List.forall_mem_cons.mpr ⟨co12_179, List.forall_mem_cons.mpr ⟨co12_182, List.forall_mem_cons.mpr ⟨co12_183, List.forall_mem_cons.mpr ⟨co12_186, List.forall_mem_cons.mpr ⟨co12_187, List.forall_mem_cons.mpr ⟨co12_190, List.forall_mem_cons.mpr ⟨co12_191, List.forall_mem_cons.mpr ⟨co12_194, List.forall_mem_cons.mpr ⟨co12_195, List.forall_mem_cons.mpr ⟨co12_198, List.forall_mem_cons.mpr ⟨co12_199, List.forall_mem_cons.mpr ⟨co12_202, List.forall_mem_cons.mpr ⟨co12_203, List.forall_mem_cons.mpr ⟨co12_206, List.forall_mem_cons.mpr ⟨co12_207, List.forall_mem_cons.mpr ⟨co12_210, List.forall_mem_cons.mpr ⟨co12_211, List.forall_mem_cons.mpr ⟨co12_214, (fun _ z => by cases z)⟩⟩⟩⟩⟩⟩⟩⟩⟩⟩⟩⟩⟩⟩⟩⟩⟩⟩⟩⟩⟩⟩⟩⟩⟩⟩⟩⟩⟩⟩⟩⟩⟩⟩⟩⟩⟩⟩⟩⟩⟩⟩⟩⟩⟩⟩⟩⟩⟩⟩⟩⟩⟩⟩⟩⟩⟩⟩⟩⟩⟩⟩⟩⟩⟩⟩⟩⟩⟩⟩⟩⟩⟩⟩⟩⟩⟩⟩⟩⟩⟩⟩⟩⟩⟩⟩⟩⟩⟩⟩⟩⟩⟩⟩⟩⟩⟩⟩⟩⟩⟩⟩⟩⟩⟩⟩⟩⟩⟩⟩⟩⟩⟩⟩⟩⟩⟩⟩⟩⟩⟩⟩⟩⟩⟩⟩⟩⟩⟩⟩⟩⟩⟩⟩⟩⟩⟩⟩⟩⟩⟩⟩⟩⟩⟩⟩⟩⟩⟩⟩⟩⟩⟩⟩⟩⟩⟩⟩⟩⟩⟩⟩⟩⟩⟩⟩⟩⟩⟩⟩⟩⟩⟩⟩⟩⟩⟩⟩⟩⟩⟩⟩⟩⟩⟩⟩⟩⟩⟩⟩⟩⟩⟩⟩⟩⟩⟩⟩⟩⟩⟩⟩⟩⟩⟩⟩⟩⟩⟩⟩⟩⟩⟩⟩⟩⟩⟩⟩⟩⟩⟩⟩⟩⟩⟩⟩⟩⟩⟩⟩⟩⟩⟩⟩⟩⟩⟩⟩⟩⟩⟩⟩⟩⟩⟩⟩⟩⟩⟩⟩⟩⟩⟩⟩⟩⟩⟩⟩⟩⟩⟩⟩⟩⟩⟩⟩⟩⟩⟩⟩⟩⟩⟩⟩⟩⟩⟩⟩⟩⟩⟩⟩⟩⟩⟩⟩⟩⟩⟩⟩⟩⟩⟩⟩⟩⟩⟩⟩⟩⟩⟩⟩⟩⟩⟩⟩⟩⟩⟩⟩⟩⟩⟩⟩⟩⟩⟩⟩⟩⟩⟩⟩⟩
set_option maxRecDepth 100000 in
theorem cls_ok : ∀ q ∈ clsL, ClsOK q := List.forall_mem_cons.mpr ⟨⟨tw921, tw152, fun _ => ⟨TX2, rfl, tw922⟩⟩, List.forall_mem_cons.mpr ⟨⟨tw923, tw104, fun _ => ⟨TX9, rfl, tw924⟩⟩, List.forall_mem_cons.mpr ⟨⟨tw925, tw125, fun _ => ⟨TX0, rfl, tw926⟩⟩, List.forall_mem_cons.mpr ⟨⟨tw927, tw191, fun _ => ⟨TX8, rfl, tw928⟩⟩, List.forall_mem_cons.mpr ⟨⟨tw929, tw123, fun _ => ⟨TX1, rfl, tw930⟩⟩, List.forall_mem_cons.mpr ⟨⟨tw931, tw196, fun _ => ⟨TX5, rfl, tw932⟩⟩, List.forall_mem_cons.mpr ⟨⟨tw933, tw116, fun _ => ⟨TX6, rfl, tw934⟩⟩, List.forall_mem_cons.mpr ⟨⟨tw936, tw112, fun _ => ⟨TX3, rfl, tw937⟩⟩, List.forall_mem_cons.mpr ⟨⟨tw938, tw112, fun _ => ⟨TX3, rfl, tw937⟩⟩, List.forall_mem_cons.mpr ⟨⟨tw939, tw242, fun _ => ⟨TX4, rfl, tw940⟩⟩, List.forall_mem_cons.mpr ⟨⟨tw941, tw267, fun _ => ⟨TX7, rfl, tw942⟩⟩, List.forall_mem_cons.mpr ⟨⟨tw943, tw152, fun _ => ⟨TX2, rfl, tw922⟩⟩, List.forall_mem_cons.mpr ⟨⟨tw964, tw149, fun _ => ⟨TX10, rfl, tw965⟩⟩, List.forall_mem_cons.mpr ⟨⟨tw966, tw525, fun _ => ⟨TX11, rfl, tw967⟩⟩, (fun _ z => by cases z)⟩⟩⟩⟩⟩⟩⟩⟩⟩⟩⟩⟩⟩⟩
set_option maxRecDepth 100000 in
theorem cstI_ok : ∀ q ∈ cstIL, Cond.constant (rn q.1) q.2.1 q.2.2 ∈ TW := List.forall_mem_cons.mpr ⟨tw920, List.forall_mem_cons.mpr ⟨tw935, List.forall_mem_cons.mpr ⟨tw944, List.forall_mem_cons.mpr ⟨tw946, List.forall_mem_cons.mpr ⟨tw947, List.forall_mem_cons.mpr ⟨tw948, List.forall_mem_cons.mpr ⟨tw949, List.forall_mem_cons.mpr ⟨tw957, List.forall_mem_cons.mpr ⟨tw959, List.forall_mem_cons.mpr ⟨tw960, List.forall_mem_cons.mpr ⟨tw961, (fun _ z => by cases z)⟩⟩⟩⟩⟩⟩⟩⟩⟩⟩⟩
set_option maxRecDepth 100000 in
theorem cstL_ok : ∀ q ∈ cstLL, Cond.constantLong (rn q.1) q.2.1 q.2.2 ∈ TW := List.forall_mem_cons.mpr ⟨tw945, List.forall_mem_cons.mpr ⟨tw950, List.forall_mem_cons.mpr ⟨tw951, List.forall_mem_cons.mpr ⟨tw952, List.forall_mem_cons.mpr ⟨tw953, List.forall_mem_cons.mpr ⟨tw954, List.forall_mem_cons.mpr ⟨tw955, List.forall_mem_cons.mpr ⟨tw956, List.forall_mem_cons.mpr ⟨tw958, List.forall_mem_cons.mpr ⟨tw962, List.forall_mem_cons.mpr ⟨tw963, (fun _ z => by cases z)⟩⟩⟩⟩⟩⟩⟩⟩⟩⟩⟩
theorem mo0 : MetOK 0 := ⟨tw968, rfl, by decide +kernel⟩
theorem mo1 : MetOK 1 := ⟨tw969, rfl, by decide +kernel⟩
theorem mo2 : MetOK 2 := ⟨tw970, rfl, by decide +kernel⟩
theorem mo3 : MetOK 3 := ⟨tw971, rfl, by decide +kernel⟩
theorem mo4 : MetOK 4 := ⟨tw972, rfl, by decide +kernel⟩
theorem mo5 : MetOK 5 := ⟨tw973, rfl, by decide +kernel⟩
theorem mo6 : MetOK 6 := ⟨tw974, rfl, by decide +kernel⟩
theorem mo7 : MetOK 7 := ⟨tw975, rfl, by decide +kernel⟩
theorem mo8 : MetOK 8 := ⟨tw976, rfl, by decide +kernel⟩
theorem mo9 : MetOK 9 := ⟨tw977, rfl, by decide +kernel⟩
theorem mo10 : MetOK 10 := ⟨tw978, rfl, by decide +kernel⟩
theorem mo11 : MetOK 11 := ⟨tw979, rfl, by decide +kernel⟩
theorem mo12 : MetOK 12 := ⟨tw980, rfl, by decide +kernel⟩
theorem mo13 : MetOK 13 := ⟨tw981, rfl, by decide +kernel⟩
theorem mo14 : MetOK 14 := ⟨tw982, rfl, by decide +kernel⟩
theorem mo15 : MetOK 15 := ⟨tw983, rfl, by decide +kernel⟩
theorem mo16 : MetOK 16 := ⟨tw984, rfl, by decide +kernel⟩
theorem mo17 : MetOK 17 := ⟨tw985, rfl, by decide +kernel⟩
theorem mo18 : MetOK 18 := ⟨tw986, rfl, by decide +kernel⟩
theorem mo19 : MetOK 19 := ⟨tw987, rfl, by decide +kernel⟩
theorem mo20 : MetOK 20 := ⟨tw988, rfl, by decide +kernel⟩
theorem mo21 : MetOK 21 := ⟨tw989, rfl, by decide +kernel⟩
theorem mo22 : MetOK 22 := ⟨tw990, rfl, by decide +kernel⟩
theorem mo23 : MetOK 23 := ⟨tw991, rfl, by decide +kernel⟩
theorem mo24 : MetOK 24 := ⟨tw992, rfl, by decide +kernel⟩
theorem mo25 : MetOK 25 := ⟨tw993, rfl, by decide +kernel⟩
theorem mo26 : MetOK 26 := ⟨tw994, rfl, by decide +kernel⟩
theorem mo27 : MetOK 27 := ⟨tw995, rfl, by decide +kernel⟩
theorem mo28 : MetOK 28 := ⟨tw996, rfl, by decide +kernel⟩
theorem mo29 : MetOK 29 := ⟨tw997, rfl, by decide +kernel⟩
theorem mo30 : MetOK 30 := ⟨tw998, rfl, by decide +kernel⟩
theorem mo31 : MetOK 31 := ⟨tw999, rfl, by decide +kernel⟩
theorem mo32 : MetOK 32 := ⟨tw1000, rfl, by decide +kernel⟩
theorem mo33 : MetOK 33 := ⟨tw1001, rfl, by decide +kernel⟩
theorem mo34 : MetOK 34 := ⟨tw1002, rfl, by decide +kernel⟩
theorem mo35 : MetOK 35 := ⟨tw1003, rfl, by decide +kernel⟩
theorem mo36 : MetOK 36 := ⟨tw1004, rfl, by decide +kernel⟩
theorem mo37 : MetOK 37 := ⟨tw1005, rfl, by decide +kernel⟩
theorem mo38 : MetOK 38 := ⟨tw1006, rfl, by decide +kernel⟩
theorem mo39 : MetOK 39 := ⟨tw1007, rfl, by decide +kernel⟩
theorem mo40 : MetOK 40 := ⟨tw1008, rfl, by decide +kernel⟩
theorem mo41 : MetOK 41 := ⟨tw1009, rfl, by decide +kernel⟩
theorem mo42 : MetOK 42 := ⟨tw1010, rfl, by decide +kernel⟩
theorem mo43 : MetOK 43 := ⟨tw1011, rfl, by decide +kernel⟩
theorem mo44 : MetOK 44 := ⟨tw1012, rfl, by decide +kernel⟩
theorem mo45 : MetOK 45 := ⟨tw1013, rfl, by decide +kernel⟩
theorem mo46 : MetOK 46 := ⟨tw1014, rfl, by decide +kernel⟩
theorem mo47 : MetOK 47 := ⟨tw1015, rfl, by decide +kernel⟩
theorem mo48 : MetOK 48 := ⟨tw1016, rfl, by decide +kernel⟩
theorem mo49 : MetOK 49 := ⟨tw1017, rfl, by decide +kernel⟩
theorem mo50 : MetOK 50 := ⟨tw1018, rfl, by decide +kernel⟩
theorem mo51 : MetOK 51 := ⟨tw1019, rfl, by decide +kernel⟩
theorem mo52 : MetOK 52 := ⟨tw1020, rfl, by decide +kernel⟩
theorem mo53 : MetOK 53 := ⟨tw1021, rfl, by decide +kernel⟩
theorem mo54 : MetOK 54 := ⟨tw1022, rfl, by decide +kernel⟩
theorem mo55 : MetOK 55 := ⟨tw1023, rfl, by decide +kernel⟩
theorem mo56 : MetOK 56 := ⟨tw1024, rfl, by decide +kernel⟩
theorem mo57 : MetOK 57 := ⟨tw1025, rfl, by decide +kernel⟩
theorem mo58 : MetOK 58 := ⟨tw1026, rfl, by decide +kernel⟩
theorem mo59 : MetOK 59 := ⟨tw1027, rfl, by decide +kernel⟩
theorem mo60 : MetOK 60 := ⟨tw1028, rfl, by decide +kernel⟩
theorem mo61 : MetOK 61 := ⟨tw1029, rfl, by decide +kernel⟩
theorem mo62 : MetOK 62 := ⟨tw1030, rfl, by decide +kernel⟩
theorem mo63 : MetOK 63 := ⟨tw1031, rfl, by decide +kernel⟩
theorem mo64 : MetOK 64 := ⟨tw1032, rfl, by decide +kernel⟩
theorem mo65 : MetOK 65 := ⟨tw1033, rfl, by decide +kernel⟩
theorem mo66 : MetOK 66 := ⟨tw1034, rfl, by decide +kernel⟩
theorem mo67 : MetOK 67 := ⟨tw1035, rfl, by decide +kernel⟩
theorem mo68 : MetOK 68 := ⟨tw1036, rfl, by decide +kernel⟩
theorem mo69 : MetOK 69 := ⟨tw1037, rfl, by decide +kernel⟩
theorem mo70 : MetOK 70 := ⟨tw1038, rfl, by decide +kernel⟩
theorem mo71 : MetOK 71 := ⟨tw1039, rfl, by decide +kernel⟩
theorem mo72 : MetOK 72 := ⟨tw1040, rfl, by decide +kernel⟩
theorem mo73 : MetOK 73 := ⟨tw1041, rfl, by decide +kernel⟩
theorem mo74 : MetOK 74 := ⟨tw1042, rfl, by decide +kernel⟩
theorem mo75 : MetOK 75 := ⟨tw1043, rfl, by decide +kernel⟩
theorem mo76 : MetOK 76 := ⟨tw1044, rfl, by decide +kernel⟩
theorem mo77 : MetOK 77 := ⟨tw1045, rfl, by decide +kernel⟩
theorem mo78 : MetOK 78 := ⟨tw1046, rfl, by decide +kernel⟩
theorem mo79 : MetOK 79 := ⟨tw1047, rfl, by decide +kernel⟩
theorem mo80 : MetOK 80 := ⟨tw1048, rfl, by decide +kernel⟩
theorem mo81 : MetOK 81 := ⟨tw1049, rfl, by decide +kernel⟩
theorem mo82 : MetOK 82 := ⟨tw1050, rfl, by decide +kernel⟩
theorem mo83 : MetOK 83 := ⟨tw1051, rfl, by decide +kernel⟩
theorem mo84 : MetOK 84 := ⟨tw1052, rfl, by decide +kernel⟩
theorem mo85 : MetOK 85 := ⟨tw1053, rfl, by decide +kernel⟩
theorem mo86 : MetOK 86 := ⟨tw1054, rfl, by decide +kernel⟩
theorem mo87 : MetOK 87 := ⟨tw1055, rfl, by decide +kernel⟩
theorem mo88 : MetOK 88 := ⟨tw1056, rfl, by decide +kernel⟩
theorem mo89 : MetOK 89 := ⟨tw1057, rfl, by decide +kernel⟩
theorem mo90 : MetOK 90 := ⟨tw1058, rfl, by decide +kernel⟩
theorem mo91 : MetOK 91 := ⟨tw1059, rfl, by decide +kernel⟩
theorem mo92 : MetOK 92 := ⟨tw1060, rfl, by decide +kernel⟩
theorem mo93 : MetOK 93 := ⟨tw1061, rfl, by decide +kernel⟩
theorem mo94 : MetOK 94 := ⟨tw1062, rfl, by decide +kernel⟩
theorem mo95 : MetOK 95 := ⟨tw1063, rfl, by decide +kernel⟩
theorem mo96 : MetOK 96 := ⟨tw1064, rfl, by decide +kernel⟩
theorem mo97 : MetOK 97 := ⟨tw1065, rfl, by decide +kernel⟩
theorem mo98 : MetOK 98 := ⟨tw1066, rfl, by decide +kernel⟩
theorem mo99 : MetOK 99 := ⟨tw1067, rfl, by decide +kernel⟩
theorem mo100 : MetOK 100 := ⟨tw1068, rfl, by decide +kernel⟩
theorem mo101 : MetOK 101 := ⟨tw1069, rfl, by decide +kernel⟩
theorem mo102 : MetOK 102 := ⟨tw1070, rfl, by decide +kernel⟩
theorem mo103 : MetOK 103 := ⟨tw1071, rfl, by decide +kernel⟩
theorem mo104 : MetOK 104 := ⟨tw1072, rfl, by decide +kernel⟩
theorem mo105 : MetOK 105 := ⟨tw1073, rfl, by decide +kernel⟩
theorem mo106 : MetOK 106 := ⟨tw1074, rfl, by decide +kernel⟩
theorem mo107 : MetOK 107 := ⟨tw1075, rfl, by decide +kernel⟩
theorem mo108 : MetOK 108 := ⟨tw1076, rfl, by decide +kernel⟩
theorem mo109 : MetOK 109 := ⟨tw1077, rfl, by decide +kernel⟩
theorem mo110 : MetOK 110 := ⟨tw1078, rfl, by decide +kernel⟩
theorem mo111 : MetOK 111 := ⟨tw1079, rfl, by decide +kernel⟩
theorem mo112 : MetOK 112 := ⟨tw1080, rfl, by decide +kernel⟩
theorem mo113 : MetOK 113 := ⟨tw1081, rfl, by decide +kernel⟩
theorem mo114 : MetOK 114 := ⟨tw1082, rfl, by decide +kernel⟩
theorem mo115 : MetOK 115 := ⟨tw1083, rfl, by decide +kernel⟩
theorem mo116 : MetOK 116 := ⟨tw1084, rfl, by decide +kernel⟩
theorem mo117 : MetOK 117 := ⟨tw1085, rfl, by decide +kernel⟩
theorem mo118 : MetOK 118 := ⟨tw1086, rfl, by decide +kernel⟩
theorem mo119 : MetOK 119 := ⟨tw1087, rfl, by decide +kernel⟩
theorem mo120 : MetOK 120 := ⟨tw1088, rfl, by decide +kernel⟩
theorem mo121 : MetOK 121 := ⟨tw1089, rfl, by decide +kernel⟩
theorem mo122 : MetOK 122 := ⟨tw1090, rfl, by decide +kernel⟩
theorem mo123 : MetOK 123 := ⟨tw1091, rfl, by decide +kernel⟩
theorem mo124 : MetOK 124 := ⟨tw1092, rfl, by decide +kernel⟩
theorem mo125 : MetOK 125 := ⟨tw1093, rfl, by decide +kernel⟩
theorem mo126 : MetOK 126 := ⟨tw1094, rfl, by decide +kernel⟩
theorem mo127 : MetOK 127 := ⟨tw1095, rfl, by decide +kernel⟩
theorem mo128 : MetOK 128 := ⟨tw1096, rfl, by decide +kernel⟩
theorem mo129 : MetOK 129 := ⟨tw1097, rfl, by decide +kernel⟩
theorem mo130 : MetOK 130 := ⟨tw1098, rfl, by decide +kernel⟩
theorem mo131 : MetOK 131 := ⟨tw1099, rfl, by decide +kernel⟩
theorem mo132 : MetOK 132 := ⟨tw1100, rfl, by decide +kernel⟩
theorem mo133 : MetOK 133 := ⟨tw1101, rfl, by decide +kernel⟩
theorem mo134 : MetOK 134 := ⟨tw1102, rfl, by decide +kernel⟩
theorem mo135 : MetOK 135 := ⟨tw1103, rfl, by decide +kernel⟩
theorem mo136 : MetOK 136 := ⟨tw1104, rfl, by decide +kernel⟩
theorem mo137 : MetOK 137 := ⟨tw1105, rfl, by decide +kernel⟩
theorem mo138 : MetOK 138 := ⟨tw1106, rfl, by decide +kernel⟩
theorem mo139 : MetOK 139 := ⟨tw1107, rfl, by decide +kernel⟩
theorem mo140 : MetOK 140 := ⟨tw1108, rfl, by decide +kernel⟩
theorem mo141 : MetOK 141 := ⟨tw1109, rfl, by decide +kernel⟩
theorem mo142 : MetOK 142 := ⟨tw1110, rfl, by decide +kernel⟩
theorem mo143 : MetOK 143 := ⟨tw1111, rfl, by decide +kernel⟩
theorem mo144 : MetOK 144 := ⟨tw1112, rfl, by decide +kernel⟩
theorem mo145 : MetOK 145 := ⟨tw1113, rfl, by decide +kernel⟩
theorem mo146 : MetOK 146 := ⟨tw1114, rfl, by decide +kernel⟩
theorem mo147 : MetOK 147 := ⟨tw1115, rfl, by decide +kernel⟩
theorem mo148 : MetOK 148 := ⟨tw1116, rfl, by decide +kernel⟩
theorem mo149 : MetOK 149 := ⟨tw1117, rfl, by decide +kernel⟩
theorem mo150 : MetOK 150 := ⟨tw1118, rfl, by decide +kernel⟩
theorem mo151 : MetOK 151 := ⟨tw1119, rfl, by decide +kernel⟩
theorem mo152 : MetOK 152 := ⟨tw1120, rfl, by decide +kernel⟩
theorem mo153 : MetOK 153 := ⟨tw1121, rfl, by decide +kernel⟩
theorem mo154 : MetOK 154 := ⟨tw1122, rfl, by decide +kernel⟩
theorem mo155 : MetOK 155 := ⟨tw1123, rfl, by decide +kernel⟩
theorem mo156 : MetOK 156 := ⟨tw1124, rfl, by decide +kernel⟩
theorem mo157 : MetOK 157 := ⟨tw1125, rfl, by decide +kernel⟩
theorem mo158 : MetOK 158 := ⟨tw1126, rfl, by decide +kernel⟩
theorem mo159 : MetOK 159 := ⟨tw1127, rfl, by decide +kernel⟩
theorem mo160 : MetOK 160 := ⟨tw1128, rfl, by decide +kernel⟩
theorem mo161 : MetOK 161 := ⟨tw1129, rfl, by decide +kernel⟩
theorem mo162 : MetOK 162 := ⟨tw1130, rfl, by decide +kernel⟩
theorem mo163 : MetOK 163 := ⟨tw1131, rfl, by decide +kernel⟩
theorem mo164 : MetOK 164 := ⟨tw1132, rfl, by decide +kernel⟩
theorem mo165 : MetOK 165 := ⟨tw1133, rfl, by decide +kernel⟩
theorem mo166 : MetOK 166 := ⟨tw1134, rfl, by decide +kernel⟩
theorem mo167 : MetOK 167 := ⟨tw1135, rfl, by decide +kernel⟩
theorem mo168 : MetOK 168 := ⟨tw1136, rfl, by decide +kernel⟩
theorem mo169 : MetOK 169 := ⟨tw1137, rfl, by decide +kernel⟩
theorem mo170 : MetOK 170 := ⟨tw1138, rfl, by decide +kernel⟩
theorem mo171 : MetOK 171 := ⟨tw1139, rfl, by decide +kernel⟩
theorem mo172 : MetOK 172 := ⟨tw1140, rfl, by decide +kernel⟩
theorem mo173 : MetOK 173 := ⟨tw1141, rfl, by decide +kernel⟩
theorem mo174 : MetOK 174 := ⟨tw1142, rfl, by decide +kernel⟩
theorem mo175 : MetOK 175 := ⟨tw1143, rfl, by decide +kernel⟩
theorem mo176 : MetOK 176 := ⟨tw1144, rfl, by decide +kernel⟩
theorem mo177 : MetOK 177 := ⟨tw1145, rfl, by decide +kernel⟩
theorem mo178 : MetOK 178 := ⟨tw1146, rfl, by decide +kernel⟩
theorem mo179 : MetOK 179 := ⟨tw1147, rfl, by decide +kernel⟩
theorem mo180 : MetOK 180 := ⟨tw1148, rfl, by decide +kernel⟩
theorem mo181 : MetOK 181 := ⟨tw1149, rfl, by decide +kernel⟩
theorem mo182 : MetOK 182 := ⟨tw1150, rfl, by decide +kernel⟩
theorem mo183 : MetOK 183 := ⟨tw1151, rfl, by decide +kernel⟩
theorem mo184 : MetOK 184 := ⟨tw1152, rfl, by decide +kernel⟩
theorem mo185 : MetOK 185 := ⟨tw1153, rfl, by decide +kernel⟩
theorem mo186 : MetOK 186 := ⟨tw1154, rfl, by decide +kernel⟩
theorem mo187 : MetOK 187 := ⟨tw1155, rfl, by decide +kernel⟩
theorem mo188 : MetOK 188 := ⟨tw1156, rfl, by decide +kernel⟩
theorem mo189 : MetOK 189 := ⟨tw1157, rfl, by decide +kernel⟩
theorem mo190 : MetOK 190 := ⟨tw1158, rfl, by decide +kernel⟩
theorem mo191 : MetOK 191 := ⟨tw1159, rfl, by decide +kernel⟩
theorem mo192 : MetOK 192 := ⟨tw1160, rfl, by decide +kernel⟩
theorem mo193 : MetOK 193 := ⟨tw1161, rfl, by decide +kernel⟩
theorem mo194 : MetOK 194 := ⟨tw1162, rfl, by decide +kernel⟩
theorem mo195 : MetOK 195 := ⟨tw1163, rfl, by decide +kernel⟩
theorem mo196 : MetOK 196 := ⟨tw1164, rfl, by decide +kernel⟩
theorem mo197 : MetOK 197 := ⟨tw1165, rfl, by decide +kernel⟩
theorem mo198 : MetOK 198 := ⟨tw1166, rfl, by decide +kernel⟩
theorem mo199 : MetOK 199 := ⟨tw1167, rfl, by decide +kernel⟩
theorem mo200 : MetOK 200 := ⟨tw1168, rfl, by decide +kernel⟩
theorem mo201 : MetOK 201 := ⟨tw1169, rfl, by decide +kernel⟩
theorem mo202 : MetOK 202 := ⟨tw1170, rfl, by decide +kernel⟩
theorem mo203 : MetOK 203 := ⟨tw1171, rfl, by decide +kernel⟩
theorem mo204 : MetOK 204 := ⟨tw1172, rfl, by decide +kernel⟩
theorem mo205 : MetOK 205 := ⟨tw1173, rfl, by decide +kernel⟩
theorem mo206 : MetOK 206 := ⟨tw1174, rfl, by decide +kernel⟩
theorem mo207 : MetOK 207 := ⟨tw1175, rfl, by decide +kernel⟩
theorem mo208 : MetOK 208 := ⟨tw1176, rfl, by decide +kernel⟩
theorem mo209 : MetOK 209 := ⟨tw1177, rfl, by decide +kernel⟩
theorem mo210 : MetOK 210 := ⟨tw1178, rfl, by decide +kernel⟩
theorem mo211 : MetOK 211 := ⟨tw1179, rfl, by decide +kernel⟩
theorem mo212 : MetOK 212 := ⟨tw1180, rfl, by decide +kernel⟩
theorem mo213 : MetOK 213 := ⟨tw1181, rfl, by decide +kernel⟩
theorem mo214 : MetOK 214 := ⟨tw1182, rfl, by decide +kernel⟩
theorem mo215 : MetOK 215 := ⟨tw1183, rfl, by decide +kernel⟩
theorem mo216 : MetOK 216 := ⟨tw1184, rfl, by decide +kernel⟩
theorem mo217 : MetOK 217 := ⟨tw1185, rfl, by decide +kernel⟩
theorem mo218 : MetOK 218 := ⟨tw1186, rfl, by decide +kernel⟩
theorem mo219 : MetOK 219 := ⟨tw1187, rfl, by decide +kernel⟩
theorem mo220 : MetOK 220 := ⟨tw1188, rfl, by decide +kernel⟩
theorem mo221 : MetOK 221 := ⟨tw1189, rfl, by decide +kernel⟩
theorem mo222 : MetOK 222 := ⟨tw1190, rfl, by decide +kernel⟩
theorem mo223 : MetOK 223 := ⟨tw1191, rfl, by decide +kernel⟩
theorem mo224 : MetOK 224 := ⟨tw1192, rfl, by decide +kernel⟩
theorem mo225 : MetOK 225 := ⟨tw1193, rfl, by decide +kernel⟩
theorem mo226 : MetOK 226 := ⟨tw1194, rfl, by decide +kernel⟩
theorem mo227 : MetOK 227 := ⟨tw1195, rfl, by decide +kernel⟩
theorem mo228 : MetOK 228 := ⟨tw1196, rfl, by decide +kernel⟩
theorem mo229 : MetOK 229 := ⟨tw1197, rfl, by decide +kernel⟩
theorem mo230 : MetOK 230 := ⟨tw1198, rfl, by decide +kernel⟩
theorem mo231 : MetOK 231 := ⟨tw1199, rfl, by decide +kernel⟩
theorem mo232 : MetOK 232 := ⟨tw1200, rfl, by decide +kernel⟩
theorem mo233 : MetOK 233 := ⟨tw1201, rfl, by decide +kernel⟩
theorem mo234 : MetOK 234 := ⟨tw1202, rfl, by decide +kernel⟩
theorem mo235 : MetOK 235 := ⟨tw1203, rfl, by decide +kernel⟩
theorem mo236 : MetOK 236 := ⟨tw1204, rfl, by decide +kernel⟩
theorem mo237 : MetOK 237 := ⟨tw1205, rfl, by decide +kernel⟩
theorem mo238 : MetOK 238 := ⟨tw1206, rfl, by decide +kernel⟩
theorem mo239 : MetOK 239 := ⟨tw1207, rfl, by decide +kernel⟩
theorem mo240 : MetOK 240 := ⟨tw1208, rfl, by decide +kernel⟩
theorem mo241 : MetOK 241 := ⟨tw1209, rfl, by decide +kernel⟩
theorem mo242 : MetOK 242 := ⟨tw1210, rfl, by decide +kernel⟩
theorem mo243 : MetOK 243 := ⟨tw1211, rfl, by decide +kernel⟩
theorem mo244 : MetOK 244 := ⟨tw1212, rfl, by decide +kernel⟩
theorem mo245 : MetOK 245 := ⟨tw1213, rfl, by decide +kernel⟩
theorem mo246 : MetOK 246 := ⟨tw1214, rfl, by decide +kernel⟩
theorem mo247 : MetOK 247 := ⟨tw1215, rfl, by decide +kernel⟩
theorem mo248 : MetOK 248 := ⟨tw1216, rfl, by decide +kernel⟩
theorem mo249 : MetOK 249 := ⟨tw1217, rfl, by decide +kernel⟩
theorem mo250 : MetOK 250 := ⟨tw1218, rfl, by decide +kernel⟩
theorem mo251 : MetOK 251 := ⟨tw1219, rfl, by decide +kernel⟩
theorem mo252 : MetOK 252 := ⟨tw1220, rfl, by decide +kernel⟩
theorem mo253 : MetOK 253 := ⟨tw1221, rfl, by decide +kernel⟩
theorem mo254 : MetOK 254 := ⟨tw1222, rfl, by decide +kernel⟩
theorem mo255 : MetOK 255 := ⟨tw1223, rfl, by decide +kernel⟩
theorem mo256 : MetOK 256 := ⟨tw1224, rfl, by decide +kernel⟩
theorem mo257 : MetOK 257 := ⟨tw1225, rfl, by decide +kernel⟩
theorem mo258 : MetOK 258 := ⟨tw1226, rfl, by decide +kernel⟩
theorem mo259 : MetOK 259 := ⟨tw1227, rfl, by decide +kernel⟩
theorem mo260 : MetOK 260 := ⟨tw1228, rfl, by decide +kernel⟩
theorem mo261 : MetOK 261 := ⟨tw1229, rfl, by decide +kernel⟩
theorem mo262 : MetOK 262 := ⟨tw1230, rfl, by decide +kernel⟩
theorem mo263 : MetOK 263 := ⟨tw1231, rfl, by decide +kernel⟩
theorem mo264 : MetOK 264 := ⟨tw1232, rfl, by decide +kernel⟩
theorem mo265 : MetOK 265 := ⟨tw1233, rfl, by decide +kernel⟩
theorem mo266 : MetOK 266 := ⟨tw1234, rfl, by decide +kernel⟩
theorem mo267 : MetOK 267 := ⟨tw1235, rfl, by decide +kernel⟩
theorem mo268 : MetOK 268 := ⟨tw1236, rfl, by decide +kernel⟩
theorem mo269 : MetOK 269 := ⟨tw1237, rfl, by decide +kernel⟩
theorem mo270 : MetOK 270 := ⟨tw1238, rfl, by decide +kernel⟩
theorem mo271 : MetOK 271 := ⟨tw1239, rfl, by decide +kernel⟩
theorem mo272 : MetOK 272 := ⟨tw1240, rfl, by decide +kernel⟩
theorem mo273 : MetOK 273 := ⟨tw1241, rfl, by decide +kernel⟩
theorem mo274 : MetOK 274 := ⟨tw1242, rfl, by decide +kernel⟩
theorem mo275 : MetOK 275 := ⟨tw1243, rfl, by decide +kernel⟩
theorem mo276 : MetOK 276 := ⟨tw1244, rfl, by decide +kernel⟩
theorem met_ok : ∀ M, M < 277 → MetOK M := by
  intro M h
  match M, h with
  | 0, _ => exact mo0
  | 1, _ => exact mo1
  | 2, _ => exact mo2
  | 3, _ => exact mo3
  | 4, _ => exact mo4
  | 5, _ => exact mo5
  | 6, _ => exact mo6
  | 7, _ => exact mo7
  | 8, _ => exact mo8
  | 9, _ => exact mo9
  | 10, _ => exact mo10
  | 11, _ => exact mo11
  | 12, _ => exact mo12
  | 13, _ => exact mo13
  | 14, _ => exact mo14
  | 15, _ => exact mo15
  | 16, _ => exact mo16
  | 17, _ => exact mo17
  | 18, _ => exact mo18
  | 19, _ => exact mo19
  | 20, _ => exact mo20
  | 21, _ => exact mo21
  | 22, _ => exact mo22
  | 23, _ => exact mo23
  | 24, _ => exact mo24
  | 25, _ => exact mo25
  | 26, _ => exact mo26
  | 27, _ => exact mo27
  | 28, _ => exact mo28
  | 29, _ => exact mo29
  | 30, _ => exact mo30
  | 31, _ => exact mo31
  | 32, _ => exact mo32
  | 33, _ => exact mo33
  | 34, _ => exact mo34
  | 35, _ => exact mo35
  | 36, _ => exact mo36
  | 37, _ => exact mo37
  | 38, _ => exact mo38
  | 39, _ => exact mo39
  | 40, _ => exact mo40
  | 41, _ => exact mo41
  | 42, _ => exact mo42
  | 43, _ => exact mo43
  | 44, _ => exact mo44
  | 45, _ => exact mo45
  | 46, _ => exact mo46
  | 47, _ => exact mo47
  | 48, _ => exact mo48
  | 49, _ => exact mo49
  | 50, _ => exact mo50
  | 51, _ => exact mo51
  | 52, _ => exact mo52
  | 53, _ => exact mo53
  | 54, _ => exact mo54
  | 55, _ => exact mo55
  | 56, _ => exact mo56
  | 57, _ => exact mo57
  | 58, _ => exact mo58
  | 59, _ => exact mo59
  | 60, _ => exact mo60
  | 61, _ => exact mo61
  | 62, _ => exact mo62
  | 63, _ => exact mo63
  | 64, _ => exact mo64
  | 65, _ => exact mo65
  | 66, _ => exact mo66
  | 67, _ => exact mo67
  | 68, _ => exact mo68
  | 69, _ => exact mo69
  | 70, _ => exact mo70
  | 71, _ => exact mo71
  | 72, _ => exact mo72
  | 73, _ => exact mo73
  | 74, _ => exact mo74
  | 75, _ => exact mo75
  | 76, _ => exact mo76
  | 77, _ => exact mo77
  | 78, _ => exact mo78
  | 79, _ => exact mo79
  | 80, _ => exact mo80
  | 81, _ => exact mo81
  | 82, _ => exact mo82
  | 83, _ => exact mo83
  | 84, _ => exact mo84
  | 85, _ => exact mo85
  | 86, _ => exact mo86
  | 87, _ => exact mo87
  | 88, _ => exact mo88
  | 89, _ => exact mo89
  | 90, _ => exact mo90
  | 91, _ => exact mo91
  | 92, _ => exact mo92
  | 93, _ => exact mo93
  | 94, _ => exact mo94
  | 95, _ => exact mo95
  | 96, _ => exact mo96
  | 97, _ => exact mo97
  | 98, _ => exact mo98
  | 99, _ => exact mo99
  | 100, _ => exact mo100
  | 101, _ => exact mo101
  | 102, _ => exact mo102
  | 103, _ => exact mo103
  | 104, _ => exact mo104
  | 105, _ => exact mo105
  | 106, _ => exact mo106
  | 107, _ => exact mo107
  | 108, _ => exact mo108
  | 109, _ => exact mo109
  | 110, _ => exact mo110
  | 111, _ => exact mo111
  | 112, _ => exact mo112
  | 113, _ => exact mo113
  | 114, _ => exact mo114
  | 115, _ => exact mo115
  | 116, _ => exact mo116
  | 117, _ => exact mo117
  | 118, _ => exact mo118
  | 119, _ => exact mo119
  | 120, _ => exact mo120
  | 121, _ => exact mo121
  | 122, _ => exact mo122
  | 123, _ => exact mo123
  | 124, _ => exact mo124
  | 125, _ => exact mo125
  | 126, _ => exact mo126
  | 127, _ => exact mo127
  | 128, _ => exact mo128
  | 129, _ => exact mo129
  | 130, _ => exact mo130
  | 131, _ => exact mo131
  | 132, _ => exact mo132
  | 133, _ => exact mo133
  | 134, _ => exact mo134
  | 135, _ => exact mo135
  | 136, _ => exact mo136
  | 137, _ => exact mo137
  | 138, _ => exact mo138
  | 139, _ => exact mo139
  | 140, _ => exact mo140
  | 141, _ => exact mo141
  | 142, _ => exact mo142
  | 143, _ => exact mo143
  | 144, _ => exact mo144
  | 145, _ => exact mo145
  | 146, _ => exact mo146
  | 147, _ => exact mo147
  | 148, _ => exact mo148
  | 149, _ => exact mo149
  | 150, _ => exact mo150
  | 151, _ => exact mo151
  | 152, _ => exact mo152
  | 153, _ => exact mo153
  | 154, _ => exact mo154
  | 155, _ => exact mo155
  | 156, _ => exact mo156
  | 157, _ => exact mo157
  | 158, _ => exact mo158
  | 159, _ => exact mo159
  | 160, _ => exact mo160
  | 161, _ => exact mo161
  | 162, _ => exact mo162
  | 163, _ => exact mo163
  | 164, _ => exact mo164
  | 165, _ => exact mo165
  | 166, _ => exact mo166
  | 167, _ => exact mo167
  | 168, _ => exact mo168
  | 169, _ => exact mo169
  | 170, _ => exact mo170
  | 171, _ => exact mo171
  | 172, _ => exact mo172
  | 173, _ => exact mo173
  | 174, _ => exact mo174
  | 175, _ => exact mo175
  | 176, _ => exact mo176
  | 177, _ => exact mo177
  | 178, _ => exact mo178
  | 179, _ => exact mo179
  | 180, _ => exact mo180
  | 181, _ => exact mo181
  | 182, _ => exact mo182
  | 183, _ => exact mo183
  | 184, _ => exact mo184
  | 185, _ => exact mo185
  | 186, _ => exact mo186
  | 187, _ => exact mo187
  | 188, _ => exact mo188
  | 189, _ => exact mo189
  | 190, _ => exact mo190
  | 191, _ => exact mo191
  | 192, _ => exact mo192
  | 193, _ => exact mo193
  | 194, _ => exact mo194
  | 195, _ => exact mo195
  | 196, _ => exact mo196
  | 197, _ => exact mo197
  | 198, _ => exact mo198
  | 199, _ => exact mo199
  | 200, _ => exact mo200
  | 201, _ => exact mo201
  | 202, _ => exact mo202
  | 203, _ => exact mo203
  | 204, _ => exact mo204
  | 205, _ => exact mo205
  | 206, _ => exact mo206
  | 207, _ => exact mo207
  | 208, _ => exact mo208
  | 209, _ => exact mo209
  | 210, _ => exact mo210
  | 211, _ => exact mo211
  | 212, _ => exact mo212
  | 213, _ => exact mo213
  | 214, _ => exact mo214
  | 215, _ => exact mo215
  | 216, _ => exact mo216
  | 217, _ => exact mo217
  | 218, _ => exact mo218
  | 219, _ => exact mo219
  | 220, _ => exact mo220
  | 221, _ => exact mo221
  | 222, _ => exact mo222
  | 223, _ => exact mo223
  | 224, _ => exact mo224
  | 225, _ => exact mo225
  | 226, _ => exact mo226
  | 227, _ => exact mo227
  | 228, _ => exact mo228
  | 229, _ => exact mo229
  | 230, _ => exact mo230
  | 231, _ => exact mo231
  | 232, _ => exact mo232
  | 233, _ => exact mo233
  | 234, _ => exact mo234
  | 235, _ => exact mo235
  | 236, _ => exact mo236
  | 237, _ => exact mo237
  | 238, _ => exact mo238
  | 239, _ => exact mo239
  | 240, _ => exact mo240
  | 241, _ => exact mo241
  | 242, _ => exact mo242
  | 243, _ => exact mo243
  | 244, _ => exact mo244
  | 245, _ => exact mo245
  | 246, _ => exact mo246
  | 247, _ => exact mo247
  | 248, _ => exact mo248
  | 249, _ => exact mo249
  | 250, _ => exact mo250
  | 251, _ => exact mo251
  | 252, _ => exact mo252
  | 253, _ => exact mo253
  | 254, _ => exact mo254
  | 255, _ => exact mo255
  | 256, _ => exact mo256
  | 257, _ => exact mo257
  | 258, _ => exact mo258
  | 259, _ => exact mo259
  | 260, _ => exact mo260
  | 261, _ => exact mo261
  | 262, _ => exact mo262
  | 263, _ => exact mo263
  | 264, _ => exact mo264
  | 265, _ => exact mo265
  | 266, _ => exact mo266
  | 267, _ => exact mo267
  | 268, _ => exact mo268
  | 269, _ => exact mo269
  | 270, _ => exact mo270
  | 271, _ => exact mo271
  | 272, _ => exact mo272
  | 273, _ => exact mo273
  | 274, _ => exact mo274
  | 275, _ => exact mo275
  | 276, _ => exact mo276
  | n + 277, h => exact absurd h (by omega)
theorem in_u0 : ∀ w ∈ u_ws RX0 TX0 2, w ∈ TW := by
  show ∀ w ∈ [u_lay RX0 TX0 0, u_lay RX0 TX0 1], w ∈ TW
  exact List.forall_mem_cons.mpr ⟨tw1245, List.forall_mem_cons.mpr ⟨tw1246, (fun _ z => by cases z)⟩⟩
theorem in_u1 : ∀ w ∈ u_ws RX1 TX1 2, w ∈ TW := by
  show ∀ w ∈ [u_lay RX1 TX1 0, u_lay RX1 TX1 1], w ∈ TW
  exact List.forall_mem_cons.mpr ⟨tw1247, List.forall_mem_cons.mpr ⟨tw1248, (fun _ z => by cases z)⟩⟩
theorem in_u2 : ∀ w ∈ u_ws RX2 TX2 7, w ∈ TW := by
  show ∀ w ∈ [u_lay RX2 TX2 0, u_lay RX2 TX2 1, u_lay RX2 TX2 2, u_lay RX2 TX2 3, u_lay RX2 TX2 4, u_lay RX2 TX2 5, u_lay RX2 TX2 6], w ∈ TW
  exact List.forall_mem_cons.mpr ⟨tw1249, List.forall_mem_cons.mpr ⟨tw1250, List.forall_mem_cons.mpr ⟨tw1251, List.forall_mem_cons.mpr ⟨tw1252, List.forall_mem_cons.mpr ⟨tw1253, List.forall_mem_cons.mpr ⟨tw1254, List.forall_mem_cons.mpr ⟨tw1255, (fun _ z => by cases z)⟩⟩⟩⟩⟩⟩⟩
theorem in_u3 : ∀ w ∈ u_ws RX3 TX3 10, w ∈ TW := by
  show ∀ w ∈ [u_lay RX3 TX3 0, u_lay RX3 TX3 1, u_lay RX3 TX3 2, u_lay RX3 TX3 3, u_lay RX3 TX3 4, u_lay RX3 TX3 5, u_lay RX3 TX3 6, u_lay RX3 TX3 7, u_lay RX3 TX3 8, u_lay RX3 TX3 9], w ∈ TW
  exact List.forall_mem_cons.mpr ⟨tw1256, List.forall_mem_cons.mpr ⟨tw1257, List.forall_mem_cons.mpr ⟨tw1258, List.forall_mem_cons.mpr ⟨tw1259, List.forall_mem_cons.mpr ⟨tw1260, List.forall_mem_cons.mpr ⟨tw1261, List.forall_mem_cons.mpr ⟨tw1262, List.forall_mem_cons.mpr ⟨tw1263, List.forall_mem_cons.mpr ⟨tw1264, List.forall_mem_cons.mpr ⟨tw1265, (fun _ z => by cases z)⟩⟩⟩⟩⟩⟩⟩⟩⟩⟩
theorem in_u4 : ∀ w ∈ u_ws RX4 TX4 3, w ∈ TW := by
  show ∀ w ∈ [u_lay RX4 TX4 0, u_lay RX4 TX4 1, u_lay RX4 TX4 2], w ∈ TW
  exact List.forall_mem_cons.mpr ⟨tw1266, List.forall_mem_cons.mpr ⟨tw1267, List.forall_mem_cons.mpr ⟨tw1268, (fun _ z => by cases z)⟩⟩⟩
theorem in_u5 : ∀ w ∈ u_ws RX5 TX5 2, w ∈ TW := by
  show ∀ w ∈ [u_lay RX5 TX5 0, u_lay RX5 TX5 1], w ∈ TW
  exact List.forall_mem_cons.mpr ⟨tw1269, List.forall_mem_cons.mpr ⟨tw1270, (fun _ z => by cases z)⟩⟩
theorem in_u6 : ∀ w ∈ u_ws RX6 TX6 2, w ∈ TW := by
  show ∀ w ∈ [u_lay RX6 TX6 0, u_lay RX6 TX6 1], w ∈ TW
  exact List.forall_mem_cons.mpr ⟨tw1271, List.forall_mem_cons.mpr ⟨tw1272, (fun _ z => by cases z)⟩⟩
theorem in_u7 : ∀ w ∈ u_ws RX7 TX7 2, w ∈ TW := by
  show ∀ w ∈ [u_lay RX7 TX7 0, u_lay RX7 TX7 1], w ∈ TW
  exact List.forall_mem_cons.mpr ⟨tw1273, List.forall_mem_cons.mpr ⟨tw1274, (fun _ z => by cases z)⟩⟩
theorem in_u8 : ∀ w ∈ u_ws RX8 TX8 2, w ∈ TW := by
  show ∀ w ∈ [u_lay RX8 TX8 0, u_lay RX8 TX8 1], w ∈ TW
  exact List.forall_mem_cons.mpr ⟨tw1275, List.forall_mem_cons.mpr ⟨tw1276, (fun _ z => by cases z)⟩⟩
theorem in_u9 : ∀ w ∈ u_ws RX9 TX9 2, w ∈ TW := by
  show ∀ w ∈ [u_lay RX9 TX9 0, u_lay RX9 TX9 1], w ∈ TW
  exact List.forall_mem_cons.mpr ⟨tw1277, List.forall_mem_cons.mpr ⟨tw1278, (fun _ z => by cases z)⟩⟩
theorem in_u10 : ∀ w ∈ u_ws RX10 TX10 13, w ∈ TW := by
  show ∀ w ∈ [u_lay RX10 TX10 0, u_lay RX10 TX10 1, u_lay RX10 TX10 2, u_lay RX10 TX10 3, u_lay RX10 TX10 4, u_lay RX10 TX10 5, u_lay RX10 TX10 6, u_lay RX10 TX10 7, u_lay RX10 TX10 8, u_lay RX10 TX10 9, u_lay RX10 TX10 10, u_lay RX10 TX10 11, u_lay RX10 TX10 12], w ∈ TW
  exact List.forall_mem_cons.mpr ⟨tw1279, List.forall_mem_cons.mpr ⟨tw1280, List.forall_mem_cons.mpr ⟨tw1281, List.forall_mem_cons.mpr ⟨tw1282, List.forall_mem_cons.mpr ⟨tw1283, List.forall_mem_cons.mpr ⟨tw1284, List.forall_mem_cons.mpr ⟨tw1285, List.forall_mem_cons.mpr ⟨tw1286, List.forall_mem_cons.mpr ⟨tw1287, List.forall_mem_cons.mpr ⟨tw1288, List.forall_mem_cons.mpr ⟨tw1289, List.forall_mem_cons.mpr ⟨tw1290, List.forall_mem_cons.mpr ⟨tw1291, (fun _ z => by cases z)⟩⟩⟩⟩⟩⟩⟩⟩⟩⟩⟩⟩⟩
theorem in_u11 : ∀ w ∈ u_ws RX11 TX11 40, w ∈ TW := by
  show ∀ w ∈ [u_lay RX11 TX11 0, u_lay RX11 TX11 1, u_lay RX11 TX11 2, u_lay RX11 TX11 3, u_lay RX11 TX11 4, u_lay RX11 TX11 5, u_lay RX11 TX11 6, u_lay RX11 TX11 7, u_lay RX11 TX11 8, u_lay RX11 TX11 9, u_lay RX11 TX11 10, u_lay RX11 TX11 11, u_lay RX11 TX11 12, u_lay RX11 TX11 13, u_lay RX11 TX11 14, u_lay RX11 TX11 15, u_lay RX11 TX11 16, u_lay RX11 TX11 17, u_lay RX11 TX11 18, u_lay RX11 TX11 19, u_lay RX11 TX11 20, u_lay RX11 TX11 21, u_lay RX11 TX11 22, u_lay RX11 TX11 23, u_lay RX11 TX11 24, u_lay RX11 TX11 25, u_lay RX11 TX11 26, u_lay RX11 TX11 27, u_lay RX11 TX11 28, u_lay RX11 TX11 29, u_lay RX11 TX11 30, u_lay RX11 TX11 31, u_lay RX11 TX11 32, u_lay RX11 TX11 33, u_lay RX11 TX11 34, u_lay RX11 TX11 35, u_lay RX11 TX11 36, u_lay RX11 TX11 37, u_lay RX11 TX11 38, u_lay RX11 TX11 39], w ∈ TW
  exact List.forall_mem_cons.mpr ⟨tw1292, List.forall_mem_cons.mpr ⟨tw1293, List.forall_mem_cons.mpr ⟨tw1294, List.forall_mem_cons.mpr ⟨tw1295, List.forall_mem_cons.mpr ⟨tw1296, List.forall_mem_cons.mpr ⟨tw1297, List.forall_mem_cons.mpr ⟨tw1298, List.forall_mem_cons.mpr ⟨tw1299, List.forall_mem_cons.mpr ⟨tw1300, List.forall_mem_cons.mpr ⟨tw1301, List.forall_mem_cons.mpr ⟨tw1302, List.forall_mem_cons.mpr ⟨tw1303, List.forall_mem_cons.mpr ⟨tw1304, List.forall_mem_cons.mpr ⟨tw1305, List.forall_mem_cons.mpr ⟨tw1306, List.forall_mem_cons.mpr ⟨tw1307, List.forall_mem_cons.mpr ⟨tw1308, List.forall_mem_cons.mpr ⟨tw1309, List.forall_mem_cons.mpr ⟨tw1310, List.forall_mem_cons.mpr ⟨tw1311, List.forall_mem_cons.mpr ⟨tw1312, List.forall_mem_cons.mpr ⟨tw1313, List.forall_mem_cons.mpr ⟨tw1314, List.forall_mem_cons.mpr ⟨tw1315, List.forall_mem_cons.mpr ⟨tw1316, List.forall_mem_cons.mpr ⟨tw1317, List.forall_mem_cons.mpr ⟨tw1318, List.forall_mem_cons.mpr ⟨tw1319, List.forall_mem_cons.mpr ⟨tw1320, List.forall_mem_cons.mpr ⟨tw1321, List.forall_mem_cons.mpr ⟨tw1322, List.forall_mem_cons.mpr ⟨tw1323, List.forall_mem_cons.mpr ⟨tw1324, List.forall_mem_cons.mpr ⟨tw1325, List.forall_mem_cons.mpr ⟨tw1326, List.forall_mem_cons.mpr ⟨tw1327, List.forall_mem_cons.mpr ⟨tw1328, List.forall_mem_cons.mpr ⟨tw1329, List.forall_mem_cons.mpr ⟨tw1330, List.forall_mem_cons.mpr ⟨tw1331, (fun _ z => by cases z)⟩⟩⟩⟩⟩⟩⟩⟩⟩⟩⟩⟩⟩⟩⟩⟩⟩⟩⟩⟩⟩⟩⟩⟩⟩⟩⟩⟩⟩⟩⟩⟩⟩⟩⟩⟩⟩⟩⟩⟩
theorem in_u : ∀ (c : Nat) (q : vw_C), vwCl[c]? = some q → ∀ w ∈ u_ws q.1 q.2.1 q.2.2, w ∈ TW := by
  intro c q h
  match c, h with
  | 0, h => cases h; exact in_u0
  | 1, h => cases h; exact in_u1
  | 2, h => cases h; exact in_u2
  | 3, h => cases h; exact in_u3
  | 4, h => cases h; exact in_u4
  | 5, h => cases h; exact in_u5
  | 6, h => cases h; exact in_u6
  | 7, h => cases h; exact in_u7
  | 8, h => cases h; exact in_u8
  | 9, h => cases h; exact in_u9
  | 10, h => cases h; exact in_u10
  | 11, h => cases h; exact in_u11
  | n + 12, h => simp [vwCl] at h
