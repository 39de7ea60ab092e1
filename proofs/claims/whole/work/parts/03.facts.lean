/-! what the tables say, word by word (printed by a program of the writer) -/
def xY (j : Nat) : MethodName := (xyt[j]?).getD ⟨"", "", ""⟩
def xB (j : Nat) : ByteArray := (xbt[j]?).getD ⟨#[]⟩
def xdec (b : ByteArray) (q : Nat × Instr × Nat) : Prop := decode b q.1 = .ok (q.2.1, q.2.2) ∧ (xlen q.2.1 = q.2.2 ∨ xlen q.2.1 = 0)
theorem xas_mem {α : Type} : ∀ {l : List (Nat × α)} {k : Nat} {v : α}, xas l k = some v → (k, v) ∈ l
  | q :: l, k, v, h => by
    unfold xas at h
    split at h
    · rename_i e
      obtain ⟨a, b⟩ := q
      cases h
      have e2 : a = k := Nat.eq_of_beq_eq_true e
      subst e2
      exact List.mem_cons_self
    · exact List.mem_cons_of_mem _ (xas_mem h)
theorem xget_mem : ∀ {l : List (Nat × Instr × Nat)} {k : Nat} {v : Instr}, xget l k = some v → ∃ n, (k, v, n) ∈ l
  | q :: l, k, v, h => by
    unfold xget at h
    split at h
    · rename_i e
      obtain ⟨a, b, n⟩ := q
      cases h
      have e2 : a = k := Nat.eq_of_beq_eq_true e
      subst e2
      exact ⟨n, List.mem_cons_self⟩
    · obtain ⟨n, hn⟩ := xget_mem h
      exact ⟨n, List.mem_cons_of_mem _ hn⟩
theorem xfo_0_12 : (0 < 9 ∧ 0 < xFn 0) ∧ Cond.fieldLink (xR 0) 12 (xF 0 0).1 (xF 0 0).2.1 (xF 0 0).2.2.1 ∈ xTb := ⟨⟨by decide, by decide⟩, (xTb_mem 154 (by decide +kernel) rfl)⟩
theorem xfo_0_18 : (0 < 9 ∧ 1 < xFn 0) ∧ Cond.fieldLink (xR 0) 18 (xF 0 1).1 (xF 0 1).2.1 (xF 0 1).2.2.1 ∈ xTb := ⟨⟨by decide, by decide⟩, (xTb_mem 156 (by decide +kernel) rfl)⟩
theorem xfo_0_22 : (0 < 9 ∧ 2 < xFn 0) ∧ Cond.fieldLink (xR 0) 22 (xF 0 2).1 (xF 0 2).2.1 (xF 0 2).2.2.1 ∈ xTb := ⟨⟨by decide, by decide⟩, (xTb_mem 158 (by decide +kernel) rfl)⟩
theorem xfo_0_26 : (0 < 9 ∧ 3 < xFn 0) ∧ Cond.fieldLink (xR 0) 26 (xF 0 3).1 (xF 0 3).2.1 (xF 0 3).2.2.1 ∈ xTb := ⟨⟨by decide, by decide⟩, (xTb_mem 160 (by decide +kernel) rfl)⟩
theorem xfo_0_29 : (0 < 9 ∧ 4 < xFn 0) ∧ Cond.fieldLink (xR 0) 29 (xF 0 4).1 (xF 0 4).2.1 (xF 0 4).2.2.1 ∈ xTb := ⟨⟨by decide, by decide⟩, (xTb_mem 162 (by decide +kernel) rfl)⟩
theorem xfo_0_32 : (0 < 9 ∧ 5 < xFn 0) ∧ Cond.fieldLink (xR 0) 32 (xF 0 5).1 (xF 0 5).2.1 (xF 0 5).2.2.1 ∈ xTb := ⟨⟨by decide, by decide⟩, (xTb_mem 164 (by decide +kernel) rfl)⟩
theorem xfo_0_35 : (0 < 9 ∧ 6 < xFn 0) ∧ Cond.fieldLink (xR 0) 35 (xF 0 6).1 (xF 0 6).2.1 (xF 0 6).2.2.1 ∈ xTb := ⟨⟨by decide, by decide⟩, (xTb_mem 166 (by decide +kernel) rfl)⟩
theorem xfo_0_39 : (0 < 9 ∧ 7 < xFn 0) ∧ Cond.fieldLink (xR 0) 39 (xF 0 7).1 (xF 0 7).2.1 (xF 0 7).2.2.1 ∈ xTb := ⟨⟨by decide, by decide⟩, (xTb_mem 168 (by decide +kernel) rfl)⟩
theorem xfo_0_43 : (0 < 9 ∧ 8 < xFn 0) ∧ Cond.fieldLink (xR 0) 43 (xF 0 8).1 (xF 0 8).2.1 (xF 0 8).2.2.1 ∈ xTb := ⟨⟨by decide, by decide⟩, (xTb_mem 170 (by decide +kernel) rfl)⟩
theorem xfo_0_46 : (4 < 9 ∧ 4 < xFn 4) ∧ Cond.fieldLink (xR 0) 46 (xF 4 4).1 (xF 4 4).2.1 (xF 4 4).2.2.1 ∈ xTb := ⟨⟨by decide, by decide⟩, (xTb_mem 39 (by decide +kernel) rfl)⟩
theorem xfo_0_95 : (1 < 9 ∧ 7 < xFn 1) ∧ Cond.fieldLink (xR 0) 95 (xF 1 7).1 (xF 1 7).2.1 (xF 1 7).2.2.1 ∈ xTb := ⟨⟨by decide, by decide⟩, (xTb_mem 124 (by decide +kernel) rfl)⟩
theorem xfo_0_99 : (1 < 9 ∧ 8 < xFn 1) ∧ Cond.fieldLink (xR 0) 99 (xF 1 8).1 (xF 1 8).2.1 (xF 1 8).2.2.1 ∈ xTb := ⟨⟨by decide, by decide⟩, (xTb_mem 128 (by decide +kernel) rfl)⟩
theorem xfo_0 : ∀ q ∈ xfldT 0, (q.2.1 < 9 ∧ q.2.2 < xFn q.2.1) ∧ Cond.fieldLink (xR 0) q.1 (xF q.2.1 q.2.2).1 (xF q.2.1 q.2.2).2.1 (xF q.2.1 q.2.2).2.2.1 ∈ xTb := List.forall_mem_cons.mpr ⟨xfo_0_12, List.forall_mem_cons.mpr ⟨xfo_0_18, List.forall_mem_cons.mpr ⟨xfo_0_22, List.forall_mem_cons.mpr ⟨xfo_0_26, List.forall_mem_cons.mpr ⟨xfo_0_29, List.forall_mem_cons.mpr ⟨xfo_0_32, List.forall_mem_cons.mpr ⟨xfo_0_35, List.forall_mem_cons.mpr ⟨xfo_0_39, List.forall_mem_cons.mpr ⟨xfo_0_43, List.forall_mem_cons.mpr ⟨xfo_0_46, List.forall_mem_cons.mpr ⟨xfo_0_95, List.forall_mem_cons.mpr ⟨xfo_0_99, fun _ h => absurd h List.not_mem_nil⟩⟩⟩⟩⟩⟩⟩⟩⟩⟩⟩⟩
theorem xfo_1_9 : (1 < 9 ∧ 0 < xFn 1) ∧ Cond.fieldLink (xR 1) 9 (xF 1 0).1 (xF 1 0).2.1 (xF 1 0).2.2.1 ∈ xTb := ⟨⟨by decide, by decide⟩, (xTb_mem 113 (by decide +kernel) rfl)⟩
theorem xfo_1_15 : (1 < 9 ∧ 1 < xFn 1) ∧ Cond.fieldLink (xR 1) 15 (xF 1 1).1 (xF 1 1).2.1 (xF 1 1).2.2.1 ∈ xTb := ⟨⟨by decide, by decide⟩, (xTb_mem 114 (by decide +kernel) rfl)⟩
theorem xfo_1_19 : (1 < 9 ∧ 2 < xFn 1) ∧ Cond.fieldLink (xR 1) 19 (xF 1 2).1 (xF 1 2).2.1 (xF 1 2).2.2.1 ∈ xTb := ⟨⟨by decide, by decide⟩, (xTb_mem 115 (by decide +kernel) rfl)⟩
theorem xfo_1_22 : (1 < 9 ∧ 3 < xFn 1) ∧ Cond.fieldLink (xR 1) 22 (xF 1 3).1 (xF 1 3).2.1 (xF 1 3).2.2.1 ∈ xTb := ⟨⟨by decide, by decide⟩, (xTb_mem 116 (by decide +kernel) rfl)⟩
theorem xfo_1_26 : (1 < 9 ∧ 4 < xFn 1) ∧ Cond.fieldLink (xR 1) 26 (xF 1 4).1 (xF 1 4).2.1 (xF 1 4).2.2.1 ∈ xTb := ⟨⟨by decide, by decide⟩, (xTb_mem 117 (by decide +kernel) rfl)⟩
theorem xfo_1_30 : (1 < 9 ∧ 5 < xFn 1) ∧ Cond.fieldLink (xR 1) 30 (xF 1 5).1 (xF 1 5).2.1 (xF 1 5).2.2.1 ∈ xTb := ⟨⟨by decide, by decide⟩, (xTb_mem 118 (by decide +kernel) rfl)⟩
theorem xfo_1_33 : (1 < 9 ∧ 6 < xFn 1) ∧ Cond.fieldLink (xR 1) 33 (xF 1 6).1 (xF 1 6).2.1 (xF 1 6).2.2.1 ∈ xTb := ⟨⟨by decide, by decide⟩, (xTb_mem 120 (by decide +kernel) rfl)⟩
theorem xfo_1_36 : (1 < 9 ∧ 7 < xFn 1) ∧ Cond.fieldLink (xR 1) 36 (xF 1 7).1 (xF 1 7).2.1 (xF 1 7).2.2.1 ∈ xTb := ⟨⟨by decide, by decide⟩, (xTb_mem 122 (by decide +kernel) rfl)⟩
theorem xfo_1_39 : (1 < 9 ∧ 8 < xFn 1) ∧ Cond.fieldLink (xR 1) 39 (xF 1 8).1 (xF 1 8).2.1 (xF 1 8).2.2.1 ∈ xTb := ⟨⟨by decide, by decide⟩, (xTb_mem 126 (by decide +kernel) rfl)⟩
theorem xfo_1_42 : (1 < 9 ∧ 9 < xFn 1) ∧ Cond.fieldLink (xR 1) 42 (xF 1 9).1 (xF 1 9).2.1 (xF 1 9).2.2.1 ∈ xTb := ⟨⟨by decide, by decide⟩, (xTb_mem 130 (by decide +kernel) rfl)⟩
theorem xfo_1_51 : (4 < 9 ∧ 3 < xFn 4) ∧ Cond.fieldLink (xR 1) 51 (xF 4 3).1 (xF 4 3).2.1 (xF 4 3).2.2.1 ∈ xTb := ⟨⟨by decide, by decide⟩, (xTb_mem 36 (by decide +kernel) rfl)⟩
theorem xfo_1_85 : (4 < 9 ∧ 2 < xFn 4) ∧ Cond.fieldLink (xR 1) 85 (xF 4 2).1 (xF 4 2).2.1 (xF 4 2).2.2.1 ∈ xTb := ⟨⟨by decide, by decide⟩, (xTb_mem 33 (by decide +kernel) rfl)⟩
theorem xfo_1 : ∀ q ∈ xfldT 1, (q.2.1 < 9 ∧ q.2.2 < xFn q.2.1) ∧ Cond.fieldLink (xR 1) q.1 (xF q.2.1 q.2.2).1 (xF q.2.1 q.2.2).2.1 (xF q.2.1 q.2.2).2.2.1 ∈ xTb := List.forall_mem_cons.mpr ⟨xfo_1_9, List.forall_mem_cons.mpr ⟨xfo_1_15, List.forall_mem_cons.mpr ⟨xfo_1_19, List.forall_mem_cons.mpr ⟨xfo_1_22, List.forall_mem_cons.mpr ⟨xfo_1_26, List.forall_mem_cons.mpr ⟨xfo_1_30, List.forall_mem_cons.mpr ⟨xfo_1_33, List.forall_mem_cons.mpr ⟨xfo_1_36, List.forall_mem_cons.mpr ⟨xfo_1_39, List.forall_mem_cons.mpr ⟨xfo_1_42, List.forall_mem_cons.mpr ⟨xfo_1_51, List.forall_mem_cons.mpr ⟨xfo_1_85, fun _ h => absurd h List.not_mem_nil⟩⟩⟩⟩⟩⟩⟩⟩⟩⟩⟩⟩
theorem xfo_2_9 : (2 < 9 ∧ 0 < xFn 2) ∧ Cond.fieldLink (xR 2) 9 (xF 2 0).1 (xF 2 0).2.1 (xF 2 0).2.2.1 ∈ xTb := ⟨⟨by decide, by decide⟩, (xTb_mem 199 (by decide +kernel) rfl)⟩
theorem xfo_2_15 : (2 < 9 ∧ 1 < xFn 2) ∧ Cond.fieldLink (xR 2) 15 (xF 2 1).1 (xF 2 1).2.1 (xF 2 1).2.2.1 ∈ xTb := ⟨⟨by decide, by decide⟩, (xTb_mem 200 (by decide +kernel) rfl)⟩
theorem xfo_2_19 : (2 < 9 ∧ 2 < xFn 2) ∧ Cond.fieldLink (xR 2) 19 (xF 2 2).1 (xF 2 2).2.1 (xF 2 2).2.2.1 ∈ xTb := ⟨⟨by decide, by decide⟩, (xTb_mem 201 (by decide +kernel) rfl)⟩
theorem xfo_2_23 : (2 < 9 ∧ 3 < xFn 2) ∧ Cond.fieldLink (xR 2) 23 (xF 2 3).1 (xF 2 3).2.1 (xF 2 3).2.2.1 ∈ xTb := ⟨⟨by decide, by decide⟩, (xTb_mem 202 (by decide +kernel) rfl)⟩
theorem xfo_2_54 : (1 < 9 ∧ 7 < xFn 1) ∧ Cond.fieldLink (xR 2) 54 (xF 1 7).1 (xF 1 7).2.1 (xF 1 7).2.2.1 ∈ xTb := ⟨⟨by decide, by decide⟩, (xTb_mem 123 (by decide +kernel) rfl)⟩
theorem xfo_2_58 : (1 < 9 ∧ 8 < xFn 1) ∧ Cond.fieldLink (xR 2) 58 (xF 1 8).1 (xF 1 8).2.1 (xF 1 8).2.2.1 ∈ xTb := ⟨⟨by decide, by decide⟩, (xTb_mem 127 (by decide +kernel) rfl)⟩
theorem xfo_2 : ∀ q ∈ xfldT 2, (q.2.1 < 9 ∧ q.2.2 < xFn q.2.1) ∧ Cond.fieldLink (xR 2) q.1 (xF q.2.1 q.2.2).1 (xF q.2.1 q.2.2).2.1 (xF q.2.1 q.2.2).2.2.1 ∈ xTb := List.forall_mem_cons.mpr ⟨xfo_2_9, List.forall_mem_cons.mpr ⟨xfo_2_15, List.forall_mem_cons.mpr ⟨xfo_2_19, List.forall_mem_cons.mpr ⟨xfo_2_23, List.forall_mem_cons.mpr ⟨xfo_2_54, List.forall_mem_cons.mpr ⟨xfo_2_58, fun _ h => absurd h List.not_mem_nil⟩⟩⟩⟩⟩⟩
theorem xfo_3_11 : (3 < 9 ∧ 0 < xFn 3) ∧ Cond.fieldLink (xR 3) 11 (xF 3 0).1 (xF 3 0).2.1 (xF 3 0).2.2.1 ∈ xTb := ⟨⟨by decide, by decide⟩, (xTb_mem 66 (by decide +kernel) rfl)⟩
theorem xfo_3_17 : (3 < 9 ∧ 1 < xFn 3) ∧ Cond.fieldLink (xR 3) 17 (xF 3 1).1 (xF 3 1).2.1 (xF 3 1).2.2.1 ∈ xTb := ⟨⟨by decide, by decide⟩, (xTb_mem 67 (by decide +kernel) rfl)⟩
theorem xfo_3 : ∀ q ∈ xfldT 3, (q.2.1 < 9 ∧ q.2.2 < xFn q.2.1) ∧ Cond.fieldLink (xR 3) q.1 (xF q.2.1 q.2.2).1 (xF q.2.1 q.2.2).2.1 (xF q.2.1 q.2.2).2.2.1 ∈ xTb := List.forall_mem_cons.mpr ⟨xfo_3_11, List.forall_mem_cons.mpr ⟨xfo_3_17, fun _ h => absurd h List.not_mem_nil⟩⟩
theorem xfo_4_9 : (4 < 9 ∧ 0 < xFn 4) ∧ Cond.fieldLink (xR 4) 9 (xF 4 0).1 (xF 4 0).2.1 (xF 4 0).2.2.1 ∈ xTb := ⟨⟨by decide, by decide⟩, (xTb_mem 28 (by decide +kernel) rfl)⟩
theorem xfo_4_15 : (4 < 9 ∧ 1 < xFn 4) ∧ Cond.fieldLink (xR 4) 15 (xF 4 1).1 (xF 4 1).2.1 (xF 4 1).2.2.1 ∈ xTb := ⟨⟨by decide, by decide⟩, (xTb_mem 29 (by decide +kernel) rfl)⟩
theorem xfo_4_18 : (4 < 9 ∧ 2 < xFn 4) ∧ Cond.fieldLink (xR 4) 18 (xF 4 2).1 (xF 4 2).2.1 (xF 4 2).2.2.1 ∈ xTb := ⟨⟨by decide, by decide⟩, (xTb_mem 32 (by decide +kernel) rfl)⟩
theorem xfo_4_22 : (4 < 9 ∧ 3 < xFn 4) ∧ Cond.fieldLink (xR 4) 22 (xF 4 3).1 (xF 4 3).2.1 (xF 4 3).2.2.1 ∈ xTb := ⟨⟨by decide, by decide⟩, (xTb_mem 35 (by decide +kernel) rfl)⟩
theorem xfo_4_25 : (4 < 9 ∧ 4 < xFn 4) ∧ Cond.fieldLink (xR 4) 25 (xF 4 4).1 (xF 4 4).2.1 (xF 4 4).2.2.1 ∈ xTb := ⟨⟨by decide, by decide⟩, (xTb_mem 38 (by decide +kernel) rfl)⟩
theorem xfo_4_28 : (4 < 9 ∧ 5 < xFn 4) ∧ Cond.fieldLink (xR 4) 28 (xF 4 5).1 (xF 4 5).2.1 (xF 4 5).2.2.1 ∈ xTb := ⟨⟨by decide, by decide⟩, (xTb_mem 41 (by decide +kernel) rfl)⟩
theorem xfo_4 : ∀ q ∈ xfldT 4, (q.2.1 < 9 ∧ q.2.2 < xFn q.2.1) ∧ Cond.fieldLink (xR 4) q.1 (xF q.2.1 q.2.2).1 (xF q.2.1 q.2.2).2.1 (xF q.2.1 q.2.2).2.2.1 ∈ xTb := List.forall_mem_cons.mpr ⟨xfo_4_9, List.forall_mem_cons.mpr ⟨xfo_4_15, List.forall_mem_cons.mpr ⟨xfo_4_18, List.forall_mem_cons.mpr ⟨xfo_4_22, List.forall_mem_cons.mpr ⟨xfo_4_25, List.forall_mem_cons.mpr ⟨xfo_4_28, fun _ h => absurd h List.not_mem_nil⟩⟩⟩⟩⟩⟩
theorem xfo_5_9 : (5 < 9 ∧ 0 < xFn 5) ∧ Cond.fieldLink (xR 5) 9 (xF 5 0).1 (xF 5 0).2.1 (xF 5 0).2.2.1 ∈ xTb := ⟨⟨by decide, by decide⟩, (xTb_mem 220 (by decide +kernel) rfl)⟩
theorem xfo_5_15 : (5 < 9 ∧ 1 < xFn 5) ∧ Cond.fieldLink (xR 5) 15 (xF 5 1).1 (xF 5 1).2.1 (xF 5 1).2.2.1 ∈ xTb := ⟨⟨by decide, by decide⟩, (xTb_mem 222 (by decide +kernel) rfl)⟩
theorem xfo_5_19 : (5 < 9 ∧ 2 < xFn 5) ∧ Cond.fieldLink (xR 5) 19 (xF 5 2).1 (xF 5 2).2.1 (xF 5 2).2.2.1 ∈ xTb := ⟨⟨by decide, by decide⟩, (xTb_mem 224 (by decide +kernel) rfl)⟩
theorem xfo_5_23 : (5 < 9 ∧ 3 < xFn 5) ∧ Cond.fieldLink (xR 5) 23 (xF 5 3).1 (xF 5 3).2.1 (xF 5 3).2.2.1 ∈ xTb := ⟨⟨by decide, by decide⟩, (xTb_mem 226 (by decide +kernel) rfl)⟩
theorem xfo_5 : ∀ q ∈ xfldT 5, (q.2.1 < 9 ∧ q.2.2 < xFn q.2.1) ∧ Cond.fieldLink (xR 5) q.1 (xF q.2.1 q.2.2).1 (xF q.2.1 q.2.2).2.1 (xF q.2.1 q.2.2).2.2.1 ∈ xTb := List.forall_mem_cons.mpr ⟨xfo_5_9, List.forall_mem_cons.mpr ⟨xfo_5_15, List.forall_mem_cons.mpr ⟨xfo_5_19, List.forall_mem_cons.mpr ⟨xfo_5_23, fun _ h => absurd h List.not_mem_nil⟩⟩⟩⟩
theorem xfo_6_9 : (6 < 9 ∧ 0 < xFn 6) ∧ Cond.fieldLink (xR 6) 9 (xF 6 0).1 (xF 6 0).2.1 (xF 6 0).2.2.1 ∈ xTb := ⟨⟨by decide, by decide⟩, (xTb_mem 80 (by decide +kernel) rfl)⟩
theorem xfo_6_15 : (6 < 9 ∧ 1 < xFn 6) ∧ Cond.fieldLink (xR 6) 15 (xF 6 1).1 (xF 6 1).2.1 (xF 6 1).2.2.1 ∈ xTb := ⟨⟨by decide, by decide⟩, (xTb_mem 81 (by decide +kernel) rfl)⟩
theorem xfo_6_19 : (6 < 9 ∧ 2 < xFn 6) ∧ Cond.fieldLink (xR 6) 19 (xF 6 2).1 (xF 6 2).2.1 (xF 6 2).2.2.1 ∈ xTb := ⟨⟨by decide, by decide⟩, (xTb_mem 83 (by decide +kernel) rfl)⟩
theorem xfo_6_22 : (6 < 9 ∧ 3 < xFn 6) ∧ Cond.fieldLink (xR 6) 22 (xF 6 3).1 (xF 6 3).2.1 (xF 6 3).2.2.1 ∈ xTb := ⟨⟨by decide, by decide⟩, (xTb_mem 85 (by decide +kernel) rfl)⟩
theorem xfo_6_25 : (6 < 9 ∧ 4 < xFn 6) ∧ Cond.fieldLink (xR 6) 25 (xF 6 4).1 (xF 6 4).2.1 (xF 6 4).2.2.1 ∈ xTb := ⟨⟨by decide, by decide⟩, (xTb_mem 86 (by decide +kernel) rfl)⟩
theorem xfo_6_28 : (6 < 9 ∧ 5 < xFn 6) ∧ Cond.fieldLink (xR 6) 28 (xF 6 5).1 (xF 6 5).2.1 (xF 6 5).2.2.1 ∈ xTb := ⟨⟨by decide, by decide⟩, (xTb_mem 87 (by decide +kernel) rfl)⟩
theorem xfo_6_62 : (4 < 9 ∧ 1 < xFn 4) ∧ Cond.fieldLink (xR 6) 62 (xF 4 1).1 (xF 4 1).2.1 (xF 4 1).2.2.1 ∈ xTb := ⟨⟨by decide, by decide⟩, (xTb_mem 30 (by decide +kernel) rfl)⟩
theorem xfo_6 : ∀ q ∈ xfldT 6, (q.2.1 < 9 ∧ q.2.2 < xFn q.2.1) ∧ Cond.fieldLink (xR 6) q.1 (xF q.2.1 q.2.2).1 (xF q.2.1 q.2.2).2.1 (xF q.2.1 q.2.2).2.2.1 ∈ xTb := List.forall_mem_cons.mpr ⟨xfo_6_9, List.forall_mem_cons.mpr ⟨xfo_6_15, List.forall_mem_cons.mpr ⟨xfo_6_19, List.forall_mem_cons.mpr ⟨xfo_6_22, List.forall_mem_cons.mpr ⟨xfo_6_25, List.forall_mem_cons.mpr ⟨xfo_6_28, List.forall_mem_cons.mpr ⟨xfo_6_62, fun _ h => absurd h List.not_mem_nil⟩⟩⟩⟩⟩⟩⟩
theorem xfo_7_12 : (7 < 9 ∧ 0 < xFn 7) ∧ Cond.fieldLink (xR 7) 12 (xF 7 0).1 (xF 7 0).2.1 (xF 7 0).2.2.1 ∈ xTb := ⟨⟨by decide, by decide⟩, (xTb_mem 237 (by decide +kernel) rfl)⟩
theorem xfo_7_19 : (7 < 9 ∧ 1 < xFn 7) ∧ Cond.fieldLink (xR 7) 19 (xF 7 1).1 (xF 7 1).2.1 (xF 7 1).2.2.1 ∈ xTb := ⟨⟨by decide, by decide⟩, (xTb_mem 238 (by decide +kernel) rfl)⟩
theorem xfo_7_23 : (7 < 9 ∧ 2 < xFn 7) ∧ Cond.fieldLink (xR 7) 23 (xF 7 2).1 (xF 7 2).2.1 (xF 7 2).2.2.1 ∈ xTb := ⟨⟨by decide, by decide⟩, (xTb_mem 239 (by decide +kernel) rfl)⟩
theorem xfo_7_26 : (7 < 9 ∧ 3 < xFn 7) ∧ Cond.fieldLink (xR 7) 26 (xF 7 3).1 (xF 7 3).2.1 (xF 7 3).2.2.1 ∈ xTb := ⟨⟨by decide, by decide⟩, (xTb_mem 240 (by decide +kernel) rfl)⟩
theorem xfo_7_29 : (7 < 9 ∧ 4 < xFn 7) ∧ Cond.fieldLink (xR 7) 29 (xF 7 4).1 (xF 7 4).2.1 (xF 7 4).2.2.1 ∈ xTb := ⟨⟨by decide, by decide⟩, (xTb_mem 241 (by decide +kernel) rfl)⟩
theorem xfo_7_36 : (7 < 9 ∧ 5 < xFn 7) ∧ Cond.fieldLink (xR 7) 36 (xF 7 5).1 (xF 7 5).2.1 (xF 7 5).2.2.1 ∈ xTb := ⟨⟨by decide, by decide⟩, (xTb_mem 242 (by decide +kernel) rfl)⟩
theorem xfo_7_40 : (7 < 9 ∧ 6 < xFn 7) ∧ Cond.fieldLink (xR 7) 40 (xF 7 6).1 (xF 7 6).2.1 (xF 7 6).2.2.1 ∈ xTb := ⟨⟨by decide, by decide⟩, (xTb_mem 243 (by decide +kernel) rfl)⟩
theorem xfo_7_46 : (7 < 9 ∧ 7 < xFn 7) ∧ Cond.fieldLink (xR 7) 46 (xF 7 7).1 (xF 7 7).2.1 (xF 7 7).2.2.1 ∈ xTb := ⟨⟨by decide, by decide⟩, (xTb_mem 244 (by decide +kernel) rfl)⟩
theorem xfo_7_53 : (7 < 9 ∧ 8 < xFn 7) ∧ Cond.fieldLink (xR 7) 53 (xF 7 8).1 (xF 7 8).2.1 (xF 7 8).2.2.1 ∈ xTb := ⟨⟨by decide, by decide⟩, (xTb_mem 245 (by decide +kernel) rfl)⟩
theorem xfo_7_60 : (7 < 9 ∧ 9 < xFn 7) ∧ Cond.fieldLink (xR 7) 60 (xF 7 9).1 (xF 7 9).2.1 (xF 7 9).2.2.1 ∈ xTb := ⟨⟨by decide, by decide⟩, (xTb_mem 246 (by decide +kernel) rfl)⟩
theorem xfo_7_66 : (7 < 9 ∧ 10 < xFn 7) ∧ Cond.fieldLink (xR 7) 66 (xF 7 10).1 (xF 7 10).2.1 (xF 7 10).2.2.1 ∈ xTb := ⟨⟨by decide, by decide⟩, (xTb_mem 247 (by decide +kernel) rfl)⟩
theorem xfo_7_110 : (4 < 9 ∧ 4 < xFn 4) ∧ Cond.fieldLink (xR 7) 110 (xF 4 4).1 (xF 4 4).2.1 (xF 4 4).2.2.1 ∈ xTb := ⟨⟨by decide, by decide⟩, (xTb_mem 40 (by decide +kernel) rfl)⟩
theorem xfo_7_114 : (4 < 9 ∧ 3 < xFn 4) ∧ Cond.fieldLink (xR 7) 114 (xF 4 3).1 (xF 4 3).2.1 (xF 4 3).2.2.1 ∈ xTb := ⟨⟨by decide, by decide⟩, (xTb_mem 37 (by decide +kernel) rfl)⟩
theorem xfo_7_125 : (4 < 9 ∧ 1 < xFn 4) ∧ Cond.fieldLink (xR 7) 125 (xF 4 1).1 (xF 4 1).2.1 (xF 4 1).2.2.1 ∈ xTb := ⟨⟨by decide, by decide⟩, (xTb_mem 31 (by decide +kernel) rfl)⟩
theorem xfo_7_129 : (4 < 9 ∧ 2 < xFn 4) ∧ Cond.fieldLink (xR 7) 129 (xF 4 2).1 (xF 4 2).2.1 (xF 4 2).2.2.1 ∈ xTb := ⟨⟨by decide, by decide⟩, (xTb_mem 34 (by decide +kernel) rfl)⟩
theorem xfo_7_152 : (3 < 9 ∧ 1 < xFn 3) ∧ Cond.fieldLink (xR 7) 152 (xF 3 1).1 (xF 3 1).2.1 (xF 3 1).2.2.1 ∈ xTb := ⟨⟨by decide, by decide⟩, (xTb_mem 68 (by decide +kernel) rfl)⟩
theorem xfo_7_155 : (6 < 9 ∧ 1 < xFn 6) ∧ Cond.fieldLink (xR 7) 155 (xF 6 1).1 (xF 6 1).2.1 (xF 6 1).2.2.1 ∈ xTb := ⟨⟨by decide, by decide⟩, (xTb_mem 82 (by decide +kernel) rfl)⟩
theorem xfo_7_165 : (6 < 9 ∧ 2 < xFn 6) ∧ Cond.fieldLink (xR 7) 165 (xF 6 2).1 (xF 6 2).2.1 (xF 6 2).2.2.1 ∈ xTb := ⟨⟨by decide, by decide⟩, (xTb_mem 84 (by decide +kernel) rfl)⟩
theorem xfo_7_168 : (4 < 9 ∧ 5 < xFn 4) ∧ Cond.fieldLink (xR 7) 168 (xF 4 5).1 (xF 4 5).2.1 (xF 4 5).2.2.1 ∈ xTb := ⟨⟨by decide, by decide⟩, (xTb_mem 42 (by decide +kernel) rfl)⟩
theorem xfo_7_199 : (0 < 9 ∧ 7 < xFn 0) ∧ Cond.fieldLink (xR 7) 199 (xF 0 7).1 (xF 0 7).2.1 (xF 0 7).2.2.1 ∈ xTb := ⟨⟨by decide, by decide⟩, (xTb_mem 169 (by decide +kernel) rfl)⟩
theorem xfo_7_202 : (0 < 9 ∧ 6 < xFn 0) ∧ Cond.fieldLink (xR 7) 202 (xF 0 6).1 (xF 0 6).2.1 (xF 0 6).2.2.1 ∈ xTb := ⟨⟨by decide, by decide⟩, (xTb_mem 167 (by decide +kernel) rfl)⟩
theorem xfo_7_214 : (0 < 9 ∧ 0 < xFn 0) ∧ Cond.fieldLink (xR 7) 214 (xF 0 0).1 (xF 0 0).2.1 (xF 0 0).2.2.1 ∈ xTb := ⟨⟨by decide, by decide⟩, (xTb_mem 155 (by decide +kernel) rfl)⟩
theorem xfo_7_217 : (1 < 9 ∧ 5 < xFn 1) ∧ Cond.fieldLink (xR 7) 217 (xF 1 5).1 (xF 1 5).2.1 (xF 1 5).2.2.1 ∈ xTb := ⟨⟨by decide, by decide⟩, (xTb_mem 119 (by decide +kernel) rfl)⟩
theorem xfo_7_221 : (1 < 9 ∧ 6 < xFn 1) ∧ Cond.fieldLink (xR 7) 221 (xF 1 6).1 (xF 1 6).2.1 (xF 1 6).2.2.1 ∈ xTb := ⟨⟨by decide, by decide⟩, (xTb_mem 121 (by decide +kernel) rfl)⟩
theorem xfo_7_237 : (0 < 9 ∧ 1 < xFn 0) ∧ Cond.fieldLink (xR 7) 237 (xF 0 1).1 (xF 0 1).2.1 (xF 0 1).2.2.1 ∈ xTb := ⟨⟨by decide, by decide⟩, (xTb_mem 157 (by decide +kernel) rfl)⟩
theorem xfo_7_240 : (0 < 9 ∧ 2 < xFn 0) ∧ Cond.fieldLink (xR 7) 240 (xF 0 2).1 (xF 0 2).2.1 (xF 0 2).2.2.1 ∈ xTb := ⟨⟨by decide, by decide⟩, (xTb_mem 159 (by decide +kernel) rfl)⟩
theorem xfo_7_243 : (0 < 9 ∧ 3 < xFn 0) ∧ Cond.fieldLink (xR 7) 243 (xF 0 3).1 (xF 0 3).2.1 (xF 0 3).2.2.1 ∈ xTb := ⟨⟨by decide, by decide⟩, (xTb_mem 161 (by decide +kernel) rfl)⟩
theorem xfo_7_246 : (0 < 9 ∧ 4 < xFn 0) ∧ Cond.fieldLink (xR 7) 246 (xF 0 4).1 (xF 0 4).2.1 (xF 0 4).2.2.1 ∈ xTb := ⟨⟨by decide, by decide⟩, (xTb_mem 163 (by decide +kernel) rfl)⟩
theorem xfo_7_249 : (0 < 9 ∧ 5 < xFn 0) ∧ Cond.fieldLink (xR 7) 249 (xF 0 5).1 (xF 0 5).2.1 (xF 0 5).2.2.1 ∈ xTb := ⟨⟨by decide, by decide⟩, (xTb_mem 165 (by decide +kernel) rfl)⟩
theorem xfo_7_261 : (1 < 9 ∧ 7 < xFn 1) ∧ Cond.fieldLink (xR 7) 261 (xF 1 7).1 (xF 1 7).2.1 (xF 1 7).2.2.1 ∈ xTb := ⟨⟨by decide, by decide⟩, (xTb_mem 125 (by decide +kernel) rfl)⟩
theorem xfo_7_264 : (1 < 9 ∧ 8 < xFn 1) ∧ Cond.fieldLink (xR 7) 264 (xF 1 8).1 (xF 1 8).2.1 (xF 1 8).2.2.1 ∈ xTb := ⟨⟨by decide, by decide⟩, (xTb_mem 129 (by decide +kernel) rfl)⟩
theorem xfo_7_267 : (1 < 9 ∧ 9 < xFn 1) ∧ Cond.fieldLink (xR 7) 267 (xF 1 9).1 (xF 1 9).2.1 (xF 1 9).2.2.1 ∈ xTb := ⟨⟨by decide, by decide⟩, (xTb_mem 131 (by decide +kernel) rfl)⟩
theorem xfo_7_285 : (0 < 9 ∧ 8 < xFn 0) ∧ Cond.fieldLink (xR 7) 285 (xF 0 8).1 (xF 0 8).2.1 (xF 0 8).2.2.1 ∈ xTb := ⟨⟨by decide, by decide⟩, (xTb_mem 171 (by decide +kernel) rfl)⟩
theorem xfo_7_322 : (5 < 9 ∧ 1 < xFn 5) ∧ Cond.fieldLink (xR 7) 322 (xF 5 1).1 (xF 5 1).2.1 (xF 5 1).2.2.1 ∈ xTb := ⟨⟨by decide, by decide⟩, (xTb_mem 223 (by decide +kernel) rfl)⟩
theorem xfo_7_325 : (5 < 9 ∧ 3 < xFn 5) ∧ Cond.fieldLink (xR 7) 325 (xF 5 3).1 (xF 5 3).2.1 (xF 5 3).2.2.1 ∈ xTb := ⟨⟨by decide, by decide⟩, (xTb_mem 227 (by decide +kernel) rfl)⟩
theorem xfo_7_328 : (5 < 9 ∧ 2 < xFn 5) ∧ Cond.fieldLink (xR 7) 328 (xF 5 2).1 (xF 5 2).2.1 (xF 5 2).2.2.1 ∈ xTb := ⟨⟨by decide, by decide⟩, (xTb_mem 225 (by decide +kernel) rfl)⟩
theorem xfo_7_334 : (5 < 9 ∧ 0 < xFn 5) ∧ Cond.fieldLink (xR 7) 334 (xF 5 0).1 (xF 5 0).2.1 (xF 5 0).2.2.1 ∈ xTb := ⟨⟨by decide, by decide⟩, (xTb_mem 221 (by decide +kernel) rfl)⟩
theorem xfo_7 : ∀ q ∈ xfldT 7, (q.2.1 < 9 ∧ q.2.2 < xFn q.2.1) ∧ Cond.fieldLink (xR 7) q.1 (xF q.2.1 q.2.2).1 (xF q.2.1 q.2.2).2.1 (xF q.2.1 q.2.2).2.2.1 ∈ xTb := List.forall_mem_cons.mpr ⟨xfo_7_12, List.forall_mem_cons.mpr ⟨xfo_7_19, List.forall_mem_cons.mpr ⟨xfo_7_23, List.forall_mem_cons.mpr ⟨xfo_7_26, List.forall_mem_cons.mpr ⟨xfo_7_29, List.forall_mem_cons.mpr ⟨xfo_7_36, List.forall_mem_cons.mpr ⟨xfo_7_40, List.forall_mem_cons.mpr ⟨xfo_7_46, List.forall_mem_cons.mpr ⟨xfo_7_53, List.forall_mem_cons.mpr ⟨xfo_7_60, List.forall_mem_cons.mpr ⟨xfo_7_66, List.forall_mem_cons.mpr ⟨xfo_7_110, List.forall_mem_cons.mpr ⟨xfo_7_114, List.forall_mem_cons.mpr ⟨xfo_7_125, List.forall_mem_cons.mpr ⟨xfo_7_129, List.forall_mem_cons.mpr ⟨xfo_7_152, List.forall_mem_cons.mpr ⟨xfo_7_155, List.forall_mem_cons.mpr ⟨xfo_7_165, List.forall_mem_cons.mpr ⟨xfo_7_168, List.forall_mem_cons.mpr ⟨xfo_7_199, List.forall_mem_cons.mpr ⟨xfo_7_202, List.forall_mem_cons.mpr ⟨xfo_7_214, List.forall_mem_cons.mpr ⟨xfo_7_217, List.forall_mem_cons.mpr ⟨xfo_7_221, List.forall_mem_cons.mpr ⟨xfo_7_237, List.forall_mem_cons.mpr ⟨xfo_7_240, List.forall_mem_cons.mpr ⟨xfo_7_243, List.forall_mem_cons.mpr ⟨xfo_7_246, List.forall_mem_cons.mpr ⟨xfo_7_249, List.forall_mem_cons.mpr ⟨xfo_7_261, List.forall_mem_cons.mpr ⟨xfo_7_264, List.forall_mem_cons.mpr ⟨xfo_7_267, List.forall_mem_cons.mpr ⟨xfo_7_285, List.forall_mem_cons.mpr ⟨xfo_7_322, List.forall_mem_cons.mpr ⟨xfo_7_325, List.forall_mem_cons.mpr ⟨xfo_7_328, List.forall_mem_cons.mpr ⟨xfo_7_334, fun _ h => absurd h List.not_mem_nil⟩⟩⟩⟩⟩⟩⟩⟩⟩⟩⟩⟩⟩⟩⟩⟩⟩⟩⟩⟩⟩⟩⟩⟩⟩⟩⟩⟩⟩⟩⟩⟩⟩⟩⟩⟩⟩
theorem xfo_8_7 : (8 < 9 ∧ 0 < xFn 8) ∧ Cond.fieldLink (xR 8) 7 (xF 8 0).1 (xF 8 0).2.1 (xF 8 0).2.2.1 ∈ xTb := ⟨⟨by decide, by decide⟩, (xTb_mem 785 (by decide +kernel) rfl)⟩
theorem xfo_8_13 : (8 < 9 ∧ 2 < xFn 8) ∧ Cond.fieldLink (xR 8) 13 (xF 8 2).1 (xF 8 2).2.1 (xF 8 2).2.2.1 ∈ xTb := ⟨⟨by decide, by decide⟩, (xTb_mem 787 (by decide +kernel) rfl)⟩
theorem xfo_8_16 : (8 < 9 ∧ 3 < xFn 8) ∧ Cond.fieldLink (xR 8) 16 (xF 8 3).1 (xF 8 3).2.1 (xF 8 3).2.2.1 ∈ xTb := ⟨⟨by decide, by decide⟩, (xTb_mem 788 (by decide +kernel) rfl)⟩
theorem xfo_8_20 : (8 < 9 ∧ 4 < xFn 8) ∧ Cond.fieldLink (xR 8) 20 (xF 8 4).1 (xF 8 4).2.1 (xF 8 4).2.2.1 ∈ xTb := ⟨⟨by decide, by decide⟩, (xTb_mem 789 (by decide +kernel) rfl)⟩
theorem xfo_8_23 : (8 < 9 ∧ 6 < xFn 8) ∧ Cond.fieldLink (xR 8) 23 (xF 8 6).1 (xF 8 6).2.1 (xF 8 6).2.2.1 ∈ xTb := ⟨⟨by decide, by decide⟩, (xTb_mem 791 (by decide +kernel) rfl)⟩
theorem xfo_8_26 : (8 < 9 ∧ 7 < xFn 8) ∧ Cond.fieldLink (xR 8) 26 (xF 8 7).1 (xF 8 7).2.1 (xF 8 7).2.2.1 ∈ xTb := ⟨⟨by decide, by decide⟩, (xTb_mem 792 (by decide +kernel) rfl)⟩
theorem xfo_8_29 : (8 < 9 ∧ 8 < xFn 8) ∧ Cond.fieldLink (xR 8) 29 (xF 8 8).1 (xF 8 8).2.1 (xF 8 8).2.2.1 ∈ xTb := ⟨⟨by decide, by decide⟩, (xTb_mem 793 (by decide +kernel) rfl)⟩
theorem xfo_8_33 : (8 < 9 ∧ 11 < xFn 8) ∧ Cond.fieldLink (xR 8) 33 (xF 8 11).1 (xF 8 11).2.1 (xF 8 11).2.2.1 ∈ xTb := ⟨⟨by decide, by decide⟩, (xTb_mem 796 (by decide +kernel) rfl)⟩
theorem xfo_8_36 : (8 < 9 ∧ 12 < xFn 8) ∧ Cond.fieldLink (xR 8) 36 (xF 8 12).1 (xF 8 12).2.1 (xF 8 12).2.2.1 ∈ xTb := ⟨⟨by decide, by decide⟩, (xTb_mem 797 (by decide +kernel) rfl)⟩
theorem xfo_8_39 : (8 < 9 ∧ 13 < xFn 8) ∧ Cond.fieldLink (xR 8) 39 (xF 8 13).1 (xF 8 13).2.1 (xF 8 13).2.2.1 ∈ xTb := ⟨⟨by decide, by decide⟩, (xTb_mem 798 (by decide +kernel) rfl)⟩
theorem xfo_8_42 : (8 < 9 ∧ 15 < xFn 8) ∧ Cond.fieldLink (xR 8) 42 (xF 8 15).1 (xF 8 15).2.1 (xF 8 15).2.2.1 ∈ xTb := ⟨⟨by decide, by decide⟩, (xTb_mem 800 (by decide +kernel) rfl)⟩
theorem xfo_8_45 : (8 < 9 ∧ 16 < xFn 8) ∧ Cond.fieldLink (xR 8) 45 (xF 8 16).1 (xF 8 16).2.1 (xF 8 16).2.2.1 ∈ xTb := ⟨⟨by decide, by decide⟩, (xTb_mem 801 (by decide +kernel) rfl)⟩
theorem xfo_8_48 : (8 < 9 ∧ 17 < xFn 8) ∧ Cond.fieldLink (xR 8) 48 (xF 8 17).1 (xF 8 17).2.1 (xF 8 17).2.2.1 ∈ xTb := ⟨⟨by decide, by decide⟩, (xTb_mem 802 (by decide +kernel) rfl)⟩
theorem xfo_8_51 : (8 < 9 ∧ 18 < xFn 8) ∧ Cond.fieldLink (xR 8) 51 (xF 8 18).1 (xF 8 18).2.1 (xF 8 18).2.2.1 ∈ xTb := ⟨⟨by decide, by decide⟩, (xTb_mem 803 (by decide +kernel) rfl)⟩
theorem xfo_8_55 : (8 < 9 ∧ 22 < xFn 8) ∧ Cond.fieldLink (xR 8) 55 (xF 8 22).1 (xF 8 22).2.1 (xF 8 22).2.2.1 ∈ xTb := ⟨⟨by decide, by decide⟩, (xTb_mem 807 (by decide +kernel) rfl)⟩
theorem xfo_8_58 : (8 < 9 ∧ 23 < xFn 8) ∧ Cond.fieldLink (xR 8) 58 (xF 8 23).1 (xF 8 23).2.1 (xF 8 23).2.2.1 ∈ xTb := ⟨⟨by decide, by decide⟩, (xTb_mem 808 (by decide +kernel) rfl)⟩
theorem xfo_8_61 : (8 < 9 ∧ 37 < xFn 8) ∧ Cond.fieldLink (xR 8) 61 (xF 8 37).1 (xF 8 37).2.1 (xF 8 37).2.2.1 ∈ xTb := ⟨⟨by decide, by decide⟩, (xTb_mem 822 (by decide +kernel) rfl)⟩
theorem xfo_8_64 : (8 < 9 ∧ 38 < xFn 8) ∧ Cond.fieldLink (xR 8) 64 (xF 8 38).1 (xF 8 38).2.1 (xF 8 38).2.2.1 ∈ xTb := ⟨⟨by decide, by decide⟩, (xTb_mem 823 (by decide +kernel) rfl)⟩
theorem xfo_8_67 : (8 < 9 ∧ 39 < xFn 8) ∧ Cond.fieldLink (xR 8) 67 (xF 8 39).1 (xF 8 39).2.1 (xF 8 39).2.2.1 ∈ xTb := ⟨⟨by decide, by decide⟩, (xTb_mem 824 (by decide +kernel) rfl)⟩
theorem xfo_8_70 : (8 < 9 ∧ 40 < xFn 8) ∧ Cond.fieldLink (xR 8) 70 (xF 8 40).1 (xF 8 40).2.1 (xF 8 40).2.2.1 ∈ xTb := ⟨⟨by decide, by decide⟩, (xTb_mem 825 (by decide +kernel) rfl)⟩
theorem xfo_8_91 : (8 < 9 ∧ 1 < xFn 8) ∧ Cond.fieldLink (xR 8) 91 (xF 8 1).1 (xF 8 1).2.1 (xF 8 1).2.2.1 ∈ xTb := ⟨⟨by decide, by decide⟩, (xTb_mem 786 (by decide +kernel) rfl)⟩
theorem xfo_8_139 : (8 < 9 ∧ 5 < xFn 8) ∧ Cond.fieldLink (xR 8) 139 (xF 8 5).1 (xF 8 5).2.1 (xF 8 5).2.2.1 ∈ xTb := ⟨⟨by decide, by decide⟩, (xTb_mem 790 (by decide +kernel) rfl)⟩
theorem xfo_8_142 : (8 < 9 ∧ 9 < xFn 8) ∧ Cond.fieldLink (xR 8) 142 (xF 8 9).1 (xF 8 9).2.1 (xF 8 9).2.2.1 ∈ xTb := ⟨⟨by decide, by decide⟩, (xTb_mem 794 (by decide +kernel) rfl)⟩
theorem xfo_8_156 : (8 < 9 ∧ 14 < xFn 8) ∧ Cond.fieldLink (xR 8) 156 (xF 8 14).1 (xF 8 14).2.1 (xF 8 14).2.2.1 ∈ xTb := ⟨⟨by decide, by decide⟩, (xTb_mem 799 (by decide +kernel) rfl)⟩
theorem xfo_8_166 : (8 < 9 ∧ 10 < xFn 8) ∧ Cond.fieldLink (xR 8) 166 (xF 8 10).1 (xF 8 10).2.1 (xF 8 10).2.2.1 ∈ xTb := ⟨⟨by decide, by decide⟩, (xTb_mem 795 (by decide +kernel) rfl)⟩
theorem xfo_8_178 : (8 < 9 ∧ 19 < xFn 8) ∧ Cond.fieldLink (xR 8) 178 (xF 8 19).1 (xF 8 19).2.1 (xF 8 19).2.2.1 ∈ xTb := ⟨⟨by decide, by decide⟩, (xTb_mem 804 (by decide +kernel) rfl)⟩
theorem xfo_8_204 : (8 < 9 ∧ 20 < xFn 8) ∧ Cond.fieldLink (xR 8) 204 (xF 8 20).1 (xF 8 20).2.1 (xF 8 20).2.2.1 ∈ xTb := ⟨⟨by decide, by decide⟩, (xTb_mem 805 (by decide +kernel) rfl)⟩
theorem xfo_8_208 : (8 < 9 ∧ 21 < xFn 8) ∧ Cond.fieldLink (xR 8) 208 (xF 8 21).1 (xF 8 21).2.1 (xF 8 21).2.2.1 ∈ xTb := ⟨⟨by decide, by decide⟩, (xTb_mem 806 (by decide +kernel) rfl)⟩
theorem xfo_8_214 : (8 < 9 ∧ 24 < xFn 8) ∧ Cond.fieldLink (xR 8) 214 (xF 8 24).1 (xF 8 24).2.1 (xF 8 24).2.2.1 ∈ xTb := ⟨⟨by decide, by decide⟩, (xTb_mem 809 (by decide +kernel) rfl)⟩
theorem xfo_8_217 : (8 < 9 ∧ 25 < xFn 8) ∧ Cond.fieldLink (xR 8) 217 (xF 8 25).1 (xF 8 25).2.1 (xF 8 25).2.2.1 ∈ xTb := ⟨⟨by decide, by decide⟩, (xTb_mem 810 (by decide +kernel) rfl)⟩
theorem xfo_8_229 : (8 < 9 ∧ 26 < xFn 8) ∧ Cond.fieldLink (xR 8) 229 (xF 8 26).1 (xF 8 26).2.1 (xF 8 26).2.2.1 ∈ xTb := ⟨⟨by decide, by decide⟩, (xTb_mem 811 (by decide +kernel) rfl)⟩
theorem xfo_8_232 : (8 < 9 ∧ 27 < xFn 8) ∧ Cond.fieldLink (xR 8) 232 (xF 8 27).1 (xF 8 27).2.1 (xF 8 27).2.2.1 ∈ xTb := ⟨⟨by decide, by decide⟩, (xTb_mem 812 (by decide +kernel) rfl)⟩
theorem xfo_8_245 : (8 < 9 ∧ 28 < xFn 8) ∧ Cond.fieldLink (xR 8) 245 (xF 8 28).1 (xF 8 28).2.1 (xF 8 28).2.2.1 ∈ xTb := ⟨⟨by decide, by decide⟩, (xTb_mem 813 (by decide +kernel) rfl)⟩
theorem xfo_8_248 : (8 < 9 ∧ 29 < xFn 8) ∧ Cond.fieldLink (xR 8) 248 (xF 8 29).1 (xF 8 29).2.1 (xF 8 29).2.2.1 ∈ xTb := ⟨⟨by decide, by decide⟩, (xTb_mem 814 (by decide +kernel) rfl)⟩
theorem xfo_8_251 : (8 < 9 ∧ 30 < xFn 8) ∧ Cond.fieldLink (xR 8) 251 (xF 8 30).1 (xF 8 30).2.1 (xF 8 30).2.2.1 ∈ xTb := ⟨⟨by decide, by decide⟩, (xTb_mem 815 (by decide +kernel) rfl)⟩
theorem xfo_8_277 : (8 < 9 ∧ 36 < xFn 8) ∧ Cond.fieldLink (xR 8) 277 (xF 8 36).1 (xF 8 36).2.1 (xF 8 36).2.2.1 ∈ xTb := ⟨⟨by decide, by decide⟩, (xTb_mem 821 (by decide +kernel) rfl)⟩
theorem xfo_8_280 : (8 < 9 ∧ 31 < xFn 8) ∧ Cond.fieldLink (xR 8) 280 (xF 8 31).1 (xF 8 31).2.1 (xF 8 31).2.2.1 ∈ xTb := ⟨⟨by decide, by decide⟩, (xTb_mem 816 (by decide +kernel) rfl)⟩
theorem xfo_8_283 : (8 < 9 ∧ 34 < xFn 8) ∧ Cond.fieldLink (xR 8) 283 (xF 8 34).1 (xF 8 34).2.1 (xF 8 34).2.2.1 ∈ xTb := ⟨⟨by decide, by decide⟩, (xTb_mem 819 (by decide +kernel) rfl)⟩
theorem xfo_8_286 : (8 < 9 ∧ 35 < xFn 8) ∧ Cond.fieldLink (xR 8) 286 (xF 8 35).1 (xF 8 35).2.1 (xF 8 35).2.2.1 ∈ xTb := ⟨⟨by decide, by decide⟩, (xTb_mem 820 (by decide +kernel) rfl)⟩
theorem xfo_8_295 : (8 < 9 ∧ 32 < xFn 8) ∧ Cond.fieldLink (xR 8) 295 (xF 8 32).1 (xF 8 32).2.1 (xF 8 32).2.2.1 ∈ xTb := ⟨⟨by decide, by decide⟩, (xTb_mem 817 (by decide +kernel) rfl)⟩
theorem xfo_8_302 : (8 < 9 ∧ 33 < xFn 8) ∧ Cond.fieldLink (xR 8) 302 (xF 8 33).1 (xF 8 33).2.1 (xF 8 33).2.2.1 ∈ xTb := ⟨⟨by decide, by decide⟩, (xTb_mem 818 (by decide +kernel) rfl)⟩
theorem xfo_8 : ∀ q ∈ xfldT 8, (q.2.1 < 9 ∧ q.2.2 < xFn q.2.1) ∧ Cond.fieldLink (xR 8) q.1 (xF q.2.1 q.2.2).1 (xF q.2.1 q.2.2).2.1 (xF q.2.1 q.2.2).2.2.1 ∈ xTb := List.forall_mem_cons.mpr ⟨xfo_8_7, List.forall_mem_cons.mpr ⟨xfo_8_13, List.forall_mem_cons.mpr ⟨xfo_8_16, List.forall_mem_cons.mpr ⟨xfo_8_20, List.forall_mem_cons.mpr ⟨xfo_8_23, List.forall_mem_cons.mpr ⟨xfo_8_26, List.forall_mem_cons.mpr ⟨xfo_8_29, List.forall_mem_cons.mpr ⟨xfo_8_33, List.forall_mem_cons.mpr ⟨xfo_8_36, List.forall_mem_cons.mpr ⟨xfo_8_39, List.forall_mem_cons.mpr ⟨xfo_8_42, List.forall_mem_cons.mpr ⟨xfo_8_45, List.forall_mem_cons.mpr ⟨xfo_8_48, List.forall_mem_cons.mpr ⟨xfo_8_51, List.forall_mem_cons.mpr ⟨xfo_8_55, List.forall_mem_cons.mpr ⟨xfo_8_58, List.forall_mem_cons.mpr ⟨xfo_8_61, List.forall_mem_cons.mpr ⟨xfo_8_64, List.forall_mem_cons.mpr ⟨xfo_8_67, List.forall_mem_cons.mpr ⟨xfo_8_70, List.forall_mem_cons.mpr ⟨xfo_8_91, List.forall_mem_cons.mpr ⟨xfo_8_139, List.forall_mem_cons.mpr ⟨xfo_8_142, List.forall_mem_cons.mpr ⟨xfo_8_156, List.forall_mem_cons.mpr ⟨xfo_8_166, List.forall_mem_cons.mpr ⟨xfo_8_178, List.forall_mem_cons.mpr ⟨xfo_8_204, List.forall_mem_cons.mpr ⟨xfo_8_208, List.forall_mem_cons.mpr ⟨xfo_8_214, List.forall_mem_cons.mpr ⟨xfo_8_217, List.forall_mem_cons.mpr ⟨xfo_8_229, List.forall_mem_cons.mpr ⟨xfo_8_232, List.forall_mem_cons.mpr ⟨xfo_8_245, List.forall_mem_cons.mpr ⟨xfo_8_248, List.forall_mem_cons.mpr ⟨xfo_8_251, List.forall_mem_cons.mpr ⟨xfo_8_277, List.forall_mem_cons.mpr ⟨xfo_8_280, List.forall_mem_cons.mpr ⟨xfo_8_283, List.forall_mem_cons.mpr ⟨xfo_8_286, List.forall_mem_cons.mpr ⟨xfo_8_295, List.forall_mem_cons.mpr ⟨xfo_8_302, fun _ h => absurd h List.not_mem_nil⟩⟩⟩⟩⟩⟩⟩⟩⟩⟩⟩⟩⟩⟩⟩⟩⟩⟩⟩⟩⟩⟩⟩⟩⟩⟩⟩⟩⟩⟩⟩⟩⟩⟩⟩⟩⟩⟩⟩⟩⟩
theorem xfo_ok : ∀ own, ∀ q ∈ xfldT own, (q.2.1 < 9 ∧ q.2.2 < xFn q.2.1) ∧ Cond.fieldLink (xR own) q.1 (xF q.2.1 q.2.2).1 (xF q.2.1 q.2.2).2.1 (xF q.2.1 q.2.2).2.2.1 ∈ xTb := fun own => match own with
  | 0 => xfo_0
  | 1 => xfo_1
  | 2 => xfo_2
  | 3 => xfo_3
  | 4 => xfo_4
  | 5 => xfo_5
  | 6 => xfo_6
  | 7 => xfo_7
  | 8 => xfo_8
  | _ + 9 => fun _ h => absurd h List.not_mem_nil
theorem xco_4_53 : Cond.constant (xR 4) 53 (Int32.ofInt 1103515245) ∈ xTb := (xTb_mem 678 (by decide +kernel) rfl)
theorem xco_4_54 : Cond.constant (xR 4) 54 (Int32.ofInt 2147483647) ∈ xTb := (xTb_mem 679 (by decide +kernel) rfl)
theorem xco_4_55 : Cond.constant (xR 4) 55 (Int32.ofInt 65536) ∈ xTb := (xTb_mem 680 (by decide +kernel) rfl)
theorem xco_4 : ∀ q ∈ xconT 4, Cond.constant (xR 4) q.1 (Int32.ofInt q.2) ∈ xTb := List.forall_mem_cons.mpr ⟨xco_4_53, List.forall_mem_cons.mpr ⟨xco_4_54, List.forall_mem_cons.mpr ⟨xco_4_55, fun _ h => absurd h List.not_mem_nil⟩⟩⟩
theorem xco_8_334 : Cond.constant (xR 8) 334 (Int32.ofInt 1103515245) ∈ xTb := (xTb_mem 1174 (by decide +kernel) rfl)
theorem xco_8_335 : Cond.constant (xR 8) 335 (Int32.ofInt 2147483647) ∈ xTb := (xTb_mem 1175 (by decide +kernel) rfl)
theorem xco_8_336 : Cond.constant (xR 8) 336 (Int32.ofInt 65536) ∈ xTb := (xTb_mem 1176 (by decide +kernel) rfl)
theorem xco_8 : ∀ q ∈ xconT 8, Cond.constant (xR 8) q.1 (Int32.ofInt q.2) ∈ xTb := List.forall_mem_cons.mpr ⟨xco_8_334, List.forall_mem_cons.mpr ⟨xco_8_335, List.forall_mem_cons.mpr ⟨xco_8_336, fun _ h => absurd h List.not_mem_nil⟩⟩⟩
theorem xco_10_265 : Cond.constant (xR 10) 265 (Int32.ofInt 1431655765) ∈ xTb := (xTb_mem 296 (by decide +kernel) rfl)
theorem xco_10_266 : Cond.constant (xR 10) 266 (Int32.ofInt 858993459) ∈ xTb := (xTb_mem 297 (by decide +kernel) rfl)
theorem xco_10_267 : Cond.constant (xR 10) 267 (Int32.ofInt 252645135) ∈ xTb := (xTb_mem 298 (by decide +kernel) rfl)
theorem xco_10 : ∀ q ∈ xconT 10, Cond.constant (xR 10) q.1 (Int32.ofInt q.2) ∈ xTb := List.forall_mem_cons.mpr ⟨xco_10_265, List.forall_mem_cons.mpr ⟨xco_10_266, List.forall_mem_cons.mpr ⟨xco_10_267, fun _ h => absurd h List.not_mem_nil⟩⟩⟩
theorem xco_ok : ∀ own, ∀ q ∈ xconT own, Cond.constant (xR own) q.1 (Int32.ofInt q.2) ∈ xTb := fun own => match own with
  | 0 => fun _ h => absurd h List.not_mem_nil
  | 1 => fun _ h => absurd h List.not_mem_nil
  | 2 => fun _ h => absurd h List.not_mem_nil
  | 3 => fun _ h => absurd h List.not_mem_nil
  | 4 => xco_4
  | 5 => fun _ h => absurd h List.not_mem_nil
  | 6 => fun _ h => absurd h List.not_mem_nil
  | 7 => fun _ h => absurd h List.not_mem_nil
  | 8 => xco_8
  | 9 => fun _ h => absurd h List.not_mem_nil
  | 10 => xco_10
  | _ + 11 => fun _ h => absurd h List.not_mem_nil
theorem xcl_1_45 : Cond.constantLong (xR 1) 45 (Int64.ofInt 479001600) ∈ xTb := (xTb_mem 475 (by decide +kernel) rfl)
theorem xcl_1 : ∀ q ∈ xconLT 1, Cond.constantLong (xR 1) q.1 (Int64.ofInt q.2) ∈ xTb := List.forall_mem_cons.mpr ⟨xcl_1_45, fun _ h => absurd h List.not_mem_nil⟩
theorem xcl_5_34 : Cond.constantLong (xR 5) 34 (Int64.ofInt (-6)) ∈ xTb := (xTb_mem 733 (by decide +kernel) rfl)
theorem xcl_5_36 : Cond.constantLong (xR 5) 36 (Int64.ofInt 6) ∈ xTb := (xTb_mem 734 (by decide +kernel) rfl)
theorem xcl_5_38 : Cond.constantLong (xR 5) 38 (Int64.ofInt (-99)) ∈ xTb := (xTb_mem 735 (by decide +kernel) rfl)
theorem xcl_5_40 : Cond.constantLong (xR 5) 40 (Int64.ofInt 99) ∈ xTb := (xTb_mem 736 (by decide +kernel) rfl)
theorem xcl_5 : ∀ q ∈ xconLT 5, Cond.constantLong (xR 5) q.1 (Int64.ofInt q.2) ∈ xTb := List.forall_mem_cons.mpr ⟨xcl_5_34, List.forall_mem_cons.mpr ⟨xcl_5_36, List.forall_mem_cons.mpr ⟨xcl_5_38, List.forall_mem_cons.mpr ⟨xcl_5_40, fun _ h => absurd h List.not_mem_nil⟩⟩⟩⟩
theorem xcl_7_175 : Cond.constantLong (xR 7) 175 (Int64.ofInt (-1)) ∈ xTb := (xTb_mem 456 (by decide +kernel) rfl)
theorem xcl_7_177 : Cond.constantLong (xR 7) 177 (Int64.ofInt (-4)) ∈ xTb := (xTb_mem 457 (by decide +kernel) rfl)
theorem xcl_7_255 : Cond.constantLong (xR 7) 255 (Int64.ofInt (-2)) ∈ xTb := (xTb_mem 629 (by decide +kernel) rfl)
theorem xcl_7_346 : Cond.constantLong (xR 7) 346 (Int64.ofInt 2) ∈ xTb := (xTb_mem 608 (by decide +kernel) rfl)
theorem xcl_7 : ∀ q ∈ xconLT 7, Cond.constantLong (xR 7) q.1 (Int64.ofInt q.2) ∈ xTb := List.forall_mem_cons.mpr ⟨xcl_7_175, List.forall_mem_cons.mpr ⟨xcl_7_177, List.forall_mem_cons.mpr ⟨xcl_7_255, List.forall_mem_cons.mpr ⟨xcl_7_346, fun _ h => absurd h List.not_mem_nil⟩⟩⟩⟩
theorem xcl_8_73 : Cond.constantLong (xR 8) 73 (Int64.ofInt (-6)) ∈ xTb := (xTb_mem 916 (by decide +kernel) rfl)
theorem xcl_8_75 : Cond.constantLong (xR 8) 75 (Int64.ofInt 6) ∈ xTb := (xTb_mem 917 (by decide +kernel) rfl)
theorem xcl_8_98 : Cond.constantLong (xR 8) 98 (Int64.ofInt (-99)) ∈ xTb := (xTb_mem 921 (by decide +kernel) rfl)
theorem xcl_8_100 : Cond.constantLong (xR 8) 100 (Int64.ofInt 99) ∈ xTb := (xTb_mem 922 (by decide +kernel) rfl)
theorem xcl_8_112 : Cond.constantLong (xR 8) 112 (Int64.ofInt 3) ∈ xTb := (xTb_mem 955 (by decide +kernel) rfl)
theorem xcl_8_114 : Cond.constantLong (xR 8) 114 (Int64.ofInt 2) ∈ xTb := (xTb_mem 960 (by decide +kernel) rfl)
theorem xcl_8_116 : Cond.constantLong (xR 8) 116 (Int64.ofInt (-3)) ∈ xTb := (xTb_mem 961 (by decide +kernel) rfl)
theorem xcl_8_135 : Cond.constantLong (xR 8) 135 (Int64.ofInt 32) ∈ xTb := (xTb_mem 998 (by decide +kernel) rfl)
theorem xcl_8_137 : Cond.constantLong (xR 8) 137 (Int64.ofInt 126) ∈ xTb := (xTb_mem 999 (by decide +kernel) rfl)
theorem xcl_8_148 : Cond.constantLong (xR 8) 148 (Int64.ofInt 48) ∈ xTb := (xTb_mem 1012 (by decide +kernel) rfl)
theorem xcl_8_150 : Cond.constantLong (xR 8) 150 (Int64.ofInt 57) ∈ xTb := (xTb_mem 1025 (by decide +kernel) rfl)
theorem xcl_8_169 : Cond.constantLong (xR 8) 169 (Int64.ofInt 51) ∈ xTb := (xTb_mem 1013 (by decide +kernel) rfl)
theorem xcl_8_223 : Cond.constantLong (xR 8) 223 (Int64.ofInt (-1)) ∈ xTb := (xTb_mem 1035 (by decide +kernel) rfl)
theorem xcl_8_309 : Cond.constantLong (xR 8) 309 (Int64.ofInt 7) ∈ xTb := (xTb_mem 1034 (by decide +kernel) rfl)
theorem xcl_8_311 : Cond.constantLong (xR 8) 311 (Int64.ofInt (-4)) ∈ xTb := (xTb_mem 1036 (by decide +kernel) rfl)
theorem xcl_8_324 : Cond.constantLong (xR 8) 324 (Int64.ofInt 4) ∈ xTb := (xTb_mem 1157 (by decide +kernel) rfl)
theorem xcl_8_326 : Cond.constantLong (xR 8) 326 (Int64.ofInt 8191) ∈ xTb := (xTb_mem 1162 (by decide +kernel) rfl)
theorem xcl_8_328 : Cond.constantLong (xR 8) 328 (Int64.ofInt (-2)) ∈ xTb := (xTb_mem 1163 (by decide +kernel) rfl)
theorem xcl_8_330 : Cond.constantLong (xR 8) 330 (Int64.ofInt 10) ∈ xTb := (xTb_mem 1168 (by decide +kernel) rfl)
theorem xcl_8_332 : Cond.constantLong (xR 8) 332 (Int64.ofInt 40) ∈ xTb := (xTb_mem 1173 (by decide +kernel) rfl)
theorem xcl_8_340 : Cond.constantLong (xR 8) 340 (Int64.ofInt 8) ∈ xTb := (xTb_mem 1200 (by decide +kernel) rfl)
theorem xcl_8 : ∀ q ∈ xconLT 8, Cond.constantLong (xR 8) q.1 (Int64.ofInt q.2) ∈ xTb := List.forall_mem_cons.mpr ⟨xcl_8_73, List.forall_mem_cons.mpr ⟨xcl_8_75, List.forall_mem_cons.mpr ⟨xcl_8_98, List.forall_mem_cons.mpr ⟨xcl_8_100, List.forall_mem_cons.mpr ⟨xcl_8_112, List.forall_mem_cons.mpr ⟨xcl_8_114, List.forall_mem_cons.mpr ⟨xcl_8_116, List.forall_mem_cons.mpr ⟨xcl_8_135, List.forall_mem_cons.mpr ⟨xcl_8_137, List.forall_mem_cons.mpr ⟨xcl_8_148, List.forall_mem_cons.mpr ⟨xcl_8_150, List.forall_mem_cons.mpr ⟨xcl_8_169, List.forall_mem_cons.mpr ⟨xcl_8_223, List.forall_mem_cons.mpr ⟨xcl_8_309, List.forall_mem_cons.mpr ⟨xcl_8_311, List.forall_mem_cons.mpr ⟨xcl_8_324, List.forall_mem_cons.mpr ⟨xcl_8_326, List.forall_mem_cons.mpr ⟨xcl_8_328, List.forall_mem_cons.mpr ⟨xcl_8_330, List.forall_mem_cons.mpr ⟨xcl_8_332, List.forall_mem_cons.mpr ⟨xcl_8_340, fun _ h => absurd h List.not_mem_nil⟩⟩⟩⟩⟩⟩⟩⟩⟩⟩⟩⟩⟩⟩⟩⟩⟩⟩⟩⟩⟩
theorem xcl_9_120 : Cond.constantLong (xR 9) 120 (Int64.ofInt 4294967295) ∈ xTb := (xTb_mem 1232 (by decide +kernel) rfl)
theorem xcl_9 : ∀ q ∈ xconLT 9, Cond.constantLong (xR 9) q.1 (Int64.ofInt q.2) ∈ xTb := List.forall_mem_cons.mpr ⟨xcl_9_120, fun _ h => absurd h List.not_mem_nil⟩
theorem xcl_ok : ∀ own, ∀ q ∈ xconLT own, Cond.constantLong (xR own) q.1 (Int64.ofInt q.2) ∈ xTb := fun own => match own with
  | 0 => fun _ h => absurd h List.not_mem_nil
  | 1 => xcl_1
  | 2 => fun _ h => absurd h List.not_mem_nil
  | 3 => fun _ h => absurd h List.not_mem_nil
  | 4 => fun _ h => absurd h List.not_mem_nil
  | 5 => xcl_5
  | 6 => fun _ h => absurd h List.not_mem_nil
  | 7 => xcl_7
  | 8 => xcl_8
  | 9 => xcl_9
  | _ + 10 => fun _ h => absurd h List.not_mem_nil
theorem xcc_0_9 : 1 < 9 ∧ Cond.classLink (xR 0) 9 (xR 1) ∈ xTb := ⟨by decide, (xTb_mem 107 (by decide +kernel) rfl)⟩
theorem xcc_0 : ∀ q ∈ xclsT 0, q.2 < 9 ∧ Cond.classLink (xR 0) q.1 (xR q.2) ∈ xTb := List.forall_mem_cons.mpr ⟨xcc_0_9, fun _ h => absurd h List.not_mem_nil⟩
theorem xcc_3_9 : 4 < 9 ∧ Cond.classLink (xR 3) 9 (xR 4) ∈ xTb := ⟨by decide, (xTb_mem 63 (by decide +kernel) rfl)⟩
theorem xcc_3 : ∀ q ∈ xclsT 3, q.2 < 9 ∧ Cond.classLink (xR 3) q.1 (xR q.2) ∈ xTb := List.forall_mem_cons.mpr ⟨xcc_3_9, fun _ h => absurd h List.not_mem_nil⟩
theorem xcc_7_9 : 4 < 9 ∧ Cond.classLink (xR 7) 9 (xR 4) ∈ xTb := ⟨by decide, (xTb_mem 22 (by decide +kernel) rfl)⟩
theorem xcc_7_16 : 3 < 9 ∧ Cond.classLink (xR 7) 16 (xR 3) ∈ xTb := ⟨by decide, (xTb_mem 57 (by decide +kernel) rfl)⟩
theorem xcc_7_33 : 6 < 9 ∧ Cond.classLink (xR 7) 33 (xR 6) ∈ xTb := ⟨by decide, (xTb_mem 74 (by decide +kernel) rfl)⟩
theorem xcc_7_43 : 0 < 9 ∧ Cond.classLink (xR 7) 43 (xR 0) ∈ xTb := ⟨by decide, (xTb_mem 101 (by decide +kernel) rfl)⟩
theorem xcc_7_50 : 1 < 9 ∧ Cond.classLink (xR 7) 50 (xR 1) ∈ xTb := ⟨by decide, (xTb_mem 191 (by decide +kernel) rfl)⟩
theorem xcc_7_57 : 2 < 9 ∧ Cond.classLink (xR 7) 57 (xR 2) ∈ xTb := ⟨by decide, (xTb_mem 193 (by decide +kernel) rfl)⟩
theorem xcc_7_64 : 5 < 9 ∧ Cond.classLink (xR 7) 64 (xR 5) ∈ xTb := ⟨by decide, (xTb_mem 213 (by decide +kernel) rfl)⟩
theorem xcc_7 : ∀ q ∈ xclsT 7, q.2 < 9 ∧ Cond.classLink (xR 7) q.1 (xR q.2) ∈ xTb := List.forall_mem_cons.mpr ⟨xcc_7_9, List.forall_mem_cons.mpr ⟨xcc_7_16, List.forall_mem_cons.mpr ⟨xcc_7_33, List.forall_mem_cons.mpr ⟨xcc_7_43, List.forall_mem_cons.mpr ⟨xcc_7_50, List.forall_mem_cons.mpr ⟨xcc_7_57, List.forall_mem_cons.mpr ⟨xcc_7_64, fun _ h => absurd h List.not_mem_nil⟩⟩⟩⟩⟩⟩⟩
theorem xcc_ok : ∀ own, ∀ q ∈ xclsT own, q.2 < 9 ∧ Cond.classLink (xR own) q.1 (xR q.2) ∈ xTb := fun own => match own with
  | 0 => xcc_0
  | 1 => fun _ h => absurd h List.not_mem_nil
  | 2 => fun _ h => absurd h List.not_mem_nil
  | 3 => xcc_3
  | 4 => fun _ h => absurd h List.not_mem_nil
  | 5 => fun _ h => absurd h List.not_mem_nil
  | 6 => fun _ h => absurd h List.not_mem_nil
  | 7 => xcc_7
  | _ + 8 => fun _ h => absurd h List.not_mem_nil
theorem xnames : ∀ ci, ci < 9 → ∀ a, a < xFn ci → ∀ b, b < xFn ci → a ≠ b → (xF ci a).2.1 ≠ (xF ci b).2.1 := by decide +kernel
theorem xparse : ∀ ci, ci < 9 → ∀ k, k < xFn ci → parseFieldDescriptor (xF ci k).2.2.1 = some (xFt ci k) := by decide +kernel
theorem xdecl : ∀ ci, ci < 9 → ∀ k, k < xFn ci → (xF ci k).1 = xR ci := by decide +kernel
theorem xcls_at : ∀ ci, ci < 9 → xClasses[ci]? = some (xR ci, xF ci, xFn ci) := by
  intro ci h
  rcases (show ci = 0 ∨ ci = 1 ∨ ci = 2 ∨ ci = 3 ∨ ci = 4 ∨ ci = 5 ∨ ci = 6 ∨ ci = 7 ∨ ci = 8 by omega) with rfl | rfl | rfl | rfl | rfl | rfl | rfl | rfl | rfl <;> rfl
theorem xla_0_0 : u_lay (xR 0) (xF 0) 0 ∈ xTb := xTb_mem 172 (by decide +kernel) rfl
theorem xla_0_1 : u_lay (xR 0) (xF 0) 1 ∈ xTb := xTb_mem 174 (by decide +kernel) rfl
theorem xla_0_2 : u_lay (xR 0) (xF 0) 2 ∈ xTb := xTb_mem 176 (by decide +kernel) rfl
theorem xla_0_3 : u_lay (xR 0) (xF 0) 3 ∈ xTb := xTb_mem 178 (by decide +kernel) rfl
theorem xla_0_4 : u_lay (xR 0) (xF 0) 4 ∈ xTb := xTb_mem 180 (by decide +kernel) rfl
theorem xla_0_5 : u_lay (xR 0) (xF 0) 5 ∈ xTb := xTb_mem 182 (by decide +kernel) rfl
theorem xla_0_6 : u_lay (xR 0) (xF 0) 6 ∈ xTb := xTb_mem 184 (by decide +kernel) rfl
theorem xla_0_7 : u_lay (xR 0) (xF 0) 7 ∈ xTb := xTb_mem 186 (by decide +kernel) rfl
theorem xla_0_8 : u_lay (xR 0) (xF 0) 8 ∈ xTb := xTb_mem 188 (by decide +kernel) rfl
theorem xwsA_0 : ∀ w ∈ u_ws (xR 0) (xF 0) (xFn 0), w ∈ xTb := List.forall_mem_cons.mpr ⟨xla_0_0, List.forall_mem_cons.mpr ⟨xla_0_1, List.forall_mem_cons.mpr ⟨xla_0_2, List.forall_mem_cons.mpr ⟨xla_0_3, List.forall_mem_cons.mpr ⟨xla_0_4, List.forall_mem_cons.mpr ⟨xla_0_5, List.forall_mem_cons.mpr ⟨xla_0_6, List.forall_mem_cons.mpr ⟨xla_0_7, List.forall_mem_cons.mpr ⟨xla_0_8, fun _ h => absurd h List.not_mem_nil⟩⟩⟩⟩⟩⟩⟩⟩⟩
theorem xin_0 : Cond.instantiable (xR 0) (xFn 0) ∈ xTb ∧ Cond.initialized (xR 0) ∈ xTb := ⟨(xTb_mem 102 (by decide +kernel) rfl), (xTb_mem 5 (by decide +kernel) rfl)⟩
theorem xla_1_0 : u_lay (xR 1) (xF 1) 0 ∈ xTb := xTb_mem 132 (by decide +kernel) rfl
theorem xla_1_1 : u_lay (xR 1) (xF 1) 1 ∈ xTb := xTb_mem 134 (by decide +kernel) rfl
theorem xla_1_2 : u_lay (xR 1) (xF 1) 2 ∈ xTb := xTb_mem 136 (by decide +kernel) rfl
theorem xla_1_3 : u_lay (xR 1) (xF 1) 3 ∈ xTb := xTb_mem 138 (by decide +kernel) rfl
theorem xla_1_4 : u_lay (xR 1) (xF 1) 4 ∈ xTb := xTb_mem 140 (by decide +kernel) rfl
theorem xla_1_5 : u_lay (xR 1) (xF 1) 5 ∈ xTb := xTb_mem 142 (by decide +kernel) rfl
theorem xla_1_6 : u_lay (xR 1) (xF 1) 6 ∈ xTb := xTb_mem 144 (by decide +kernel) rfl
theorem xla_1_7 : u_lay (xR 1) (xF 1) 7 ∈ xTb := xTb_mem 146 (by decide +kernel) rfl
theorem xla_1_8 : u_lay (xR 1) (xF 1) 8 ∈ xTb := xTb_mem 148 (by decide +kernel) rfl
theorem xla_1_9 : u_lay (xR 1) (xF 1) 9 ∈ xTb := xTb_mem 150 (by decide +kernel) rfl
theorem xwsA_1 : ∀ w ∈ u_ws (xR 1) (xF 1) (xFn 1), w ∈ xTb := List.forall_mem_cons.mpr ⟨xla_1_0, List.forall_mem_cons.mpr ⟨xla_1_1, List.forall_mem_cons.mpr ⟨xla_1_2, List.forall_mem_cons.mpr ⟨xla_1_3, List.forall_mem_cons.mpr ⟨xla_1_4, List.forall_mem_cons.mpr ⟨xla_1_5, List.forall_mem_cons.mpr ⟨xla_1_6, List.forall_mem_cons.mpr ⟨xla_1_7, List.forall_mem_cons.mpr ⟨xla_1_8, List.forall_mem_cons.mpr ⟨xla_1_9, fun _ h => absurd h List.not_mem_nil⟩⟩⟩⟩⟩⟩⟩⟩⟩⟩
theorem xin_1 : Cond.instantiable (xR 1) (xFn 1) ∈ xTb ∧ Cond.initialized (xR 1) ∈ xTb := ⟨(xTb_mem 108 (by decide +kernel) rfl), (xTb_mem 6 (by decide +kernel) rfl)⟩
theorem xla_2_0 : u_lay (xR 2) (xF 2) 0 ∈ xTb := xTb_mem 203 (by decide +kernel) rfl
theorem xla_2_1 : u_lay (xR 2) (xF 2) 1 ∈ xTb := xTb_mem 205 (by decide +kernel) rfl
theorem xla_2_2 : u_lay (xR 2) (xF 2) 2 ∈ xTb := xTb_mem 207 (by decide +kernel) rfl
theorem xla_2_3 : u_lay (xR 2) (xF 2) 3 ∈ xTb := xTb_mem 209 (by decide +kernel) rfl
theorem xwsA_2 : ∀ w ∈ u_ws (xR 2) (xF 2) (xFn 2), w ∈ xTb := List.forall_mem_cons.mpr ⟨xla_2_0, List.forall_mem_cons.mpr ⟨xla_2_1, List.forall_mem_cons.mpr ⟨xla_2_2, List.forall_mem_cons.mpr ⟨xla_2_3, fun _ h => absurd h List.not_mem_nil⟩⟩⟩⟩
theorem xin_2 : Cond.instantiable (xR 2) (xFn 2) ∈ xTb ∧ Cond.initialized (xR 2) ∈ xTb := ⟨(xTb_mem 194 (by decide +kernel) rfl), (xTb_mem 7 (by decide +kernel) rfl)⟩
theorem xla_3_0 : u_lay (xR 3) (xF 3) 0 ∈ xTb := xTb_mem 69 (by decide +kernel) rfl
theorem xla_3_1 : u_lay (xR 3) (xF 3) 1 ∈ xTb := xTb_mem 71 (by decide +kernel) rfl
theorem xwsA_3 : ∀ w ∈ u_ws (xR 3) (xF 3) (xFn 3), w ∈ xTb := List.forall_mem_cons.mpr ⟨xla_3_0, List.forall_mem_cons.mpr ⟨xla_3_1, fun _ h => absurd h List.not_mem_nil⟩⟩
theorem xin_3 : Cond.instantiable (xR 3) (xFn 3) ∈ xTb ∧ Cond.initialized (xR 3) ∈ xTb := ⟨(xTb_mem 58 (by decide +kernel) rfl), (xTb_mem 3 (by decide +kernel) rfl)⟩
theorem xla_4_0 : u_lay (xR 4) (xF 4) 0 ∈ xTb := xTb_mem 43 (by decide +kernel) rfl
theorem xla_4_1 : u_lay (xR 4) (xF 4) 1 ∈ xTb := xTb_mem 45 (by decide +kernel) rfl
theorem xla_4_2 : u_lay (xR 4) (xF 4) 2 ∈ xTb := xTb_mem 47 (by decide +kernel) rfl
theorem xla_4_3 : u_lay (xR 4) (xF 4) 3 ∈ xTb := xTb_mem 49 (by decide +kernel) rfl
theorem xla_4_4 : u_lay (xR 4) (xF 4) 4 ∈ xTb := xTb_mem 51 (by decide +kernel) rfl
theorem xla_4_5 : u_lay (xR 4) (xF 4) 5 ∈ xTb := xTb_mem 53 (by decide +kernel) rfl
theorem xwsA_4 : ∀ w ∈ u_ws (xR 4) (xF 4) (xFn 4), w ∈ xTb := List.forall_mem_cons.mpr ⟨xla_4_0, List.forall_mem_cons.mpr ⟨xla_4_1, List.forall_mem_cons.mpr ⟨xla_4_2, List.forall_mem_cons.mpr ⟨xla_4_3, List.forall_mem_cons.mpr ⟨xla_4_4, List.forall_mem_cons.mpr ⟨xla_4_5, fun _ h => absurd h List.not_mem_nil⟩⟩⟩⟩⟩⟩
theorem xin_4 : Cond.instantiable (xR 4) (xFn 4) ∈ xTb ∧ Cond.initialized (xR 4) ∈ xTb := ⟨(xTb_mem 23 (by decide +kernel) rfl), (xTb_mem 2 (by decide +kernel) rfl)⟩
theorem xla_5_0 : u_lay (xR 5) (xF 5) 0 ∈ xTb := xTb_mem 228 (by decide +kernel) rfl
theorem xla_5_1 : u_lay (xR 5) (xF 5) 1 ∈ xTb := xTb_mem 230 (by decide +kernel) rfl
theorem xla_5_2 : u_lay (xR 5) (xF 5) 2 ∈ xTb := xTb_mem 232 (by decide +kernel) rfl
theorem xla_5_3 : u_lay (xR 5) (xF 5) 3 ∈ xTb := xTb_mem 234 (by decide +kernel) rfl
theorem xwsA_5 : ∀ w ∈ u_ws (xR 5) (xF 5) (xFn 5), w ∈ xTb := List.forall_mem_cons.mpr ⟨xla_5_0, List.forall_mem_cons.mpr ⟨xla_5_1, List.forall_mem_cons.mpr ⟨xla_5_2, List.forall_mem_cons.mpr ⟨xla_5_3, fun _ h => absurd h List.not_mem_nil⟩⟩⟩⟩
theorem xin_5 : Cond.instantiable (xR 5) (xFn 5) ∈ xTb ∧ Cond.initialized (xR 5) ∈ xTb := ⟨(xTb_mem 215 (by decide +kernel) rfl), (xTb_mem 8 (by decide +kernel) rfl)⟩
theorem xla_6_0 : u_lay (xR 6) (xF 6) 0 ∈ xTb := xTb_mem 88 (by decide +kernel) rfl
theorem xla_6_1 : u_lay (xR 6) (xF 6) 1 ∈ xTb := xTb_mem 90 (by decide +kernel) rfl
theorem xla_6_2 : u_lay (xR 6) (xF 6) 2 ∈ xTb := xTb_mem 92 (by decide +kernel) rfl
theorem xla_6_3 : u_lay (xR 6) (xF 6) 3 ∈ xTb := xTb_mem 94 (by decide +kernel) rfl
theorem xla_6_4 : u_lay (xR 6) (xF 6) 4 ∈ xTb := xTb_mem 96 (by decide +kernel) rfl
theorem xla_6_5 : u_lay (xR 6) (xF 6) 5 ∈ xTb := xTb_mem 98 (by decide +kernel) rfl
theorem xwsA_6 : ∀ w ∈ u_ws (xR 6) (xF 6) (xFn 6), w ∈ xTb := List.forall_mem_cons.mpr ⟨xla_6_0, List.forall_mem_cons.mpr ⟨xla_6_1, List.forall_mem_cons.mpr ⟨xla_6_2, List.forall_mem_cons.mpr ⟨xla_6_3, List.forall_mem_cons.mpr ⟨xla_6_4, List.forall_mem_cons.mpr ⟨xla_6_5, fun _ h => absurd h List.not_mem_nil⟩⟩⟩⟩⟩⟩
theorem xin_6 : Cond.instantiable (xR 6) (xFn 6) ∈ xTb ∧ Cond.initialized (xR 6) ∈ xTb := ⟨(xTb_mem 75 (by decide +kernel) rfl), (xTb_mem 4 (by decide +kernel) rfl)⟩
theorem xla_7_0 : u_lay (xR 7) (xF 7) 0 ∈ xTb := xTb_mem 248 (by decide +kernel) rfl
theorem xla_7_1 : u_lay (xR 7) (xF 7) 1 ∈ xTb := xTb_mem 250 (by decide +kernel) rfl
theorem xla_7_2 : u_lay (xR 7) (xF 7) 2 ∈ xTb := xTb_mem 252 (by decide +kernel) rfl
theorem xla_7_3 : u_lay (xR 7) (xF 7) 3 ∈ xTb := xTb_mem 254 (by decide +kernel) rfl
theorem xla_7_4 : u_lay (xR 7) (xF 7) 4 ∈ xTb := xTb_mem 256 (by decide +kernel) rfl
theorem xla_7_5 : u_lay (xR 7) (xF 7) 5 ∈ xTb := xTb_mem 258 (by decide +kernel) rfl
theorem xla_7_6 : u_lay (xR 7) (xF 7) 6 ∈ xTb := xTb_mem 260 (by decide +kernel) rfl
theorem xla_7_7 : u_lay (xR 7) (xF 7) 7 ∈ xTb := xTb_mem 262 (by decide +kernel) rfl
theorem xla_7_8 : u_lay (xR 7) (xF 7) 8 ∈ xTb := xTb_mem 264 (by decide +kernel) rfl
theorem xla_7_9 : u_lay (xR 7) (xF 7) 9 ∈ xTb := xTb_mem 266 (by decide +kernel) rfl
theorem xla_7_10 : u_lay (xR 7) (xF 7) 10 ∈ xTb := xTb_mem 268 (by decide +kernel) rfl
theorem xwsA_7 : ∀ w ∈ u_ws (xR 7) (xF 7) (xFn 7), w ∈ xTb := List.forall_mem_cons.mpr ⟨xla_7_0, List.forall_mem_cons.mpr ⟨xla_7_1, List.forall_mem_cons.mpr ⟨xla_7_2, List.forall_mem_cons.mpr ⟨xla_7_3, List.forall_mem_cons.mpr ⟨xla_7_4, List.forall_mem_cons.mpr ⟨xla_7_5, List.forall_mem_cons.mpr ⟨xla_7_6, List.forall_mem_cons.mpr ⟨xla_7_7, List.forall_mem_cons.mpr ⟨xla_7_8, List.forall_mem_cons.mpr ⟨xla_7_9, List.forall_mem_cons.mpr ⟨xla_7_10, fun _ h => absurd h List.not_mem_nil⟩⟩⟩⟩⟩⟩⟩⟩⟩⟩⟩
theorem xin_7 : Cond.instantiable (xR 7) (xFn 7) ∈ xTb ∧ Cond.initialized (xR 7) ∈ xTb := ⟨(xTb_mem 15 (by decide +kernel) rfl), (xTb_mem 1 (by decide +kernel) rfl)⟩
theorem xla_8_0 : u_lay (xR 8) (xF 8) 0 ∈ xTb := xTb_mem 826 (by decide +kernel) rfl
theorem xla_8_1 : u_lay (xR 8) (xF 8) 1 ∈ xTb := xTb_mem 828 (by decide +kernel) rfl
theorem xla_8_2 : u_lay (xR 8) (xF 8) 2 ∈ xTb := xTb_mem 830 (by decide +kernel) rfl
theorem xla_8_3 : u_lay (xR 8) (xF 8) 3 ∈ xTb := xTb_mem 832 (by decide +kernel) rfl
theorem xla_8_4 : u_lay (xR 8) (xF 8) 4 ∈ xTb := xTb_mem 834 (by decide +kernel) rfl
theorem xla_8_5 : u_lay (xR 8) (xF 8) 5 ∈ xTb := xTb_mem 836 (by decide +kernel) rfl
theorem xla_8_6 : u_lay (xR 8) (xF 8) 6 ∈ xTb := xTb_mem 838 (by decide +kernel) rfl
theorem xla_8_7 : u_lay (xR 8) (xF 8) 7 ∈ xTb := xTb_mem 840 (by decide +kernel) rfl
theorem xla_8_8 : u_lay (xR 8) (xF 8) 8 ∈ xTb := xTb_mem 842 (by decide +kernel) rfl
theorem xla_8_9 : u_lay (xR 8) (xF 8) 9 ∈ xTb := xTb_mem 844 (by decide +kernel) rfl
theorem xla_8_10 : u_lay (xR 8) (xF 8) 10 ∈ xTb := xTb_mem 846 (by decide +kernel) rfl
theorem xla_8_11 : u_lay (xR 8) (xF 8) 11 ∈ xTb := xTb_mem 848 (by decide +kernel) rfl
theorem xla_8_12 : u_lay (xR 8) (xF 8) 12 ∈ xTb := xTb_mem 850 (by decide +kernel) rfl
theorem xla_8_13 : u_lay (xR 8) (xF 8) 13 ∈ xTb := xTb_mem 852 (by decide +kernel) rfl
theorem xla_8_14 : u_lay (xR 8) (xF 8) 14 ∈ xTb := xTb_mem 854 (by decide +kernel) rfl
theorem xla_8_15 : u_lay (xR 8) (xF 8) 15 ∈ xTb := xTb_mem 856 (by decide +kernel) rfl
theorem xla_8_16 : u_lay (xR 8) (xF 8) 16 ∈ xTb := xTb_mem 858 (by decide +kernel) rfl
theorem xla_8_17 : u_lay (xR 8) (xF 8) 17 ∈ xTb := xTb_mem 860 (by decide +kernel) rfl
theorem xla_8_18 : u_lay (xR 8) (xF 8) 18 ∈ xTb := xTb_mem 862 (by decide +kernel) rfl
theorem xla_8_19 : u_lay (xR 8) (xF 8) 19 ∈ xTb := xTb_mem 864 (by decide +kernel) rfl
theorem xla_8_20 : u_lay (xR 8) (xF 8) 20 ∈ xTb := xTb_mem 866 (by decide +kernel) rfl
theorem xla_8_21 : u_lay (xR 8) (xF 8) 21 ∈ xTb := xTb_mem 868 (by decide +kernel) rfl
theorem xla_8_22 : u_lay (xR 8) (xF 8) 22 ∈ xTb := xTb_mem 870 (by decide +kernel) rfl
theorem xla_8_23 : u_lay (xR 8) (xF 8) 23 ∈ xTb := xTb_mem 872 (by decide +kernel) rfl
theorem xla_8_24 : u_lay (xR 8) (xF 8) 24 ∈ xTb := xTb_mem 874 (by decide +kernel) rfl
theorem xla_8_25 : u_lay (xR 8) (xF 8) 25 ∈ xTb := xTb_mem 876 (by decide +kernel) rfl
theorem xla_8_26 : u_lay (xR 8) (xF 8) 26 ∈ xTb := xTb_mem 878 (by decide +kernel) rfl
theorem xla_8_27 : u_lay (xR 8) (xF 8) 27 ∈ xTb := xTb_mem 880 (by decide +kernel) rfl
theorem xla_8_28 : u_lay (xR 8) (xF 8) 28 ∈ xTb := xTb_mem 882 (by decide +kernel) rfl
theorem xla_8_29 : u_lay (xR 8) (xF 8) 29 ∈ xTb := xTb_mem 884 (by decide +kernel) rfl
theorem xla_8_30 : u_lay (xR 8) (xF 8) 30 ∈ xTb := xTb_mem 886 (by decide +kernel) rfl
theorem xla_8_31 : u_lay (xR 8) (xF 8) 31 ∈ xTb := xTb_mem 888 (by decide +kernel) rfl
theorem xla_8_32 : u_lay (xR 8) (xF 8) 32 ∈ xTb := xTb_mem 890 (by decide +kernel) rfl
theorem xla_8_33 : u_lay (xR 8) (xF 8) 33 ∈ xTb := xTb_mem 892 (by decide +kernel) rfl
theorem xla_8_34 : u_lay (xR 8) (xF 8) 34 ∈ xTb := xTb_mem 894 (by decide +kernel) rfl
theorem xla_8_35 : u_lay (xR 8) (xF 8) 35 ∈ xTb := xTb_mem 896 (by decide +kernel) rfl
theorem xla_8_36 : u_lay (xR 8) (xF 8) 36 ∈ xTb := xTb_mem 898 (by decide +kernel) rfl
theorem xla_8_37 : u_lay (xR 8) (xF 8) 37 ∈ xTb := xTb_mem 900 (by decide +kernel) rfl
theorem xla_8_38 : u_lay (xR 8) (xF 8) 38 ∈ xTb := xTb_mem 902 (by decide +kernel) rfl
theorem xla_8_39 : u_lay (xR 8) (xF 8) 39 ∈ xTb := xTb_mem 904 (by decide +kernel) rfl
theorem xla_8_40 : u_lay (xR 8) (xF 8) 40 ∈ xTb := xTb_mem 906 (by decide +kernel) rfl
theorem xwsA_8 : ∀ w ∈ u_ws (xR 8) (xF 8) (xFn 8), w ∈ xTb := List.forall_mem_cons.mpr ⟨xla_8_0, List.forall_mem_cons.mpr ⟨xla_8_1, List.forall_mem_cons.mpr ⟨xla_8_2, List.forall_mem_cons.mpr ⟨xla_8_3, List.forall_mem_cons.mpr ⟨xla_8_4, List.forall_mem_cons.mpr ⟨xla_8_5, List.forall_mem_cons.mpr ⟨xla_8_6, List.forall_mem_cons.mpr ⟨xla_8_7, List.forall_mem_cons.mpr ⟨xla_8_8, List.forall_mem_cons.mpr ⟨xla_8_9, List.forall_mem_cons.mpr ⟨xla_8_10, List.forall_mem_cons.mpr ⟨xla_8_11, List.forall_mem_cons.mpr ⟨xla_8_12, List.forall_mem_cons.mpr ⟨xla_8_13, List.forall_mem_cons.mpr ⟨xla_8_14, List.forall_mem_cons.mpr ⟨xla_8_15, List.forall_mem_cons.mpr ⟨xla_8_16, List.forall_mem_cons.mpr ⟨xla_8_17, List.forall_mem_cons.mpr ⟨xla_8_18, List.forall_mem_cons.mpr ⟨xla_8_19, List.forall_mem_cons.mpr ⟨xla_8_20, List.forall_mem_cons.mpr ⟨xla_8_21, List.forall_mem_cons.mpr ⟨xla_8_22, List.forall_mem_cons.mpr ⟨xla_8_23, List.forall_mem_cons.mpr ⟨xla_8_24, List.forall_mem_cons.mpr ⟨xla_8_25, List.forall_mem_cons.mpr ⟨xla_8_26, List.forall_mem_cons.mpr ⟨xla_8_27, List.forall_mem_cons.mpr ⟨xla_8_28, List.forall_mem_cons.mpr ⟨xla_8_29, List.forall_mem_cons.mpr ⟨xla_8_30, List.forall_mem_cons.mpr ⟨xla_8_31, List.forall_mem_cons.mpr ⟨xla_8_32, List.forall_mem_cons.mpr ⟨xla_8_33, List.forall_mem_cons.mpr ⟨xla_8_34, List.forall_mem_cons.mpr ⟨xla_8_35, List.forall_mem_cons.mpr ⟨xla_8_36, List.forall_mem_cons.mpr ⟨xla_8_37, List.forall_mem_cons.mpr ⟨xla_8_38, List.forall_mem_cons.mpr ⟨xla_8_39, List.forall_mem_cons.mpr ⟨xla_8_40, fun _ h => absurd h List.not_mem_nil⟩⟩⟩⟩⟩⟩⟩⟩⟩⟩⟩⟩⟩⟩⟩⟩⟩⟩⟩⟩⟩⟩⟩⟩⟩⟩⟩⟩⟩⟩⟩⟩⟩⟩⟩⟩⟩⟩⟩⟩⟩
theorem xin_8 : Cond.instantiable (xR 8) (xFn 8) ∈ xTb ∧ Cond.initialized (xR 8) ∈ xTb := ⟨(xTb_mem 780 (by decide +kernel) rfl), (xTb_mem 9 (by decide +kernel) rfl)⟩
theorem xws_ok : ∀ ci, ci < 9 → ∀ w ∈ u_ws (xR ci) (xF ci) (xFn ci), w ∈ xTb := by
  intro ci h
  rcases (show ci = 0 ∨ ci = 1 ∨ ci = 2 ∨ ci = 3 ∨ ci = 4 ∨ ci = 5 ∨ ci = 6 ∨ ci = 7 ∨ ci = 8 by omega) with rfl | rfl | rfl | rfl | rfl | rfl | rfl | rfl | rfl
  · exact xwsA_0
  · exact xwsA_1
  · exact xwsA_2
  · exact xwsA_3
  · exact xwsA_4
  · exact xwsA_5
  · exact xwsA_6
  · exact xwsA_7
  · exact xwsA_8
theorem xin_ok : ∀ ci, ci < 9 → Cond.instantiable (xR ci) (xFn ci) ∈ xTb ∧ Cond.initialized (xR ci) ∈ xTb := by
  intro ci h
  rcases (show ci = 0 ∨ ci = 1 ∨ ci = 2 ∨ ci = 3 ∨ ci = 4 ∨ ci = 5 ∨ ci = 6 ∨ ci = 7 ∨ ci = 8 by omega) with rfl | rfl | rfl | rfl | rfl | rfl | rfl | rfl | rfl
  · exact xin_0
  · exact xin_1
  · exact xin_2
  · exact xin_3
  · exact xin_4
  · exact xin_5
  · exact xin_6
  · exact xin_7
  · exact xin_8
theorem xac_int : Cond.arrayClass .int ∈ xTb := (xTb_mem 56 (by decide +kernel) rfl)
theorem xac_long : Cond.arrayClass .long ∈ xTb := (xTb_mem 153 (by decide +kernel) rfl)
theorem xac_boolean : Cond.arrayClass .boolean ∈ xTb := (xTb_mem 212 (by decide +kernel) rfl)
theorem xao_4 : Cond.arrayOver (.object (xR 4)) ∈ lw_tbl := List.mem_append_right _ (List.mem_of_getElem? (i := 64) (by decide +kernel))
theorem xao_5 : Cond.arrayOver (.object (xR 5)) ∈ lw_tbl := List.mem_append_right _ (List.mem_of_getElem? (i := 214) (by decide +kernel))
def xplain (c : Nat) : Prop := plainName (xR c) = true ∧ (xR c ≠ "java/lang/invoke/MethodHandle" ∧ xR c ≠ "java/lang/invoke/VarHandle") ∧ Cond.initialized (xR c) ∈ xTb
theorem xpl_0 : xplain 0 := ⟨by decide +kernel, ⟨by decide +kernel, by decide +kernel⟩, (xTb_mem 5 (by decide +kernel) rfl)⟩
theorem xpl_1 : xplain 1 := ⟨by decide +kernel, ⟨by decide +kernel, by decide +kernel⟩, (xTb_mem 6 (by decide +kernel) rfl)⟩
theorem xpl_2 : xplain 2 := ⟨by decide +kernel, ⟨by decide +kernel, by decide +kernel⟩, (xTb_mem 7 (by decide +kernel) rfl)⟩
theorem xpl_3 : xplain 3 := ⟨by decide +kernel, ⟨by decide +kernel, by decide +kernel⟩, (xTb_mem 3 (by decide +kernel) rfl)⟩
theorem xpl_4 : xplain 4 := ⟨by decide +kernel, ⟨by decide +kernel, by decide +kernel⟩, (xTb_mem 2 (by decide +kernel) rfl)⟩
theorem xpl_5 : xplain 5 := ⟨by decide +kernel, ⟨by decide +kernel, by decide +kernel⟩, (xTb_mem 8 (by decide +kernel) rfl)⟩
theorem xpl_6 : xplain 6 := ⟨by decide +kernel, ⟨by decide +kernel, by decide +kernel⟩, (xTb_mem 4 (by decide +kernel) rfl)⟩
theorem xpl_7 : xplain 7 := ⟨by decide +kernel, ⟨by decide +kernel, by decide +kernel⟩, (xTb_mem 1 (by decide +kernel) rfl)⟩
theorem xpl_8 : xplain 8 := ⟨by decide +kernel, ⟨by decide +kernel, by decide +kernel⟩, (xTb_mem 9 (by decide +kernel) rfl)⟩
theorem xpl_10 : xplain 10 := ⟨by decide +kernel, ⟨by decide +kernel, by decide +kernel⟩, (xTb_mem 10 (by decide +kernel) rfl)⟩
theorem xpl_11 : xplain 11 := ⟨by decide +kernel, ⟨by decide +kernel, by decide +kernel⟩, (xTb_mem 13 (by decide +kernel) rfl)⟩
def xmOK (j : Nat) (I : xI) (rt : Option FieldType) : Prop := (Cond.code (xY j) (xB j) I.2.2.1 rt ∈ xTb ∧ (xY j).cls = xR I.1 ∧ xplain I.1 ∧ (I.2.2.2.2.2.2.2 = true → (xY j).name = "<init>")) ∧ (∀ q ∈ I.2.1, xdec (xB j) q)
abbrev xIe (j : Nat) : xI := (xtab[j]?).getD (0, [], 0, 0, 0, 0, 0, false)
theorem xd_0 : ∀ q ∈ xI_X0_init, xdec prog_2_method_1_code q := by unfold xdec; decide +kernel
theorem xd_1 : ∀ q ∈ xI_X0_run, xdec prog_2_method_2_code q := by unfold xdec; decide +kernel
theorem xd_2 : ∀ q ∈ xI_X0_keepStep, xdec prog_2_method_3_code q := by unfold xdec; decide +kernel
theorem xd_3 : ∀ q ∈ xI_X0_firstOf, xdec prog_2_method_4_code q := by unfold xdec; decide +kernel
theorem xd_4 : ∀ q ∈ xI_X0_worstOf, xdec prog_2_method_5_code q := by unfold xdec; decide +kernel
theorem xd_5 : ∀ q ∈ xI_X0_leaving, xdec prog_2_method_6_code q := by unfold xdec; decide +kernel
theorem xd_6 : ∀ q ∈ xI_X0_lastSet, xdec prog_2_method_7_code q := by unfold xdec; decide +kernel
theorem xd_7 : ∀ q ∈ xI_X0_leastAbove, xdec prog_2_method_8_code q := by unfold xdec; decide +kernel
theorem xd_8 : ∀ q ∈ xI_X0_leastBelow, xdec prog_2_method_9_code q := by unfold xdec; decide +kernel
theorem xd_9 : ∀ q ∈ xI_X0_reached, xdec prog_2_method_10_code q := by unfold xdec; decide +kernel
theorem xd_10 : ∀ q ∈ xI_X0_reachedAbove, xdec prog_2_method_11_code q := by unfold xdec; decide +kernel
theorem xd_11 : ∀ q ∈ xI_X0_turns, xdec prog_2_method_12_code q := by unfold xdec; decide +kernel
theorem xd_12 : ∀ q ∈ xI_X1_init, xdec prog_3_method_1_code q := by unfold xdec; decide +kernel
theorem xd_13 : ∀ q ∈ xI_X1_gather, xdec prog_3_method_2_code q := by unfold xdec; decide +kernel
theorem xd_14 : ∀ q ∈ xI_X1_weigh, xdec prog_3_method_3_code q := by unfold xdec; decide +kernel
theorem xd_15 : ∀ q ∈ xI_X1_measure, xdec prog_3_method_4_code q := by unfold xdec; decide +kernel
theorem xd_16 : ∀ q ∈ xI_X1_goThrough, xdec prog_3_method_5_code q := by unfold xdec; decide +kernel
theorem xd_17 : ∀ q ∈ xI_X1_shape, xdec prog_3_method_6_code q := by unfold xdec; decide +kernel
theorem xd_18 : ∀ q ∈ xI_X1_addNode, xdec prog_3_method_7_code q := by unfold xdec; decide +kernel
theorem xd_19 : ∀ q ∈ xI_X1_multiplyOthers, xdec prog_3_method_8_code q := by unfold xdec; decide +kernel
theorem xd_20 : ∀ q ∈ xI_X1_shorten, xdec prog_3_method_9_code q := by unfold xdec; decide +kernel
theorem xd_21 : ∀ q ∈ xI_X1_leanOf, xdec prog_3_method_10_code q := by unfold xdec; decide +kernel
theorem xd_22 : ∀ q ∈ xI_X1_topAt, xdec prog_3_method_11_code q := by unfold xdec; decide +kernel
theorem xd_23 : ∀ q ∈ xI_X1_gapAt, xdec prog_3_method_12_code q := by unfold xdec; decide +kernel
theorem xd_24 : ∀ q ∈ xI_X1_leanAt, xdec prog_3_method_13_code q := by unfold xdec; decide +kernel
theorem xd_25 : ∀ q ∈ xI_X1_compareErrors, xdec prog_3_method_14_code q := by unfold xdec; decide +kernel
theorem xd_26 : ∀ q ∈ xI_X1_isStraight, xdec prog_3_method_15_code q := by unfold xdec; decide +kernel
theorem xd_27 : ∀ q ∈ xI_X2_init, xdec prog_4_method_1_code q := by unfold xdec; decide +kernel
theorem xd_28 : ∀ q ∈ xI_X2_mark, xdec prog_4_method_2_code q := by unfold xdec; decide +kernel
theorem xd_29 : ∀ q ∈ xI_X2_spreadSafety, xdec prog_4_method_3_code q := by unfold xdec; decide +kernel
theorem xd_30 : ∀ q ∈ xI_X2_gather, xdec prog_4_method_4_code q := by unfold xdec; decide +kernel
theorem xd_31 : ∀ q ∈ xI_X2_setOf, xdec prog_4_method_5_code q := by unfold xdec; decide +kernel
theorem xd_32 : ∀ q ∈ xI_X2_countWays, xdec prog_4_method_6_code q := by unfold xdec; decide +kernel
theorem xd_33 : ∀ q ∈ xI_X2_above, xdec prog_4_method_7_code q := by unfold xdec; decide +kernel
theorem xd_34 : ∀ q ∈ xI_X2_below, xdec prog_4_method_8_code q := by unfold xdec; decide +kernel
theorem xd_35 : ∀ q ∈ xI_X2_power, xdec prog_4_method_9_code q := by unfold xdec; decide +kernel
theorem xd_36 : ∀ q ∈ xI_X3_init, xdec prog_5_method_1_code q := by unfold xdec; decide +kernel
theorem xd_37 : ∀ q ∈ xI_X3_keep, xdec prog_5_method_2_code q := by unfold xdec; decide +kernel
theorem xd_38 : ∀ q ∈ xI_X3_loseOldest, xdec prog_5_method_3_code q := by unfold xdec; decide +kernel
theorem xd_39 : ∀ q ∈ xI_X3_giveBack, xdec prog_5_method_4_code q := by unfold xdec; decide +kernel
theorem xd_40 : ∀ q ∈ xI_X3_take, xdec prog_5_method_5_code q := by unfold xdec; decide +kernel
theorem xd_41 : ∀ q ∈ xI_X4_init, xdec prog_6_method_1_code q := by unfold xdec; decide +kernel
theorem xd_42 : ∀ q ∈ xI_X4_take, xdec prog_6_method_2_code q := by unfold xdec; decide +kernel
theorem xd_43 : ∀ q ∈ xI_X4_clear, xdec prog_6_method_3_code q := by unfold xdec; decide +kernel
theorem xd_44 : ∀ q ∈ xI_X4_has, xdec prog_6_method_4_code q := by unfold xdec; decide +kernel
theorem xd_45 : ∀ q ∈ xI_X4_isFixed, xdec prog_6_method_5_code q := by unfold xdec; decide +kernel
theorem xd_46 : ∀ q ∈ xI_X4_mayFix, xdec prog_6_method_6_code q := by unfold xdec; decide +kernel
theorem xd_47 : ∀ q ∈ xI_X4_yAt, xdec prog_6_method_7_code q := by unfold xdec; decide +kernel
theorem xd_48 : ∀ q ∈ xI_X4_put, xdec prog_6_method_8_code q := by unfold xdec; decide +kernel
theorem xd_49 : ∀ q ∈ xI_X4_remove, xdec prog_6_method_9_code q := by unfold xdec; decide +kernel
theorem xd_50 : ∀ q ∈ xI_X4_turnFixed, xdec prog_6_method_10_code q := by unfold xdec; decide +kernel
theorem xd_51 : ∀ q ∈ xI_X4_howMany, xdec prog_6_method_11_code q := by unfold xdec; decide +kernel
theorem xd_52 : ∀ q ∈ xI_X4_free, xdec prog_6_method_12_code q := by unfold xdec; decide +kernel
theorem xd_53 : ∀ q ∈ xI_X4_needed, xdec prog_6_method_13_code q := by unfold xdec; decide +kernel
theorem xd_54 : ∀ q ∈ xI_X4_beneath, xdec prog_6_method_14_code q := by unfold xdec; decide +kernel
theorem xd_55 : ∀ q ∈ xI_X4_poles, xdec prog_6_method_15_code q := by unfold xdec; decide +kernel
theorem xd_56 : ∀ q ∈ xI_X4_isTurnedOver, xdec prog_6_method_16_code q := by unfold xdec; decide +kernel
theorem xd_57 : ∀ q ∈ xI_X4_turn, xdec prog_6_method_17_code q := by unfold xdec; decide +kernel
theorem xd_58 : ∀ q ∈ xI_X5_init, xdec prog_7_method_1_code q := by unfold xdec; decide +kernel
theorem xd_59 : ∀ q ∈ xI_X5_begin, xdec prog_7_method_2_code q := by unfold xdec; decide +kernel
theorem xd_60 : ∀ q ∈ xI_X5_refusal, xdec prog_7_method_3_code q := by unfold xdec; decide +kernel
theorem xd_61 : ∀ q ∈ xI_X5_reaches, xdec prog_7_method_4_code q := by unfold xdec; decide +kernel
theorem xd_62 : ∀ q ∈ xI_X5_at, xdec prog_7_method_5_code q := by unfold xdec; decide +kernel
theorem xd_63 : ∀ q ∈ xI_X5_put, xdec prog_7_method_6_code q := by unfold xdec; decide +kernel
theorem xd_64 : ∀ q ∈ xI_X5_tellsPoints, xdec prog_7_method_7_code q := by unfold xdec; decide +kernel
theorem xd_65 : ∀ q ∈ xI_X6_init, xdec prog_8_method_1_code q := by unfold xdec; decide +kernel
theorem xd_66 : ∀ q ∈ xI_X6_add, xdec prog_8_method_2_code q := by unfold xdec; decide +kernel
theorem xd_67 : ∀ q ∈ xI_X6_parse, xdec prog_8_method_3_code q := by unfold xdec; decide +kernel
theorem xd_68 : ∀ q ∈ xI_X6_parseBeneath, xdec prog_8_method_4_code q := by unfold xdec; decide +kernel
theorem xd_69 : ∀ q ∈ xI_X6_parsePoints, xdec prog_8_method_5_code q := by unfold xdec; decide +kernel
theorem xd_70 : ∀ q ∈ xI_X6_parsePoint, xdec prog_8_method_6_code q := by unfold xdec; decide +kernel
theorem xd_71 : ∀ q ∈ xI_X6_parseNumber, xdec prog_8_method_7_code q := by unfold xdec; decide +kernel
theorem xd_72 : ∀ q ∈ xI_X6_goPast, xdec prog_8_method_8_code q := by unfold xdec; decide +kernel
theorem xd_73 : ∀ q ∈ xI_X6_next, xdec prog_8_method_9_code q := by unfold xdec; decide +kernel
theorem xd_74 : ∀ q ∈ xI_X6_here, xdec prog_8_method_10_code q := by unfold xdec; decide +kernel
theorem xd_75 : ∀ q ∈ xI_X6_isFigure, xdec prog_8_method_11_code q := by unfold xdec; decide +kernel
theorem xd_76 : ∀ q ∈ xI_X6_failAt, xdec prog_8_method_12_code q := by unfold xdec; decide +kernel
theorem xd_77 : ∀ q ∈ xI_X7_init, xdec prog_1_method_1_code q := by unfold xdec; decide +kernel
theorem xd_78 : ∀ q ∈ xI_X7_point, xdec prog_1_method_2_code q := by unfold xdec; decide +kernel
theorem xd_79 : ∀ q ∈ xI_X7_out, xdec prog_1_method_3_code q := by unfold xdec; decide +kernel
theorem xd_80 : ∀ q ∈ xI_X7_fix, xdec prog_1_method_4_code q := by unfold xdec; decide +kernel
theorem xd_81 : ∀ q ∈ xI_X7_degree, xdec prog_1_method_5_code q := by unfold xdec; decide +kernel
theorem xd_82 : ∀ q ∈ xI_X7_under, xdec prog_1_method_6_code q := by unfold xdec; decide +kernel
theorem xd_83 : ∀ q ∈ xI_X7_told, xdec prog_1_method_7_code q := by unfold xdec; decide +kernel
theorem xd_84 : ∀ q ∈ xI_X7_count, xdec prog_1_method_8_code q := by unfold xdec; decide +kernel
theorem xd_85 : ∀ q ∈ xI_X7_why, xdec prog_1_method_9_code q := by unfold xdec; decide +kernel
theorem xd_86 : ∀ q ∈ xI_X7_type, xdec prog_1_method_10_code q := by unfold xdec; decide +kernel
theorem xd_87 : ∀ q ∈ xI_X7_read, xdec prog_1_method_11_code q := by unfold xdec; decide +kernel
theorem xd_88 : ∀ q ∈ xI_X7_best, xdec prog_1_method_12_code q := by unfold xdec; decide +kernel
theorem xd_89 : ∀ q ∈ xI_X7_part, xdec prog_1_method_13_code q := by unfold xdec; decide +kernel
theorem xd_90 : ∀ q ∈ xI_X7_value, xdec prog_1_method_14_code q := by unfold xdec; decide +kernel
theorem xd_91 : ∀ q ∈ xI_X7_error, xdec prog_1_method_15_code q := by unfold xdec; decide +kernel
theorem xd_92 : ∀ q ∈ xI_X7_step, xdec prog_1_method_16_code q := by unfold xdec; decide +kernel
theorem xd_93 : ∀ q ∈ xI_X7_level, xdec prog_1_method_17_code q := by unfold xdec; decide +kernel
theorem xd_94 : ∀ q ∈ xI_X7_lost, xdec prog_1_method_18_code q := by unfold xdec; decide +kernel
theorem xd_95 : ∀ q ∈ xI_X7_hasOneFit, xdec prog_1_method_19_code q := by unfold xdec; decide +kernel
theorem xd_96 : ∀ q ∈ xI_X7_drift, xdec prog_1_method_20_code q := by unfold xdec; decide +kernel
theorem xd_97 : ∀ q ∈ xI_X7_undo, xdec prog_1_method_21_code q := by unfold xdec; decide +kernel
theorem xd_98 : ∀ q ∈ xI_X7_seed, xdec prog_1_method_22_code q := by unfold xdec; decide +kernel
theorem xd_99 : ∀ q ∈ xI_X7_image, xdec prog_1_method_23_code q := by unfold xdec; decide +kernel
theorem xd_100 : ∀ q ∈ xI_X7_restore, xdec prog_1_method_24_code q := by unfold xdec; decide +kernel
theorem xd_101 : ∀ q ∈ xI_X7_remember, xdec prog_1_method_25_code q := by unfold xdec; decide +kernel
theorem xd_102 : ∀ q ∈ xI_X7_degrees, xdec prog_1_method_26_code q := by unfold xdec; decide +kernel
theorem xd_103 : ∀ q ∈ xI_X7_isOfDegree, xdec prog_1_method_27_code q := by unfold xdec; decide +kernel
theorem xd_104 : ∀ q ∈ xI_X7_film, xdec prog_1_method_28_code q := by unfold xdec; decide +kernel
theorem xd_105 : ∀ q ∈ xI_X7_sheet, xdec prog_1_method_29_code q := by unfold xdec; decide +kernel
theorem xd_106 : ∀ q ∈ xI_X7_drop, xdec prog_1_method_30_code q := by unfold xdec; decide +kernel
theorem xd_107 : ∀ q ∈ xI_X7_item, xdec prog_1_method_31_code q := by unfold xdec; decide +kernel
theorem xd_108 : ∀ q ∈ xI_X7_copy, xdec prog_1_method_32_code q := by unfold xdec; decide +kernel
theorem xd_109 : ∀ q ∈ xI_X7_isX, xdec prog_1_method_33_code q := by unfold xdec; decide +kernel
theorem xd_110 : ∀ q ∈ xI_X7_isY, xdec prog_1_method_34_code q := by unfold xdec; decide +kernel
theorem xd_111 : ∀ q ∈ xI_X7_isQ, xdec prog_1_method_35_code q := by unfold xdec; decide +kernel
theorem xd_112 : ∀ q ∈ xI_X7_isFractionPart, xdec prog_1_method_36_code q := by unfold xdec; decide +kernel
theorem xd_113 : ∀ q ∈ xI_X7_isSheet, xdec prog_1_method_37_code q := by unfold xdec; decide +kernel
theorem xd_114 : ∀ q ∈ xI_X7_isLane, xdec prog_1_method_38_code q := by unfold xdec; decide +kernel
theorem xd_115 : ∀ q ∈ xI_X7_placesBelow, xdec prog_1_method_39_code q := by unfold xdec; decide +kernel
theorem xd_116 : ∀ q ∈ xI_X7_lowest, xdec prog_1_method_40_code q := by unfold xdec; decide +kernel
theorem xd_117 : ∀ q ∈ xI_X7_highest, xdec prog_1_method_41_code q := by unfold xdec; decide +kernel
theorem xd_118 : ∀ q ∈ xI_X7_shared, xdec prog_1_method_42_code q := by unfold xdec; decide +kernel
theorem xd_119 : ∀ q ∈ xI_X7_fraction, xdec prog_1_method_43_code q := by unfold xdec; decide +kernel
theorem xd_120 : ∀ q ∈ xI_X8_init, xdec prog_10_method_1_code q := by unfold xdec; decide +kernel
theorem xd_121 : ∀ q ∈ xI_X8_in, xdec prog_10_method_2_code q := by unfold xdec; decide +kernel
theorem xd_122 : ∀ q ∈ xI_X8_isX, xdec prog_10_method_3_code q := by unfold xdec; decide +kernel
theorem xd_123 : ∀ q ∈ xI_X8_kind, xdec prog_10_method_4_code q := by unfold xdec; decide +kernel
theorem xd_124 : ∀ q ∈ xI_X8_y, xdec prog_10_method_5_code q := by unfold xdec; decide +kernel
theorem xd_125 : ∀ q ∈ xI_X8_beneath, xdec prog_10_method_6_code q := by unfold xdec; decide +kernel
theorem xd_126 : ∀ q ∈ xI_X8_many, xdec prog_10_method_7_code q := by unfold xdec; decide +kernel
theorem xd_127 : ∀ q ∈ xI_X8_poles, xdec prog_10_method_8_code q := by unfold xdec; decide +kernel
theorem xd_128 : ∀ q ∈ xI_X8_setOf, xdec prog_10_method_9_code q := by unfold xdec; decide +kernel
theorem xd_129 : ∀ q ∈ xI_X8_size, xdec prog_10_method_10_code q := by unfold xdec; decide +kernel
theorem xd_130 : ∀ q ∈ xI_X8_isFew, xdec prog_10_method_11_code q := by unfold xdec; decide +kernel
theorem xd_131 : ∀ q ∈ xI_X8_notes, xdec prog_10_method_12_code q := by unfold xdec; decide +kernel
theorem xd_132 : ∀ q ∈ xI_X8_sets, xdec prog_10_method_13_code q := by unfold xdec; decide +kernel
theorem xd_133 : ∀ q ∈ xI_X8_point, xdec prog_10_method_14_code q := by unfold xdec; decide +kernel
theorem xd_134 : ∀ q ∈ xI_X8_out, xdec prog_10_method_15_code q := by unfold xdec; decide +kernel
theorem xd_135 : ∀ q ∈ xI_X8_fix, xdec prog_10_method_16_code q := by unfold xdec; decide +kernel
theorem xd_136 : ∀ q ∈ xI_X8_degree, xdec prog_10_method_17_code q := by unfold xdec; decide +kernel
theorem xd_137 : ∀ q ∈ xI_X8_under, xdec prog_10_method_18_code q := by unfold xdec; decide +kernel
theorem xd_138 : ∀ q ∈ xI_X8_told, xdec prog_10_method_19_code q := by unfold xdec; decide +kernel
theorem xd_139 : ∀ q ∈ xI_X8_why, xdec prog_10_method_20_code q := by unfold xdec; decide +kernel
theorem xd_140 : ∀ q ∈ xI_X8_count, xdec prog_10_method_21_code q := by unfold xdec; decide +kernel
theorem xd_141 : ∀ q ∈ xI_X8_type, xdec prog_10_method_22_code q := by unfold xdec; decide +kernel
theorem xd_142 : ∀ q ∈ xI_X8_letter, xdec prog_10_method_23_code q := by unfold xdec; decide +kernel
theorem xd_143 : ∀ q ∈ xI_X8_takes, xdec prog_10_method_24_code q := by unfold xdec; decide +kernel
theorem xd_144 : ∀ q ∈ xI_X8_isFigure, xdec prog_10_method_25_code q := by unfold xdec; decide +kernel
theorem xd_145 : ∀ q ∈ xI_X8_reads, xdec prog_10_method_26_code q := by unfold xdec; decide +kernel
theorem xd_146 : ∀ q ∈ xI_X8_readsPoint, xdec prog_10_method_27_code q := by unfold xdec; decide +kernel
theorem xd_147 : ∀ q ∈ xI_X8_readsAll, xdec prog_10_method_28_code q := by unfold xdec; decide +kernel
theorem xd_148 : ∀ q ∈ xI_X8_read, xdec prog_10_method_29_code q := by unfold xdec; decide +kernel
theorem xd_149 : ∀ q ∈ xI_X8_differences, xdec prog_10_method_30_code q := by unfold xdec; decide +kernel
theorem xd_150 : ∀ q ∈ xI_X8_bend, xdec prog_10_method_31_code q := by unfold xdec; decide +kernel
theorem xd_151 : ∀ q ∈ xI_X8_common, xdec prog_10_method_32_code q := by unfold xdec; decide +kernel
theorem xd_152 : ∀ q ∈ xI_X8_takes_, xdec prog_10_method_33_code q := by unfold xdec; decide +kernel
theorem xd_153 : ∀ q ∈ xI_X8_takesSet, xdec prog_10_method_34_code q := by unfold xdec; decide +kernel
theorem xd_154 : ∀ q ∈ xI_X8_plain, xdec prog_10_method_35_code q := by unfold xdec; decide +kernel
theorem xd_155 : ∀ q ∈ xI_X8_levels, xdec prog_10_method_36_code q := by unfold xdec; decide +kernel
theorem xd_156 : ∀ q ∈ xI_X8_isReference, xdec prog_10_method_37_code q := by unfold xdec; decide +kernel
theorem xd_157 : ∀ q ∈ xI_X8_fixedAbove, xdec prog_10_method_38_code q := by unfold xdec; decide +kernel
theorem xd_158 : ∀ q ∈ xI_X8_fits, xdec prog_10_method_39_code q := by unfold xdec; decide +kernel
theorem xd_159 : ∀ q ∈ xI_X8_fitsAll, xdec prog_10_method_40_code q := by unfold xdec; decide +kernel
theorem xd_160 : ∀ q ∈ xI_X8_lower, xdec prog_10_method_41_code q := by unfold xdec; decide +kernel
theorem xd_161 : ∀ q ∈ xI_X8_partOf, xdec prog_10_method_42_code q := by unfold xdec; decide +kernel
theorem xd_162 : ∀ q ∈ xI_X8_upper, xdec prog_10_method_43_code q := by unfold xdec; decide +kernel
theorem xd_163 : ∀ q ∈ xI_X8_finds, xdec prog_10_method_44_code q := by unfold xdec; decide +kernel
theorem xd_164 : ∀ q ∈ xI_X8_findsError, xdec prog_10_method_45_code q := by unfold xdec; decide +kernel
theorem xd_165 : ∀ q ∈ xI_X8_compare, xdec prog_10_method_46_code q := by unfold xdec; decide +kernel
theorem xd_166 : ∀ q ∈ xI_X8_findsBest, xdec prog_10_method_47_code q := by unfold xdec; decide +kernel
theorem xd_167 : ∀ q ∈ xI_X8_isReady, xdec prog_10_method_48_code q := by unfold xdec; decide +kernel
theorem xd_168 : ∀ q ∈ xI_X8_sign, xdec prog_10_method_49_code q := by unfold xdec; decide +kernel
theorem xd_169 : ∀ q ∈ xI_X8_leanAt, xdec prog_10_method_50_code q := by unfold xdec; decide +kernel
theorem xd_170 : ∀ q ∈ xI_X8_firstSet, xdec prog_10_method_51_code q := by unfold xdec; decide +kernel
theorem xd_171 : ∀ q ∈ xI_X8_goesOut, xdec prog_10_method_52_code q := by unfold xdec; decide +kernel
theorem xd_172 : ∀ q ∈ xI_X8_steps, xdec prog_10_method_53_code q := by unfold xdec; decide +kernel
theorem xd_173 : ∀ q ∈ xI_X8_reached, xdec prog_10_method_54_code q := by unfold xdec; decide +kernel
theorem xd_174 : ∀ q ∈ xI_X8_turns, xdec prog_10_method_55_code q := by unfold xdec; decide +kernel
theorem xd_175 : ∀ q ∈ xI_X8_best, xdec prog_10_method_56_code q := by unfold xdec; decide +kernel
theorem xd_176 : ∀ q ∈ xI_X8_tells, xdec prog_10_method_57_code q := by unfold xdec; decide +kernel
theorem xd_177 : ∀ q ∈ xI_X8_part, xdec prog_10_method_58_code q := by unfold xdec; decide +kernel
theorem xd_178 : ∀ q ∈ xI_X8_value, xdec prog_10_method_59_code q := by unfold xdec; decide +kernel
theorem xd_179 : ∀ q ∈ xI_X8_error, xdec prog_10_method_60_code q := by unfold xdec; decide +kernel
theorem xd_180 : ∀ q ∈ xI_X8_step, xdec prog_10_method_61_code q := by unfold xdec; decide +kernel
theorem xd_181 : ∀ q ∈ xI_X8_level, xdec prog_10_method_62_code q := by unfold xdec; decide +kernel
theorem xd_182 : ∀ q ∈ xI_X8_lost, xdec prog_10_method_63_code q := by unfold xdec; decide +kernel
theorem xd_183 : ∀ q ∈ xI_X8_drift, xdec prog_10_method_64_code q := by unfold xdec; decide +kernel
theorem xd_184 : ∀ q ∈ xI_X8_undo, xdec prog_10_method_65_code q := by unfold xdec; decide +kernel
theorem xd_185 : ∀ q ∈ xI_X8_seed, xdec prog_10_method_66_code q := by unfold xdec; decide +kernel
theorem xd_186 : ∀ q ∈ xI_X8_image, xdec prog_10_method_67_code q := by unfold xdec; decide +kernel
theorem xd_187 : ∀ q ∈ xI_X8_restore, xdec prog_10_method_68_code q := by unfold xdec; decide +kernel
theorem xd_188 : ∀ q ∈ xI_X8_isSheet, xdec prog_10_method_69_code q := by unfold xdec; decide +kernel
theorem xd_189 : ∀ q ∈ xI_X8_machine, xdec prog_10_method_70_code q := by unfold xdec; decide +kernel
theorem xd_190 : ∀ q ∈ xI_X8_cast, xdec prog_10_method_71_code q := by unfold xdec; decide +kernel
theorem xd_191 : ∀ q ∈ xI_X8_degrees, xdec prog_10_method_72_code q := by unfold xdec; decide +kernel
theorem xd_192 : ∀ q ∈ xI_X8_isOn, xdec prog_10_method_73_code q := by unfold xdec; decide +kernel
theorem xd_193 : ∀ q ∈ xI_X8_film, xdec prog_10_method_74_code q := by unfold xdec; decide +kernel
theorem xd_194 : ∀ q ∈ xI_X8_sheet, xdec prog_10_method_75_code q := by unfold xdec; decide +kernel
theorem xd_195 : ∀ q ∈ xI_X8_drop, xdec prog_10_method_76_code q := by unfold xdec; decide +kernel
theorem xd_196 : ∀ q ∈ xI_X8_item, xdec prog_10_method_77_code q := by unfold xdec; decide +kernel
theorem xd_197 : ∀ q ∈ xI_X8_copy, xdec prog_10_method_78_code q := by unfold xdec; decide +kernel
theorem xd_198 : ∀ q ∈ xI_J6_bitCount_0f7a4, xdec prog_11_method_49_code q := by unfold xdec; decide +kernel
theorem xd_199 : ∀ q ∈ xI_J13_compare_74951, xdec prog_12_method_42_code q := by unfold xdec; decide +kernel
set_option maxRecDepth 100000 in
theorem xm_0 : xmOK 0 (xIe 0) ((xrt[0]?).getD none) := ⟨⟨xTb_mem 105 rfl rfl, by decide +kernel, xpl_0, by decide +kernel⟩, xd_0⟩
set_option maxRecDepth 100000 in
theorem xm_1 : xmOK 1 (xIe 1) ((xrt[1]?).getD none) := ⟨⟨xTb_mem 461 rfl rfl, by decide +kernel, xpl_0, by decide +kernel⟩, xd_1⟩
set_option maxRecDepth 100000 in
theorem xm_2 : xmOK 2 (xIe 2) ((xrt[2]?).getD none) := ⟨⟨xTb_mem 565 rfl rfl, by decide +kernel, xpl_0, by decide +kernel⟩, xd_2⟩
set_option maxRecDepth 100000 in
theorem xm_3 : xmOK 3 (xIe 3) ((xrt[3]?).getD none) := ⟨⟨xTb_mem 518 rfl rfl, by decide +kernel, xpl_0, by decide +kernel⟩, xd_3⟩
set_option maxRecDepth 100000 in
theorem xm_4 : xmOK 4 (xIe 4) ((xrt[4]?).getD none) := ⟨⟨xTb_mem 530 rfl rfl, by decide +kernel, xpl_0, by decide +kernel⟩, xd_4⟩
set_option maxRecDepth 100000 in
theorem xm_5 : xmOK 5 (xIe 5) ((xrt[5]?).getD none) := ⟨⟨xTb_mem 552 rfl rfl, by decide +kernel, xpl_0, by decide +kernel⟩, xd_5⟩
set_option maxRecDepth 100000 in
theorem xm_6 : xmOK 6 (xIe 6) ((xrt[6]?).getD none) := ⟨⟨xTb_mem 581 rfl rfl, by decide +kernel, xpl_0, by decide +kernel⟩, xd_6⟩
set_option maxRecDepth 100000 in
theorem xm_7 : xmOK 7 (xIe 7) ((xrt[7]?).getD none) := ⟨⟨xTb_mem 569 rfl rfl, by decide +kernel, xpl_0, by decide +kernel⟩, xd_7⟩
set_option maxRecDepth 100000 in
theorem xm_8 : xmOK 8 (xIe 8) ((xrt[8]?).getD none) := ⟨⟨xTb_mem 573 rfl rfl, by decide +kernel, xpl_0, by decide +kernel⟩, xd_8⟩
set_option maxRecDepth 100000 in
theorem xm_9 : xmOK 9 (xIe 9) ((xrt[9]?).getD none) := ⟨⟨xTb_mem 577 rfl rfl, by decide +kernel, xpl_0, by decide +kernel⟩, xd_9⟩
set_option maxRecDepth 100000 in
theorem xm_10 : xmOK 10 (xIe 10) ((xrt[10]?).getD none) := ⟨⟨xTb_mem 585 rfl rfl, by decide +kernel, xpl_0, by decide +kernel⟩, xd_10⟩
set_option maxRecDepth 100000 in
theorem xm_11 : xmOK 11 (xIe 11) ((xrt[11]?).getD none) := ⟨⟨xTb_mem 592 rfl rfl, by decide +kernel, xpl_0, by decide +kernel⟩, xd_11⟩
set_option maxRecDepth 100000 in
theorem xm_12 : xmOK 12 (xIe 12) ((xrt[12]?).getD none) := ⟨⟨xTb_mem 111 rfl rfl, by decide +kernel, xpl_1, by decide +kernel⟩, xd_12⟩
set_option maxRecDepth 100000 in
theorem xm_13 : xmOK 13 (xIe 13) ((xrt[13]?).getD none) := ⟨⟨xTb_mem 470 rfl rfl, by decide +kernel, xpl_1, by decide +kernel⟩, xd_13⟩
set_option maxRecDepth 100000 in
theorem xm_14 : xmOK 14 (xIe 14) ((xrt[14]?).getD none) := ⟨⟨xTb_mem 474 rfl rfl, by decide +kernel, xpl_1, by decide +kernel⟩, xd_14⟩
set_option maxRecDepth 100000 in
theorem xm_15 : xmOK 15 (xIe 15) ((xrt[15]?).getD none) := ⟨⟨xTb_mem 523 rfl rfl, by decide +kernel, xpl_1, by decide +kernel⟩, xd_15⟩
set_option maxRecDepth 100000 in
theorem xm_16 : xmOK 16 (xIe 16) ((xrt[16]?).getD none) := ⟨⟨xTb_mem 466 rfl rfl, by decide +kernel, xpl_1, by decide +kernel⟩, xd_16⟩
set_option maxRecDepth 100000 in
theorem xm_17 : xmOK 17 (xIe 17) ((xrt[17]?).getD none) := ⟨⟨xTb_mem 485 rfl rfl, by decide +kernel, xpl_1, by decide +kernel⟩, xd_17⟩
set_option maxRecDepth 100000 in
theorem xm_18 : xmOK 18 (xIe 18) ((xrt[18]?).getD none) := ⟨⟨xTb_mem 502 rfl rfl, by decide +kernel, xpl_1, by decide +kernel⟩, xd_18⟩
set_option maxRecDepth 100000 in
theorem xm_19 : xmOK 19 (xIe 19) ((xrt[19]?).getD none) := ⟨⟨xTb_mem 506 rfl rfl, by decide +kernel, xpl_1, by decide +kernel⟩, xd_19⟩
set_option maxRecDepth 100000 in
theorem xm_20 : xmOK 20 (xIe 20) ((xrt[20]?).getD none) := ⟨⟨xTb_mem 510 rfl rfl, by decide +kernel, xpl_1, by decide +kernel⟩, xd_20⟩
set_option maxRecDepth 100000 in
theorem xm_21 : xmOK 21 (xIe 21) ((xrt[21]?).getD none) := ⟨⟨xTb_mem 492 rfl rfl, by decide +kernel, xpl_1, by decide +kernel⟩, xd_21⟩
set_option maxRecDepth 100000 in
theorem xm_22 : xmOK 22 (xIe 22) ((xrt[22]?).getD none) := ⟨⟨xTb_mem 545 rfl rfl, by decide +kernel, xpl_1, by decide +kernel⟩, xd_22⟩
set_option maxRecDepth 100000 in
theorem xm_23 : xmOK 23 (xIe 23) ((xrt[23]?).getD none) := ⟨⟨xTb_mem 541 rfl rfl, by decide +kernel, xpl_1, by decide +kernel⟩, xd_23⟩
set_option maxRecDepth 100000 in
theorem xm_24 : xmOK 24 (xIe 24) ((xrt[24]?).getD none) := ⟨⟨xTb_mem 557 rfl rfl, by decide +kernel, xpl_1, by decide +kernel⟩, xd_24⟩
set_option maxRecDepth 100000 in
theorem xm_25 : xmOK 25 (xIe 25) ((xrt[25]?).getD none) := ⟨⟨xTb_mem 537 rfl rfl, by decide +kernel, xpl_1, by decide +kernel⟩, xd_25⟩
set_option maxRecDepth 100000 in
theorem xm_26 : xmOK 26 (xIe 26) ((xrt[26]?).getD none) := ⟨⟨xTb_mem 744 rfl rfl, by decide +kernel, xpl_1, by decide +kernel⟩, xd_26⟩
set_option maxRecDepth 100000 in
theorem xm_27 : xmOK 27 (xIe 27) ((xrt[27]?).getD none) := ⟨⟨xTb_mem 197 rfl rfl, by decide +kernel, xpl_2, by decide +kernel⟩, xd_27⟩
set_option maxRecDepth 100000 in
theorem xm_28 : xmOK 28 (xIe 28) ((xrt[28]?).getD none) := ⟨⟨xTb_mem 638 rfl rfl, by decide +kernel, xpl_2, by decide +kernel⟩, xd_28⟩
set_option maxRecDepth 100000 in
theorem xm_29 : xmOK 29 (xIe 29) ((xrt[29]?).getD none) := ⟨⟨xTb_mem 654 rfl rfl, by decide +kernel, xpl_2, by decide +kernel⟩, xd_29⟩
set_option maxRecDepth 100000 in
theorem xm_30 : xmOK 30 (xIe 30) ((xrt[30]?).getD none) := ⟨⟨xTb_mem 643 rfl rfl, by decide +kernel, xpl_2, by decide +kernel⟩, xd_30⟩
set_option maxRecDepth 100000 in
theorem xm_31 : xmOK 31 (xIe 31) ((xrt[31]?).getD none) := ⟨⟨xTb_mem 649 rfl rfl, by decide +kernel, xpl_2, by decide +kernel⟩, xd_31⟩
set_option maxRecDepth 100000 in
theorem xm_32 : xmOK 32 (xIe 32) ((xrt[32]?).getD none) := ⟨⟨xTb_mem 658 rfl rfl, by decide +kernel, xpl_2, by decide +kernel⟩, xd_32⟩
set_option maxRecDepth 100000 in
theorem xm_33 : xmOK 33 (xIe 33) ((xrt[33]?).getD none) := ⟨⟨xTb_mem 662 rfl rfl, by decide +kernel, xpl_2, by decide +kernel⟩, xd_33⟩
set_option maxRecDepth 100000 in
theorem xm_34 : xmOK 34 (xIe 34) ((xrt[34]?).getD none) := ⟨⟨xTb_mem 669 rfl rfl, by decide +kernel, xpl_2, by decide +kernel⟩, xd_34⟩
set_option maxRecDepth 100000 in
theorem xm_35 : xmOK 35 (xIe 35) ((xrt[35]?).getD none) := ⟨⟨xTb_mem 665 rfl rfl, by decide +kernel, xpl_2, by decide +kernel⟩, xd_35⟩
set_option maxRecDepth 100000 in
theorem xm_36 : xmOK 36 (xIe 36) ((xrt[36]?).getD none) := ⟨⟨xTb_mem 61 rfl rfl, by decide +kernel, xpl_3, by decide +kernel⟩, xd_36⟩
set_option maxRecDepth 100000 in
theorem xm_37 : xmOK 37 (xIe 37) ((xrt[37]?).getD none) := ⟨⟨xTb_mem 306 rfl rfl, by decide +kernel, xpl_3, by decide +kernel⟩, xd_37⟩
set_option maxRecDepth 100000 in
theorem xm_38 : xmOK 38 (xIe 38) ((xrt[38]?).getD none) := ⟨⟨xTb_mem 310 rfl rfl, by decide +kernel, xpl_3, by decide +kernel⟩, xd_38⟩
set_option maxRecDepth 100000 in
theorem xm_39 : xmOK 39 (xIe 39) ((xrt[39]?).getD none) := ⟨⟨xTb_mem 690 rfl rfl, by decide +kernel, xpl_3, by decide +kernel⟩, xd_39⟩
set_option maxRecDepth 100000 in
theorem xm_40 : xmOK 40 (xIe 40) ((xrt[40]?).getD none) := ⟨⟨xTb_mem 702 rfl rfl, by decide +kernel, xpl_3, by decide +kernel⟩, xd_40⟩
set_option maxRecDepth 100000 in
theorem xm_41 : xmOK 41 (xIe 41) ((xrt[41]?).getD none) := ⟨⟨xTb_mem 26 rfl rfl, by decide +kernel, xpl_4, by decide +kernel⟩, xd_41⟩
set_option maxRecDepth 100000 in
theorem xm_42 : xmOK 42 (xIe 42) ((xrt[42]?).getD none) := ⟨⟨xTb_mem 314 rfl rfl, by decide +kernel, xpl_4, by decide +kernel⟩, xd_42⟩
set_option maxRecDepth 100000 in
theorem xm_43 : xmOK 43 (xIe 43) ((xrt[43]?).getD none) := ⟨⟨xTb_mem 421 rfl rfl, by decide +kernel, xpl_4, by decide +kernel⟩, xd_43⟩
set_option maxRecDepth 100000 in
theorem xm_44 : xmOK 44 (xIe 44) ((xrt[44]?).getD none) := ⟨⟨xTb_mem 284 rfl rfl, by decide +kernel, xpl_4, by decide +kernel⟩, xd_44⟩
set_option maxRecDepth 100000 in
theorem xm_45 : xmOK 45 (xIe 45) ((xrt[45]?).getD none) := ⟨⟨xTb_mem 337 rfl rfl, by decide +kernel, xpl_4, by decide +kernel⟩, xd_45⟩
set_option maxRecDepth 100000 in
theorem xm_46 : xmOK 46 (xIe 46) ((xrt[46]?).getD none) := ⟨⟨xTb_mem 341 rfl rfl, by decide +kernel, xpl_4, by decide +kernel⟩, xd_46⟩
set_option maxRecDepth 100000 in
theorem xm_47 : xmOK 47 (xIe 47) ((xrt[47]?).getD none) := ⟨⟨xTb_mem 288 rfl rfl, by decide +kernel, xpl_4, by decide +kernel⟩, xd_47⟩
set_option maxRecDepth 100000 in
theorem xm_48 : xmOK 48 (xIe 48) ((xrt[48]?).getD none) := ⟨⟨xTb_mem 321 rfl rfl, by decide +kernel, xpl_4, by decide +kernel⟩, xd_48⟩
set_option maxRecDepth 100000 in
theorem xm_49 : xmOK 49 (xIe 49) ((xrt[49]?).getD none) := ⟨⟨xTb_mem 329 rfl rfl, by decide +kernel, xpl_4, by decide +kernel⟩, xd_49⟩
set_option maxRecDepth 100000 in
theorem xm_50 : xmOK 50 (xIe 50) ((xrt[50]?).getD none) := ⟨⟨xTb_mem 345 rfl rfl, by decide +kernel, xpl_4, by decide +kernel⟩, xd_50⟩
set_option maxRecDepth 100000 in
theorem xm_51 : xmOK 51 (xIe 51) ((xrt[51]?).getD none) := ⟨⟨xTb_mem 292 rfl rfl, by decide +kernel, xpl_4, by decide +kernel⟩, xd_51⟩
set_option maxRecDepth 100000 in
theorem xm_52 : xmOK 52 (xIe 52) ((xrt[52]?).getD none) := ⟨⟨xTb_mem 514 rfl rfl, by decide +kernel, xpl_4, by decide +kernel⟩, xd_52⟩
set_option maxRecDepth 100000 in
theorem xm_53 : xmOK 53 (xIe 53) ((xrt[53]?).getD none) := ⟨⟨xTb_mem 385 rfl rfl, by decide +kernel, xpl_4, by decide +kernel⟩, xd_53⟩
set_option maxRecDepth 100000 in
theorem xm_54 : xmOK 54 (xIe 54) ((xrt[54]?).getD none) := ⟨⟨xTb_mem 368 rfl rfl, by decide +kernel, xpl_4, by decide +kernel⟩, xd_54⟩
set_option maxRecDepth 100000 in
theorem xm_55 : xmOK 55 (xIe 55) ((xrt[55]?).getD none) := ⟨⟨xTb_mem 379 rfl rfl, by decide +kernel, xpl_4, by decide +kernel⟩, xd_55⟩
set_option maxRecDepth 100000 in
theorem xm_56 : xmOK 56 (xIe 56) ((xrt[56]?).getD none) := ⟨⟨xTb_mem 496 rfl rfl, by decide +kernel, xpl_4, by decide +kernel⟩, xd_56⟩
set_option maxRecDepth 100000 in
theorem xm_57 : xmOK 57 (xIe 57) ((xrt[57]?).getD none) := ⟨⟨xTb_mem 677 rfl rfl, by decide +kernel, xpl_4, by decide +kernel⟩, xd_57⟩
set_option maxRecDepth 100000 in
theorem xm_58 : xmOK 58 (xIe 58) ((xrt[58]?).getD none) := ⟨⟨xTb_mem 218 rfl rfl, by decide +kernel, xpl_5, by decide +kernel⟩, xd_58⟩
set_option maxRecDepth 100000 in
theorem xm_59 : xmOK 59 (xIe 59) ((xrt[59]?).getD none) := ⟨⟨xTb_mem 764 rfl rfl, by decide +kernel, xpl_5, by decide +kernel⟩, xd_59⟩
set_option maxRecDepth 100000 in
theorem xm_60 : xmOK 60 (xIe 60) ((xrt[60]?).getD none) := ⟨⟨xTb_mem 720 rfl rfl, by decide +kernel, xpl_5, by decide +kernel⟩, xd_60⟩
set_option maxRecDepth 100000 in
theorem xm_61 : xmOK 61 (xIe 61) ((xrt[61]?).getD none) := ⟨⟨xTb_mem 724 rfl rfl, by decide +kernel, xpl_5, by decide +kernel⟩, xd_61⟩
set_option maxRecDepth 100000 in
theorem xm_62 : xmOK 62 (xIe 62) ((xrt[62]?).getD none) := ⟨⟨xTb_mem 732 rfl rfl, by decide +kernel, xpl_5, by decide +kernel⟩, xd_62⟩
set_option maxRecDepth 100000 in
theorem xm_63 : xmOK 63 (xIe 63) ((xrt[63]?).getD none) := ⟨⟨xTb_mem 756 rfl rfl, by decide +kernel, xpl_5, by decide +kernel⟩, xd_63⟩
set_option maxRecDepth 100000 in
theorem xm_64 : xmOK 64 (xIe 64) ((xrt[64]?).getD none) := ⟨⟨xTb_mem 728 rfl rfl, by decide +kernel, xpl_5, by decide +kernel⟩, xd_64⟩
set_option maxRecDepth 100000 in
theorem xm_65 : xmOK 65 (xIe 65) ((xrt[65]?).getD none) := ⟨⟨xTb_mem 78 rfl rfl, by decide +kernel, xpl_6, by decide +kernel⟩, xd_65⟩
set_option maxRecDepth 100000 in
theorem xm_66 : xmOK 66 (xIe 66) ((xrt[66]?).getD none) := ⟨⟨xTb_mem 397 rfl rfl, by decide +kernel, xpl_6, by decide +kernel⟩, xd_66⟩
set_option maxRecDepth 100000 in
theorem xm_67 : xmOK 67 (xIe 67) ((xrt[67]?).getD none) := ⟨⟨xTb_mem 405 rfl rfl, by decide +kernel, xpl_6, by decide +kernel⟩, xd_67⟩
set_option maxRecDepth 100000 in
theorem xm_68 : xmOK 68 (xIe 68) ((xrt[68]?).getD none) := ⟨⟨xTb_mem 429 rfl rfl, by decide +kernel, xpl_6, by decide +kernel⟩, xd_68⟩
set_option maxRecDepth 100000 in
theorem xm_69 : xmOK 69 (xIe 69) ((xrt[69]?).getD none) := ⟨⟨xTb_mem 441 rfl rfl, by decide +kernel, xpl_6, by decide +kernel⟩, xd_69⟩
set_option maxRecDepth 100000 in
theorem xm_70 : xmOK 70 (xIe 70) ((xrt[70]?).getD none) := ⟨⟨xTb_mem 445 rfl rfl, by decide +kernel, xpl_6, by decide +kernel⟩, xd_70⟩
set_option maxRecDepth 100000 in
theorem xm_71 : xmOK 71 (xIe 71) ((xrt[71]?).getD none) := ⟨⟨xTb_mem 433 rfl rfl, by decide +kernel, xpl_6, by decide +kernel⟩, xd_71⟩
set_option maxRecDepth 100000 in
theorem xm_72 : xmOK 72 (xIe 72) ((xrt[72]?).getD none) := ⟨⟨xTb_mem 425 rfl rfl, by decide +kernel, xpl_6, by decide +kernel⟩, xd_72⟩
set_option maxRecDepth 100000 in
theorem xm_73 : xmOK 73 (xIe 73) ((xrt[73]?).getD none) := ⟨⟨xTb_mem 409 rfl rfl, by decide +kernel, xpl_6, by decide +kernel⟩, xd_73⟩
set_option maxRecDepth 100000 in
theorem xm_74 : xmOK 74 (xIe 74) ((xrt[74]?).getD none) := ⟨⟨xTb_mem 413 rfl rfl, by decide +kernel, xpl_6, by decide +kernel⟩, xd_74⟩
set_option maxRecDepth 100000 in
theorem xm_75 : xmOK 75 (xIe 75) ((xrt[75]?).getD none) := ⟨⟨xTb_mem 436 rfl rfl, by decide +kernel, xpl_6, by decide +kernel⟩, xd_75⟩
set_option maxRecDepth 100000 in
theorem xm_76 : xmOK 76 (xIe 76) ((xrt[76]?).getD none) := ⟨⟨xTb_mem 417 rfl rfl, by decide +kernel, xpl_6, by decide +kernel⟩, xd_76⟩
set_option maxRecDepth 100000 in
theorem xm_77 : xmOK 77 (xIe 77) ((xrt[77]?).getD none) := ⟨⟨xTb_mem 18 rfl rfl, by decide +kernel, xpl_7, by decide +kernel⟩, xd_77⟩
set_option maxRecDepth 100000 in
theorem xm_78 : xmOK 78 (xIe 78) ((xrt[78]?).getD none) := ⟨⟨xTb_mem 274 rfl rfl, by decide +kernel, xpl_7, by decide +kernel⟩, xd_78⟩
set_option maxRecDepth 100000 in
theorem xm_79 : xmOK 79 (xIe 79) ((xrt[79]?).getD none) := ⟨⟨xTb_mem 325 rfl rfl, by decide +kernel, xpl_7, by decide +kernel⟩, xd_79⟩
set_option maxRecDepth 100000 in
theorem xm_80 : xmOK 80 (xIe 80) ((xrt[80]?).getD none) := ⟨⟨xTb_mem 333 rfl rfl, by decide +kernel, xpl_7, by decide +kernel⟩, xd_80⟩
set_option maxRecDepth 100000 in
theorem xm_81 : xmOK 81 (xIe 81) ((xrt[81]?).getD none) := ⟨⟨xTb_mem 349 rfl rfl, by decide +kernel, xpl_7, by decide +kernel⟩, xd_81⟩
set_option maxRecDepth 100000 in
theorem xm_82 : xmOK 82 (xIe 82) ((xrt[82]?).getD none) := ⟨⟨xTb_mem 354 rfl rfl, by decide +kernel, xpl_7, by decide +kernel⟩, xd_82⟩
set_option maxRecDepth 100000 in
theorem xm_83 : xmOK 83 (xIe 83) ((xrt[83]?).getD none) := ⟨⟨xTb_mem 361 rfl rfl, by decide +kernel, xpl_7, by decide +kernel⟩, xd_83⟩
set_option maxRecDepth 100000 in
theorem xm_84 : xmOK 84 (xIe 84) ((xrt[84]?).getD none) := ⟨⟨xTb_mem 375 rfl rfl, by decide +kernel, xpl_7, by decide +kernel⟩, xd_84⟩
set_option maxRecDepth 100000 in
theorem xm_85 : xmOK 85 (xIe 85) ((xrt[85]?).getD none) := ⟨⟨xTb_mem 389 rfl rfl, by decide +kernel, xpl_7, by decide +kernel⟩, xd_85⟩
set_option maxRecDepth 100000 in
theorem xm_86 : xmOK 86 (xIe 86) ((xrt[86]?).getD none) := ⟨⟨xTb_mem 393 rfl rfl, by decide +kernel, xpl_7, by decide +kernel⟩, xd_86⟩
set_option maxRecDepth 100000 in
theorem xm_87 : xmOK 87 (xIe 87) ((xrt[87]?).getD none) := ⟨⟨xTb_mem 401 rfl rfl, by decide +kernel, xpl_7, by decide +kernel⟩, xd_87⟩
set_option maxRecDepth 100000 in
theorem xm_88 : xmOK 88 (xIe 88) ((xrt[88]?).getD none) := ⟨⟨xTb_mem 455 rfl rfl, by decide +kernel, xpl_7, by decide +kernel⟩, xd_88⟩
set_option maxRecDepth 100000 in
theorem xm_89 : xmOK 89 (xIe 89) ((xrt[89]?).getD none) := ⟨⟨xTb_mem 597 rfl rfl, by decide +kernel, xpl_7, by decide +kernel⟩, xd_89⟩
set_option maxRecDepth 100000 in
theorem xm_90 : xmOK 90 (xIe 90) ((xrt[90]?).getD none) := ⟨⟨xTb_mem 613 rfl rfl, by decide +kernel, xpl_7, by decide +kernel⟩, xd_90⟩
set_option maxRecDepth 100000 in
theorem xm_91 : xmOK 91 (xIe 91) ((xrt[91]?).getD none) := ⟨⟨xTb_mem 618 rfl rfl, by decide +kernel, xpl_7, by decide +kernel⟩, xd_91⟩
set_option maxRecDepth 100000 in
theorem xm_92 : xmOK 92 (xIe 92) ((xrt[92]?).getD none) := ⟨⟨xTb_mem 623 rfl rfl, by decide +kernel, xpl_7, by decide +kernel⟩, xd_92⟩
set_option maxRecDepth 100000 in
theorem xm_93 : xmOK 93 (xIe 93) ((xrt[93]?).getD none) := ⟨⟨xTb_mem 627 rfl rfl, by decide +kernel, xpl_7, by decide +kernel⟩, xd_93⟩
set_option maxRecDepth 100000 in
theorem xm_94 : xmOK 94 (xIe 94) ((xrt[94]?).getD none) := ⟨⟨xTb_mem 634 rfl rfl, by decide +kernel, xpl_7, by decide +kernel⟩, xd_94⟩
set_option maxRecDepth 100000 in
theorem xm_95 : xmOK 95 (xIe 95) ((xrt[95]?).getD none) := ⟨⟨xTb_mem 604 rfl rfl, by decide +kernel, xpl_7, by decide +kernel⟩, xd_95⟩
set_option maxRecDepth 100000 in
theorem xm_96 : xmOK 96 (xIe 96) ((xrt[96]?).getD none) := ⟨⟨xTb_mem 673 rfl rfl, by decide +kernel, xpl_7, by decide +kernel⟩, xd_96⟩
set_option maxRecDepth 100000 in
theorem xm_97 : xmOK 97 (xIe 97) ((xrt[97]?).getD none) := ⟨⟨xTb_mem 686 rfl rfl, by decide +kernel, xpl_7, by decide +kernel⟩, xd_97⟩
set_option maxRecDepth 100000 in
theorem xm_98 : xmOK 98 (xIe 98) ((xrt[98]?).getD none) := ⟨⟨xTb_mem 694 rfl rfl, by decide +kernel, xpl_7, by decide +kernel⟩, xd_98⟩
set_option maxRecDepth 100000 in
theorem xm_99 : xmOK 99 (xIe 99) ((xrt[99]?).getD none) := ⟨⟨xTb_mem 698 rfl rfl, by decide +kernel, xpl_7, by decide +kernel⟩, xd_99⟩
set_option maxRecDepth 100000 in
theorem xm_100 : xmOK 100 (xIe 100) ((xrt[100]?).getD none) := ⟨⟨xTb_mem 706 rfl rfl, by decide +kernel, xpl_7, by decide +kernel⟩, xd_100⟩
set_option maxRecDepth 100000 in
theorem xm_101 : xmOK 101 (xIe 101) ((xrt[101]?).getD none) := ⟨⟨xTb_mem 302 rfl rfl, by decide +kernel, xpl_7, by decide +kernel⟩, xd_101⟩
set_option maxRecDepth 100000 in
theorem xm_102 : xmOK 102 (xIe 102) ((xrt[102]?).getD none) := ⟨⟨xTb_mem 710 rfl rfl, by decide +kernel, xpl_7, by decide +kernel⟩, xd_102⟩
set_option maxRecDepth 100000 in
theorem xm_103 : xmOK 103 (xIe 103) ((xrt[103]?).getD none) := ⟨⟨xTb_mem 740 rfl rfl, by decide +kernel, xpl_7, by decide +kernel⟩, xd_103⟩
set_option maxRecDepth 100000 in
theorem xm_104 : xmOK 104 (xIe 104) ((xrt[104]?).getD none) := ⟨⟨xTb_mem 752 rfl rfl, by decide +kernel, xpl_7, by decide +kernel⟩, xd_104⟩
set_option maxRecDepth 100000 in
theorem xm_105 : xmOK 105 (xIe 105) ((xrt[105]?).getD none) := ⟨⟨xTb_mem 760 rfl rfl, by decide +kernel, xpl_7, by decide +kernel⟩, xd_105⟩
set_option maxRecDepth 100000 in
theorem xm_106 : xmOK 106 (xIe 106) ((xrt[106]?).getD none) := ⟨⟨xTb_mem 768 rfl rfl, by decide +kernel, xpl_7, by decide +kernel⟩, xd_106⟩
set_option maxRecDepth 100000 in
theorem xm_107 : xmOK 107 (xIe 107) ((xrt[107]?).getD none) := ⟨⟨xTb_mem 772 rfl rfl, by decide +kernel, xpl_7, by decide +kernel⟩, xd_107⟩
set_option maxRecDepth 100000 in
theorem xm_108 : xmOK 108 (xIe 108) ((xrt[108]?).getD none) := ⟨⟨xTb_mem 776 rfl rfl, by decide +kernel, xpl_7, by decide +kernel⟩, xd_108⟩
set_option maxRecDepth 100000 in
theorem xm_109 : xmOK 109 (xIe 109) ((xrt[109]?).getD none) := ⟨⟨xTb_mem 277 rfl rfl, by decide +kernel, xpl_7, by decide +kernel⟩, xd_109⟩
set_option maxRecDepth 100000 in
theorem xm_110 : xmOK 110 (xIe 110) ((xrt[110]?).getD none) := ⟨⟨xTb_mem 280 rfl rfl, by decide +kernel, xpl_7, by decide +kernel⟩, xd_110⟩
set_option maxRecDepth 100000 in
theorem xm_111 : xmOK 111 (xIe 111) ((xrt[111]?).getD none) := ⟨⟨xTb_mem 357 rfl rfl, by decide +kernel, xpl_7, by decide +kernel⟩, xd_111⟩
set_option maxRecDepth 100000 in
theorem xm_112 : xmOK 112 (xIe 112) ((xrt[112]?).getD none) := ⟨⟨xTb_mem 600 rfl rfl, by decide +kernel, xpl_7, by decide +kernel⟩, xd_112⟩
set_option maxRecDepth 100000 in
theorem xm_113 : xmOK 113 (xIe 113) ((xrt[113]?).getD none) := ⟨⟨xTb_mem 713 rfl rfl, by decide +kernel, xpl_7, by decide +kernel⟩, xd_113⟩
set_option maxRecDepth 100000 in
theorem xm_114 : xmOK 114 (xIe 114) ((xrt[114]?).getD none) := ⟨⟨xTb_mem 716 rfl rfl, by decide +kernel, xpl_7, by decide +kernel⟩, xd_114⟩
set_option maxRecDepth 100000 in
theorem xm_115 : xmOK 115 (xIe 115) ((xrt[115]?).getD none) := ⟨⟨xTb_mem 364 rfl rfl, by decide +kernel, xpl_7, by decide +kernel⟩, xd_115⟩
set_option maxRecDepth 100000 in
theorem xm_116 : xmOK 116 (xIe 116) ((xrt[116]?).getD none) := ⟨⟨xTb_mem 533 rfl rfl, by decide +kernel, xpl_7, by decide +kernel⟩, xd_116⟩
set_option maxRecDepth 100000 in
theorem xm_117 : xmOK 117 (xIe 117) ((xrt[117]?).getD none) := ⟨⟨xTb_mem 561 rfl rfl, by decide +kernel, xpl_7, by decide +kernel⟩, xd_117⟩
set_option maxRecDepth 100000 in
theorem xm_118 : xmOK 118 (xIe 118) ((xrt[118]?).getD none) := ⟨⟨xTb_mem 478 rfl rfl, by decide +kernel, xpl_7, by decide +kernel⟩, xd_118⟩
set_option maxRecDepth 100000 in
theorem xm_119 : xmOK 119 (xIe 119) ((xrt[119]?).getD none) := ⟨⟨xTb_mem 607 rfl rfl, by decide +kernel, xpl_7, by decide +kernel⟩, xd_119⟩
set_option maxRecDepth 100000 in
theorem xm_120 : xmOK 120 (xIe 120) ((xrt[120]?).getD none) := ⟨⟨xTb_mem 783 rfl rfl, by decide +kernel, xpl_8, by decide +kernel⟩, xd_120⟩
set_option maxRecDepth 100000 in
theorem xm_121 : xmOK 121 (xIe 121) ((xrt[121]?).getD none) := ⟨⟨xTb_mem 920 rfl rfl, by decide +kernel, xpl_8, by decide +kernel⟩, xd_121⟩
set_option maxRecDepth 100000 in
theorem xm_122 : xmOK 122 (xIe 122) ((xrt[122]?).getD none) := ⟨⟨xTb_mem 915 rfl rfl, by decide +kernel, xpl_8, by decide +kernel⟩, xd_122⟩
set_option maxRecDepth 100000 in
theorem xm_123 : xmOK 123 (xIe 123) ((xrt[123]?).getD none) := ⟨⟨xTb_mem 926 rfl rfl, by decide +kernel, xpl_8, by decide +kernel⟩, xd_123⟩
set_option maxRecDepth 100000 in
theorem xm_124 : xmOK 124 (xIe 124) ((xrt[124]?).getD none) := ⟨⟨xTb_mem 930 rfl rfl, by decide +kernel, xpl_8, by decide +kernel⟩, xd_124⟩
set_option maxRecDepth 100000 in
theorem xm_125 : xmOK 125 (xIe 125) ((xrt[125]?).getD none) := ⟨⟨xTb_mem 969 rfl rfl, by decide +kernel, xpl_8, by decide +kernel⟩, xd_125⟩
set_option maxRecDepth 100000 in
theorem xm_126 : xmOK 126 (xIe 126) ((xrt[126]?).getD none) := ⟨⟨xTb_mem 934 rfl rfl, by decide +kernel, xpl_8, by decide +kernel⟩, xd_126⟩
set_option maxRecDepth 100000 in
theorem xm_127 : xmOK 127 (xIe 127) ((xrt[127]?).getD none) := ⟨⟨xTb_mem 981 rfl rfl, by decide +kernel, xpl_8, by decide +kernel⟩, xd_127⟩
set_option maxRecDepth 100000 in
theorem xm_128 : xmOK 128 (xIe 128) ((xrt[128]?).getD none) := ⟨⟨xTb_mem 977 rfl rfl, by decide +kernel, xpl_8, by decide +kernel⟩, xd_128⟩
set_option maxRecDepth 100000 in
theorem xm_129 : xmOK 129 (xIe 129) ((xrt[129]?).getD none) := ⟨⟨xTb_mem 985 rfl rfl, by decide +kernel, xpl_8, by decide +kernel⟩, xd_129⟩
set_option maxRecDepth 100000 in
theorem xm_130 : xmOK 130 (xIe 130) ((xrt[130]?).getD none) := ⟨⟨xTb_mem 993 rfl rfl, by decide +kernel, xpl_8, by decide +kernel⟩, xd_130⟩
set_option maxRecDepth 100000 in
theorem xm_131 : xmOK 131 (xIe 131) ((xrt[131]?).getD none) := ⟨⟨xTb_mem 938 rfl rfl, by decide +kernel, xpl_8, by decide +kernel⟩, xd_131⟩
set_option maxRecDepth 100000 in
theorem xm_132 : xmOK 132 (xIe 132) ((xrt[132]?).getD none) := ⟨⟨xTb_mem 942 rfl rfl, by decide +kernel, xpl_8, by decide +kernel⟩, xd_132⟩
set_option maxRecDepth 100000 in
theorem xm_133 : xmOK 133 (xIe 133) ((xrt[133]?).getD none) := ⟨⟨xTb_mem 912 rfl rfl, by decide +kernel, xpl_8, by decide +kernel⟩, xd_133⟩
set_option maxRecDepth 100000 in
theorem xm_134 : xmOK 134 (xIe 134) ((xrt[134]?).getD none) := ⟨⟨xTb_mem 946 rfl rfl, by decide +kernel, xpl_8, by decide +kernel⟩, xd_134⟩
set_option maxRecDepth 100000 in
theorem xm_135 : xmOK 135 (xIe 135) ((xrt[135]?).getD none) := ⟨⟨xTb_mem 950 rfl rfl, by decide +kernel, xpl_8, by decide +kernel⟩, xd_135⟩
set_option maxRecDepth 100000 in
theorem xm_136 : xmOK 136 (xIe 136) ((xrt[136]?).getD none) := ⟨⟨xTb_mem 954 rfl rfl, by decide +kernel, xpl_8, by decide +kernel⟩, xd_136⟩
set_option maxRecDepth 100000 in
theorem xm_137 : xmOK 137 (xIe 137) ((xrt[137]?).getD none) := ⟨⟨xTb_mem 959 rfl rfl, by decide +kernel, xpl_8, by decide +kernel⟩, xd_137⟩
set_option maxRecDepth 100000 in
theorem xm_138 : xmOK 138 (xIe 138) ((xrt[138]?).getD none) := ⟨⟨xTb_mem 965 rfl rfl, by decide +kernel, xpl_8, by decide +kernel⟩, xd_138⟩
set_option maxRecDepth 100000 in
theorem xm_139 : xmOK 139 (xIe 139) ((xrt[139]?).getD none) := ⟨⟨xTb_mem 989 rfl rfl, by decide +kernel, xpl_8, by decide +kernel⟩, xd_139⟩
set_option maxRecDepth 100000 in
theorem xm_140 : xmOK 140 (xIe 140) ((xrt[140]?).getD none) := ⟨⟨xTb_mem 973 rfl rfl, by decide +kernel, xpl_8, by decide +kernel⟩, xd_140⟩
set_option maxRecDepth 100000 in
theorem xm_141 : xmOK 141 (xIe 141) ((xrt[141]?).getD none) := ⟨⟨xTb_mem 997 rfl rfl, by decide +kernel, xpl_8, by decide +kernel⟩, xd_141⟩
set_option maxRecDepth 100000 in
theorem xm_142 : xmOK 142 (xIe 142) ((xrt[142]?).getD none) := ⟨⟨xTb_mem 1011 rfl rfl, by decide +kernel, xpl_8, by decide +kernel⟩, xd_142⟩
set_option maxRecDepth 100000 in
theorem xm_143 : xmOK 143 (xIe 143) ((xrt[143]?).getD none) := ⟨⟨xTb_mem 1017 rfl rfl, by decide +kernel, xpl_8, by decide +kernel⟩, xd_143⟩
set_option maxRecDepth 100000 in
theorem xm_144 : xmOK 144 (xIe 144) ((xrt[144]?).getD none) := ⟨⟨xTb_mem 1024 rfl rfl, by decide +kernel, xpl_8, by decide +kernel⟩, xd_144⟩
set_option maxRecDepth 100000 in
theorem xm_145 : xmOK 145 (xIe 145) ((xrt[145]?).getD none) := ⟨⟨xTb_mem 1021 rfl rfl, by decide +kernel, xpl_8, by decide +kernel⟩, xd_145⟩
set_option maxRecDepth 100000 in
theorem xm_146 : xmOK 146 (xIe 146) ((xrt[146]?).getD none) := ⟨⟨xTb_mem 1029 rfl rfl, by decide +kernel, xpl_8, by decide +kernel⟩, xd_146⟩
set_option maxRecDepth 100000 in
theorem xm_147 : xmOK 147 (xIe 147) ((xrt[147]?).getD none) := ⟨⟨xTb_mem 1007 rfl rfl, by decide +kernel, xpl_8, by decide +kernel⟩, xd_147⟩
set_option maxRecDepth 100000 in
theorem xm_148 : xmOK 148 (xIe 148) ((xrt[148]?).getD none) := ⟨⟨xTb_mem 1003 rfl rfl, by decide +kernel, xpl_8, by decide +kernel⟩, xd_148⟩
set_option maxRecDepth 100000 in
theorem xm_149 : xmOK 149 (xIe 149) ((xrt[149]?).getD none) := ⟨⟨xTb_mem 1064 rfl rfl, by decide +kernel, xpl_8, by decide +kernel⟩, xd_149⟩
set_option maxRecDepth 100000 in
theorem xm_150 : xmOK 150 (xIe 150) ((xrt[150]?).getD none) := ⟨⟨xTb_mem 1071 rfl rfl, by decide +kernel, xpl_8, by decide +kernel⟩, xd_150⟩
set_option maxRecDepth 100000 in
theorem xm_151 : xmOK 151 (xIe 151) ((xrt[151]?).getD none) := ⟨⟨xTb_mem 1074 rfl rfl, by decide +kernel, xpl_8, by decide +kernel⟩, xd_151⟩
set_option maxRecDepth 100000 in
theorem xm_152 : xmOK 152 (xIe 152) ((xrt[152]?).getD none) := ⟨⟨xTb_mem 1060 rfl rfl, by decide +kernel, xpl_8, by decide +kernel⟩, xd_152⟩
set_option maxRecDepth 100000 in
theorem xm_153 : xmOK 153 (xIe 153) ((xrt[153]?).getD none) := ⟨⟨xTb_mem 1056 rfl rfl, by decide +kernel, xpl_8, by decide +kernel⟩, xd_153⟩
set_option maxRecDepth 100000 in
theorem xm_154 : xmOK 154 (xIe 154) ((xrt[154]?).getD none) := ⟨⟨xTb_mem 1067 rfl rfl, by decide +kernel, xpl_8, by decide +kernel⟩, xd_154⟩
set_option maxRecDepth 100000 in
theorem xm_155 : xmOK 155 (xIe 155) ((xrt[155]?).getD none) := ⟨⟨xTb_mem 1052 rfl rfl, by decide +kernel, xpl_8, by decide +kernel⟩, xd_155⟩
set_option maxRecDepth 100000 in
theorem xm_156 : xmOK 156 (xIe 156) ((xrt[156]?).getD none) := ⟨⟨xTb_mem 1120 rfl rfl, by decide +kernel, xpl_8, by decide +kernel⟩, xd_156⟩
set_option maxRecDepth 100000 in
theorem xm_157 : xmOK 157 (xIe 157) ((xrt[157]?).getD none) := ⟨⟨xTb_mem 1078 rfl rfl, by decide +kernel, xpl_8, by decide +kernel⟩, xd_157⟩
set_option maxRecDepth 100000 in
theorem xm_158 : xmOK 158 (xIe 158) ((xrt[158]?).getD none) := ⟨⟨xTb_mem 1048 rfl rfl, by decide +kernel, xpl_8, by decide +kernel⟩, xd_158⟩
set_option maxRecDepth 100000 in
theorem xm_159 : xmOK 159 (xIe 159) ((xrt[159]?).getD none) := ⟨⟨xTb_mem 1140 rfl rfl, by decide +kernel, xpl_8, by decide +kernel⟩, xd_159⟩
set_option maxRecDepth 100000 in
theorem xm_160 : xmOK 160 (xIe 160) ((xrt[160]?).getD none) := ⟨⟨xTb_mem 1086 rfl rfl, by decide +kernel, xpl_8, by decide +kernel⟩, xd_160⟩
set_option maxRecDepth 100000 in
theorem xm_161 : xmOK 161 (xIe 161) ((xrt[161]?).getD none) := ⟨⟨xTb_mem 1094 rfl rfl, by decide +kernel, xpl_8, by decide +kernel⟩, xd_161⟩
set_option maxRecDepth 100000 in
theorem xm_162 : xmOK 162 (xIe 162) ((xrt[162]?).getD none) := ⟨⟨xTb_mem 1090 rfl rfl, by decide +kernel, xpl_8, by decide +kernel⟩, xd_162⟩
set_option maxRecDepth 100000 in
theorem xm_163 : xmOK 163 (xIe 163) ((xrt[163]?).getD none) := ⟨⟨xTb_mem 1098 rfl rfl, by decide +kernel, xpl_8, by decide +kernel⟩, xd_163⟩
set_option maxRecDepth 100000 in
theorem xm_164 : xmOK 164 (xIe 164) ((xrt[164]?).getD none) := ⟨⟨xTb_mem 1082 rfl rfl, by decide +kernel, xpl_8, by decide +kernel⟩, xd_164⟩
set_option maxRecDepth 100000 in
theorem xm_165 : xmOK 165 (xIe 165) ((xrt[165]?).getD none) := ⟨⟨xTb_mem 1101 rfl rfl, by decide +kernel, xpl_8, by decide +kernel⟩, xd_165⟩
set_option maxRecDepth 100000 in
theorem xm_166 : xmOK 166 (xIe 166) ((xrt[166]?).getD none) := ⟨⟨xTb_mem 1116 rfl rfl, by decide +kernel, xpl_8, by decide +kernel⟩, xd_166⟩
set_option maxRecDepth 100000 in
theorem xm_167 : xmOK 167 (xIe 167) ((xrt[167]?).getD none) := ⟨⟨xTb_mem 1136 rfl rfl, by decide +kernel, xpl_8, by decide +kernel⟩, xd_167⟩
set_option maxRecDepth 100000 in
theorem xm_168 : xmOK 168 (xIe 168) ((xrt[168]?).getD none) := ⟨⟨xTb_mem 1108 rfl rfl, by decide +kernel, xpl_8, by decide +kernel⟩, xd_168⟩
set_option maxRecDepth 100000 in
theorem xm_169 : xmOK 169 (xIe 169) ((xrt[169]?).getD none) := ⟨⟨xTb_mem 1105 rfl rfl, by decide +kernel, xpl_8, by decide +kernel⟩, xd_169⟩
set_option maxRecDepth 100000 in
theorem xm_170 : xmOK 170 (xIe 170) ((xrt[170]?).getD none) := ⟨⟨xTb_mem 1044 rfl rfl, by decide +kernel, xpl_8, by decide +kernel⟩, xd_170⟩
set_option maxRecDepth 100000 in
theorem xm_171 : xmOK 171 (xIe 171) ((xrt[171]?).getD none) := ⟨⟨xTb_mem 1112 rfl rfl, by decide +kernel, xpl_8, by decide +kernel⟩, xd_171⟩
set_option maxRecDepth 100000 in
theorem xm_172 : xmOK 172 (xIe 172) ((xrt[172]?).getD none) := ⟨⟨xTb_mem 1040 rfl rfl, by decide +kernel, xpl_8, by decide +kernel⟩, xd_172⟩
set_option maxRecDepth 100000 in
theorem xm_173 : xmOK 173 (xIe 173) ((xrt[173]?).getD none) := ⟨⟨xTb_mem 1124 rfl rfl, by decide +kernel, xpl_8, by decide +kernel⟩, xd_173⟩
set_option maxRecDepth 100000 in
theorem xm_174 : xmOK 174 (xIe 174) ((xrt[174]?).getD none) := ⟨⟨xTb_mem 1128 rfl rfl, by decide +kernel, xpl_8, by decide +kernel⟩, xd_174⟩
set_option maxRecDepth 100000 in
theorem xm_175 : xmOK 175 (xIe 175) ((xrt[175]?).getD none) := ⟨⟨xTb_mem 1033 rfl rfl, by decide +kernel, xpl_8, by decide +kernel⟩, xd_175⟩
set_option maxRecDepth 100000 in
theorem xm_176 : xmOK 176 (xIe 176) ((xrt[176]?).getD none) := ⟨⟨xTb_mem 1144 rfl rfl, by decide +kernel, xpl_8, by decide +kernel⟩, xd_176⟩
set_option maxRecDepth 100000 in
theorem xm_177 : xmOK 177 (xIe 177) ((xrt[177]?).getD none) := ⟨⟨xTb_mem 1132 rfl rfl, by decide +kernel, xpl_8, by decide +kernel⟩, xd_177⟩
set_option maxRecDepth 100000 in
theorem xm_178 : xmOK 178 (xIe 178) ((xrt[178]?).getD none) := ⟨⟨xTb_mem 1148 rfl rfl, by decide +kernel, xpl_8, by decide +kernel⟩, xd_178⟩
set_option maxRecDepth 100000 in
theorem xm_179 : xmOK 179 (xIe 179) ((xrt[179]?).getD none) := ⟨⟨xTb_mem 1152 rfl rfl, by decide +kernel, xpl_8, by decide +kernel⟩, xd_179⟩
set_option maxRecDepth 100000 in
theorem xm_180 : xmOK 180 (xIe 180) ((xrt[180]?).getD none) := ⟨⟨xTb_mem 1156 rfl rfl, by decide +kernel, xpl_8, by decide +kernel⟩, xd_180⟩
set_option maxRecDepth 100000 in
theorem xm_181 : xmOK 181 (xIe 181) ((xrt[181]?).getD none) := ⟨⟨xTb_mem 1161 rfl rfl, by decide +kernel, xpl_8, by decide +kernel⟩, xd_181⟩
set_option maxRecDepth 100000 in
theorem xm_182 : xmOK 182 (xIe 182) ((xrt[182]?).getD none) := ⟨⟨xTb_mem 1167 rfl rfl, by decide +kernel, xpl_8, by decide +kernel⟩, xd_182⟩
set_option maxRecDepth 100000 in
theorem xm_183 : xmOK 183 (xIe 183) ((xrt[183]?).getD none) := ⟨⟨xTb_mem 1172 rfl rfl, by decide +kernel, xpl_8, by decide +kernel⟩, xd_183⟩
set_option maxRecDepth 100000 in
theorem xm_184 : xmOK 184 (xIe 184) ((xrt[184]?).getD none) := ⟨⟨xTb_mem 1180 rfl rfl, by decide +kernel, xpl_8, by decide +kernel⟩, xd_184⟩
set_option maxRecDepth 100000 in
theorem xm_185 : xmOK 185 (xIe 185) ((xrt[185]?).getD none) := ⟨⟨xTb_mem 1184 rfl rfl, by decide +kernel, xpl_8, by decide +kernel⟩, xd_185⟩
set_option maxRecDepth 100000 in
theorem xm_186 : xmOK 186 (xIe 186) ((xrt[186]?).getD none) := ⟨⟨xTb_mem 1188 rfl rfl, by decide +kernel, xpl_8, by decide +kernel⟩, xd_186⟩
set_option maxRecDepth 100000 in
theorem xm_187 : xmOK 187 (xIe 187) ((xrt[187]?).getD none) := ⟨⟨xTb_mem 1192 rfl rfl, by decide +kernel, xpl_8, by decide +kernel⟩, xd_187⟩
set_option maxRecDepth 100000 in
theorem xm_188 : xmOK 188 (xIe 188) ((xrt[188]?).getD none) := ⟨⟨xTb_mem 1199 rfl rfl, by decide +kernel, xpl_8, by decide +kernel⟩, xd_188⟩
set_option maxRecDepth 100000 in
theorem xm_189 : xmOK 189 (xIe 189) ((xrt[189]?).getD none) := ⟨⟨xTb_mem 1204 rfl rfl, by decide +kernel, xpl_8, by decide +kernel⟩, xd_189⟩
set_option maxRecDepth 100000 in
theorem xm_190 : xmOK 190 (xIe 190) ((xrt[190]?).getD none) := ⟨⟨xTb_mem 1227 rfl rfl, by decide +kernel, xpl_8, by decide +kernel⟩, xd_190⟩
set_option maxRecDepth 100000 in
theorem xm_191 : xmOK 191 (xIe 191) ((xrt[191]?).getD none) := ⟨⟨xTb_mem 1196 rfl rfl, by decide +kernel, xpl_8, by decide +kernel⟩, xd_191⟩
set_option maxRecDepth 100000 in
theorem xm_192 : xmOK 192 (xIe 192) ((xrt[192]?).getD none) := ⟨⟨xTb_mem 1208 rfl rfl, by decide +kernel, xpl_8, by decide +kernel⟩, xd_192⟩
set_option maxRecDepth 100000 in
theorem xm_193 : xmOK 193 (xIe 193) ((xrt[193]?).getD none) := ⟨⟨xTb_mem 1212 rfl rfl, by decide +kernel, xpl_8, by decide +kernel⟩, xd_193⟩
set_option maxRecDepth 100000 in
theorem xm_194 : xmOK 194 (xIe 194) ((xrt[194]?).getD none) := ⟨⟨xTb_mem 1216 rfl rfl, by decide +kernel, xpl_8, by decide +kernel⟩, xd_194⟩
set_option maxRecDepth 100000 in
theorem xm_195 : xmOK 195 (xIe 195) ((xrt[195]?).getD none) := ⟨⟨xTb_mem 1220 rfl rfl, by decide +kernel, xpl_8, by decide +kernel⟩, xd_195⟩
set_option maxRecDepth 100000 in
theorem xm_196 : xmOK 196 (xIe 196) ((xrt[196]?).getD none) := ⟨⟨xTb_mem 1224 rfl rfl, by decide +kernel, xpl_8, by decide +kernel⟩, xd_196⟩
set_option maxRecDepth 100000 in
theorem xm_197 : xmOK 197 (xIe 197) ((xrt[197]?).getD none) := ⟨⟨xTb_mem 1231 rfl rfl, by decide +kernel, xpl_8, by decide +kernel⟩, xd_197⟩
set_option maxRecDepth 100000 in
theorem xm_198 : xmOK 198 (xIe 198) ((xrt[198]?).getD none) := ⟨⟨xTb_mem 295 rfl rfl, by decide +kernel, xpl_10, by decide +kernel⟩, xd_198⟩
set_option maxRecDepth 100000 in
theorem xm_199 : xmOK 199 (xIe 199) ((xrt[199]?).getD none) := ⟨⟨xTb_mem 548 rfl rfl, by decide +kernel, xpl_11, by decide +kernel⟩, xd_199⟩
def xMok (j : Nat) : Prop := ∀ I rt, xtab[j]? = some I → xrt[j]? = some rt → xmOK j I rt
theorem xMok_of {j : Nat} (h : xmOK j (xIe j) ((xrt[j]?).getD none)) : xMok j := by
  intro I rt h1 h2
  have a : xIe j = I := by simp [xIe, h1]
  rw [a, h2] at h
  exact h
theorem xm_ok : ∀ j, xMok j
  | 0 => xMok_of xm_0
  | 1 => xMok_of xm_1
  | 2 => xMok_of xm_2
  | 3 => xMok_of xm_3
  | 4 => xMok_of xm_4
  | 5 => xMok_of xm_5
  | 6 => xMok_of xm_6
  | 7 => xMok_of xm_7
  | 8 => xMok_of xm_8
  | 9 => xMok_of xm_9
  | 10 => xMok_of xm_10
  | 11 => xMok_of xm_11
  | 12 => xMok_of xm_12
  | 13 => xMok_of xm_13
  | 14 => xMok_of xm_14
  | 15 => xMok_of xm_15
  | 16 => xMok_of xm_16
  | 17 => xMok_of xm_17
  | 18 => xMok_of xm_18
  | 19 => xMok_of xm_19
  | 20 => xMok_of xm_20
  | 21 => xMok_of xm_21
  | 22 => xMok_of xm_22
  | 23 => xMok_of xm_23
  | 24 => xMok_of xm_24
  | 25 => xMok_of xm_25
  | 26 => xMok_of xm_26
  | 27 => xMok_of xm_27
  | 28 => xMok_of xm_28
  | 29 => xMok_of xm_29
  | 30 => xMok_of xm_30
  | 31 => xMok_of xm_31
  | 32 => xMok_of xm_32
  | 33 => xMok_of xm_33
  | 34 => xMok_of xm_34
  | 35 => xMok_of xm_35
  | 36 => xMok_of xm_36
  | 37 => xMok_of xm_37
  | 38 => xMok_of xm_38
  | 39 => xMok_of xm_39
  | 40 => xMok_of xm_40
  | 41 => xMok_of xm_41
  | 42 => xMok_of xm_42
  | 43 => xMok_of xm_43
  | 44 => xMok_of xm_44
  | 45 => xMok_of xm_45
  | 46 => xMok_of xm_46
  | 47 => xMok_of xm_47
  | 48 => xMok_of xm_48
  | 49 => xMok_of xm_49
  | 50 => xMok_of xm_50
  | 51 => xMok_of xm_51
  | 52 => xMok_of xm_52
  | 53 => xMok_of xm_53
  | 54 => xMok_of xm_54
  | 55 => xMok_of xm_55
  | 56 => xMok_of xm_56
  | 57 => xMok_of xm_57
  | 58 => xMok_of xm_58
  | 59 => xMok_of xm_59
  | 60 => xMok_of xm_60
  | 61 => xMok_of xm_61
  | 62 => xMok_of xm_62
  | 63 => xMok_of xm_63
  | 64 => xMok_of xm_64
  | 65 => xMok_of xm_65
  | 66 => xMok_of xm_66
  | 67 => xMok_of xm_67
  | 68 => xMok_of xm_68
  | 69 => xMok_of xm_69
  | 70 => xMok_of xm_70
  | 71 => xMok_of xm_71
  | 72 => xMok_of xm_72
  | 73 => xMok_of xm_73
  | 74 => xMok_of xm_74
  | 75 => xMok_of xm_75
  | 76 => xMok_of xm_76
  | 77 => xMok_of xm_77
  | 78 => xMok_of xm_78
  | 79 => xMok_of xm_79
  | 80 => xMok_of xm_80
  | 81 => xMok_of xm_81
  | 82 => xMok_of xm_82
  | 83 => xMok_of xm_83
  | 84 => xMok_of xm_84
  | 85 => xMok_of xm_85
  | 86 => xMok_of xm_86
  | 87 => xMok_of xm_87
  | 88 => xMok_of xm_88
  | 89 => xMok_of xm_89
  | 90 => xMok_of xm_90
  | 91 => xMok_of xm_91
  | 92 => xMok_of xm_92
  | 93 => xMok_of xm_93
  | 94 => xMok_of xm_94
  | 95 => xMok_of xm_95
  | 96 => xMok_of xm_96
  | 97 => xMok_of xm_97
  | 98 => xMok_of xm_98
  | 99 => xMok_of xm_99
  | 100 => xMok_of xm_100
  | 101 => xMok_of xm_101
  | 102 => xMok_of xm_102
  | 103 => xMok_of xm_103
  | 104 => xMok_of xm_104
  | 105 => xMok_of xm_105
  | 106 => xMok_of xm_106
  | 107 => xMok_of xm_107
  | 108 => xMok_of xm_108
  | 109 => xMok_of xm_109
  | 110 => xMok_of xm_110
  | 111 => xMok_of xm_111
  | 112 => xMok_of xm_112
  | 113 => xMok_of xm_113
  | 114 => xMok_of xm_114
  | 115 => xMok_of xm_115
  | 116 => xMok_of xm_116
  | 117 => xMok_of xm_117
  | 118 => xMok_of xm_118
  | 119 => xMok_of xm_119
  | 120 => xMok_of xm_120
  | 121 => xMok_of xm_121
  | 122 => xMok_of xm_122
  | 123 => xMok_of xm_123
  | 124 => xMok_of xm_124
  | 125 => xMok_of xm_125
  | 126 => xMok_of xm_126
  | 127 => xMok_of xm_127
  | 128 => xMok_of xm_128
  | 129 => xMok_of xm_129
  | 130 => xMok_of xm_130
  | 131 => xMok_of xm_131
  | 132 => xMok_of xm_132
  | 133 => xMok_of xm_133
  | 134 => xMok_of xm_134
  | 135 => xMok_of xm_135
  | 136 => xMok_of xm_136
  | 137 => xMok_of xm_137
  | 138 => xMok_of xm_138
  | 139 => xMok_of xm_139
  | 140 => xMok_of xm_140
  | 141 => xMok_of xm_141
  | 142 => xMok_of xm_142
  | 143 => xMok_of xm_143
  | 144 => xMok_of xm_144
  | 145 => xMok_of xm_145
  | 146 => xMok_of xm_146
  | 147 => xMok_of xm_147
  | 148 => xMok_of xm_148
  | 149 => xMok_of xm_149
  | 150 => xMok_of xm_150
  | 151 => xMok_of xm_151
  | 152 => xMok_of xm_152
  | 153 => xMok_of xm_153
  | 154 => xMok_of xm_154
  | 155 => xMok_of xm_155
  | 156 => xMok_of xm_156
  | 157 => xMok_of xm_157
  | 158 => xMok_of xm_158
  | 159 => xMok_of xm_159
  | 160 => xMok_of xm_160
  | 161 => xMok_of xm_161
  | 162 => xMok_of xm_162
  | 163 => xMok_of xm_163
  | 164 => xMok_of xm_164
  | 165 => xMok_of xm_165
  | 166 => xMok_of xm_166
  | 167 => xMok_of xm_167
  | 168 => xMok_of xm_168
  | 169 => xMok_of xm_169
  | 170 => xMok_of xm_170
  | 171 => xMok_of xm_171
  | 172 => xMok_of xm_172
  | 173 => xMok_of xm_173
  | 174 => xMok_of xm_174
  | 175 => xMok_of xm_175
  | 176 => xMok_of xm_176
  | 177 => xMok_of xm_177
  | 178 => xMok_of xm_178
  | 179 => xMok_of xm_179
  | 180 => xMok_of xm_180
  | 181 => xMok_of xm_181
  | 182 => xMok_of xm_182
  | 183 => xMok_of xm_183
  | 184 => xMok_of xm_184
  | 185 => xMok_of xm_185
  | 186 => xMok_of xm_186
  | 187 => xMok_of xm_187
  | 188 => xMok_of xm_188
  | 189 => xMok_of xm_189
  | 190 => xMok_of xm_190
  | 191 => xMok_of xm_191
  | 192 => xMok_of xm_192
  | 193 => xMok_of xm_193
  | 194 => xMok_of xm_194
  | 195 => xMok_of xm_195
  | 196 => xMok_of xm_196
  | 197 => xMok_of xm_197
  | 198 => xMok_of xm_198
  | 199 => xMok_of xm_199
  | j + 200 => fun I rt h => absurd h (by rw [show xtab[j + 200]? = none from List.getElem?_eq_none (by show xtab.length ≤ _; rw [show xtab.length = 200 from by decide +kernel]; omega)]; simp)
def xsite (own ix k j na : Nat) : Prop := match k with
  | 0 => Cond.methodLink (xR own) ix (xY j) ∈ xTb ∧ Cond.instanceMethod (xY j) ∈ xTb ∧ Cond.selects (xY j).cls (xY j) (xY j) ∈ xTb ∧ (parseMethodDescriptor (xY j).desc).map (fun d => d.parameters.length + 1) = some na
  | 1 => Cond.methodLink (xR own) ix (xY j) ∈ xTb ∧ Cond.static (xY j) ∈ xTb ∧ (parseMethodDescriptor (xY j).desc).map (fun d => d.parameters.length) = some na
  | 2 => Cond.methodLinkNest (xR own) ix (xY j) "EvenErrors" ∈ lw_tbl ∧ Cond.static (xY j) ∈ xTb ∧ (parseMethodDescriptor (xY j).desc).map (fun d => d.parameters.length) = some na
  | 3 => Cond.methodLink (xR own) ix (xY j) ∈ xTb ∧ Cond.instanceMethod (xY j) ∈ xTb ∧ (xY j).name = "<init>" ∧ xrt[j]? = some none ∧ (parseMethodDescriptor (xY j).desc).map (fun d => d.parameters.length + 1) = some na
  | 4 => Cond.methodLinkNest (xR own) ix (xY j) "EvenErrors" ∈ lw_tbl ∧ Cond.instanceMethod (xY j) ∈ xTb ∧ (xY j).name = "<init>" ∧ xrt[j]? = some none ∧ (parseMethodDescriptor (xY j).desc).map (fun d => d.parameters.length + 1) = some na
  | 5 => Cond.methodLink (xR own) ix objectInit ∈ xTb
  | 6 => Cond.methodLink (xR own) ix arraycopyName ∈ xTb
  | 7 => Cond.methodLink (xR own) ix Lib.Math.abs.name ∈ xTb
  | 8 => Cond.methodLink (xR own) ix Lib.MathLoose.abs_long.x ∈ xTb
  | 9 => Cond.methodLink (xR own) ix Lib.Math.min.name ∈ xTb
  | _ => False
theorem xobj : Cond.instanceMethod objectInit ∈ xTb ∧ Cond.code objectInit ⟨#[0xb1]⟩ 1 none ∈ xTb := ⟨(xTb_mem 20 (by decide +kernel) rfl), (xTb_mem 21 (by decide +kernel) rfl)⟩
theorem xmath_absint : Cond.static Lib.Math.abs.name ∈ xTb ∧ Cond.code Lib.Math.abs.name Lib.Math.abs.code 1 (some .int) ∈ xTb := ⟨(xTb_mem 370 (by decide +kernel) rfl), xTb_mem 371 (by decide +kernel) rfl⟩
theorem xmath_abslong : Cond.static Lib.MathLoose.abs_long.x ∈ xTb ∧ Cond.code Lib.MathLoose.abs_long.x Lib.MathLoose.abs_long.code 2 (some .long) ∈ xTb := ⟨(xTb_mem 480 (by decide +kernel) rfl), xTb_mem 481 (by decide +kernel) rfl⟩
theorem xmath_minint : Cond.static Lib.Math.min.name ∈ xTb ∧ Cond.code Lib.Math.min.name Lib.Math.min.code 2 (some .int) ∈ xTb := ⟨(xTb_mem 746 (by decide +kernel) rfl), xTb_mem 747 (by decide +kernel) rfl⟩
theorem xmathI : Cond.initialized "java/lang/Math" ∈ xTb := (xTb_mem 12 (by decide +kernel) rfl)
theorem xacp : Cond.native arraycopyName ∈ xTb ∧ Cond.static arraycopyName ∈ xTb ∧ Cond.initialized "java/lang/System" ∈ xTb := ⟨(xTb_mem 317 (by decide +kernel) rfl), (xTb_mem 316 (by decide +kernel) rfl), (xTb_mem 11 (by decide +kernel) rfl)⟩
theorem xsi_0_3 : xsite 0 3 5 0 1 := (xTb_mem 106 (by decide +kernel) rfl)
theorem xsi_0_11 : xsite 0 11 4 12 1 := ⟨(List.mem_append_right _ (List.mem_of_getElem? (i := 109) (by decide +kernel))), (xTb_mem 110 (by decide +kernel) rfl), by decide +kernel, by decide +kernel, by decide +kernel⟩
theorem xsi_0_51 : xsite 0 51 0 51 1 := ⟨(xTb_mem 462 (by decide +kernel) rfl), (xTb_mem 290 (by decide +kernel) rfl), (xTb_mem 291 (by decide +kernel) rfl), by decide +kernel⟩
theorem xsi_0_55 : xsite 0 55 0 16 2 := ⟨(xTb_mem 463 (by decide +kernel) rfl), (xTb_mem 464 (by decide +kernel) rfl), (xTb_mem 465 (by decide +kernel) rfl), by decide +kernel⟩
theorem xsi_0_59 : xsite 0 59 0 52 1 := ⟨(xTb_mem 511 (by decide +kernel) rfl), (xTb_mem 512 (by decide +kernel) rfl), (xTb_mem 513 (by decide +kernel) rfl), by decide +kernel⟩
theorem xsi_0_62 : xsite 0 62 0 53 1 := ⟨(xTb_mem 515 (by decide +kernel) rfl), (xTb_mem 383 (by decide +kernel) rfl), (xTb_mem 384 (by decide +kernel) rfl), by decide +kernel⟩
theorem xsi_0_65 : xsite 0 65 1 3 2 := ⟨(xTb_mem 516 (by decide +kernel) rfl), (xTb_mem 517 (by decide +kernel) rfl), by decide +kernel⟩
theorem xsi_0_69 : xsite 0 69 0 15 3 := ⟨(xTb_mem 520 (by decide +kernel) rfl), (xTb_mem 521 (by decide +kernel) rfl), (xTb_mem 522 (by decide +kernel) rfl), by decide +kernel⟩
theorem xsi_0_73 : xsite 0 73 0 17 2 := ⟨(xTb_mem 526 (by decide +kernel) rfl), (xTb_mem 483 (by decide +kernel) rfl), (xTb_mem 484 (by decide +kernel) rfl), by decide +kernel⟩
theorem xsi_0_76 : xsite 0 76 0 4 2 := ⟨(xTb_mem 527 (by decide +kernel) rfl), (xTb_mem 529 (by decide +kernel) rfl), (xTb_sel (q := (xY 4, 9)) (List.mem_of_getElem? (i := 16) (by decide +kernel))), by decide +kernel⟩
theorem xsi_0_80 : xsite 0 80 2 116 1 := ⟨(List.mem_append_right _ (List.mem_of_getElem? (i := 531) (by decide +kernel))), (xTb_mem 532 (by decide +kernel) rfl), by decide +kernel⟩
theorem xsi_0_84 : xsite 0 84 0 25 4 := ⟨(xTb_mem 534 (by decide +kernel) rfl), (xTb_mem 535 (by decide +kernel) rfl), (xTb_mem 536 (by decide +kernel) rfl), by decide +kernel⟩
theorem xsi_0_88 : xsite 0 88 0 5 4 := ⟨(xTb_mem 549 (by decide +kernel) rfl), (xTb_mem 551 (by decide +kernel) rfl), (xTb_sel (q := (xY 5, 9)) (List.mem_of_getElem? (i := 17) (by decide +kernel))), by decide +kernel⟩
theorem xsi_0_91 : xsite 0 91 0 2 5 := ⟨(xTb_mem 562 (by decide +kernel) rfl), (xTb_mem 564 (by decide +kernel) rfl), (xTb_sel (q := (xY 2, 9)) (List.mem_of_getElem? (i := 18) (by decide +kernel))), by decide +kernel⟩
theorem xsi_0_102 : xsite 0 102 1 198 1 := ⟨(xTb_mem 519 (by decide +kernel) rfl), (xTb_mem 294 (by decide +kernel) rfl), by decide +kernel⟩
theorem xsi_0_107 : xsite 0 107 2 115 1 := ⟨(List.mem_append_right _ (List.mem_of_getElem? (i := 553) (by decide +kernel))), (xTb_mem 363 (by decide +kernel) rfl), by decide +kernel⟩
theorem xsi_0_110 : xsite 0 110 0 24 3 := ⟨(xTb_mem 554 (by decide +kernel) rfl), (xTb_mem 555 (by decide +kernel) rfl), (xTb_mem 556 (by decide +kernel) rfl), by decide +kernel⟩
theorem xsi_0_114 : xsite 0 114 0 21 2 := ⟨(xTb_mem 558 (by decide +kernel) rfl), (xTb_mem 490 (by decide +kernel) rfl), (xTb_mem 491 (by decide +kernel) rfl), by decide +kernel⟩
theorem xsi_0_117 : xsite 0 117 2 117 1 := ⟨(List.mem_append_right _ (List.mem_of_getElem? (i := 559) (by decide +kernel))), (xTb_mem 560 (by decide +kernel) rfl), by decide +kernel⟩
theorem xsi_0_120 : xsite 0 120 0 6 1 := ⟨(xTb_mem 578 (by decide +kernel) rfl), (xTb_mem 579 (by decide +kernel) rfl), (xTb_mem 580 (by decide +kernel) rfl), by decide +kernel⟩
theorem xsi_0_123 : xsite 0 123 0 9 2 := ⟨(xTb_mem 586 (by decide +kernel) rfl), (xTb_mem 575 (by decide +kernel) rfl), (xTb_mem 576 (by decide +kernel) rfl), by decide +kernel⟩
theorem xsi_0_126 : xsite 0 126 0 23 3 := ⟨(xTb_mem 587 (by decide +kernel) rfl), (xTb_mem 539 (by decide +kernel) rfl), (xTb_mem 540 (by decide +kernel) rfl), by decide +kernel⟩
theorem xsi_0_130 : xsite 0 130 0 54 2 := ⟨(xTb_mem 588 (by decide +kernel) rfl), (xTb_mem 366 (by decide +kernel) rfl), (xTb_mem 367 (by decide +kernel) rfl), by decide +kernel⟩
theorem xsi_0 : ∀ q ∈ xinvT 0, xsite 0 q.1 q.2.1 q.2.2.1 q.2.2.2 := List.forall_mem_cons.mpr ⟨xsi_0_3, List.forall_mem_cons.mpr ⟨xsi_0_11, List.forall_mem_cons.mpr ⟨xsi_0_51, List.forall_mem_cons.mpr ⟨xsi_0_55, List.forall_mem_cons.mpr ⟨xsi_0_59, List.forall_mem_cons.mpr ⟨xsi_0_62, List.forall_mem_cons.mpr ⟨xsi_0_65, List.forall_mem_cons.mpr ⟨xsi_0_69, List.forall_mem_cons.mpr ⟨xsi_0_73, List.forall_mem_cons.mpr ⟨xsi_0_76, List.forall_mem_cons.mpr ⟨xsi_0_80, List.forall_mem_cons.mpr ⟨xsi_0_84, List.forall_mem_cons.mpr ⟨xsi_0_88, List.forall_mem_cons.mpr ⟨xsi_0_91, List.forall_mem_cons.mpr ⟨xsi_0_102, List.forall_mem_cons.mpr ⟨xsi_0_107, List.forall_mem_cons.mpr ⟨xsi_0_110, List.forall_mem_cons.mpr ⟨xsi_0_114, List.forall_mem_cons.mpr ⟨xsi_0_117, List.forall_mem_cons.mpr ⟨xsi_0_120, List.forall_mem_cons.mpr ⟨xsi_0_123, List.forall_mem_cons.mpr ⟨xsi_0_126, List.forall_mem_cons.mpr ⟨xsi_0_130, fun _ h => absurd h List.not_mem_nil⟩⟩⟩⟩⟩⟩⟩⟩⟩⟩⟩⟩⟩⟩⟩⟩⟩⟩⟩⟩⟩⟩⟩
theorem xsi_1_3 : xsite 1 3 5 0 1 := (xTb_mem 112 (by decide +kernel) rfl)
theorem xsi_1_47 : xsite 1 47 2 118 2 := ⟨(List.mem_append_right _ (List.mem_of_getElem? (i := 476) (by decide +kernel))), (xTb_mem 477 (by decide +kernel) rfl), by decide +kernel⟩
theorem xsi_1_56 : xsite 1 56 0 13 2 := ⟨(xTb_mem 467 (by decide +kernel) rfl), (xTb_mem 469 (by decide +kernel) rfl), (xTb_sel (q := (xY 13, 10)) (List.mem_of_getElem? (i := 11) (by decide +kernel))), by decide +kernel⟩
theorem xsi_1_60 : xsite 1 60 0 14 1 := ⟨(xTb_mem 471 (by decide +kernel) rfl), (xTb_mem 473 (by decide +kernel) rfl), (xTb_sel (q := (xY 14, 10)) (List.mem_of_getElem? (i := 12) (by decide +kernel))), by decide +kernel⟩
theorem xsi_1_63 : xsite 1 63 0 54 2 := ⟨(xTb_mem 486 (by decide +kernel) rfl), (xTb_mem 366 (by decide +kernel) rfl), (xTb_mem 367 (by decide +kernel) rfl), by decide +kernel⟩
theorem xsi_1_67 : xsite 1 67 0 47 2 := ⟨(xTb_mem 487 (by decide +kernel) rfl), (xTb_mem 286 (by decide +kernel) rfl), (xTb_mem 287 (by decide +kernel) rfl), by decide +kernel⟩
theorem xsi_1_70 : xsite 1 70 0 45 2 := ⟨(xTb_mem 488 (by decide +kernel) rfl), (xTb_mem 335 (by decide +kernel) rfl), (xTb_mem 336 (by decide +kernel) rfl), by decide +kernel⟩
theorem xsi_1_74 : xsite 1 74 8 0 1 := (xTb_mem 524 (by decide +kernel) rfl)
theorem xsi_1_80 : xsite 1 80 1 198 1 := ⟨(xTb_mem 525 (by decide +kernel) rfl), (xTb_mem 294 (by decide +kernel) rfl), by decide +kernel⟩
theorem xsi_1_88 : xsite 1 88 0 17 2 := ⟨(xTb_mem 482 (by decide +kernel) rfl), (xTb_mem 483 (by decide +kernel) rfl), (xTb_mem 484 (by decide +kernel) rfl), by decide +kernel⟩
theorem xsi_1_92 : xsite 1 92 0 21 2 := ⟨(xTb_mem 489 (by decide +kernel) rfl), (xTb_mem 490 (by decide +kernel) rfl), (xTb_mem 491 (by decide +kernel) rfl), by decide +kernel⟩
theorem xsi_1_95 : xsite 1 95 0 56 2 := ⟨(xTb_mem 493 (by decide +kernel) rfl), (xTb_mem 494 (by decide +kernel) rfl), (xTb_mem 495 (by decide +kernel) rfl), by decide +kernel⟩
theorem xsi_1_98 : xsite 1 98 7 0 1 := (xTb_mem 498 (by decide +kernel) rfl)
theorem xsi_1_100 : xsite 1 100 0 18 3 := ⟨(xTb_mem 499 (by decide +kernel) rfl), (xTb_mem 501 (by decide +kernel) rfl), (xTb_sel (q := (xY 18, 10)) (List.mem_of_getElem? (i := 13) (by decide +kernel))), by decide +kernel⟩
theorem xsi_1_104 : xsite 1 104 0 20 1 := ⟨(xTb_mem 507 (by decide +kernel) rfl), (xTb_mem 509 (by decide +kernel) rfl), (xTb_sel (q := (xY 20, 10)) (List.mem_of_getElem? (i := 15) (by decide +kernel))), by decide +kernel⟩
theorem xsi_1_107 : xsite 1 107 0 19 2 := ⟨(xTb_mem 503 (by decide +kernel) rfl), (xTb_mem 505 (by decide +kernel) rfl), (xTb_sel (q := (xY 19, 10)) (List.mem_of_getElem? (i := 14) (by decide +kernel))), by decide +kernel⟩
theorem xsi_1_110 : xsite 1 110 0 22 2 := ⟨(xTb_mem 542 (by decide +kernel) rfl), (xTb_mem 543 (by decide +kernel) rfl), (xTb_mem 544 (by decide +kernel) rfl), by decide +kernel⟩
theorem xsi_1_114 : xsite 1 114 0 23 3 := ⟨(xTb_mem 538 (by decide +kernel) rfl), (xTb_mem 539 (by decide +kernel) rfl), (xTb_mem 540 (by decide +kernel) rfl), by decide +kernel⟩
theorem xsi_1_118 : xsite 1 118 1 199 2 := ⟨(xTb_mem 546 (by decide +kernel) rfl), (xTb_mem 547 (by decide +kernel) rfl), by decide +kernel⟩
theorem xsi_1_124 : xsite 1 124 9 0 2 := (xTb_mem 745 (by decide +kernel) rfl)
theorem xsi_1_128 : xsite 1 128 0 62 2 := ⟨(xTb_mem 748 (by decide +kernel) rfl), (xTb_mem 730 (by decide +kernel) rfl), (xTb_mem 731 (by decide +kernel) rfl), by decide +kernel⟩
theorem xsi_1 : ∀ q ∈ xinvT 1, xsite 1 q.1 q.2.1 q.2.2.1 q.2.2.2 := List.forall_mem_cons.mpr ⟨xsi_1_3, List.forall_mem_cons.mpr ⟨xsi_1_47, List.forall_mem_cons.mpr ⟨xsi_1_56, List.forall_mem_cons.mpr ⟨xsi_1_60, List.forall_mem_cons.mpr ⟨xsi_1_63, List.forall_mem_cons.mpr ⟨xsi_1_67, List.forall_mem_cons.mpr ⟨xsi_1_70, List.forall_mem_cons.mpr ⟨xsi_1_74, List.forall_mem_cons.mpr ⟨xsi_1_80, List.forall_mem_cons.mpr ⟨xsi_1_88, List.forall_mem_cons.mpr ⟨xsi_1_92, List.forall_mem_cons.mpr ⟨xsi_1_95, List.forall_mem_cons.mpr ⟨xsi_1_98, List.forall_mem_cons.mpr ⟨xsi_1_100, List.forall_mem_cons.mpr ⟨xsi_1_104, List.forall_mem_cons.mpr ⟨xsi_1_107, List.forall_mem_cons.mpr ⟨xsi_1_110, List.forall_mem_cons.mpr ⟨xsi_1_114, List.forall_mem_cons.mpr ⟨xsi_1_118, List.forall_mem_cons.mpr ⟨xsi_1_124, List.forall_mem_cons.mpr ⟨xsi_1_128, fun _ h => absurd h List.not_mem_nil⟩⟩⟩⟩⟩⟩⟩⟩⟩⟩⟩⟩⟩⟩⟩⟩⟩⟩⟩⟩⟩
theorem xsi_2_3 : xsite 2 3 5 0 1 := (xTb_mem 198 (by decide +kernel) rfl)
theorem xsi_2_27 : xsite 2 27 0 52 1 := ⟨(xTb_mem 639 (by decide +kernel) rfl), (xTb_mem 512 (by decide +kernel) rfl), (xTb_mem 513 (by decide +kernel) rfl), by decide +kernel⟩
theorem xsi_2_32 : xsite 2 32 0 30 2 := ⟨(xTb_mem 640 (by decide +kernel) rfl), (xTb_mem 642 (by decide +kernel) rfl), (xTb_sel (q := (xY 30, 4)) (List.mem_of_getElem? (i := 20) (by decide +kernel))), by decide +kernel⟩
theorem xsi_2_36 : xsite 2 36 0 53 1 := ⟨(xTb_mem 644 (by decide +kernel) rfl), (xTb_mem 383 (by decide +kernel) rfl), (xTb_mem 384 (by decide +kernel) rfl), by decide +kernel⟩
theorem xsi_2_39 : xsite 2 39 1 198 1 := ⟨(xTb_mem 645 (by decide +kernel) rfl), (xTb_mem 294 (by decide +kernel) rfl), by decide +kernel⟩
theorem xsi_2_45 : xsite 2 45 0 31 2 := ⟨(xTb_mem 646 (by decide +kernel) rfl), (xTb_mem 648 (by decide +kernel) rfl), (xTb_sel (q := (xY 31, 4)) (List.mem_of_getElem? (i := 21) (by decide +kernel))), by decide +kernel⟩
theorem xsi_2_48 : xsite 2 48 0 15 3 := ⟨(xTb_mem 650 (by decide +kernel) rfl), (xTb_mem 521 (by decide +kernel) rfl), (xTb_mem 522 (by decide +kernel) rfl), by decide +kernel⟩
theorem xsi_2_61 : xsite 2 61 0 29 2 := ⟨(xTb_mem 651 (by decide +kernel) rfl), (xTb_mem 653 (by decide +kernel) rfl), (xTb_sel (q := (xY 29, 4)) (List.mem_of_getElem? (i := 22) (by decide +kernel))), by decide +kernel⟩
theorem xsi_2_64 : xsite 2 64 0 32 2 := ⟨(xTb_mem 655 (by decide +kernel) rfl), (xTb_mem 657 (by decide +kernel) rfl), (xTb_sel (q := (xY 32, 4)) (List.mem_of_getElem? (i := 23) (by decide +kernel))), by decide +kernel⟩
theorem xsi_2_67 : xsite 2 67 1 35 2 := ⟨(xTb_mem 663 (by decide +kernel) rfl), (xTb_mem 664 (by decide +kernel) rfl), by decide +kernel⟩
theorem xsi_2 : ∀ q ∈ xinvT 2, xsite 2 q.1 q.2.1 q.2.2.1 q.2.2.2 := List.forall_mem_cons.mpr ⟨xsi_2_3, List.forall_mem_cons.mpr ⟨xsi_2_27, List.forall_mem_cons.mpr ⟨xsi_2_32, List.forall_mem_cons.mpr ⟨xsi_2_36, List.forall_mem_cons.mpr ⟨xsi_2_39, List.forall_mem_cons.mpr ⟨xsi_2_45, List.forall_mem_cons.mpr ⟨xsi_2_48, List.forall_mem_cons.mpr ⟨xsi_2_61, List.forall_mem_cons.mpr ⟨xsi_2_64, List.forall_mem_cons.mpr ⟨xsi_2_67, fun _ h => absurd h List.not_mem_nil⟩⟩⟩⟩⟩⟩⟩⟩⟩⟩
theorem xsi_3_3 : xsite 3 3 5 0 1 := (xTb_mem 62 (by decide +kernel) rfl)
theorem xsi_3_21 : xsite 3 21 3 41 1 := ⟨(xTb_mem 65 (by decide +kernel) rfl), (xTb_mem 25 (by decide +kernel) rfl), by decide +kernel, by decide +kernel, by decide +kernel⟩
theorem xsi_3_22 : xsite 3 22 0 38 1 := ⟨(xTb_mem 307 (by decide +kernel) rfl), (xTb_mem 309 (by decide +kernel) rfl), (xTb_sel (q := (xY 38, 2)) (List.mem_of_getElem? (i := 1) (by decide +kernel))), by decide +kernel⟩
theorem xsi_3_25 : xsite 3 25 0 42 2 := ⟨(xTb_mem 311 (by decide +kernel) rfl), (xTb_mem 312 (by decide +kernel) rfl), (xTb_mem 313 (by decide +kernel) rfl), by decide +kernel⟩
theorem xsi_3 : ∀ q ∈ xinvT 3, xsite 3 q.1 q.2.1 q.2.2.1 q.2.2.2 := List.forall_mem_cons.mpr ⟨xsi_3_3, List.forall_mem_cons.mpr ⟨xsi_3_21, List.forall_mem_cons.mpr ⟨xsi_3_22, List.forall_mem_cons.mpr ⟨xsi_3_25, fun _ h => absurd h List.not_mem_nil⟩⟩⟩⟩
theorem xsi_4_3 : xsite 4 3 5 0 1 := (xTb_mem 27 (by decide +kernel) rfl)
theorem xsi_4_31 : xsite 4 31 6 0 5 := (xTb_mem 315 (by decide +kernel) rfl)
theorem xsi_4_37 : xsite 4 37 1 198 1 := ⟨(xTb_mem 293 (by decide +kernel) rfl), (xTb_mem 294 (by decide +kernel) rfl), by decide +kernel⟩
theorem xsi_4_43 : xsite 4 43 0 44 2 := ⟨(xTb_mem 380 (by decide +kernel) rfl), (xTb_mem 282 (by decide +kernel) rfl), (xTb_mem 283 (by decide +kernel) rfl), by decide +kernel⟩
theorem xsi_4_47 : xsite 4 47 0 54 2 := ⟨(xTb_mem 381 (by decide +kernel) rfl), (xTb_mem 366 (by decide +kernel) rfl), (xTb_mem 367 (by decide +kernel) rfl), by decide +kernel⟩
theorem xsi_4_50 : xsite 4 50 2 115 1 := ⟨(List.mem_append_right _ (List.mem_of_getElem? (i := 497) (by decide +kernel))), (xTb_mem 363 (by decide +kernel) rfl), by decide +kernel⟩
theorem xsi_4_56 : xsite 4 56 0 51 1 := ⟨(xTb_mem 681 (by decide +kernel) rfl), (xTb_mem 290 (by decide +kernel) rfl), (xTb_mem 291 (by decide +kernel) rfl), by decide +kernel⟩
theorem xsi_4_60 : xsite 4 60 0 48 3 := ⟨(xTb_mem 682 (by decide +kernel) rfl), (xTb_mem 319 (by decide +kernel) rfl), (xTb_mem 320 (by decide +kernel) rfl), by decide +kernel⟩
theorem xsi_4 : ∀ q ∈ xinvT 4, xsite 4 q.1 q.2.1 q.2.2.1 q.2.2.2 := List.forall_mem_cons.mpr ⟨xsi_4_3, List.forall_mem_cons.mpr ⟨xsi_4_31, List.forall_mem_cons.mpr ⟨xsi_4_37, List.forall_mem_cons.mpr ⟨xsi_4_43, List.forall_mem_cons.mpr ⟨xsi_4_47, List.forall_mem_cons.mpr ⟨xsi_4_50, List.forall_mem_cons.mpr ⟨xsi_4_56, List.forall_mem_cons.mpr ⟨xsi_4_60, fun _ h => absurd h List.not_mem_nil⟩⟩⟩⟩⟩⟩⟩⟩
theorem xsi_5_3 : xsite 5 3 5 0 1 := (xTb_mem 219 (by decide +kernel) rfl)
theorem xsi_5_26 : xsite 5 26 0 61 3 := ⟨(xTb_mem 721 (by decide +kernel) rfl), (xTb_mem 722 (by decide +kernel) rfl), (xTb_mem 723 (by decide +kernel) rfl), by decide +kernel⟩
theorem xsi_5_30 : xsite 5 30 0 62 2 := ⟨(xTb_mem 729 (by decide +kernel) rfl), (xTb_mem 730 (by decide +kernel) rfl), (xTb_mem 731 (by decide +kernel) rfl), by decide +kernel⟩
theorem xsi_5 : ∀ q ∈ xinvT 5, xsite 5 q.1 q.2.1 q.2.2.1 q.2.2.2 := List.forall_mem_cons.mpr ⟨xsi_5_3, List.forall_mem_cons.mpr ⟨xsi_5_26, List.forall_mem_cons.mpr ⟨xsi_5_30, fun _ h => absurd h List.not_mem_nil⟩⟩⟩
theorem xsi_6_3 : xsite 6 3 5 0 1 := (xTb_mem 79 (by decide +kernel) rfl)
theorem xsi_6_31 : xsite 6 31 0 73 1 := ⟨(xTb_mem 406 (by decide +kernel) rfl), (xTb_mem 408 (by decide +kernel) rfl), (xTb_sel (q := (xY 73, 6)) (List.mem_of_getElem? (i := 3) (by decide +kernel))), by decide +kernel⟩
theorem xsi_6_35 : xsite 6 35 0 76 2 := ⟨(xTb_mem 414 (by decide +kernel) rfl), (xTb_mem 416 (by decide +kernel) rfl), (xTb_sel (q := (xY 76, 6)) (List.mem_of_getElem? (i := 5) (by decide +kernel))), by decide +kernel⟩
theorem xsi_6_39 : xsite 6 39 0 43 2 := ⟨(xTb_mem 418 (by decide +kernel) rfl), (xTb_mem 419 (by decide +kernel) rfl), (xTb_mem 420 (by decide +kernel) rfl), by decide +kernel⟩
theorem xsi_6_45 : xsite 6 45 0 72 2 := ⟨(xTb_mem 422 (by decide +kernel) rfl), (xTb_mem 424 (by decide +kernel) rfl), (xTb_sel (q := (xY 72, 6)) (List.mem_of_getElem? (i := 6) (by decide +kernel))), by decide +kernel⟩
theorem xsi_6_48 : xsite 6 48 0 68 2 := ⟨(xTb_mem 426 (by decide +kernel) rfl), (xTb_mem 428 (by decide +kernel) rfl), (xTb_sel (q := (xY 68, 6)) (List.mem_of_getElem? (i := 7) (by decide +kernel))), by decide +kernel⟩
theorem xsi_6_52 : xsite 6 52 0 69 2 := ⟨(xTb_mem 438 (by decide +kernel) rfl), (xTb_mem 440 (by decide +kernel) rfl), (xTb_sel (q := (xY 69, 6)) (List.mem_of_getElem? (i := 9) (by decide +kernel))), by decide +kernel⟩
theorem xsi_6_55 : xsite 6 55 0 71 1 := ⟨(xTb_mem 430 (by decide +kernel) rfl), (xTb_mem 432 (by decide +kernel) rfl), (xTb_sel (q := (xY 71, 6)) (List.mem_of_getElem? (i := 8) (by decide +kernel))), by decide +kernel⟩
theorem xsi_6_59 : xsite 6 59 2 111 1 := ⟨(List.mem_append_right _ (List.mem_of_getElem? (i := 437) (by decide +kernel))), (xTb_mem 356 (by decide +kernel) rfl), by decide +kernel⟩
theorem xsi_6_65 : xsite 6 65 0 70 2 := ⟨(xTb_mem 442 (by decide +kernel) rfl), (xTb_mem 444 (by decide +kernel) rfl), (xTb_sel (q := (xY 70, 6)) (List.mem_of_getElem? (i := 10) (by decide +kernel))), by decide +kernel⟩
theorem xsi_6_68 : xsite 6 68 2 109 1 := ⟨(List.mem_append_right _ (List.mem_of_getElem? (i := 446) (by decide +kernel))), (xTb_mem 276 (by decide +kernel) rfl), by decide +kernel⟩
theorem xsi_6_71 : xsite 6 71 0 44 2 := ⟨(xTb_mem 447 (by decide +kernel) rfl), (xTb_mem 282 (by decide +kernel) rfl), (xTb_mem 283 (by decide +kernel) rfl), by decide +kernel⟩
theorem xsi_6_74 : xsite 6 74 0 48 3 := ⟨(xTb_mem 448 (by decide +kernel) rfl), (xTb_mem 319 (by decide +kernel) rfl), (xTb_mem 320 (by decide +kernel) rfl), by decide +kernel⟩
theorem xsi_6_78 : xsite 6 78 0 46 1 := ⟨(xTb_mem 449 (by decide +kernel) rfl), (xTb_mem 339 (by decide +kernel) rfl), (xTb_mem 340 (by decide +kernel) rfl), by decide +kernel⟩
theorem xsi_6_81 : xsite 6 81 0 50 2 := ⟨(xTb_mem 450 (by decide +kernel) rfl), (xTb_mem 343 (by decide +kernel) rfl), (xTb_mem 344 (by decide +kernel) rfl), by decide +kernel⟩
theorem xsi_6_84 : xsite 6 84 1 75 1 := ⟨(xTb_mem 434 (by decide +kernel) rfl), (xTb_mem 435 (by decide +kernel) rfl), by decide +kernel⟩
theorem xsi_6_87 : xsite 6 87 0 74 1 := ⟨(xTb_mem 410 (by decide +kernel) rfl), (xTb_mem 412 (by decide +kernel) rfl), (xTb_sel (q := (xY 74, 6)) (List.mem_of_getElem? (i := 4) (by decide +kernel))), by decide +kernel⟩
theorem xsi_6 : ∀ q ∈ xinvT 6, xsite 6 q.1 q.2.1 q.2.2.1 q.2.2.2 := List.forall_mem_cons.mpr ⟨xsi_6_3, List.forall_mem_cons.mpr ⟨xsi_6_31, List.forall_mem_cons.mpr ⟨xsi_6_35, List.forall_mem_cons.mpr ⟨xsi_6_39, List.forall_mem_cons.mpr ⟨xsi_6_45, List.forall_mem_cons.mpr ⟨xsi_6_48, List.forall_mem_cons.mpr ⟨xsi_6_52, List.forall_mem_cons.mpr ⟨xsi_6_55, List.forall_mem_cons.mpr ⟨xsi_6_59, List.forall_mem_cons.mpr ⟨xsi_6_65, List.forall_mem_cons.mpr ⟨xsi_6_68, List.forall_mem_cons.mpr ⟨xsi_6_71, List.forall_mem_cons.mpr ⟨xsi_6_74, List.forall_mem_cons.mpr ⟨xsi_6_78, List.forall_mem_cons.mpr ⟨xsi_6_81, List.forall_mem_cons.mpr ⟨xsi_6_84, List.forall_mem_cons.mpr ⟨xsi_6_87, fun _ h => absurd h List.not_mem_nil⟩⟩⟩⟩⟩⟩⟩⟩⟩⟩⟩⟩⟩⟩⟩⟩⟩
theorem xsi_7_3 : xsite 7 3 5 0 1 := (xTb_mem 19 (by decide +kernel) rfl)
theorem xsi_7_11 : xsite 7 11 3 41 1 := ⟨(xTb_mem 24 (by decide +kernel) rfl), (xTb_mem 25 (by decide +kernel) rfl), by decide +kernel, by decide +kernel, by decide +kernel⟩
theorem xsi_7_18 : xsite 7 18 3 36 1 := ⟨(xTb_mem 59 (by decide +kernel) rfl), (xTb_mem 60 (by decide +kernel) rfl), by decide +kernel, by decide +kernel, by decide +kernel⟩
theorem xsi_7_35 : xsite 7 35 4 65 1 := ⟨(List.mem_append_right _ (List.mem_of_getElem? (i := 76) (by decide +kernel))), (xTb_mem 77 (by decide +kernel) rfl), by decide +kernel, by decide +kernel, by decide +kernel⟩
theorem xsi_7_45 : xsite 7 45 4 0 1 := ⟨(List.mem_append_right _ (List.mem_of_getElem? (i := 103) (by decide +kernel))), (xTb_mem 104 (by decide +kernel) rfl), by decide +kernel, by decide +kernel, by decide +kernel⟩
theorem xsi_7_52 : xsite 7 52 4 12 1 := ⟨(List.mem_append_right _ (List.mem_of_getElem? (i := 192) (by decide +kernel))), (xTb_mem 110 (by decide +kernel) rfl), by decide +kernel, by decide +kernel, by decide +kernel⟩
theorem xsi_7_59 : xsite 7 59 4 27 1 := ⟨(List.mem_append_right _ (List.mem_of_getElem? (i := 195) (by decide +kernel))), (xTb_mem 196 (by decide +kernel) rfl), by decide +kernel, by decide +kernel, by decide +kernel⟩
theorem xsi_7_70 : xsite 7 70 4 58 1 := ⟨(List.mem_append_right _ (List.mem_of_getElem? (i := 216) (by decide +kernel))), (xTb_mem 217 (by decide +kernel) rfl), by decide +kernel, by decide +kernel, by decide +kernel⟩
theorem xsi_7_71 : xsite 7 71 1 109 1 := ⟨(xTb_mem 275 (by decide +kernel) rfl), (xTb_mem 276 (by decide +kernel) rfl), by decide +kernel⟩
theorem xsi_7_75 : xsite 7 75 1 110 1 := ⟨(xTb_mem 278 (by decide +kernel) rfl), (xTb_mem 279 (by decide +kernel) rfl), by decide +kernel⟩
theorem xsi_7_78 : xsite 7 78 0 44 2 := ⟨(xTb_mem 281 (by decide +kernel) rfl), (xTb_mem 282 (by decide +kernel) rfl), (xTb_mem 283 (by decide +kernel) rfl), by decide +kernel⟩
theorem xsi_7_81 : xsite 7 81 0 47 2 := ⟨(xTb_mem 285 (by decide +kernel) rfl), (xTb_mem 286 (by decide +kernel) rfl), (xTb_mem 287 (by decide +kernel) rfl), by decide +kernel⟩
theorem xsi_7_85 : xsite 7 85 0 51 1 := ⟨(xTb_mem 289 (by decide +kernel) rfl), (xTb_mem 290 (by decide +kernel) rfl), (xTb_mem 291 (by decide +kernel) rfl), by decide +kernel⟩
theorem xsi_7_89 : xsite 7 89 0 101 1 := ⟨(xTb_mem 299 (by decide +kernel) rfl), (xTb_mem 301 (by decide +kernel) rfl), (xTb_sel (q := (xY 101, 11)) (List.mem_of_getElem? (i := 0) (by decide +kernel))), by decide +kernel⟩
theorem xsi_7_92 : xsite 7 92 0 48 3 := ⟨(xTb_mem 318 (by decide +kernel) rfl), (xTb_mem 319 (by decide +kernel) rfl), (xTb_mem 320 (by decide +kernel) rfl), by decide +kernel⟩
theorem xsi_7_96 : xsite 7 96 0 49 2 := ⟨(xTb_mem 326 (by decide +kernel) rfl), (xTb_mem 327 (by decide +kernel) rfl), (xTb_mem 328 (by decide +kernel) rfl), by decide +kernel⟩
theorem xsi_7_100 : xsite 7 100 0 45 2 := ⟨(xTb_mem 334 (by decide +kernel) rfl), (xTb_mem 335 (by decide +kernel) rfl), (xTb_mem 336 (by decide +kernel) rfl), by decide +kernel⟩
theorem xsi_7_103 : xsite 7 103 0 46 1 := ⟨(xTb_mem 338 (by decide +kernel) rfl), (xTb_mem 339 (by decide +kernel) rfl), (xTb_mem 340 (by decide +kernel) rfl), by decide +kernel⟩
theorem xsi_7_107 : xsite 7 107 0 50 2 := ⟨(xTb_mem 342 (by decide +kernel) rfl), (xTb_mem 343 (by decide +kernel) rfl), (xTb_mem 344 (by decide +kernel) rfl), by decide +kernel⟩
theorem xsi_7_117 : xsite 7 117 1 198 1 := ⟨(xTb_mem 350 (by decide +kernel) rfl), (xTb_mem 294 (by decide +kernel) rfl), by decide +kernel⟩
theorem xsi_7_122 : xsite 7 122 1 111 1 := ⟨(xTb_mem 355 (by decide +kernel) rfl), (xTb_mem 356 (by decide +kernel) rfl), by decide +kernel⟩
theorem xsi_7_132 : xsite 7 132 1 115 1 := ⟨(xTb_mem 362 (by decide +kernel) rfl), (xTb_mem 363 (by decide +kernel) rfl), by decide +kernel⟩
theorem xsi_7_135 : xsite 7 135 0 54 2 := ⟨(xTb_mem 365 (by decide +kernel) rfl), (xTb_mem 366 (by decide +kernel) rfl), (xTb_mem 367 (by decide +kernel) rfl), by decide +kernel⟩
theorem xsi_7_138 : xsite 7 138 7 0 1 := (xTb_mem 369 (by decide +kernel) rfl)
theorem xsi_7_143 : xsite 7 143 0 55 1 := ⟨(xTb_mem 376 (by decide +kernel) rfl), (xTb_mem 377 (by decide +kernel) rfl), (xTb_mem 378 (by decide +kernel) rfl), by decide +kernel⟩
theorem xsi_7_146 : xsite 7 146 0 53 1 := ⟨(xTb_mem 382 (by decide +kernel) rfl), (xTb_mem 383 (by decide +kernel) rfl), (xTb_mem 384 (by decide +kernel) rfl), by decide +kernel⟩
theorem xsi_7_149 : xsite 7 149 0 85 1 := ⟨(xTb_mem 386 (by decide +kernel) rfl), (xTb_mem 388 (by decide +kernel) rfl), (xTb_sel (q := (xY 85, 11)) (List.mem_of_getElem? (i := 2) (by decide +kernel))), by decide +kernel⟩
theorem xsi_7_158 : xsite 7 158 0 66 2 := ⟨(xTb_mem 394 (by decide +kernel) rfl), (xTb_mem 395 (by decide +kernel) rfl), (xTb_mem 396 (by decide +kernel) rfl), by decide +kernel⟩
theorem xsi_7_161 : xsite 7 161 0 67 2 := ⟨(xTb_mem 402 (by decide +kernel) rfl), (xTb_mem 403 (by decide +kernel) rfl), (xTb_mem 404 (by decide +kernel) rfl), by decide +kernel⟩
theorem xsi_7_171 : xsite 7 171 0 42 2 := ⟨(xTb_mem 451 (by decide +kernel) rfl), (xTb_mem 312 (by decide +kernel) rfl), (xTb_mem 313 (by decide +kernel) rfl), by decide +kernel⟩
theorem xsi_7_179 : xsite 7 179 0 1 2 := ⟨(xTb_mem 458 (by decide +kernel) rfl), (xTb_mem 459 (by decide +kernel) rfl), (xTb_mem 460 (by decide +kernel) rfl), by decide +kernel⟩
theorem xsi_7_182 : xsite 7 182 0 7 1 := ⟨(xTb_mem 566 (by decide +kernel) rfl), (xTb_mem 567 (by decide +kernel) rfl), (xTb_mem 568 (by decide +kernel) rfl), by decide +kernel⟩
theorem xsi_7_186 : xsite 7 186 0 8 1 := ⟨(xTb_mem 570 (by decide +kernel) rfl), (xTb_mem 571 (by decide +kernel) rfl), (xTb_mem 572 (by decide +kernel) rfl), by decide +kernel⟩
theorem xsi_7_189 : xsite 7 189 0 9 2 := ⟨(xTb_mem 574 (by decide +kernel) rfl), (xTb_mem 575 (by decide +kernel) rfl), (xTb_mem 576 (by decide +kernel) rfl), by decide +kernel⟩
theorem xsi_7_193 : xsite 7 193 0 10 2 := ⟨(xTb_mem 582 (by decide +kernel) rfl), (xTb_mem 583 (by decide +kernel) rfl), (xTb_mem 584 (by decide +kernel) rfl), by decide +kernel⟩
theorem xsi_7_196 : xsite 7 196 0 11 2 := ⟨(xTb_mem 589 (by decide +kernel) rfl), (xTb_mem 590 (by decide +kernel) rfl), (xTb_mem 591 (by decide +kernel) rfl), by decide +kernel⟩
theorem xsi_7_205 : xsite 7 205 0 6 1 := ⟨(xTb_mem 593 (by decide +kernel) rfl), (xTb_mem 579 (by decide +kernel) rfl), (xTb_mem 580 (by decide +kernel) rfl), by decide +kernel⟩
theorem xsi_7_208 : xsite 7 208 1 112 1 := ⟨(xTb_mem 598 (by decide +kernel) rfl), (xTb_mem 599 (by decide +kernel) rfl), by decide +kernel⟩
theorem xsi_7_211 : xsite 7 211 0 95 1 := ⟨(xTb_mem 601 (by decide +kernel) rfl), (xTb_mem 603 (by decide +kernel) rfl), (xTb_sel (q := (xY 95, 11)) (List.mem_of_getElem? (i := 19) (by decide +kernel))), by decide +kernel⟩
theorem xsi_7_225 : xsite 7 225 1 119 3 := ⟨(xTb_mem 605 (by decide +kernel) rfl), (xTb_mem 606 (by decide +kernel) rfl), by decide +kernel⟩
theorem xsi_7_229 : xsite 7 229 0 22 2 := ⟨(xTb_mem 614 (by decide +kernel) rfl), (xTb_mem 543 (by decide +kernel) rfl), (xTb_mem 544 (by decide +kernel) rfl), by decide +kernel⟩
theorem xsi_7_233 : xsite 7 233 0 23 3 := ⟨(xTb_mem 619 (by decide +kernel) rfl), (xTb_mem 539 (by decide +kernel) rfl), (xTb_mem 540 (by decide +kernel) rfl), by decide +kernel⟩
theorem xsi_7_252 : xsite 7 252 0 52 1 := ⟨(xTb_mem 628 (by decide +kernel) rfl), (xTb_mem 512 (by decide +kernel) rfl), (xTb_mem 513 (by decide +kernel) rfl), by decide +kernel⟩
theorem xsi_7_257 : xsite 7 257 0 15 3 := ⟨(xTb_mem 630 (by decide +kernel) rfl), (xTb_mem 521 (by decide +kernel) rfl), (xTb_mem 522 (by decide +kernel) rfl), by decide +kernel⟩
theorem xsi_7_270 : xsite 7 270 0 28 5 := ⟨(xTb_mem 635 (by decide +kernel) rfl), (xTb_mem 636 (by decide +kernel) rfl), (xTb_mem 637 (by decide +kernel) rfl), by decide +kernel⟩
theorem xsi_7_274 : xsite 7 274 0 33 2 := ⟨(xTb_mem 659 (by decide +kernel) rfl), (xTb_mem 660 (by decide +kernel) rfl), (xTb_mem 661 (by decide +kernel) rfl), by decide +kernel⟩
theorem xsi_7_277 : xsite 7 277 0 34 1 := ⟨(xTb_mem 666 (by decide +kernel) rfl), (xTb_mem 667 (by decide +kernel) rfl), (xTb_mem 668 (by decide +kernel) rfl), by decide +kernel⟩
theorem xsi_7_279 : xsite 7 279 0 57 1 := ⟨(xTb_mem 674 (by decide +kernel) rfl), (xTb_mem 675 (by decide +kernel) rfl), (xTb_mem 676 (by decide +kernel) rfl), by decide +kernel⟩
theorem xsi_7_282 : xsite 7 282 0 39 2 := ⟨(xTb_mem 687 (by decide +kernel) rfl), (xTb_mem 688 (by decide +kernel) rfl), (xTb_mem 689 (by decide +kernel) rfl), by decide +kernel⟩
theorem xsi_7_288 : xsite 7 288 0 40 2 := ⟨(xTb_mem 699 (by decide +kernel) rfl), (xTb_mem 700 (by decide +kernel) rfl), (xTb_mem 701 (by decide +kernel) rfl), by decide +kernel⟩
theorem xsi_7_291 : xsite 7 291 0 37 2 := ⟨(xTb_mem 303 (by decide +kernel) rfl), (xTb_mem 304 (by decide +kernel) rfl), (xTb_mem 305 (by decide +kernel) rfl), by decide +kernel⟩
theorem xsi_7_294 : xsite 7 294 1 113 1 := ⟨(xTb_mem 711 (by decide +kernel) rfl), (xTb_mem 712 (by decide +kernel) rfl), by decide +kernel⟩
theorem xsi_7_297 : xsite 7 297 1 114 1 := ⟨(xTb_mem 714 (by decide +kernel) rfl), (xTb_mem 715 (by decide +kernel) rfl), by decide +kernel⟩
theorem xsi_7_300 : xsite 7 300 0 60 4 := ⟨(xTb_mem 717 (by decide +kernel) rfl), (xTb_mem 718 (by decide +kernel) rfl), (xTb_mem 719 (by decide +kernel) rfl), by decide +kernel⟩
theorem xsi_7_304 : xsite 7 304 0 64 3 := ⟨(xTb_mem 725 (by decide +kernel) rfl), (xTb_mem 726 (by decide +kernel) rfl), (xTb_mem 727 (by decide +kernel) rfl), by decide +kernel⟩
theorem xsi_7_308 : xsite 7 308 0 103 5 := ⟨(xTb_mem 737 (by decide +kernel) rfl), (xTb_mem 739 (by decide +kernel) rfl), (xTb_sel (q := (xY 103, 11)) (List.mem_of_getElem? (i := 24) (by decide +kernel))), by decide +kernel⟩
theorem xsi_7_312 : xsite 7 312 0 26 4 := ⟨(xTb_mem 741 (by decide +kernel) rfl), (xTb_mem 742 (by decide +kernel) rfl), (xTb_mem 743 (by decide +kernel) rfl), by decide +kernel⟩
theorem xsi_7_316 : xsite 7 316 0 63 3 := ⟨(xTb_mem 753 (by decide +kernel) rfl), (xTb_mem 754 (by decide +kernel) rfl), (xTb_mem 755 (by decide +kernel) rfl), by decide +kernel⟩
theorem xsi_7_319 : xsite 7 319 0 59 3 := ⟨(xTb_mem 761 (by decide +kernel) rfl), (xTb_mem 762 (by decide +kernel) rfl), (xTb_mem 763 (by decide +kernel) rfl), by decide +kernel⟩
theorem xsi_7_331 : xsite 7 331 0 61 3 := ⟨(xTb_mem 777 (by decide +kernel) rfl), (xTb_mem 722 (by decide +kernel) rfl), (xTb_mem 723 (by decide +kernel) rfl), by decide +kernel⟩
theorem xsi_7_337 : xsite 7 337 6 0 5 := (xTb_mem 778 (by decide +kernel) rfl)
theorem xsi_7_343 : xsite 7 343 8 0 1 := (xTb_mem 479 (by decide +kernel) rfl)
theorem xsi_7_348 : xsite 7 348 1 118 2 := ⟨(xTb_mem 609 (by decide +kernel) rfl), (xTb_mem 477 (by decide +kernel) rfl), by decide +kernel⟩
theorem xsi_7 : ∀ q ∈ xinvT 7, xsite 7 q.1 q.2.1 q.2.2.1 q.2.2.2 := List.forall_mem_cons.mpr ⟨xsi_7_3, List.forall_mem_cons.mpr ⟨xsi_7_11, List.forall_mem_cons.mpr ⟨xsi_7_18, List.forall_mem_cons.mpr ⟨xsi_7_35, List.forall_mem_cons.mpr ⟨xsi_7_45, List.forall_mem_cons.mpr ⟨xsi_7_52, List.forall_mem_cons.mpr ⟨xsi_7_59, List.forall_mem_cons.mpr ⟨xsi_7_70, List.forall_mem_cons.mpr ⟨xsi_7_71, List.forall_mem_cons.mpr ⟨xsi_7_75, List.forall_mem_cons.mpr ⟨xsi_7_78, List.forall_mem_cons.mpr ⟨xsi_7_81, List.forall_mem_cons.mpr ⟨xsi_7_85, List.forall_mem_cons.mpr ⟨xsi_7_89, List.forall_mem_cons.mpr ⟨xsi_7_92, List.forall_mem_cons.mpr ⟨xsi_7_96, List.forall_mem_cons.mpr ⟨xsi_7_100, List.forall_mem_cons.mpr ⟨xsi_7_103, List.forall_mem_cons.mpr ⟨xsi_7_107, List.forall_mem_cons.mpr ⟨xsi_7_117, List.forall_mem_cons.mpr ⟨xsi_7_122, List.forall_mem_cons.mpr ⟨xsi_7_132, List.forall_mem_cons.mpr ⟨xsi_7_135, List.forall_mem_cons.mpr ⟨xsi_7_138, List.forall_mem_cons.mpr ⟨xsi_7_143, List.forall_mem_cons.mpr ⟨xsi_7_146, List.forall_mem_cons.mpr ⟨xsi_7_149, List.forall_mem_cons.mpr ⟨xsi_7_158, List.forall_mem_cons.mpr ⟨xsi_7_161, List.forall_mem_cons.mpr ⟨xsi_7_171, List.forall_mem_cons.mpr ⟨xsi_7_179, List.forall_mem_cons.mpr ⟨xsi_7_182, List.forall_mem_cons.mpr ⟨xsi_7_186, List.forall_mem_cons.mpr ⟨xsi_7_189, List.forall_mem_cons.mpr ⟨xsi_7_193, List.forall_mem_cons.mpr ⟨xsi_7_196, List.forall_mem_cons.mpr ⟨xsi_7_205, List.forall_mem_cons.mpr ⟨xsi_7_208, List.forall_mem_cons.mpr ⟨xsi_7_211, List.forall_mem_cons.mpr ⟨xsi_7_225, List.forall_mem_cons.mpr ⟨xsi_7_229, List.forall_mem_cons.mpr ⟨xsi_7_233, List.forall_mem_cons.mpr ⟨xsi_7_252, List.forall_mem_cons.mpr ⟨xsi_7_257, List.forall_mem_cons.mpr ⟨xsi_7_270, List.forall_mem_cons.mpr ⟨xsi_7_274, List.forall_mem_cons.mpr ⟨xsi_7_277, List.forall_mem_cons.mpr ⟨xsi_7_279, List.forall_mem_cons.mpr ⟨xsi_7_282, List.forall_mem_cons.mpr ⟨xsi_7_288, List.forall_mem_cons.mpr ⟨xsi_7_291, List.forall_mem_cons.mpr ⟨xsi_7_294, List.forall_mem_cons.mpr ⟨xsi_7_297, List.forall_mem_cons.mpr ⟨xsi_7_300, List.forall_mem_cons.mpr ⟨xsi_7_304, List.forall_mem_cons.mpr ⟨xsi_7_308, List.forall_mem_cons.mpr ⟨xsi_7_312, List.forall_mem_cons.mpr ⟨xsi_7_316, List.forall_mem_cons.mpr ⟨xsi_7_319, List.forall_mem_cons.mpr ⟨xsi_7_331, List.forall_mem_cons.mpr ⟨xsi_7_337, List.forall_mem_cons.mpr ⟨xsi_7_343, List.forall_mem_cons.mpr ⟨xsi_7_348, fun _ h => absurd h List.not_mem_nil⟩⟩⟩⟩⟩⟩⟩⟩⟩⟩⟩⟩⟩⟩⟩⟩⟩⟩⟩⟩⟩⟩⟩⟩⟩⟩⟩⟩⟩⟩⟩⟩⟩⟩⟩⟩⟩⟩⟩⟩⟩⟩⟩⟩⟩⟩⟩⟩⟩⟩⟩⟩⟩⟩⟩⟩⟩⟩⟩⟩⟩⟩⟩
theorem xsi_8_1 : xsite 8 1 5 0 1 := (xTb_mem 784 (by decide +kernel) rfl)
theorem xsi_8_77 : xsite 8 77 1 121 3 := ⟨(xTb_mem 918 (by decide +kernel) rfl), (xTb_mem 919 (by decide +kernel) rfl), by decide +kernel⟩
theorem xsi_8_81 : xsite 8 81 0 123 2 := ⟨(xTb_mem 923 (by decide +kernel) rfl), (xTb_mem 925 (by decide +kernel) rfl), (xTb_sel (q := (xY 123, 41)) (List.mem_of_getElem? (i := 25) (by decide +kernel))), by decide +kernel⟩
theorem xsi_8_85 : xsite 8 85 0 125 2 := ⟨(xTb_mem 966 (by decide +kernel) rfl), (xTb_mem 968 (by decide +kernel) rfl), (xTb_sel (q := (xY 125, 41)) (List.mem_of_getElem? (i := 30) (by decide +kernel))), by decide +kernel⟩
theorem xsi_8_88 : xsite 8 88 0 126 2 := ⟨(xTb_mem 931 (by decide +kernel) rfl), (xTb_mem 933 (by decide +kernel) rfl), (xTb_sel (q := (xY 126, 41)) (List.mem_of_getElem? (i := 27) (by decide +kernel))), by decide +kernel⟩
theorem xsi_8_94 : xsite 8 94 1 122 1 := ⟨(xTb_mem 913 (by decide +kernel) rfl), (xTb_mem 914 (by decide +kernel) rfl), by decide +kernel⟩
theorem xsi_8_102 : xsite 8 102 0 124 2 := ⟨(xTb_mem 927 (by decide +kernel) rfl), (xTb_mem 929 (by decide +kernel) rfl), (xTb_sel (q := (xY 124, 41)) (List.mem_of_getElem? (i := 26) (by decide +kernel))), by decide +kernel⟩
theorem xsi_8_105 : xsite 8 105 0 131 1 := ⟨(xTb_mem 935 (by decide +kernel) rfl), (xTb_mem 937 (by decide +kernel) rfl), (xTb_sel (q := (xY 131, 41)) (List.mem_of_getElem? (i := 28) (by decide +kernel))), by decide +kernel⟩
theorem xsi_8_108 : xsite 8 108 0 132 4 := ⟨(xTb_mem 939 (by decide +kernel) rfl), (xTb_mem 941 (by decide +kernel) rfl), (xTb_sel (q := (xY 132, 41)) (List.mem_of_getElem? (i := 29) (by decide +kernel))), by decide +kernel⟩
theorem xsi_8_118 : xsite 8 118 0 127 1 := ⟨(xTb_mem 978 (by decide +kernel) rfl), (xTb_mem 980 (by decide +kernel) rfl), (xTb_sel (q := (xY 127, 41)) (List.mem_of_getElem? (i := 32) (by decide +kernel))), by decide +kernel⟩
theorem xsi_8_122 : xsite 8 122 0 130 1 := ⟨(xTb_mem 990 (by decide +kernel) rfl), (xTb_mem 992 (by decide +kernel) rfl), (xTb_sel (q := (xY 130, 41)) (List.mem_of_getElem? (i := 35) (by decide +kernel))), by decide +kernel⟩
theorem xsi_8_126 : xsite 8 126 0 128 2 := ⟨(xTb_mem 974 (by decide +kernel) rfl), (xTb_mem 976 (by decide +kernel) rfl), (xTb_sel (q := (xY 128, 41)) (List.mem_of_getElem? (i := 31) (by decide +kernel))), by decide +kernel⟩
theorem xsi_8_129 : xsite 8 129 0 129 1 := ⟨(xTb_mem 982 (by decide +kernel) rfl), (xTb_mem 984 (by decide +kernel) rfl), (xTb_sel (q := (xY 129, 41)) (List.mem_of_getElem? (i := 33) (by decide +kernel))), by decide +kernel⟩
theorem xsi_8_132 : xsite 8 132 0 139 1 := ⟨(xTb_mem 986 (by decide +kernel) rfl), (xTb_mem 988 (by decide +kernel) rfl), (xTb_sel (q := (xY 139, 41)) (List.mem_of_getElem? (i := 34) (by decide +kernel))), by decide +kernel⟩
theorem xsi_8_145 : xsite 8 145 0 142 1 := ⟨(xTb_mem 1008 (by decide +kernel) rfl), (xTb_mem 1010 (by decide +kernel) rfl), (xTb_sel (q := (xY 142, 41)) (List.mem_of_getElem? (i := 37) (by decide +kernel))), by decide +kernel⟩
theorem xsi_8_152 : xsite 8 152 1 144 1 := ⟨(xTb_mem 1022 (by decide +kernel) rfl), (xTb_mem 1023 (by decide +kernel) rfl), by decide +kernel⟩
theorem xsi_8_159 : xsite 8 159 0 145 4 := ⟨(xTb_mem 1018 (by decide +kernel) rfl), (xTb_mem 1020 (by decide +kernel) rfl), (xTb_sel (q := (xY 145, 41)) (List.mem_of_getElem? (i := 39) (by decide +kernel))), by decide +kernel⟩
theorem xsi_8_163 : xsite 8 163 0 143 2 := ⟨(xTb_mem 1014 (by decide +kernel) rfl), (xTb_mem 1016 (by decide +kernel) rfl), (xTb_sel (q := (xY 143, 41)) (List.mem_of_getElem? (i := 38) (by decide +kernel))), by decide +kernel⟩
theorem xsi_8_171 : xsite 8 171 0 146 2 := ⟨(xTb_mem 1026 (by decide +kernel) rfl), (xTb_mem 1028 (by decide +kernel) rfl), (xTb_sel (q := (xY 146, 41)) (List.mem_of_getElem? (i := 40) (by decide +kernel))), by decide +kernel⟩
theorem xsi_8_175 : xsite 8 175 0 147 1 := ⟨(xTb_mem 1004 (by decide +kernel) rfl), (xTb_mem 1006 (by decide +kernel) rfl), (xTb_sel (q := (xY 147, 41)) (List.mem_of_getElem? (i := 36) (by decide +kernel))), by decide +kernel⟩
theorem xsi_8_181 : xsite 8 181 0 149 3 := ⟨(xTb_mem 1061 (by decide +kernel) rfl), (xTb_mem 1063 (by decide +kernel) rfl), (xTb_sel (q := (xY 149, 41)) (List.mem_of_getElem? (i := 47) (by decide +kernel))), by decide +kernel⟩
theorem xsi_8_185 : xsite 8 185 0 152 4 := ⟨(xTb_mem 1057 (by decide +kernel) rfl), (xTb_mem 1059 (by decide +kernel) rfl), (xTb_sel (q := (xY 152, 41)) (List.mem_of_getElem? (i := 46) (by decide +kernel))), by decide +kernel⟩
theorem xsi_8_188 : xsite 8 188 0 153 2 := ⟨(xTb_mem 1053 (by decide +kernel) rfl), (xTb_mem 1055 (by decide +kernel) rfl), (xTb_sel (q := (xY 153, 41)) (List.mem_of_getElem? (i := 45) (by decide +kernel))), by decide +kernel⟩
theorem xsi_8_192 : xsite 8 192 1 154 1 := ⟨(xTb_mem 1065 (by decide +kernel) rfl), (xTb_mem 1066 (by decide +kernel) rfl), by decide +kernel⟩
theorem xsi_8_196 : xsite 8 196 0 150 1 := ⟨(xTb_mem 1068 (by decide +kernel) rfl), (xTb_mem 1070 (by decide +kernel) rfl), (xTb_sel (q := (xY 150, 41)) (List.mem_of_getElem? (i := 48) (by decide +kernel))), by decide +kernel⟩
theorem xsi_8_200 : xsite 8 200 1 151 2 := ⟨(xTb_mem 1072 (by decide +kernel) rfl), (xTb_mem 1073 (by decide +kernel) rfl), by decide +kernel⟩
theorem xsi_8_211 : xsite 8 211 0 155 2 := ⟨(xTb_mem 1049 (by decide +kernel) rfl), (xTb_mem 1051 (by decide +kernel) rfl), (xTb_sel (q := (xY 155, 41)) (List.mem_of_getElem? (i := 44) (by decide +kernel))), by decide +kernel⟩
theorem xsi_8_220 : xsite 8 220 0 157 2 := ⟨(xTb_mem 1075 (by decide +kernel) rfl), (xTb_mem 1077 (by decide +kernel) rfl), (xTb_sel (q := (xY 157, 41)) (List.mem_of_getElem? (i := 49) (by decide +kernel))), by decide +kernel⟩
theorem xsi_8_225 : xsite 8 225 0 161 2 := ⟨(xTb_mem 1091 (by decide +kernel) rfl), (xTb_mem 1093 (by decide +kernel) rfl), (xTb_sel (q := (xY 161, 41)) (List.mem_of_getElem? (i := 53) (by decide +kernel))), by decide +kernel⟩
theorem xsi_8_235 : xsite 8 235 0 160 1 := ⟨(xTb_mem 1083 (by decide +kernel) rfl), (xTb_mem 1085 (by decide +kernel) rfl), (xTb_sel (q := (xY 160, 41)) (List.mem_of_getElem? (i := 51) (by decide +kernel))), by decide +kernel⟩
theorem xsi_8_238 : xsite 8 238 0 162 2 := ⟨(xTb_mem 1087 (by decide +kernel) rfl), (xTb_mem 1089 (by decide +kernel) rfl), (xTb_sel (q := (xY 162, 41)) (List.mem_of_getElem? (i := 52) (by decide +kernel))), by decide +kernel⟩
theorem xsi_8_241 : xsite 8 241 0 163 3 := ⟨(xTb_mem 1095 (by decide +kernel) rfl), (xTb_mem 1097 (by decide +kernel) rfl), (xTb_sel (q := (xY 163, 41)) (List.mem_of_getElem? (i := 54) (by decide +kernel))), by decide +kernel⟩
theorem xsi_8_254 : xsite 8 254 0 156 2 := ⟨(xTb_mem 1117 (by decide +kernel) rfl), (xTb_mem 1119 (by decide +kernel) rfl), (xTb_sel (q := (xY 156, 41)) (List.mem_of_getElem? (i := 58) (by decide +kernel))), by decide +kernel⟩
theorem xsi_8_257 : xsite 8 257 1 165 4 := ⟨(xTb_mem 1099 (by decide +kernel) rfl), (xTb_mem 1100 (by decide +kernel) rfl), by decide +kernel⟩
theorem xsi_8_261 : xsite 8 261 0 158 2 := ⟨(xTb_mem 1045 (by decide +kernel) rfl), (xTb_mem 1047 (by decide +kernel) rfl), (xTb_sel (q := (xY 158, 41)) (List.mem_of_getElem? (i := 43) (by decide +kernel))), by decide +kernel⟩
theorem xsi_8_264 : xsite 8 264 0 159 1 := ⟨(xTb_mem 1137 (by decide +kernel) rfl), (xTb_mem 1139 (by decide +kernel) rfl), (xTb_sel (q := (xY 159, 41)) (List.mem_of_getElem? (i := 62) (by decide +kernel))), by decide +kernel⟩
theorem xsi_8_267 : xsite 8 267 0 166 1 := ⟨(xTb_mem 1113 (by decide +kernel) rfl), (xTb_mem 1115 (by decide +kernel) rfl), (xTb_sel (q := (xY 166, 41)) (List.mem_of_getElem? (i := 57) (by decide +kernel))), by decide +kernel⟩
theorem xsi_8_270 : xsite 8 270 1 168 1 := ⟨(xTb_mem 1106 (by decide +kernel) rfl), (xTb_mem 1107 (by decide +kernel) rfl), by decide +kernel⟩
theorem xsi_8_274 : xsite 8 274 0 170 1 := ⟨(xTb_mem 1041 (by decide +kernel) rfl), (xTb_mem 1043 (by decide +kernel) rfl), (xTb_sel (q := (xY 170, 41)) (List.mem_of_getElem? (i := 42) (by decide +kernel))), by decide +kernel⟩
theorem xsi_8_289 : xsite 8 289 0 164 2 := ⟨(xTb_mem 1079 (by decide +kernel) rfl), (xTb_mem 1081 (by decide +kernel) rfl), (xTb_sel (q := (xY 164, 41)) (List.mem_of_getElem? (i := 50) (by decide +kernel))), by decide +kernel⟩
theorem xsi_8_292 : xsite 8 292 0 169 2 := ⟨(xTb_mem 1102 (by decide +kernel) rfl), (xTb_mem 1104 (by decide +kernel) rfl), (xTb_sel (q := (xY 169, 41)) (List.mem_of_getElem? (i := 55) (by decide +kernel))), by decide +kernel⟩
theorem xsi_8_298 : xsite 8 298 0 171 5 := ⟨(xTb_mem 1109 (by decide +kernel) rfl), (xTb_mem 1111 (by decide +kernel) rfl), (xTb_sel (q := (xY 171, 41)) (List.mem_of_getElem? (i := 56) (by decide +kernel))), by decide +kernel⟩
theorem xsi_8_305 : xsite 8 305 0 173 2 := ⟨(xTb_mem 1121 (by decide +kernel) rfl), (xTb_mem 1123 (by decide +kernel) rfl), (xTb_sel (q := (xY 173, 41)) (List.mem_of_getElem? (i := 59) (by decide +kernel))), by decide +kernel⟩
theorem xsi_8_313 : xsite 8 313 0 172 2 := ⟨(xTb_mem 1037 (by decide +kernel) rfl), (xTb_mem 1039 (by decide +kernel) rfl), (xTb_sel (q := (xY 172, 41)) (List.mem_of_getElem? (i := 41) (by decide +kernel))), by decide +kernel⟩
theorem xsi_8_315 : xsite 8 315 0 174 1 := ⟨(xTb_mem 1125 (by decide +kernel) rfl), (xTb_mem 1127 (by decide +kernel) rfl), (xTb_sel (q := (xY 174, 41)) (List.mem_of_getElem? (i := 60) (by decide +kernel))), by decide +kernel⟩
theorem xsi_8_318 : xsite 8 318 0 167 1 := ⟨(xTb_mem 1133 (by decide +kernel) rfl), (xTb_mem 1135 (by decide +kernel) rfl), (xTb_sel (q := (xY 167, 41)) (List.mem_of_getElem? (i := 61) (by decide +kernel))), by decide +kernel⟩
theorem xsi_8_321 : xsite 8 321 0 176 2 := ⟨(xTb_mem 1141 (by decide +kernel) rfl), (xTb_mem 1143 (by decide +kernel) rfl), (xTb_sel (q := (xY 176, 41)) (List.mem_of_getElem? (i := 63) (by decide +kernel))), by decide +kernel⟩
theorem xsi_8_337 : xsite 8 337 1 188 1 := ⟨(xTb_mem 1197 (by decide +kernel) rfl), (xTb_mem 1198 (by decide +kernel) rfl), by decide +kernel⟩
theorem xsi_8_342 : xsite 8 342 0 189 5 := ⟨(xTb_mem 1201 (by decide +kernel) rfl), (xTb_mem 1203 (by decide +kernel) rfl), (xTb_sel (q := (xY 189, 41)) (List.mem_of_getElem? (i := 64) (by decide +kernel))), by decide +kernel⟩
theorem xsi_8_346 : xsite 8 346 0 192 3 := ⟨(xTb_mem 1205 (by decide +kernel) rfl), (xTb_mem 1207 (by decide +kernel) rfl), (xTb_sel (q := (xY 192, 41)) (List.mem_of_getElem? (i := 65) (by decide +kernel))), by decide +kernel⟩
theorem xsi_8_350 : xsite 8 350 1 190 2 := ⟨(xTb_mem 1225 (by decide +kernel) rfl), (xTb_mem 1226 (by decide +kernel) rfl), by decide +kernel⟩
theorem xsi_8 : ∀ q ∈ xinvT 8, xsite 8 q.1 q.2.1 q.2.2.1 q.2.2.2 := List.forall_mem_cons.mpr ⟨xsi_8_1, List.forall_mem_cons.mpr ⟨xsi_8_77, List.forall_mem_cons.mpr ⟨xsi_8_81, List.forall_mem_cons.mpr ⟨xsi_8_85, List.forall_mem_cons.mpr ⟨xsi_8_88, List.forall_mem_cons.mpr ⟨xsi_8_94, List.forall_mem_cons.mpr ⟨xsi_8_102, List.forall_mem_cons.mpr ⟨xsi_8_105, List.forall_mem_cons.mpr ⟨xsi_8_108, List.forall_mem_cons.mpr ⟨xsi_8_118, List.forall_mem_cons.mpr ⟨xsi_8_122, List.forall_mem_cons.mpr ⟨xsi_8_126, List.forall_mem_cons.mpr ⟨xsi_8_129, List.forall_mem_cons.mpr ⟨xsi_8_132, List.forall_mem_cons.mpr ⟨xsi_8_145, List.forall_mem_cons.mpr ⟨xsi_8_152, List.forall_mem_cons.mpr ⟨xsi_8_159, List.forall_mem_cons.mpr ⟨xsi_8_163, List.forall_mem_cons.mpr ⟨xsi_8_171, List.forall_mem_cons.mpr ⟨xsi_8_175, List.forall_mem_cons.mpr ⟨xsi_8_181, List.forall_mem_cons.mpr ⟨xsi_8_185, List.forall_mem_cons.mpr ⟨xsi_8_188, List.forall_mem_cons.mpr ⟨xsi_8_192, List.forall_mem_cons.mpr ⟨xsi_8_196, List.forall_mem_cons.mpr ⟨xsi_8_200, List.forall_mem_cons.mpr ⟨xsi_8_211, List.forall_mem_cons.mpr ⟨xsi_8_220, List.forall_mem_cons.mpr ⟨xsi_8_225, List.forall_mem_cons.mpr ⟨xsi_8_235, List.forall_mem_cons.mpr ⟨xsi_8_238, List.forall_mem_cons.mpr ⟨xsi_8_241, List.forall_mem_cons.mpr ⟨xsi_8_254, List.forall_mem_cons.mpr ⟨xsi_8_257, List.forall_mem_cons.mpr ⟨xsi_8_261, List.forall_mem_cons.mpr ⟨xsi_8_264, List.forall_mem_cons.mpr ⟨xsi_8_267, List.forall_mem_cons.mpr ⟨xsi_8_270, List.forall_mem_cons.mpr ⟨xsi_8_274, List.forall_mem_cons.mpr ⟨xsi_8_289, List.forall_mem_cons.mpr ⟨xsi_8_292, List.forall_mem_cons.mpr ⟨xsi_8_298, List.forall_mem_cons.mpr ⟨xsi_8_305, List.forall_mem_cons.mpr ⟨xsi_8_313, List.forall_mem_cons.mpr ⟨xsi_8_315, List.forall_mem_cons.mpr ⟨xsi_8_318, List.forall_mem_cons.mpr ⟨xsi_8_321, List.forall_mem_cons.mpr ⟨xsi_8_337, List.forall_mem_cons.mpr ⟨xsi_8_342, List.forall_mem_cons.mpr ⟨xsi_8_346, List.forall_mem_cons.mpr ⟨xsi_8_350, fun _ h => absurd h List.not_mem_nil⟩⟩⟩⟩⟩⟩⟩⟩⟩⟩⟩⟩⟩⟩⟩⟩⟩⟩⟩⟩⟩⟩⟩⟩⟩⟩⟩⟩⟩⟩⟩⟩⟩⟩⟩⟩⟩⟩⟩⟩⟩⟩⟩⟩⟩⟩⟩⟩⟩⟩⟩
theorem xsi_ok : ∀ own, ∀ q ∈ xinvT own, xsite own q.1 q.2.1 q.2.2.1 q.2.2.2 := fun own => match own with
  | 0 => xsi_0
  | 1 => xsi_1
  | 2 => xsi_2
  | 3 => xsi_3
  | 4 => xsi_4
  | 5 => xsi_5
  | 6 => xsi_6
  | 7 => xsi_7
  | 8 => xsi_8
  | _ + 9 => fun _ h => absurd h List.not_mem_nil
def xNWs : List (Nat × Nat × Nat) := [(7, 35, 65), (7, 45, 0), (7, 52, 12), (7, 59, 27), (7, 70, 58), (0, 11, 12), (0, 80, 116), (0, 107, 115), (0, 117, 117), (1, 47, 118), (4, 50, 115), (6, 59, 111), (6, 68, 109)]
