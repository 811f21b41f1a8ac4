def rmX12_greater : Room := { frames := 0, cells := 0, slots := 0, locals := 0 }
def fX12_greater (v0 : Int64) (v2 : Int64) : Option (Int64) := if v0 ≤ v2 then some v2 else (some v0)
theorem wX12_greater {X : Cx} {V : Vx} {res : Int64} (h : Run X cX12_greater 4 RX12 rmX12_greater V (some .long) (rEq (some (.long res)) [])) (hE : ZOK (vZ V)) {v0 : Int64} {v2 : Int64} (hf : fX12_greater v0 v2 = some res) : At X 4 0 0 [] 0 [(0, .long v0), (2, .long v2)] [] := by
  obtain ⟨hX, hT, hF⟩ := id h
  unfold fX12_greater at hf
  refine a_lload_n hX dX12_greater_0 rfl 0 rfl rfl ?_
  refine a_lload_n hX dX12_greater_1 rfl 1 rfl rfl ?_
  refine a_lcmp_le (tgt := 10) hX dX12_greater_2 rfl dX12_greater_3 rfl rfl hf (fun hf => ?_) (fun hf => ?_)
  · refine a_lload_n hX dX12_greater_10 rfl 1 rfl rfl ?_
    exact a_lret hX hT hF (r_l hf) dX12_greater_11
  · refine a_lload_n hX dX12_greater_6 rfl 0 rfl rfl ?_
    refine a_goto (pc' := 11) hX dX12_greater_7 rfl ?_
    exact a_lret hX hT hF (r_l hf) dX12_greater_11
theorem ctX12_greater {V : Vx} {res : Int64} (hE : ZOK (vZ V)) {v0 : Int64} {v2 : Int64} (hf : fX12_greater v0 v2 = some res) : Ct V yX12_greater (.code yX12_greater cX12_greater 4 (some .long)) rmX12_greater 0 0 [.long v0, .long v2] [] (rEq (some (.long res)) []) :=
  Ct_of (by decide) (Nat.le_of_ble_eq_true rfl) rfl (fun X hX hT _ hF => wX12_greater ⟨hX, hT, hF⟩ hE hf)
def rmX12_worst : Room := { frames := 4, cells := 0, slots := 0, locals := 92 }
def fX12_worst (u : St) (v1 : Int32) (v2 : Int32) : Option (Int64 × St) := cl1 (fX12_isPlace u v1 v2) (fun x1 => if x1 = 0 then some ((-4611686018427387904), u) else (cl2 (fX12_all u) (fun x2 u3 => cl1 (fX12_through u3 v1 v2) (fun x4 => cl1 (fX12_through u3 v1 v2) (fun x5 => cl1 (fX12_greater x4 (x2 - x5)) (fun x6 => some (x6, u3)))))))
theorem wX12_worst {X : Cx} {V : Vx} {q : Nat → Nat} {res : Int64 × St} (h : Run X cX12_worst 5 RX12 rmX12_worst V (some .long) (rEq (some (.long res.1)) (wM V q res.2))) (hE : ZOK (vZ V)) {u : St} {v1 : Int32} {v2 : Int32} (hf : fX12_worst u v1 v2 = some res) : At X 5 0 0 (wM V q u) 0 [(0, .ref (q 0)), (1, .int v1), (2, .int v2)] [] := by
  obtain ⟨hX, hT, hF⟩ := id h
  unfold fX12_worst at hf
  refine a_aload_n hX dX12_worst_0 rfl 0 rfl rfl ?_
  refine a_iload_n hX dX12_worst_1 rfl 1 rfl rfl ?_
  refine a_iload_n hX dX12_worst_2 rfl 2 rfl rfl ?_
  obtain ⟨x1, hg1, hf⟩ := cl1_some hf
  refine a_cVsi (q0 := 0) (rest := []) hX hE (ctX12_isPlace (q := q) hE hg1) K_X12_172 ⟨rfl, rfl⟩ ⟨rfl, rfl, by decide, by decide⟩ ⟨Nat.zero_le _, Nat.zero_le _⟩ (Nat.le_of_ble_eq_true rfl) dX12_worst_3 rfl rfl ?_
  refine a_if_ne (tgt := 13) hX dX12_worst_6 rfl rfl hf (fun hf => ?_) (fun hf => ?_)
  · refine a_aload_n hX dX12_worst_13 rfl 0 rfl rfl ?_
    obtain ⟨x2, u3, hg2, hf⟩ := cl2_some hf
    refine a_cVsl (q0 := 0) (rest := []) hX hE (ctX12_all (q := q) hE hg2) K_X12_193 ⟨rfl, rfl⟩ ⟨rfl, rfl, by decide, by decide⟩ ⟨Nat.zero_le _, Nat.zero_le _⟩ (Nat.le_of_ble_eq_true rfl) dX12_worst_14 rfl rfl ?_
    refine a_lstore_n (lv' := [(3, .long x2), (0, .ref (q 0)), (1, .int v1), (2, .int v2)]) hX dX12_worst_17 rfl (by decide) rfl rfl ?_
    refine a_aload_n hX dX12_worst_18 rfl 1 rfl rfl ?_
    refine a_iload_n hX dX12_worst_19 rfl 2 rfl rfl ?_
    refine a_iload_n hX dX12_worst_20 rfl 3 rfl rfl ?_
    obtain ⟨x4, hg4, hf⟩ := cl1_some hf
    refine a_cVsl (q0 := 0) (rest := []) hX hE (ctX12_through (q := q) hE hg4) K_X12_198 ⟨rfl, rfl⟩ ⟨rfl, rfl, by decide, by decide⟩ ⟨Nat.zero_le _, Nat.zero_le _⟩ (Nat.le_of_ble_eq_true rfl) dX12_worst_21 rfl rfl ?_
    refine a_lload_n hX dX12_worst_24 rfl 0 rfl rfl ?_
    refine a_aload_n hX dX12_worst_25 rfl 1 rfl rfl ?_
    refine a_iload_n hX dX12_worst_26 rfl 2 rfl rfl ?_
    refine a_iload_n hX dX12_worst_27 rfl 3 rfl rfl ?_
    obtain ⟨x5, hg5, hf⟩ := cl1_some hf
    refine a_cVsl (q0 := 0) (rest := [.long x2, .long x4]) hX hE (ctX12_through (q := q) hE hg5) K_X12_198 ⟨rfl, rfl⟩ ⟨rfl, rfl, by decide, by decide⟩ ⟨Nat.zero_le _, Nat.zero_le _⟩ (Nat.le_of_ble_eq_true rfl) dX12_worst_28 rfl rfl ?_
    refine a_lsub hX dX12_worst_31 rfl ?_
    obtain ⟨x6, hg6, hf⟩ := cl1_some hf
    refine a_cSpl (rest := []) hX hE (ctX12_greater hE hg6) K_X12_349 ⟨rfl, rfl, by decide, by decide⟩ ⟨Nat.zero_le _, Nat.zero_le _⟩ (Nat.le_of_ble_eq_true rfl) dX12_worst_32 rfl rfl ?_
    exact a_lret hX hT hF (r_lS (wf := (wM V q)) hf) dX12_worst_35
  · refine a_ldc2 hX dX12_worst_9 N_X12_196 rfl ?_
    exact a_lret hX hT hF (r_lS (wf := (wM V q)) hf) dX12_worst_12
theorem ctX12_worst {V : Vx} {q : Nat → Nat} {u : St} {res : Int64 × St} (hE : ZOK (vZ V)) {v1 : Int32} {v2 : Int32} (hf : fX12_worst u v1 v2 = some res) : Ct V yX12_worst (.code yX12_worst cX12_worst 5 (some .long)) rmX12_worst 0 0 [.ref (q 0), .int v1, .int v2] (wM V q u) (rEq (some (.long res.1)) (wM V q res.2)) :=
  Ct_of (by decide) (Nat.le_of_ble_eq_true rfl) rfl (fun X hX hT _ hF => wX12_worst ⟨hX, hT, hF⟩ hE hf)
def rmX12_question : Room := { frames := 4, cells := 0, slots := 0, locals := 92 }
def fX12_question_b79  (k13 : Int64 → Int32 → Int32 → Option (Int32 × St)) (u : St) (v1 : Int64) (v3 : Int64) (v5 : Int32) (v6 : Int32) : Option (Int32 × St) := k13 v1 v5 (v6 + 1)
theorem wX12_question_b79 {X : Cx} {V : Vx} {q : Nat → Nat} {res : Int32 × St} (h : Run X cX12_question 9 RX12 rmX12_question V (some .int) (rEq (some (.int res.1)) (wM V q res.2))) (hE : ZOK (vZ V)) {u : St} {v1 : Int64} {v3 : Int64} {v5 : Int32} {v6 : Int32} {k13 : Int64 → Int32 → Int32 → Option (Int32 × St)} (hk13 : ∀ (v1 : Int64) (v5 : Int32) (v6 : Int32), k13 v1 v5 v6 = some res → At X 9 0 0 (wM V q u) 13 [(0, .ref (q 0)), (1, .long v1), (3, .long v3), (5, .int v5), (6, .int v6)] []) (hf : fX12_question_b79  k13 u v1 v3 v5 v6 = some res) : At X 9 0 0 (wM V q u) 79 [(0, .ref (q 0)), (1, .long v1), (3, .long v3), (5, .int v5), (6, .int v6)] [] := by
  obtain ⟨hX, hT, hF⟩ := id h
  unfold fX12_question_b79 at hf
  refine a_iinc (v := v6 + 1) (lv' := [(6, .int (v6 + 1)), (0, .ref (q 0)), (1, .long v1), (3, .long v3), (5, .int v5)]) hX dX12_question_79 4 rfl rfl (by decide) rfl rfl ?_
  refine a_goto (pc' := 13) hX dX12_question_82 rfl ?_
  refine a_lv (lv' := [(0, .ref (q 0)), (1, .long v1), (3, .long v3), (5, .int v5), (6, .int (v6 + 1))]) [1, 2, 3, 4, 0] rfl ?_
  exact hk13 v1 v5 (v6 + 1) hf
def fX12_question_l13b  (k13 : Int64 → Int32 → Int32 → Option (Int32 × St)) (u : St) (v1 : Int64) (v3 : Int64) (v5 : Int32) (v6 : Int32) : Option (Int32 × St) := if 5 * (gZ u 1) ≤ v6 then some (v5, u) else (cl1 (fX12_through u (v6 - v6 / 5 * 5) (v6 / 5)) (fun x3 => cl1 (fX12_greater x3 (v3 - x3)) (fun x4 => if x4 < v1 then cl1 (fX12_greater x3 (v3 - x3)) (fun x5 => nmI ((10 * (v6 / 5)) + (v6 - v6 / 5 * 5)) (fun x6 => fX12_question_b79 k13 u x5 v3 x6 v6)) else (fX12_question_b79 k13 u v1 v3 v5 v6))))
theorem wX12_question_l13b {X : Cx} {V : Vx} {q : Nat → Nat} {res : Int32 × St} (h : Run X cX12_question 9 RX12 rmX12_question V (some .int) (rEq (some (.int res.1)) (wM V q res.2))) (hE : ZOK (vZ V)) {u : St} {v1 : Int64} {v3 : Int64} {v5 : Int32} {v6 : Int32} {k13 : Int64 → Int32 → Int32 → Option (Int32 × St)} (hk13 : ∀ (v1 : Int64) (v5 : Int32) (v6 : Int32), k13 v1 v5 v6 = some res → At X 9 0 0 (wM V q u) 13 [(0, .ref (q 0)), (1, .long v1), (3, .long v3), (5, .int v5), (6, .int v6)] []) (hf : fX12_question_l13b  k13 u v1 v3 v5 v6 = some res) : At X 9 0 0 (wM V q u) 13 [(0, .ref (q 0)), (1, .long v1), (3, .long v3), (5, .int v5), (6, .int v6)] [] := by
  obtain ⟨hX, hT, hF⟩ := id h
  unfold fX12_question_l13b at hf
  refine a_iload hX dX12_question_13 4 rfl rfl ?_
  refine a_iconst (v := 5) hX dX12_question_15 (by decide) rfl ?_
  refine a_aload_n hX dX12_question_16 rfl 0 rfl rfl ?_
  refine gX12_1 hX F_X12_124 dX12_question_17 rfl ?_
  refine a_imul hX dX12_question_20 rfl ?_
  refine a_icmp_ge (tgt := 85) hX dX12_question_21 rfl rfl hf (fun hf => ?_) (fun hf => ?_)
  · refine a_iload hX dX12_question_85 3 rfl rfl ?_
    exact a_iret hX hT hF (r_iS (wf := (wM V q)) hf) dX12_question_87
  · refine a_aload_n hX dX12_question_24 rfl 0 rfl rfl ?_
    refine a_iload hX dX12_question_25 4 rfl rfl ?_
    refine a_iconst (v := 5) hX dX12_question_27 (by decide) rfl ?_
    refine a_irem hX dX12_question_28 (by decide) rfl ?_
    refine a_iload hX dX12_question_29 4 rfl rfl ?_
    refine a_iconst (v := 5) hX dX12_question_31 (by decide) rfl ?_
    refine a_idiv hX dX12_question_32 (by decide) rfl ?_
    obtain ⟨x3, hg3, hf⟩ := cl1_some hf
    refine a_cVsl (q0 := 0) (rest := []) hX hE (ctX12_through (q := q) hE hg3) K_X12_198 ⟨rfl, rfl⟩ ⟨rfl, rfl, by decide, by decide⟩ ⟨Nat.zero_le _, Nat.zero_le _⟩ (Nat.le_of_ble_eq_true rfl) dX12_question_33 rfl rfl ?_
    refine a_lstore (lv' := [(7, .long x3), (0, .ref (q 0)), (1, .long v1), (3, .long v3), (5, .int v5), (6, .int v6)]) hX dX12_question_36 (by decide) rfl rfl ?_
    refine a_lload hX dX12_question_38 0 rfl rfl ?_
    refine a_lload_n hX dX12_question_40 rfl 3 rfl rfl ?_
    refine a_lload hX dX12_question_41 0 rfl rfl ?_
    refine a_lsub hX dX12_question_43 rfl ?_
    obtain ⟨x4, hg4, hf⟩ := cl1_some hf
    refine a_cSpl (rest := []) hX hE (ctX12_greater hE hg4) K_X12_349 ⟨rfl, rfl, by decide, by decide⟩ ⟨Nat.zero_le _, Nat.zero_le _⟩ (Nat.le_of_ble_eq_true rfl) dX12_question_44 rfl rfl ?_
    refine a_lload_n hX dX12_question_47 rfl 2 rfl rfl ?_
    refine a_lcmp_lt (tgt := 55) hX dX12_question_48 rfl dX12_question_49 rfl rfl hf (fun hf => ?_) (fun hf => ?_)
    · refine a_lload hX dX12_question_55 0 rfl rfl ?_
      refine a_lload_n hX dX12_question_57 rfl 3 rfl rfl ?_
      refine a_lload hX dX12_question_58 0 rfl rfl ?_
      refine a_lsub hX dX12_question_60 rfl ?_
      obtain ⟨x5, hg5, hf⟩ := cl1_some hf
      refine a_cSpl (rest := []) hX hE (ctX12_greater hE hg5) K_X12_349 ⟨rfl, rfl, by decide, by decide⟩ ⟨Nat.zero_le _, Nat.zero_le _⟩ (Nat.le_of_ble_eq_true rfl) dX12_question_61 rfl rfl ?_
      refine a_lstore_n (lv' := [(1, .long x5), (7, .long x3), (0, .ref (q 0)), (3, .long v3), (5, .int v5), (6, .int v6)]) hX dX12_question_64 rfl (by decide) rfl rfl ?_
      refine a_bipush (v := 10) hX dX12_question_65 (by decide) rfl ?_
      refine a_iload hX dX12_question_67 5 rfl rfl ?_
      refine a_iconst (v := 5) hX dX12_question_69 (by decide) rfl ?_
      refine a_idiv hX dX12_question_70 (by decide) rfl ?_
      refine a_imul hX dX12_question_71 rfl ?_
      refine a_iload hX dX12_question_72 5 rfl rfl ?_
      refine a_iconst (v := 5) hX dX12_question_74 (by decide) rfl ?_
      refine a_irem hX dX12_question_75 (by decide) rfl ?_
      refine a_iadd hX dX12_question_76 rfl ?_
      refine a_nmI hf (fun x6 hf => ?_)
      refine a_istore (lv' := [(5, .int x6), (1, .long x5), (7, .long x3), (0, .ref (q 0)), (3, .long v3), (6, .int v6)]) hX dX12_question_77 (by decide) rfl rfl ?_
      refine a_lv (lv' := [(0, .ref (q 0)), (1, .long x5), (3, .long v3), (5, .int x6), (6, .int v6)]) [3, 1, 4, 0, 5] rfl ?_
      exact wX12_question_b79 h hE hk13 hf
    · refine a_goto (pc' := 79) hX dX12_question_52 rfl ?_
      refine a_lv (lv' := [(0, .ref (q 0)), (1, .long v1), (3, .long v3), (5, .int v5), (6, .int v6)]) [1, 2, 3, 4, 5] rfl ?_
      exact wX12_question_b79 h hE hk13 hf
def fX12_question_l13   (u : St) (v3 : Int64) : Nat → Int64 → Int32 → Int32 → Option (Int32 × St)
  | 0, _, _, _ => none
  | m + 1, v1, v5, v6 => fX12_question_l13b  (fX12_question_l13   u v3 m) u v1 v3 v5 v6
theorem wX12_question_l13 {X : Cx} {V : Vx} {q : Nat → Nat} {res : Int32 × St} (h : Run X cX12_question 9 RX12 rmX12_question V (some .int) (rEq (some (.int res.1)) (wM V q res.2))) (hE : ZOK (vZ V)) {u : St} {v3 : Int64} : ∀ (m : Nat) (v1 : Int64) (v5 : Int32) (v6 : Int32), fX12_question_l13   u v3 m v1 v5 v6 = some res → At X 9 0 0 (wM V q u) 13 [(0, .ref (q 0)), (1, .long v1), (3, .long v3), (5, .int v5), (6, .int v6)] [] := by
  intro m
  induction m with
  | zero => intro v1 v5 v6 hf; cases hf
  | succ m ih => intro v1 v5 v6 hf; exact wX12_question_l13b h hE ih hf
def fX12_question (u : St) : Option (Int32 × St) := cl2 (fX12_all u) (fun x1 u2 => fX12_question_l13 u2 x1 NF x1 (-1) 0)
theorem wX12_question {X : Cx} {V : Vx} {q : Nat → Nat} {res : Int32 × St} (h : Run X cX12_question 9 RX12 rmX12_question V (some .int) (rEq (some (.int res.1)) (wM V q res.2))) (hE : ZOK (vZ V)) {u : St} (hf : fX12_question u = some res) : At X 9 0 0 (wM V q u) 0 [(0, .ref (q 0))] [] := by
  obtain ⟨hX, hT, hF⟩ := id h
  unfold fX12_question at hf
  refine a_aload_n hX dX12_question_0 rfl 0 rfl rfl ?_
  obtain ⟨x1, u2, hg1, hf⟩ := cl2_some hf
  refine a_cVsl (q0 := 0) (rest := []) hX hE (ctX12_all (q := q) hE hg1) K_X12_193 ⟨rfl, rfl⟩ ⟨rfl, rfl, by decide, by decide⟩ ⟨Nat.zero_le _, Nat.zero_le _⟩ (Nat.le_of_ble_eq_true rfl) dX12_question_1 rfl rfl ?_
  refine a_lstore_n (lv' := [(1, .long x1), (0, .ref (q 0))]) hX dX12_question_4 rfl (by decide) rfl rfl ?_
  refine a_lload_n hX dX12_question_5 rfl 0 rfl rfl ?_
  refine a_lstore_n (lv' := [(3, .long x1), (1, .long x1), (0, .ref (q 0))]) hX dX12_question_6 rfl (by decide) rfl rfl ?_
  refine a_iconst (v := (-1)) hX dX12_question_7 (by decide) rfl ?_
  refine a_istore (lv' := [(5, .int (-1)), (3, .long x1), (1, .long x1), (0, .ref (q 0))]) hX dX12_question_8 (by decide) rfl rfl ?_
  refine a_iconst (v := 0) hX dX12_question_10 (by decide) rfl ?_
  refine a_istore (lv' := [(6, .int 0), (5, .int (-1)), (3, .long x1), (1, .long x1), (0, .ref (q 0))]) hX dX12_question_11 (by decide) rfl rfl ?_
  refine a_lv (lv' := [(0, .ref (q 0)), (1, .long x1), (3, .long x1), (5, .int (-1)), (6, .int 0)]) [4, 3, 2, 1, 0] rfl ?_
  exact wX12_question_l13 h hE NF x1 (-1) 0 hf
theorem ctX12_question {V : Vx} {q : Nat → Nat} {u : St} {res : Int32 × St} (hE : ZOK (vZ V))  (hf : fX12_question u = some res) : Ct V yX12_question (.code yX12_question cX12_question 9 (some .int)) rmX12_question 0 0 [.ref (q 0)] (wM V q u) (rEq (some (.int res.1)) (wM V q res.2)) :=
  Ct_of (by decide) (Nat.le_of_ble_eq_true rfl) rfl (fun X hX hT _ hF => wX12_question ⟨hX, hT, hF⟩ hE hf)
def rmX12_leastAmong : Room := { frames := 1, cells := 0, slots := 0, locals := 23 }
def fX12_leastAmong_b120 (u : St) (k35 : Int64 → Int32 → Option (Int64)) (v1 : Int32) (v2 : Int32) (v7 : Int64) (v11 : Int32) (s0 : Int64) : Option (Int64) := k35 s0 (v11 + 1)
theorem wX12_leastAmong_b120 {X : Cx} {V : Vx} {q : Nat → Nat} {u : St} {res : Int64} (h : Run X cX12_leastAmong 16 RX12 rmX12_leastAmong V (some .long) (rEq (some (.long res)) (wM V q u))) (hE : ZOK (vZ V)) {v1 : Int32} {v2 : Int32} {v7 : Int64} {v11 : Int32} {s0 : Int64} {k35 : Int64 → Int32 → Option (Int64)} (hk35 : ∀ (v9 : Int64) (v11 : Int32), k35 v9 v11 = some res → At X 16 0 0 (wM V q u) 35 [(0, .ref (q 0)), (1, .int v1), (2, .int v2), (7, .long v7), (9, .long v9), (11, .int v11)] []) (hf : fX12_leastAmong_b120 u k35 v1 v2 v7 v11 s0 = some res) : At X 16 0 0 (wM V q u) 120 [(0, .ref (q 0)), (1, .int v1), (2, .int v2), (7, .long v7), (11, .int v11)] [.long s0] := by
  obtain ⟨hX, hT, hF⟩ := id h
  unfold fX12_leastAmong_b120 at hf
  refine a_lstore (lv' := [(9, .long s0), (0, .ref (q 0)), (1, .int v1), (2, .int v2), (7, .long v7), (11, .int v11)]) hX dX12_leastAmong_120 (by decide) rfl rfl ?_
  refine a_iinc (v := v11 + 1) (lv' := [(11, .int (v11 + 1)), (9, .long s0), (0, .ref (q 0)), (1, .int v1), (2, .int v2), (7, .long v7)]) hX dX12_leastAmong_122 5 rfl rfl (by decide) rfl rfl ?_
  refine a_goto (pc' := 35) hX dX12_leastAmong_125 rfl ?_
  refine a_lv (lv' := [(0, .ref (q 0)), (1, .int v1), (2, .int v2), (7, .long v7), (9, .long s0), (11, .int (v11 + 1))]) [2, 3, 4, 5, 1, 0] rfl ?_
  exact hk35 s0 (v11 + 1) hf
def fX12_leastAmong_b91 (u : St) (k35 : Int64 → Int32 → Option (Int64)) (v1 : Int32) (v2 : Int32) (v7 : Int64) (v9 : Int64) (v11 : Int32) (s0 : Int64) : Option (Int64) := cl1 (fX12_greater s0 (v7 - s0)) (fun x5 => if v9 ≤ x5 then fX12_leastAmong_b120 u k35 v1 v2 v7 v11 v9 else (fX12_leastAmong_b120 u k35 v1 v2 v7 v11 x5))
theorem wX12_leastAmong_b91 {X : Cx} {V : Vx} {q : Nat → Nat} {u : St} {res : Int64} (h : Run X cX12_leastAmong 16 RX12 rmX12_leastAmong V (some .long) (rEq (some (.long res)) (wM V q u))) (hE : ZOK (vZ V)) {v1 : Int32} {v2 : Int32} {v7 : Int64} {v9 : Int64} {v11 : Int32} {s0 : Int64} {k35 : Int64 → Int32 → Option (Int64)} (hk35 : ∀ (v9 : Int64) (v11 : Int32), k35 v9 v11 = some res → At X 16 0 0 (wM V q u) 35 [(0, .ref (q 0)), (1, .int v1), (2, .int v2), (7, .long v7), (9, .long v9), (11, .int v11)] []) (hf : fX12_leastAmong_b91 u k35 v1 v2 v7 v9 v11 s0 = some res) : At X 16 0 0 (wM V q u) 91 [(0, .ref (q 0)), (1, .int v1), (2, .int v2), (7, .long v7), (9, .long v9), (11, .int v11)] [.long s0] := by
  obtain ⟨hX, hT, hF⟩ := id h
  unfold fX12_leastAmong_b91 at hf
  refine a_lstore (lv' := [(12, .long s0), (0, .ref (q 0)), (1, .int v1), (2, .int v2), (7, .long v7), (9, .long v9), (11, .int v11)]) hX dX12_leastAmong_91 (by decide) rfl rfl ?_
  refine a_lload hX dX12_leastAmong_93 0 rfl rfl ?_
  refine a_lload hX dX12_leastAmong_95 4 rfl rfl ?_
  refine a_lload hX dX12_leastAmong_97 0 rfl rfl ?_
  refine a_lsub hX dX12_leastAmong_99 rfl ?_
  obtain ⟨x5, hg5, hf⟩ := cl1_some hf
  refine a_cSpl (rest := []) hX hE (ctX12_greater hE hg5) K_X12_349 ⟨rfl, rfl, by decide, by decide⟩ ⟨Nat.zero_le _, Nat.zero_le _⟩ (Nat.le_of_ble_eq_true rfl) dX12_leastAmong_100 rfl rfl ?_
  refine a_lstore (lv' := [(14, .long x5), (12, .long s0), (0, .ref (q 0)), (1, .int v1), (2, .int v2), (7, .long v7), (9, .long v9), (11, .int v11)]) hX dX12_leastAmong_103 (by decide) rfl rfl ?_
  refine a_lload hX dX12_leastAmong_105 0 rfl rfl ?_
  refine a_lload hX dX12_leastAmong_107 6 rfl rfl ?_
  refine a_lcmp_ge (tgt := 118) hX dX12_leastAmong_109 rfl dX12_leastAmong_110 rfl rfl hf (fun hf => ?_) (fun hf => ?_)
  · refine a_lload hX dX12_leastAmong_118 6 rfl rfl ?_
    refine a_lv (lv' := [(0, .ref (q 0)), (1, .int v1), (2, .int v2), (7, .long v7), (11, .int v11)]) [2, 3, 4, 5, 7] rfl ?_
    exact wX12_leastAmong_b120 h hE hk35 hf
  · refine a_lload hX dX12_leastAmong_113 0 rfl rfl ?_
    refine a_goto (pc' := 120) hX dX12_leastAmong_115 rfl ?_
    refine a_lv (lv' := [(0, .ref (q 0)), (1, .int v1), (2, .int v2), (7, .long v7), (11, .int v11)]) [2, 3, 4, 5, 7] rfl ?_
    exact wX12_leastAmong_b120 h hE hk35 hf
def fX12_leastAmong_l35b (u : St) (k35 : Int64 → Int32 → Option (Int64)) (v1 : Int32) (v2 : Int32) (v7 : Int64) (v9 : Int64) (v11 : Int32) : Option (Int64) := if 5 * (gZ u 1) ≤ v11 then some v9 else (if v2 = 0 then ldL (gB u 20) 3600 ((60 * v11) + v11) (fun x2 => ldL (gB u 20) 3600 ((60 * v1) + v11) (fun x3 => fX12_leastAmong_b91 u k35 v1 v2 v7 v9 v11 (x2 - x3))) else (ldL (gB u 20) 3600 ((60 * v1) + v11) (fun x4 => fX12_leastAmong_b91 u k35 v1 v2 v7 v9 v11 x4)))
theorem wX12_leastAmong_l35b {X : Cx} {V : Vx} {q : Nat → Nat} {u : St} {res : Int64} (h : Run X cX12_leastAmong 16 RX12 rmX12_leastAmong V (some .long) (rEq (some (.long res)) (wM V q u))) (hE : ZOK (vZ V)) {v1 : Int32} {v2 : Int32} {v7 : Int64} {v9 : Int64} {v11 : Int32} {k35 : Int64 → Int32 → Option (Int64)} (hk35 : ∀ (v9 : Int64) (v11 : Int32), k35 v9 v11 = some res → At X 16 0 0 (wM V q u) 35 [(0, .ref (q 0)), (1, .int v1), (2, .int v2), (7, .long v7), (9, .long v9), (11, .int v11)] []) (hf : fX12_leastAmong_l35b u k35 v1 v2 v7 v9 v11 = some res) : At X 16 0 0 (wM V q u) 35 [(0, .ref (q 0)), (1, .int v1), (2, .int v2), (7, .long v7), (9, .long v9), (11, .int v11)] [] := by
  obtain ⟨hX, hT, hF⟩ := id h
  unfold fX12_leastAmong_l35b at hf
  refine a_iload hX dX12_leastAmong_35 5 rfl rfl ?_
  refine a_iconst (v := 5) hX dX12_leastAmong_37 (by decide) rfl ?_
  refine a_aload_n hX dX12_leastAmong_38 rfl 0 rfl rfl ?_
  refine gX12_1 hX F_X12_124 dX12_leastAmong_39 rfl ?_
  refine a_imul hX dX12_leastAmong_42 rfl ?_
  refine a_icmp_ge (tgt := 128) hX dX12_leastAmong_43 rfl rfl hf (fun hf => ?_) (fun hf => ?_)
  · refine a_lload hX dX12_leastAmong_128 4 rfl rfl ?_
    exact a_lret hX hT hF (r_l hf) dX12_leastAmong_130
  · refine a_iload_n hX dX12_leastAmong_46 rfl 2 rfl rfl ?_
    refine a_if_eq (tgt := 65) hX dX12_leastAmong_47 rfl rfl hf (fun hf => ?_) (fun hf => ?_)
    · refine a_aload_n hX dX12_leastAmong_65 rfl 0 rfl rfl ?_
      refine gX12_20 hX F_X12_61 dX12_leastAmong_66 rfl ?_
      refine a_bipush (v := 60) hX dX12_leastAmong_69 (by decide) rfl ?_
      refine a_iload hX dX12_leastAmong_71 5 rfl rfl ?_
      refine a_imul hX dX12_leastAmong_73 rfl ?_
      refine a_iload hX dX12_leastAmong_74 5 rfl rfl ?_
      refine a_iadd hX dX12_leastAmong_76 rfl ?_
      refine lX12_20 hX dX12_leastAmong_77 rfl hf (fun x2 hf => ?_)
      refine a_aload_n hX dX12_leastAmong_78 rfl 0 rfl rfl ?_
      refine gX12_20 hX F_X12_61 dX12_leastAmong_79 rfl ?_
      refine a_bipush (v := 60) hX dX12_leastAmong_82 (by decide) rfl ?_
      refine a_iload_n hX dX12_leastAmong_84 rfl 1 rfl rfl ?_
      refine a_imul hX dX12_leastAmong_85 rfl ?_
      refine a_iload hX dX12_leastAmong_86 5 rfl rfl ?_
      refine a_iadd hX dX12_leastAmong_88 rfl ?_
      refine lX12_20 hX dX12_leastAmong_89 rfl hf (fun x3 hf => ?_)
      refine a_lsub hX dX12_leastAmong_90 rfl ?_
      exact wX12_leastAmong_b91 h hE hk35 hf
    · refine a_aload_n hX dX12_leastAmong_50 rfl 0 rfl rfl ?_
      refine gX12_20 hX F_X12_61 dX12_leastAmong_51 rfl ?_
      refine a_bipush (v := 60) hX dX12_leastAmong_54 (by decide) rfl ?_
      refine a_iload_n hX dX12_leastAmong_56 rfl 1 rfl rfl ?_
      refine a_imul hX dX12_leastAmong_57 rfl ?_
      refine a_iload hX dX12_leastAmong_58 5 rfl rfl ?_
      refine a_iadd hX dX12_leastAmong_60 rfl ?_
      refine lX12_20 hX dX12_leastAmong_61 rfl hf (fun x4 hf => ?_)
      refine a_goto (pc' := 91) hX dX12_leastAmong_62 rfl ?_
      exact wX12_leastAmong_b91 h hE hk35 hf
def fX12_leastAmong_l35 (u : St)  (v1 : Int32) (v2 : Int32) (v7 : Int64) : Nat → Int64 → Int32 → Option (Int64)
  | 0, _, _ => none
  | m + 1, v9, v11 => fX12_leastAmong_l35b u (fX12_leastAmong_l35 u  v1 v2 v7 m) v1 v2 v7 v9 v11
theorem wX12_leastAmong_l35 {X : Cx} {V : Vx} {q : Nat → Nat} {u : St} {res : Int64} (h : Run X cX12_leastAmong 16 RX12 rmX12_leastAmong V (some .long) (rEq (some (.long res)) (wM V q u))) (hE : ZOK (vZ V)) {v1 : Int32} {v2 : Int32} {v7 : Int64} : ∀ (m : Nat) (v9 : Int64) (v11 : Int32), fX12_leastAmong_l35 u  v1 v2 v7 m v9 v11 = some res → At X 16 0 0 (wM V q u) 35 [(0, .ref (q 0)), (1, .int v1), (2, .int v2), (7, .long v7), (9, .long v9), (11, .int v11)] [] := by
  intro m
  induction m with
  | zero => intro v9 v11 hf; cases hf
  | succ m ih => intro v9 v11 hf; exact wX12_leastAmong_l35b h hE ih hf
def fX12_leastAmong_b26 (u : St)  (v1 : Int32) (v2 : Int32) (s0 : Int64) : Option (Int64) := fX12_leastAmong_l35 u v1 v2 s0 NF s0 0
theorem wX12_leastAmong_b26 {X : Cx} {V : Vx} {q : Nat → Nat} {u : St} {res : Int64} (h : Run X cX12_leastAmong 16 RX12 rmX12_leastAmong V (some .long) (rEq (some (.long res)) (wM V q u))) (hE : ZOK (vZ V)) {v1 : Int32} {v2 : Int32} {s0 : Int64} (hf : fX12_leastAmong_b26 u  v1 v2 s0 = some res) : At X 16 0 0 (wM V q u) 26 [(0, .ref (q 0)), (1, .int v1), (2, .int v2)] [.long s0] := by
  obtain ⟨hX, hT, hF⟩ := id h
  unfold fX12_leastAmong_b26 at hf
  refine a_lstore (lv' := [(7, .long s0), (0, .ref (q 0)), (1, .int v1), (2, .int v2)]) hX dX12_leastAmong_26 (by decide) rfl rfl ?_
  refine a_lload hX dX12_leastAmong_28 0 rfl rfl ?_
  refine a_lstore (lv' := [(9, .long s0), (7, .long s0), (0, .ref (q 0)), (1, .int v1), (2, .int v2)]) hX dX12_leastAmong_30 (by decide) rfl rfl ?_
  refine a_iconst (v := 0) hX dX12_leastAmong_32 (by decide) rfl ?_
  refine a_istore (lv' := [(11, .int 0), (9, .long s0), (7, .long s0), (0, .ref (q 0)), (1, .int v1), (2, .int v2)]) hX dX12_leastAmong_33 (by decide) rfl rfl ?_
  refine a_lv (lv' := [(0, .ref (q 0)), (1, .int v1), (2, .int v2), (7, .long s0), (9, .long s0), (11, .int 0)]) [3, 4, 5, 2, 1, 0] rfl ?_
  exact wX12_leastAmong_l35 h hE NF s0 0 hf
def fX12_leastAmong (u : St) (v1 : Int32) (v2 : Int32) (v3 : Int64) : Option (Int64) := ldL (gB u 20) 3600 ((60 * v1) + v1) (fun x1 => if v2 = 0 then fX12_leastAmong_b26 u v1 v2 (v3 - x1) else (fX12_leastAmong_b26 u v1 v2 x1))
theorem wX12_leastAmong {X : Cx} {V : Vx} {q : Nat → Nat} {u : St} {res : Int64} (h : Run X cX12_leastAmong 16 RX12 rmX12_leastAmong V (some .long) (rEq (some (.long res)) (wM V q u))) (hE : ZOK (vZ V)) {v1 : Int32} {v2 : Int32} {v3 : Int64} (hf : fX12_leastAmong u v1 v2 v3 = some res) : At X 16 0 0 (wM V q u) 0 [(0, .ref (q 0)), (1, .int v1), (2, .int v2), (3, .long v3)] [] := by
  obtain ⟨hX, hT, hF⟩ := id h
  unfold fX12_leastAmong at hf
  refine a_aload_n hX dX12_leastAmong_0 rfl 0 rfl rfl ?_
  refine gX12_20 hX F_X12_61 dX12_leastAmong_1 rfl ?_
  refine a_bipush (v := 60) hX dX12_leastAmong_4 (by decide) rfl ?_
  refine a_iload_n hX dX12_leastAmong_6 rfl 1 rfl rfl ?_
  refine a_imul hX dX12_leastAmong_7 rfl ?_
  refine a_iload_n hX dX12_leastAmong_8 rfl 1 rfl rfl ?_
  refine a_iadd hX dX12_leastAmong_9 rfl ?_
  refine lX12_20 hX dX12_leastAmong_10 rfl hf (fun x1 hf => ?_)
  refine a_lstore (lv' := [(5, .long x1), (0, .ref (q 0)), (1, .int v1), (2, .int v2), (3, .long v3)]) hX dX12_leastAmong_11 (by decide) rfl rfl ?_
  refine a_iload_n hX dX12_leastAmong_13 rfl 3 rfl rfl ?_
  refine a_if_eq (tgt := 22) hX dX12_leastAmong_14 rfl rfl hf (fun hf => ?_) (fun hf => ?_)
  · refine a_lload_n hX dX12_leastAmong_22 rfl 4 rfl rfl ?_
    refine a_lload hX dX12_leastAmong_23 0 rfl rfl ?_
    refine a_lsub hX dX12_leastAmong_25 rfl ?_
    refine a_lv (lv' := [(0, .ref (q 0)), (1, .int v1), (2, .int v2)]) [1, 2, 3] rfl ?_
    exact wX12_leastAmong_b26 h hE hf
  · refine a_lload hX dX12_leastAmong_17 0 rfl rfl ?_
    refine a_goto (pc' := 26) hX dX12_leastAmong_19 rfl ?_
    refine a_lv (lv' := [(0, .ref (q 0)), (1, .int v1), (2, .int v2)]) [1, 2, 3] rfl ?_
    exact wX12_leastAmong_b26 h hE hf
theorem ctX12_leastAmong {V : Vx} {q : Nat → Nat} {u : St} {res : Int64} (hE : ZOK (vZ V)) {v1 : Int32} {v2 : Int32} {v3 : Int64} (hf : fX12_leastAmong u v1 v2 v3 = some res) : Ct V yX12_leastAmong (.code yX12_leastAmong cX12_leastAmong 16 (some .long)) rmX12_leastAmong 0 0 [.ref (q 0), .int v1, .int v2, .long v3] (wM V q u) (rEq (some (.long res)) (wM V q u)) :=
  Ct_of (by decide) (Nat.le_of_ble_eq_true rfl) rfl (fun X hX hT _ hF => wX12_leastAmong ⟨hX, hT, hF⟩ hE hf)
def rmX12_ofTwo : Room := { frames := 2, cells := 0, slots := 0, locals := 58 }
def fX12_ofTwo (u : St) (v1 : Int32) (v2 : Int64) : Option (Int64) := cl1 (fX12_leastAmong u v1 1 v2) (fun x1 => cl1 (fX12_leastAmong u v1 0 v2) (fun x2 => cl1 (fX12_greater x1 x2) (fun x3 => some x3)))
theorem wX12_ofTwo {X : Cx} {V : Vx} {q : Nat → Nat} {u : St} {res : Int64} (h : Run X cX12_ofTwo 4 RX12 rmX12_ofTwo V (some .long) (rEq (some (.long res)) (wM V q u))) (hE : ZOK (vZ V)) {v1 : Int32} {v2 : Int64} (hf : fX12_ofTwo u v1 v2 = some res) : At X 4 0 0 (wM V q u) 0 [(0, .ref (q 0)), (1, .int v1), (2, .long v2)] [] := by
  obtain ⟨hX, hT, hF⟩ := id h
  unfold fX12_ofTwo at hf
  refine a_aload_n hX dX12_ofTwo_0 rfl 0 rfl rfl ?_
  refine a_iload_n hX dX12_ofTwo_1 rfl 1 rfl rfl ?_
  refine a_iconst (v := 1) hX dX12_ofTwo_2 (by decide) rfl ?_
  refine a_lload_n hX dX12_ofTwo_3 rfl 2 rfl rfl ?_
  obtain ⟨x1, hg1, hf⟩ := cl1_some hf
  refine a_cVsl (q0 := 0) (rest := []) hX hE (ctX12_leastAmong (q := q) hE hg1) K_X12_353 ⟨rfl, rfl⟩ ⟨rfl, rfl, by decide, by decide⟩ ⟨Nat.zero_le _, Nat.zero_le _⟩ (Nat.le_of_ble_eq_true rfl) dX12_ofTwo_4 rfl rfl ?_
  refine a_aload_n hX dX12_ofTwo_7 rfl 0 rfl rfl ?_
  refine a_iload_n hX dX12_ofTwo_8 rfl 1 rfl rfl ?_
  refine a_iconst (v := 0) hX dX12_ofTwo_9 (by decide) rfl ?_
  refine a_lload_n hX dX12_ofTwo_10 rfl 2 rfl rfl ?_
  obtain ⟨x2, hg2, hf⟩ := cl1_some hf
  refine a_cVsl (q0 := 0) (rest := [.long x1]) hX hE (ctX12_leastAmong (q := q) hE hg2) K_X12_353 ⟨rfl, rfl⟩ ⟨rfl, rfl, by decide, by decide⟩ ⟨Nat.zero_le _, Nat.zero_le _⟩ (Nat.le_of_ble_eq_true rfl) dX12_ofTwo_11 rfl rfl ?_
  obtain ⟨x3, hg3, hf⟩ := cl1_some hf
  refine a_cSpl (rest := []) hX hE (ctX12_greater hE hg3) K_X12_349 ⟨rfl, rfl, by decide, by decide⟩ ⟨Nat.zero_le _, Nat.zero_le _⟩ (Nat.le_of_ble_eq_true rfl) dX12_ofTwo_14 rfl rfl ?_
  exact a_lret hX hT hF (r_l hf) dX12_ofTwo_17
theorem ctX12_ofTwo {V : Vx} {q : Nat → Nat} {u : St} {res : Int64} (hE : ZOK (vZ V)) {v1 : Int32} {v2 : Int64} (hf : fX12_ofTwo u v1 v2 = some res) : Ct V yX12_ofTwo (.code yX12_ofTwo cX12_ofTwo 4 (some .long)) rmX12_ofTwo 0 0 [.ref (q 0), .int v1, .long v2] (wM V q u) (rEq (some (.long res)) (wM V q u)) :=
  Ct_of (by decide) (Nat.le_of_ble_eq_true rfl) rfl (fun X hX hT _ hF => wX12_ofTwo ⟨hX, hT, hF⟩ hE hf)
def rmX12_worstOfTwo : Room := { frames := 4, cells := 0, slots := 0, locals := 92 }
def fX12_worstOfTwo (u : St) (v1 : Int32) (v2 : Int32) : Option (Int64 × St) := cl1 (fX12_isPlace u v1 v2) (fun x1 => if x1 = 0 then some ((-4611686018427387904), u) else (cl2 (fX12_all u) (fun x2 u3 => cl1 (fX12_pairUp u3) (fun u5 => cl1 (fX12_ofTwo u5 ((5 * v2) + v1) x2) (fun x6 => some (x6, u5))))))
theorem wX12_worstOfTwo {X : Cx} {V : Vx} {q : Nat → Nat} {res : Int64 × St} (h : Run X cX12_worstOfTwo 5 RX12 rmX12_worstOfTwo V (some .long) (rEq (some (.long res.1)) (wM V q res.2))) (hE : ZOK (vZ V)) {u : St} {v1 : Int32} {v2 : Int32} (hf : fX12_worstOfTwo u v1 v2 = some res) : At X 5 0 0 (wM V q u) 0 [(0, .ref (q 0)), (1, .int v1), (2, .int v2)] [] := by
  obtain ⟨hX, hT, hF⟩ := id h
  unfold fX12_worstOfTwo at hf
  refine a_aload_n hX dX12_worstOfTwo_0 rfl 0 rfl rfl ?_
  refine a_iload_n hX dX12_worstOfTwo_1 rfl 1 rfl rfl ?_
  refine a_iload_n hX dX12_worstOfTwo_2 rfl 2 rfl rfl ?_
  obtain ⟨x1, hg1, hf⟩ := cl1_some hf
  refine a_cVsi (q0 := 0) (rest := []) hX hE (ctX12_isPlace (q := q) hE hg1) K_X12_172 ⟨rfl, rfl⟩ ⟨rfl, rfl, by decide, by decide⟩ ⟨Nat.zero_le _, Nat.zero_le _⟩ (Nat.le_of_ble_eq_true rfl) dX12_worstOfTwo_3 rfl rfl ?_
  refine a_if_ne (tgt := 13) hX dX12_worstOfTwo_6 rfl rfl hf (fun hf => ?_) (fun hf => ?_)
  · refine a_aload_n hX dX12_worstOfTwo_13 rfl 0 rfl rfl ?_
    obtain ⟨x2, u3, hg2, hf⟩ := cl2_some hf
    refine a_cVsl (q0 := 0) (rest := []) hX hE (ctX12_all (q := q) hE hg2) K_X12_193 ⟨rfl, rfl⟩ ⟨rfl, rfl, by decide, by decide⟩ ⟨Nat.zero_le _, Nat.zero_le _⟩ (Nat.le_of_ble_eq_true rfl) dX12_worstOfTwo_14 rfl rfl ?_
    refine a_lstore_n (lv' := [(3, .long x2), (0, .ref (q 0)), (1, .int v1), (2, .int v2)]) hX dX12_worstOfTwo_17 rfl (by decide) rfl rfl ?_
    refine a_aload_n hX dX12_worstOfTwo_18 rfl 1 rfl rfl ?_
    obtain ⟨u5, hg4, hf⟩ := cl1_some hf
    refine a_cVsv (q0 := 0) (rest := []) hX hE (ctX12_pairUp (q := q) hE hg4) K_X12_357 ⟨rfl, rfl⟩ ⟨rfl, rfl, by decide, by decide⟩ ⟨Nat.zero_le _, Nat.zero_le _⟩ (Nat.le_of_ble_eq_true rfl) dX12_worstOfTwo_19 rfl rfl ?_
    refine a_aload_n hX dX12_worstOfTwo_22 rfl 1 rfl rfl ?_
    refine a_iconst (v := 5) hX dX12_worstOfTwo_23 (by decide) rfl ?_
    refine a_iload_n hX dX12_worstOfTwo_24 rfl 3 rfl rfl ?_
    refine a_imul hX dX12_worstOfTwo_25 rfl ?_
    refine a_iload_n hX dX12_worstOfTwo_26 rfl 2 rfl rfl ?_
    refine a_iadd hX dX12_worstOfTwo_27 rfl ?_
    refine a_lload_n hX dX12_worstOfTwo_28 rfl 0 rfl rfl ?_
    obtain ⟨x6, hg6, hf⟩ := cl1_some hf
    refine a_cVsl (q0 := 0) (rest := []) hX hE (ctX12_ofTwo (q := q) hE hg6) K_X12_360 ⟨rfl, rfl⟩ ⟨rfl, rfl, by decide, by decide⟩ ⟨Nat.zero_le _, Nat.zero_le _⟩ (Nat.le_of_ble_eq_true rfl) dX12_worstOfTwo_29 rfl rfl ?_
    exact a_lret hX hT hF (r_lS (wf := (wM V q)) hf) dX12_worstOfTwo_32
  · refine a_ldc2 hX dX12_worstOfTwo_9 N_X12_196 rfl ?_
    exact a_lret hX hT hF (r_lS (wf := (wM V q)) hf) dX12_worstOfTwo_12
theorem ctX12_worstOfTwo {V : Vx} {q : Nat → Nat} {u : St} {res : Int64 × St} (hE : ZOK (vZ V)) {v1 : Int32} {v2 : Int32} (hf : fX12_worstOfTwo u v1 v2 = some res) : Ct V yX12_worstOfTwo (.code yX12_worstOfTwo cX12_worstOfTwo 5 (some .long)) rmX12_worstOfTwo 0 0 [.ref (q 0), .int v1, .int v2] (wM V q u) (rEq (some (.long res.1)) (wM V q res.2)) :=
  Ct_of (by decide) (Nat.le_of_ble_eq_true rfl) rfl (fun X hX hT _ hF => wX12_worstOfTwo ⟨hX, hT, hF⟩ hE hf)
def rmX12_firstOfTwo : Room := { frames := 4, cells := 0, slots := 0, locals := 92 }
def fX12_firstOfTwo_b64  (k17 : Int64 → Int32 → Int32 → Option (Int32 × St)) (u : St) (v1 : Int64) (v3 : Int64) (v5 : Int32) (v6 : Int32) : Option (Int32 × St) := k17 v3 v5 (v6 + 1)
theorem wX12_firstOfTwo_b64 {X : Cx} {V : Vx} {q : Nat → Nat} {res : Int32 × St} (h : Run X cX12_firstOfTwo 9 RX12 rmX12_firstOfTwo V (some .int) (rEq (some (.int res.1)) (wM V q res.2))) (hE : ZOK (vZ V)) {u : St} {v1 : Int64} {v3 : Int64} {v5 : Int32} {v6 : Int32} {k17 : Int64 → Int32 → Int32 → Option (Int32 × St)} (hk17 : ∀ (v3 : Int64) (v5 : Int32) (v6 : Int32), k17 v3 v5 v6 = some res → At X 9 0 0 (wM V q u) 17 [(0, .ref (q 0)), (1, .long v1), (3, .long v3), (5, .int v5), (6, .int v6)] []) (hf : fX12_firstOfTwo_b64  k17 u v1 v3 v5 v6 = some res) : At X 9 0 0 (wM V q u) 64 [(0, .ref (q 0)), (1, .long v1), (3, .long v3), (5, .int v5), (6, .int v6)] [] := by
  obtain ⟨hX, hT, hF⟩ := id h
  unfold fX12_firstOfTwo_b64 at hf
  refine a_iinc (v := v6 + 1) (lv' := [(6, .int (v6 + 1)), (0, .ref (q 0)), (1, .long v1), (3, .long v3), (5, .int v5)]) hX dX12_firstOfTwo_64 4 rfl rfl (by decide) rfl rfl ?_
  refine a_goto (pc' := 17) hX dX12_firstOfTwo_67 rfl ?_
  refine a_lv (lv' := [(0, .ref (q 0)), (1, .long v1), (3, .long v3), (5, .int v5), (6, .int (v6 + 1))]) [1, 2, 3, 4, 0] rfl ?_
  exact hk17 v3 v5 (v6 + 1) hf
def fX12_firstOfTwo_l17b  (k17 : Int64 → Int32 → Int32 → Option (Int32 × St)) (u : St) (v1 : Int64) (v3 : Int64) (v5 : Int32) (v6 : Int32) : Option (Int32 × St) := if 5 * (gZ u 1) ≤ v6 then some (v5, u) else (cl1 (fX12_ofTwo u v6 v1) (fun x5 => if x5 < v3 then nmI ((10 * (v6 / 5)) + (v6 - v6 / 5 * 5)) (fun x6 => fX12_firstOfTwo_b64 k17 u v1 x5 x6 v6) else (fX12_firstOfTwo_b64 k17 u v1 v3 v5 v6)))
theorem wX12_firstOfTwo_l17b {X : Cx} {V : Vx} {q : Nat → Nat} {res : Int32 × St} (h : Run X cX12_firstOfTwo 9 RX12 rmX12_firstOfTwo V (some .int) (rEq (some (.int res.1)) (wM V q res.2))) (hE : ZOK (vZ V)) {u : St} {v1 : Int64} {v3 : Int64} {v5 : Int32} {v6 : Int32} {k17 : Int64 → Int32 → Int32 → Option (Int32 × St)} (hk17 : ∀ (v3 : Int64) (v5 : Int32) (v6 : Int32), k17 v3 v5 v6 = some res → At X 9 0 0 (wM V q u) 17 [(0, .ref (q 0)), (1, .long v1), (3, .long v3), (5, .int v5), (6, .int v6)] []) (hf : fX12_firstOfTwo_l17b  k17 u v1 v3 v5 v6 = some res) : At X 9 0 0 (wM V q u) 17 [(0, .ref (q 0)), (1, .long v1), (3, .long v3), (5, .int v5), (6, .int v6)] [] := by
  obtain ⟨hX, hT, hF⟩ := id h
  unfold fX12_firstOfTwo_l17b at hf
  refine a_iload hX dX12_firstOfTwo_17 4 rfl rfl ?_
  refine a_iconst (v := 5) hX dX12_firstOfTwo_19 (by decide) rfl ?_
  refine a_aload_n hX dX12_firstOfTwo_20 rfl 0 rfl rfl ?_
  refine gX12_1 hX F_X12_124 dX12_firstOfTwo_21 rfl ?_
  refine a_imul hX dX12_firstOfTwo_24 rfl ?_
  refine a_icmp_ge (tgt := 70) hX dX12_firstOfTwo_25 rfl rfl hf (fun hf => ?_) (fun hf => ?_)
  · refine a_iload hX dX12_firstOfTwo_70 3 rfl rfl ?_
    exact a_iret hX hT hF (r_iS (wf := (wM V q)) hf) dX12_firstOfTwo_72
  · refine a_aload_n hX dX12_firstOfTwo_28 rfl 0 rfl rfl ?_
    refine a_iload hX dX12_firstOfTwo_29 4 rfl rfl ?_
    refine a_lload_n hX dX12_firstOfTwo_31 rfl 1 rfl rfl ?_
    obtain ⟨x5, hg5, hf⟩ := cl1_some hf
    refine a_cVsl (q0 := 0) (rest := []) hX hE (ctX12_ofTwo (q := q) hE hg5) K_X12_360 ⟨rfl, rfl⟩ ⟨rfl, rfl, by decide, by decide⟩ ⟨Nat.zero_le _, Nat.zero_le _⟩ (Nat.le_of_ble_eq_true rfl) dX12_firstOfTwo_32 rfl rfl ?_
    refine a_lstore (lv' := [(7, .long x5), (0, .ref (q 0)), (1, .long v1), (3, .long v3), (5, .int v5), (6, .int v6)]) hX dX12_firstOfTwo_35 (by decide) rfl rfl ?_
    refine a_lload hX dX12_firstOfTwo_37 0 rfl rfl ?_
    refine a_lload_n hX dX12_firstOfTwo_39 rfl 3 rfl rfl ?_
    refine a_lcmp_lt (tgt := 47) hX dX12_firstOfTwo_40 rfl dX12_firstOfTwo_41 rfl rfl hf (fun hf => ?_) (fun hf => ?_)
    · refine a_lload hX dX12_firstOfTwo_47 0 rfl rfl ?_
      refine a_lstore_n (lv' := [(3, .long x5), (7, .long x5), (0, .ref (q 0)), (1, .long v1), (5, .int v5), (6, .int v6)]) hX dX12_firstOfTwo_49 rfl (by decide) rfl rfl ?_
      refine a_bipush (v := 10) hX dX12_firstOfTwo_50 (by decide) rfl ?_
      refine a_iload hX dX12_firstOfTwo_52 5 rfl rfl ?_
      refine a_iconst (v := 5) hX dX12_firstOfTwo_54 (by decide) rfl ?_
      refine a_idiv hX dX12_firstOfTwo_55 (by decide) rfl ?_
      refine a_imul hX dX12_firstOfTwo_56 rfl ?_
      refine a_iload hX dX12_firstOfTwo_57 5 rfl rfl ?_
      refine a_iconst (v := 5) hX dX12_firstOfTwo_59 (by decide) rfl ?_
      refine a_irem hX dX12_firstOfTwo_60 (by decide) rfl ?_
      refine a_iadd hX dX12_firstOfTwo_61 rfl ?_
      refine a_nmI hf (fun x6 hf => ?_)
      refine a_istore (lv' := [(5, .int x6), (3, .long x5), (7, .long x5), (0, .ref (q 0)), (1, .long v1), (6, .int v6)]) hX dX12_firstOfTwo_62 (by decide) rfl rfl ?_
      refine a_lv (lv' := [(0, .ref (q 0)), (1, .long v1), (3, .long x5), (5, .int x6), (6, .int v6)]) [3, 4, 1, 0, 5] rfl ?_
      exact wX12_firstOfTwo_b64 h hE hk17 hf
    · refine a_goto (pc' := 64) hX dX12_firstOfTwo_44 rfl ?_
      refine a_lv (lv' := [(0, .ref (q 0)), (1, .long v1), (3, .long v3), (5, .int v5), (6, .int v6)]) [1, 2, 3, 4, 5] rfl ?_
      exact wX12_firstOfTwo_b64 h hE hk17 hf
def fX12_firstOfTwo_l17   (u : St) (v1 : Int64) : Nat → Int64 → Int32 → Int32 → Option (Int32 × St)
  | 0, _, _, _ => none
  | m + 1, v3, v5, v6 => fX12_firstOfTwo_l17b  (fX12_firstOfTwo_l17   u v1 m) u v1 v3 v5 v6
theorem wX12_firstOfTwo_l17 {X : Cx} {V : Vx} {q : Nat → Nat} {res : Int32 × St} (h : Run X cX12_firstOfTwo 9 RX12 rmX12_firstOfTwo V (some .int) (rEq (some (.int res.1)) (wM V q res.2))) (hE : ZOK (vZ V)) {u : St} {v1 : Int64} : ∀ (m : Nat) (v3 : Int64) (v5 : Int32) (v6 : Int32), fX12_firstOfTwo_l17   u v1 m v3 v5 v6 = some res → At X 9 0 0 (wM V q u) 17 [(0, .ref (q 0)), (1, .long v1), (3, .long v3), (5, .int v5), (6, .int v6)] [] := by
  intro m
  induction m with
  | zero => intro v3 v5 v6 hf; cases hf
  | succ m ih => intro v3 v5 v6 hf; exact wX12_firstOfTwo_l17b h hE ih hf
def fX12_firstOfTwo (u : St) : Option (Int32 × St) := cl2 (fX12_all u) (fun x1 u2 => cl1 (fX12_pairUp u2) (fun u4 => fX12_firstOfTwo_l17 u4 x1 NF x1 (-1) 0))
theorem wX12_firstOfTwo {X : Cx} {V : Vx} {q : Nat → Nat} {res : Int32 × St} (h : Run X cX12_firstOfTwo 9 RX12 rmX12_firstOfTwo V (some .int) (rEq (some (.int res.1)) (wM V q res.2))) (hE : ZOK (vZ V)) {u : St} (hf : fX12_firstOfTwo u = some res) : At X 9 0 0 (wM V q u) 0 [(0, .ref (q 0))] [] := by
  obtain ⟨hX, hT, hF⟩ := id h
  unfold fX12_firstOfTwo at hf
  refine a_aload_n hX dX12_firstOfTwo_0 rfl 0 rfl rfl ?_
  obtain ⟨x1, u2, hg1, hf⟩ := cl2_some hf
  refine a_cVsl (q0 := 0) (rest := []) hX hE (ctX12_all (q := q) hE hg1) K_X12_193 ⟨rfl, rfl⟩ ⟨rfl, rfl, by decide, by decide⟩ ⟨Nat.zero_le _, Nat.zero_le _⟩ (Nat.le_of_ble_eq_true rfl) dX12_firstOfTwo_1 rfl rfl ?_
  refine a_lstore_n (lv' := [(1, .long x1), (0, .ref (q 0))]) hX dX12_firstOfTwo_4 rfl (by decide) rfl rfl ?_
  refine a_aload_n hX dX12_firstOfTwo_5 rfl 1 rfl rfl ?_
  obtain ⟨u4, hg3, hf⟩ := cl1_some hf
  refine a_cVsv (q0 := 0) (rest := []) hX hE (ctX12_pairUp (q := q) hE hg3) K_X12_357 ⟨rfl, rfl⟩ ⟨rfl, rfl, by decide, by decide⟩ ⟨Nat.zero_le _, Nat.zero_le _⟩ (Nat.le_of_ble_eq_true rfl) dX12_firstOfTwo_6 rfl rfl ?_
  refine a_lload_n hX dX12_firstOfTwo_9 rfl 0 rfl rfl ?_
  refine a_lstore_n (lv' := [(3, .long x1), (1, .long x1), (0, .ref (q 0))]) hX dX12_firstOfTwo_10 rfl (by decide) rfl rfl ?_
  refine a_iconst (v := (-1)) hX dX12_firstOfTwo_11 (by decide) rfl ?_
  refine a_istore (lv' := [(5, .int (-1)), (3, .long x1), (1, .long x1), (0, .ref (q 0))]) hX dX12_firstOfTwo_12 (by decide) rfl rfl ?_
  refine a_iconst (v := 0) hX dX12_firstOfTwo_14 (by decide) rfl ?_
  refine a_istore (lv' := [(6, .int 0), (5, .int (-1)), (3, .long x1), (1, .long x1), (0, .ref (q 0))]) hX dX12_firstOfTwo_15 (by decide) rfl rfl ?_
  refine a_lv (lv' := [(0, .ref (q 0)), (1, .long x1), (3, .long x1), (5, .int (-1)), (6, .int 0)]) [4, 3, 2, 1, 0] rfl ?_
  exact wX12_firstOfTwo_l17 h hE NF x1 (-1) 0 hf
theorem ctX12_firstOfTwo {V : Vx} {q : Nat → Nat} {u : St} {res : Int32 × St} (hE : ZOK (vZ V))  (hf : fX12_firstOfTwo u = some res) : Ct V yX12_firstOfTwo (.code yX12_firstOfTwo cX12_firstOfTwo 9 (some .int)) rmX12_firstOfTwo 0 0 [.ref (q 0)] (wM V q u) (rEq (some (.int res.1)) (wM V q res.2)) :=
  Ct_of (by decide) (Nat.le_of_ble_eq_true rfl) rfl (fun X hX hT _ hF => wX12_firstOfTwo ⟨hX, hT, hF⟩ hE hf)
def rmX12_sherd : Room := { frames := 1, cells := 0, slots := 0, locals := 22 }
def fX12_sherd (u : St) (v1 : Int32) (v2 : Int32) : Option (Int32 × St) := cl1 (fX12_in v1 0 9999) (fun x1 => if x1 = 0 then some ((-2), u) else (cl1 (fX12_in v2 0 9999) (fun x2 => if x2 = 0 then some ((-2), u) else (if gZ u 47 = 8 then some ((-4), u) else (stI u 48 8 (gZ u 47) v1 (fun u3 => stI u3 49 8 (gZ u3 47) v2 (fun u4 => nmS (setZ u4 47 ((gZ u4 47) + 1)) (fun u5 => some ((gZ u5 47) - 1, u5)))))))))
theorem wX12_sherd {X : Cx} {V : Vx} {q : Nat → Nat} {res : Int32 × St} (h : Run X cX12_sherd 3 RX12 rmX12_sherd V (some .int) (rEq (some (.int res.1)) (wM V q res.2))) (hE : ZOK (vZ V)) {u : St} {v1 : Int32} {v2 : Int32} (hf : fX12_sherd u v1 v2 = some res) : At X 3 0 0 (wM V q u) 0 [(0, .ref (q 0)), (1, .int v1), (2, .int v2)] [] := by
  obtain ⟨hX, hT, hF⟩ := id h
  unfold fX12_sherd at hf
  refine a_iload_n hX dX12_sherd_0 rfl 1 rfl rfl ?_
  refine a_iconst (v := 0) hX dX12_sherd_1 (by decide) rfl ?_
  refine a_sipush (v := 9999) hX dX12_sherd_2 (by decide) rfl ?_
  obtain ⟨x1, hg1, hf⟩ := cl1_some hf
  refine a_cSpi (rest := []) hX hE (ctX12_in hE hg1) K_X12_148 ⟨rfl, rfl, by decide, by decide⟩ ⟨Nat.zero_le _, Nat.zero_le _⟩ (Nat.le_of_ble_eq_true rfl) dX12_sherd_5 rfl rfl ?_
  refine a_if_eq (tgt := 22) hX dX12_sherd_8 rfl rfl hf (fun hf => ?_) (fun hf => ?_)
  · refine a_bipush (v := (-2)) hX dX12_sherd_22 (by decide) rfl ?_
    exact a_iret hX hT hF (r_iS (wf := (wM V q)) hf) dX12_sherd_24
  · refine a_iload_n hX dX12_sherd_11 rfl 2 rfl rfl ?_
    refine a_iconst (v := 0) hX dX12_sherd_12 (by decide) rfl ?_
    refine a_sipush (v := 9999) hX dX12_sherd_13 (by decide) rfl ?_
    obtain ⟨x2, hg2, hf⟩ := cl1_some hf
    refine a_cSpi (rest := []) hX hE (ctX12_in hE hg2) K_X12_148 ⟨rfl, rfl, by decide, by decide⟩ ⟨Nat.zero_le _, Nat.zero_le _⟩ (Nat.le_of_ble_eq_true rfl) dX12_sherd_16 rfl rfl ?_
    refine a_if_ne (tgt := 25) hX dX12_sherd_19 rfl rfl hf (fun hf => ?_) (fun hf => ?_)
    · refine a_aload_n hX dX12_sherd_25 rfl 0 rfl rfl ?_
      refine gX12_47 hX F_X12_364 dX12_sherd_26 rfl ?_
      refine a_bipush (v := 8) hX dX12_sherd_29 (by decide) rfl ?_
      refine a_icmp_ne (tgt := 37) hX dX12_sherd_31 rfl rfl hf (fun hf => ?_) (fun hf => ?_)
      · refine a_aload_n hX dX12_sherd_37 rfl 0 rfl rfl ?_
        refine gX12_48 hX F_X12_94 dX12_sherd_38 rfl ?_
        refine a_aload_n hX dX12_sherd_41 rfl 0 rfl rfl ?_
        refine gX12_47 hX F_X12_364 dX12_sherd_42 rfl ?_
        refine a_iload_n hX dX12_sherd_45 rfl 1 rfl rfl ?_
        refine sX12_48 hX dX12_sherd_46 rfl hf (fun u3 hf => ?_)
        refine a_aload_n hX dX12_sherd_47 rfl 0 rfl rfl ?_
        refine gX12_49 hX F_X12_97 dX12_sherd_48 rfl ?_
        refine a_aload_n hX dX12_sherd_51 rfl 0 rfl rfl ?_
        refine gX12_47 hX F_X12_364 dX12_sherd_52 rfl ?_
        refine a_iload_n hX dX12_sherd_55 rfl 2 rfl rfl ?_
        refine sX12_49 hX dX12_sherd_56 rfl hf (fun u4 hf => ?_)
        refine a_aload_n hX dX12_sherd_57 rfl 0 rfl rfl ?_
        refine a_dup hX dX12_sherd_58 rfl rfl ?_
        refine gX12_47 hX F_X12_364 dX12_sherd_59 rfl ?_
        refine a_iconst (v := 1) hX dX12_sherd_62 (by decide) rfl ?_
        refine a_iadd hX dX12_sherd_63 rfl ?_
        refine pX12_47 hX F_X12_364 dX12_sherd_64 rfl hf (fun u5 hf => ?_)
        refine a_aload_n hX dX12_sherd_67 rfl 0 rfl rfl ?_
        refine gX12_47 hX F_X12_364 dX12_sherd_68 rfl ?_
        refine a_iconst (v := 1) hX dX12_sherd_71 (by decide) rfl ?_
        refine a_isub hX dX12_sherd_72 rfl ?_
        exact a_iret hX hT hF (r_iS (wf := (wM V q)) hf) dX12_sherd_73
      · refine a_bipush (v := (-4)) hX dX12_sherd_34 (by decide) rfl ?_
        exact a_iret hX hT hF (r_iS (wf := (wM V q)) hf) dX12_sherd_36
    · refine a_bipush (v := (-2)) hX dX12_sherd_22 (by decide) rfl ?_
      exact a_iret hX hT hF (r_iS (wf := (wM V q)) hf) dX12_sherd_24
theorem ctX12_sherd {V : Vx} {q : Nat → Nat} {u : St} {res : Int32 × St} (hE : ZOK (vZ V)) {v1 : Int32} {v2 : Int32} (hf : fX12_sherd u v1 v2 = some res) : Ct V yX12_sherd (.code yX12_sherd cX12_sherd 3 (some .int)) rmX12_sherd 0 0 [.ref (q 0), .int v1, .int v2] (wM V q u) (rEq (some (.int res.1)) (wM V q res.2)) :=
  Ct_of (by decide) (Nat.le_of_ble_eq_true rfl) rfl (fun X hX hT _ hF => wX12_sherd ⟨hX, hT, hF⟩ hE hf)
def rmX12_set : Room := { frames := 1, cells := 0, slots := 0, locals := 22 }
def fX12_set_b49   (u : St) (v1 : Int32) (v2 : Int32) (s0 : Int32) : Option (Int32 × St) := if v1 = 0 then nmS (setZ u 50 v2) (fun u4 => some (s0, u4)) else (nmS (setZ u 51 v2) (fun u3 => some (s0, u3)))
theorem wX12_set_b49 {X : Cx} {V : Vx} {q : Nat → Nat} {res : Int32 × St} (h : Run X cX12_set 4 RX12 rmX12_set V (some .int) (rEq (some (.int res.1)) (wM V q res.2))) (hE : ZOK (vZ V)) {u : St} {v1 : Int32} {v2 : Int32} {s0 : Int32} (hf : fX12_set_b49   u v1 v2 s0 = some res) : At X 4 0 0 (wM V q u) 49 [(0, .ref (q 0)), (1, .int v1), (2, .int v2)] [.int s0] := by
  obtain ⟨hX, hT, hF⟩ := id h
  unfold fX12_set_b49 at hf
  refine a_istore_n (lv' := [(3, .int s0), (0, .ref (q 0)), (1, .int v1), (2, .int v2)]) hX dX12_set_49 rfl (by decide) rfl rfl ?_
  refine a_iload_n hX dX12_set_50 rfl 2 rfl rfl ?_
  refine a_if_ne (tgt := 62) hX dX12_set_51 rfl rfl hf (fun hf => ?_) (fun hf => ?_)
  · refine a_aload_n hX dX12_set_62 rfl 1 rfl rfl ?_
    refine a_iload_n hX dX12_set_63 rfl 3 rfl rfl ?_
    refine pX12_51 hX F_X12_143 dX12_set_64 rfl hf (fun u3 hf => ?_)
    refine a_iload_n hX dX12_set_67 rfl 0 rfl rfl ?_
    exact a_iret hX hT hF (r_iS (wf := (wM V q)) hf) dX12_set_68
  · refine a_aload_n hX dX12_set_54 rfl 1 rfl rfl ?_
    refine a_iload_n hX dX12_set_55 rfl 3 rfl rfl ?_
    refine pX12_50 hX F_X12_367 dX12_set_56 rfl hf (fun u4 hf => ?_)
    refine a_goto (pc' := 67) hX dX12_set_59 rfl ?_
    refine a_iload_n hX dX12_set_67 rfl 0 rfl rfl ?_
    exact a_iret hX hT hF (r_iS (wf := (wM V q)) hf) dX12_set_68
def fX12_set_b34   (u : St) (v1 : Int32) (v2 : Int32) : Option (Int32 × St) := if v1 = 0 then fX12_set_b49 u v1 v2 (gZ u 50) else (fX12_set_b49 u v1 v2 (gZ u 51))
theorem wX12_set_b34 {X : Cx} {V : Vx} {q : Nat → Nat} {res : Int32 × St} (h : Run X cX12_set 4 RX12 rmX12_set V (some .int) (rEq (some (.int res.1)) (wM V q res.2))) (hE : ZOK (vZ V)) {u : St} {v1 : Int32} {v2 : Int32} (hf : fX12_set_b34   u v1 v2 = some res) : At X 4 0 0 (wM V q u) 34 [(0, .ref (q 0)), (1, .int v1), (2, .int v2)] [] := by
  obtain ⟨hX, hT, hF⟩ := id h
  unfold fX12_set_b34 at hf
  refine a_iload_n hX dX12_set_34 rfl 1 rfl rfl ?_
  refine a_if_ne (tgt := 45) hX dX12_set_35 rfl rfl hf (fun hf => ?_) (fun hf => ?_)
  · refine a_aload_n hX dX12_set_45 rfl 0 rfl rfl ?_
    refine gX12_51 hX F_X12_143 dX12_set_46 rfl ?_
    exact wX12_set_b49 h hE hf
  · refine a_aload_n hX dX12_set_38 rfl 0 rfl rfl ?_
    refine gX12_50 hX F_X12_367 dX12_set_39 rfl ?_
    refine a_goto (pc' := 49) hX dX12_set_42 rfl ?_
    exact wX12_set_b49 h hE hf
def fX12_set (u : St) (v1 : Int32) (v2 : Int32) : Option (Int32 × St) := if v1 = 0 then cl1 (fX12_in v2 0 4) (fun x2 => if x2 = 0 then some ((-2), u) else (fX12_set_b34 u v1 v2)) else (if v1 = 1 then cl1 (fX12_in v2 1 10) (fun x1 => if x1 = 0 then some ((-2), u) else (fX12_set_b34 u v1 v2)) else (some ((-2), u)))
theorem wX12_set {X : Cx} {V : Vx} {q : Nat → Nat} {res : Int32 × St} (h : Run X cX12_set 4 RX12 rmX12_set V (some .int) (rEq (some (.int res.1)) (wM V q res.2))) (hE : ZOK (vZ V)) {u : St} {v1 : Int32} {v2 : Int32} (hf : fX12_set u v1 v2 = some res) : At X 4 0 0 (wM V q u) 0 [(0, .ref (q 0)), (1, .int v1), (2, .int v2)] [] := by
  obtain ⟨hX, hT, hF⟩ := id h
  unfold fX12_set at hf
  refine a_iload_n hX dX12_set_0 rfl 1 rfl rfl ?_
  refine a_if_ne (tgt := 16) hX dX12_set_1 rfl rfl hf (fun hf => ?_) (fun hf => ?_)
  · refine a_iload_n hX dX12_set_16 rfl 1 rfl rfl ?_
    refine a_iconst (v := 1) hX dX12_set_17 (by decide) rfl ?_
    refine a_icmp_ne (tgt := 31) hX dX12_set_18 rfl rfl hf (fun hf => ?_) (fun hf => ?_)
    · refine a_bipush (v := (-2)) hX dX12_set_31 (by decide) rfl ?_
      exact a_iret hX hT hF (r_iS (wf := (wM V q)) hf) dX12_set_33
    · refine a_iload_n hX dX12_set_21 rfl 2 rfl rfl ?_
      refine a_iconst (v := 1) hX dX12_set_22 (by decide) rfl ?_
      refine a_bipush (v := 10) hX dX12_set_23 (by decide) rfl ?_
      obtain ⟨x1, hg1, hf⟩ := cl1_some hf
      refine a_cSpi (rest := []) hX hE (ctX12_in hE hg1) K_X12_148 ⟨rfl, rfl, by decide, by decide⟩ ⟨Nat.zero_le _, Nat.zero_le _⟩ (Nat.le_of_ble_eq_true rfl) dX12_set_25 rfl rfl ?_
      refine a_if_ne (tgt := 34) hX dX12_set_28 rfl rfl hf (fun hf => ?_) (fun hf => ?_)
      · exact wX12_set_b34 h hE hf
      · refine a_bipush (v := (-2)) hX dX12_set_31 (by decide) rfl ?_
        exact a_iret hX hT hF (r_iS (wf := (wM V q)) hf) dX12_set_33
  · refine a_iload_n hX dX12_set_4 rfl 2 rfl rfl ?_
    refine a_iconst (v := 0) hX dX12_set_5 (by decide) rfl ?_
    refine a_iconst (v := 4) hX dX12_set_6 (by decide) rfl ?_
    obtain ⟨x2, hg2, hf⟩ := cl1_some hf
    refine a_cSpi (rest := []) hX hE (ctX12_in hE hg2) K_X12_148 ⟨rfl, rfl, by decide, by decide⟩ ⟨Nat.zero_le _, Nat.zero_le _⟩ (Nat.le_of_ble_eq_true rfl) dX12_set_7 rfl rfl ?_
    refine a_if_ne (tgt := 34) hX dX12_set_10 rfl rfl hf (fun hf => ?_) (fun hf => ?_)
    · exact wX12_set_b34 h hE hf
    · refine a_goto (pc' := 31) hX dX12_set_13 rfl ?_
      refine a_bipush (v := (-2)) hX dX12_set_31 (by decide) rfl ?_
      exact a_iret hX hT hF (r_iS (wf := (wM V q)) hf) dX12_set_33
theorem ctX12_set {V : Vx} {q : Nat → Nat} {u : St} {res : Int32 × St} (hE : ZOK (vZ V)) {v1 : Int32} {v2 : Int32} (hf : fX12_set u v1 v2 = some res) : Ct V yX12_set (.code yX12_set cX12_set 4 (some .int)) rmX12_set 0 0 [.ref (q 0), .int v1, .int v2] (wM V q u) (rEq (some (.int res.1)) (wM V q res.2)) :=
  Ct_of (by decide) (Nat.le_of_ble_eq_true rfl) rfl (fun X hX hT _ hF => wX12_set ⟨hX, hT, hF⟩ hE hf)
def rmX12_isJoined : Room := { frames := 0, cells := 0, slots := 0, locals := 0 }
def fX12_isJoined_b49 (u : St) (k21 : Int32 → Int32 → Int32 → Int32 → Option (Int32)) (v4 : Int32) (v5 : Int32) (v6 : Int32) (s0 : Int32) (s1 : Int32) : Option (Int32) := nmI (s1 + s0) (fun x3 => nmI (v4 / 10) (fun x4 => nmI (v5 / 10) (fun x5 => k21 x3 x4 x5 (v6 + 1))))
theorem wX12_isJoined_b49 {X : Cx} {V : Vx} {q : Nat → Nat} {u : St} {res : Int32} (h : Run X cX12_isJoined 7 RX12 rmX12_isJoined V (some .boolean) (rEq (some (.int res)) (wM V q u))) (hE : ZOK (vZ V)) {v4 : Int32} {v5 : Int32} {v6 : Int32} {s0 : Int32} {s1 : Int32} {k21 : Int32 → Int32 → Int32 → Int32 → Option (Int32)} (hk21 : ∀ (v3 : Int32) (v4 : Int32) (v5 : Int32) (v6 : Int32), k21 v3 v4 v5 v6 = some res → At X 7 0 0 (wM V q u) 21 [(0, .ref (q 0)), (3, .int v3), (4, .int v4), (5, .int v5), (6, .int v6)] []) (hf : fX12_isJoined_b49 u k21 v4 v5 v6 s0 s1 = some res) : At X 7 0 0 (wM V q u) 49 [(0, .ref (q 0)), (4, .int v4), (5, .int v5), (6, .int v6)] [.int s0, .int s1] := by
  obtain ⟨hX, hT, hF⟩ := id h
  unfold fX12_isJoined_b49 at hf
  refine a_iadd hX dX12_isJoined_49 rfl ?_
  refine a_nmI hf (fun x3 hf => ?_)
  refine a_istore_n (lv' := [(3, .int x3), (0, .ref (q 0)), (4, .int v4), (5, .int v5), (6, .int v6)]) hX dX12_isJoined_50 rfl (by decide) rfl rfl ?_
  refine a_iload hX dX12_isJoined_51 2 rfl rfl ?_
  refine a_bipush (v := 10) hX dX12_isJoined_53 (by decide) rfl ?_
  refine a_idiv hX dX12_isJoined_55 (by decide) rfl ?_
  refine a_nmI hf (fun x4 hf => ?_)
  refine a_istore (lv' := [(4, .int x4), (3, .int x3), (0, .ref (q 0)), (5, .int v5), (6, .int v6)]) hX dX12_isJoined_56 (by decide) rfl rfl ?_
  refine a_iload hX dX12_isJoined_58 3 rfl rfl ?_
  refine a_bipush (v := 10) hX dX12_isJoined_60 (by decide) rfl ?_
  refine a_idiv hX dX12_isJoined_62 (by decide) rfl ?_
  refine a_nmI hf (fun x5 hf => ?_)
  refine a_istore (lv' := [(5, .int x5), (4, .int x4), (3, .int x3), (0, .ref (q 0)), (6, .int v6)]) hX dX12_isJoined_63 (by decide) rfl rfl ?_
  refine a_iinc (v := v6 + 1) (lv' := [(6, .int (v6 + 1)), (5, .int x5), (4, .int x4), (3, .int x3), (0, .ref (q 0))]) hX dX12_isJoined_65 4 rfl rfl (by decide) rfl rfl ?_
  refine a_goto (pc' := 21) hX dX12_isJoined_68 rfl ?_
  refine a_lv (lv' := [(0, .ref (q 0)), (3, .int x3), (4, .int x4), (5, .int x5), (6, .int (v6 + 1))]) [4, 3, 2, 1, 0] rfl ?_
  exact hk21 x3 x4 x5 (v6 + 1) hf
def fX12_isJoined_l21b (u : St) (k21 : Int32 → Int32 → Int32 → Int32 → Option (Int32)) (v3 : Int32) (v4 : Int32) (v5 : Int32) (v6 : Int32) : Option (Int32) := if 4 ≤ v6 then if gZ u 50 < v3 then some 0 else (some 1) else (if (v4 - v4 / 10 * 10) + (v5 - v5 / 10 * 10) = 9 then fX12_isJoined_b49 u k21 v4 v5 v6 0 v3 else (fX12_isJoined_b49 u k21 v4 v5 v6 1 v3))
theorem wX12_isJoined_l21b {X : Cx} {V : Vx} {q : Nat → Nat} {u : St} {res : Int32} (h : Run X cX12_isJoined 7 RX12 rmX12_isJoined V (some .boolean) (rEq (some (.int res)) (wM V q u))) (hE : ZOK (vZ V)) {v3 : Int32} {v4 : Int32} {v5 : Int32} {v6 : Int32} {k21 : Int32 → Int32 → Int32 → Int32 → Option (Int32)} (hk21 : ∀ (v3 : Int32) (v4 : Int32) (v5 : Int32) (v6 : Int32), k21 v3 v4 v5 v6 = some res → At X 7 0 0 (wM V q u) 21 [(0, .ref (q 0)), (3, .int v3), (4, .int v4), (5, .int v5), (6, .int v6)] []) (hf : fX12_isJoined_l21b u k21 v3 v4 v5 v6 = some res) : At X 7 0 0 (wM V q u) 21 [(0, .ref (q 0)), (3, .int v3), (4, .int v4), (5, .int v5), (6, .int v6)] [] := by
  obtain ⟨hX, hT, hF⟩ := id h
  unfold fX12_isJoined_l21b at hf
  refine a_iload hX dX12_isJoined_21 4 rfl rfl ?_
  refine a_iconst (v := 4) hX dX12_isJoined_23 (by decide) rfl ?_
  refine a_icmp_ge (tgt := 71) hX dX12_isJoined_24 rfl rfl hf (fun hf => ?_) (fun hf => ?_)
  · refine a_iload_n hX dX12_isJoined_71 rfl 1 rfl rfl ?_
    refine a_aload_n hX dX12_isJoined_72 rfl 0 rfl rfl ?_
    refine gX12_50 hX F_X12_367 dX12_isJoined_73 rfl ?_
    refine a_icmp_gt (tgt := 83) hX dX12_isJoined_76 rfl rfl hf (fun hf => ?_) (fun hf => ?_)
    · refine a_iconst (v := 0) hX dX12_isJoined_83 (by decide) rfl ?_
      exact a_zret hX hT (by decide) hF (r_i hf) dX12_isJoined_84
    · refine a_iconst (v := 1) hX dX12_isJoined_79 (by decide) rfl ?_
      refine a_goto (pc' := 84) hX dX12_isJoined_80 rfl ?_
      exact a_zret hX hT (by decide) hF (r_i hf) dX12_isJoined_84
  · refine a_iload_n hX dX12_isJoined_27 rfl 1 rfl rfl ?_
    refine a_iload hX dX12_isJoined_28 2 rfl rfl ?_
    refine a_bipush (v := 10) hX dX12_isJoined_30 (by decide) rfl ?_
    refine a_irem hX dX12_isJoined_32 (by decide) rfl ?_
    refine a_iload hX dX12_isJoined_33 3 rfl rfl ?_
    refine a_bipush (v := 10) hX dX12_isJoined_35 (by decide) rfl ?_
    refine a_irem hX dX12_isJoined_37 (by decide) rfl ?_
    refine a_iadd hX dX12_isJoined_38 rfl ?_
    refine a_bipush (v := 9) hX dX12_isJoined_39 (by decide) rfl ?_
    refine a_icmp_eq (tgt := 48) hX dX12_isJoined_41 rfl rfl hf (fun hf => ?_) (fun hf => ?_)
    · refine a_iconst (v := 0) hX dX12_isJoined_48 (by decide) rfl ?_
      refine a_lv (lv' := [(0, .ref (q 0)), (4, .int v4), (5, .int v5), (6, .int v6)]) [0, 2, 3, 4] rfl ?_
      exact wX12_isJoined_b49 h hE hk21 hf
    · refine a_iconst (v := 1) hX dX12_isJoined_44 (by decide) rfl ?_
      refine a_goto (pc' := 49) hX dX12_isJoined_45 rfl ?_
      refine a_lv (lv' := [(0, .ref (q 0)), (4, .int v4), (5, .int v5), (6, .int v6)]) [0, 2, 3, 4] rfl ?_
      exact wX12_isJoined_b49 h hE hk21 hf
def fX12_isJoined_l21 (u : St)   : Nat → Int32 → Int32 → Int32 → Int32 → Option (Int32)
  | 0, _, _, _, _ => none
  | m + 1, v3, v4, v5, v6 => fX12_isJoined_l21b u (fX12_isJoined_l21 u   m) v3 v4 v5 v6
theorem wX12_isJoined_l21 {X : Cx} {V : Vx} {q : Nat → Nat} {u : St} {res : Int32} (h : Run X cX12_isJoined 7 RX12 rmX12_isJoined V (some .boolean) (rEq (some (.int res)) (wM V q u))) (hE : ZOK (vZ V))  : ∀ (m : Nat) (v3 : Int32) (v4 : Int32) (v5 : Int32) (v6 : Int32), fX12_isJoined_l21 u   m v3 v4 v5 v6 = some res → At X 7 0 0 (wM V q u) 21 [(0, .ref (q 0)), (3, .int v3), (4, .int v4), (5, .int v5), (6, .int v6)] [] := by
  intro m
  induction m with
  | zero => intro v3 v4 v5 v6 hf; cases hf
  | succ m ih => intro v3 v4 v5 v6 hf; exact wX12_isJoined_l21b h hE ih hf
def fX12_isJoined (u : St) (v1 : Int32) (v2 : Int32) : Option (Int32) := ldI (gA u 49) 8 v1 (fun x1 => ldI (gA u 48) 8 v2 (fun x2 => fX12_isJoined_l21 u NF 0 x1 x2 0))
theorem wX12_isJoined {X : Cx} {V : Vx} {q : Nat → Nat} {u : St} {res : Int32} (h : Run X cX12_isJoined 7 RX12 rmX12_isJoined V (some .boolean) (rEq (some (.int res)) (wM V q u))) (hE : ZOK (vZ V)) {v1 : Int32} {v2 : Int32} (hf : fX12_isJoined u v1 v2 = some res) : At X 7 0 0 (wM V q u) 0 [(0, .ref (q 0)), (1, .int v1), (2, .int v2)] [] := by
  obtain ⟨hX, hT, hF⟩ := id h
  unfold fX12_isJoined at hf
  refine a_iconst (v := 0) hX dX12_isJoined_0 (by decide) rfl ?_
  refine a_istore_n (lv' := [(3, .int 0), (0, .ref (q 0)), (1, .int v1), (2, .int v2)]) hX dX12_isJoined_1 rfl (by decide) rfl rfl ?_
  refine a_aload_n hX dX12_isJoined_2 rfl 1 rfl rfl ?_
  refine gX12_49 hX F_X12_97 dX12_isJoined_3 rfl ?_
  refine a_iload_n hX dX12_isJoined_6 rfl 2 rfl rfl ?_
  refine lX12_49 hX dX12_isJoined_7 rfl hf (fun x1 hf => ?_)
  refine a_istore (lv' := [(4, .int x1), (3, .int 0), (0, .ref (q 0)), (1, .int v1), (2, .int v2)]) hX dX12_isJoined_8 (by decide) rfl rfl ?_
  refine a_aload_n hX dX12_isJoined_10 rfl 2 rfl rfl ?_
  refine gX12_48 hX F_X12_94 dX12_isJoined_11 rfl ?_
  refine a_iload_n hX dX12_isJoined_14 rfl 4 rfl rfl ?_
  refine lX12_48 hX dX12_isJoined_15 rfl hf (fun x2 hf => ?_)
  refine a_istore (lv' := [(5, .int x2), (4, .int x1), (3, .int 0), (0, .ref (q 0)), (1, .int v1), (2, .int v2)]) hX dX12_isJoined_16 (by decide) rfl rfl ?_
  refine a_iconst (v := 0) hX dX12_isJoined_18 (by decide) rfl ?_
  refine a_istore (lv' := [(6, .int 0), (5, .int x2), (4, .int x1), (3, .int 0), (0, .ref (q 0)), (1, .int v1), (2, .int v2)]) hX dX12_isJoined_19 (by decide) rfl rfl ?_
  refine a_lv (lv' := [(0, .ref (q 0)), (3, .int 0), (4, .int x1), (5, .int x2), (6, .int 0)]) [4, 3, 2, 1, 0] rfl ?_
  exact wX12_isJoined_l21 h hE NF 0 x1 x2 0 hf
theorem ctX12_isJoined {V : Vx} {q : Nat → Nat} {u : St} {res : Int32} (hE : ZOK (vZ V)) {v1 : Int32} {v2 : Int32} (hf : fX12_isJoined u v1 v2 = some res) : Ct V yX12_isJoined (.code yX12_isJoined cX12_isJoined 7 (some .boolean)) rmX12_isJoined 0 0 [.ref (q 0), .int v1, .int v2] (wM V q u) (rEq (some (.int res)) (wM V q u)) :=
  Ct_of (by decide) (Nat.le_of_ble_eq_true rfl) rfl (fun X hX hT _ hF => wX12_isJoined ⟨hX, hT, hF⟩ hE hf)
def rmX12_joined : Room := { frames := 1, cells := 0, slots := 0, locals := 26 }
def fX12_joined (u : St) (v1 : Int32) (v2 : Int32) : Option (Int32) := cl1 (fX12_in v1 0 ((gZ u 47) - 1)) (fun x1 => if x1 = 0 then some (-2) else (cl1 (fX12_in v2 0 ((gZ u 47) - 1)) (fun x2 => if x2 = 0 then some (-2) else (if v1 = v2 then some (-2) else (cl1 (fX12_isJoined u v1 v2) (fun x3 => if x3 = 0 then some 0 else (some 1)))))))
theorem wX12_joined {X : Cx} {V : Vx} {q : Nat → Nat} {u : St} {res : Int32} (h : Run X cX12_joined 3 RX12 rmX12_joined V (some .int) (rEq (some (.int res)) (wM V q u))) (hE : ZOK (vZ V)) {v1 : Int32} {v2 : Int32} (hf : fX12_joined u v1 v2 = some res) : At X 3 0 0 (wM V q u) 0 [(0, .ref (q 0)), (1, .int v1), (2, .int v2)] [] := by
  obtain ⟨hX, hT, hF⟩ := id h
  unfold fX12_joined at hf
  refine a_iload_n hX dX12_joined_0 rfl 1 rfl rfl ?_
  refine a_iconst (v := 0) hX dX12_joined_1 (by decide) rfl ?_
  refine a_aload_n hX dX12_joined_2 rfl 0 rfl rfl ?_
  refine gX12_47 hX F_X12_364 dX12_joined_3 rfl ?_
  refine a_iconst (v := 1) hX dX12_joined_6 (by decide) rfl ?_
  refine a_isub hX dX12_joined_7 rfl ?_
  obtain ⟨x1, hg1, hf⟩ := cl1_some hf
  refine a_cSpi (rest := []) hX hE (ctX12_in hE hg1) K_X12_148 ⟨rfl, rfl, by decide, by decide⟩ ⟨Nat.zero_le _, Nat.zero_le _⟩ (Nat.le_of_ble_eq_true rfl) dX12_joined_8 rfl rfl ?_
  refine a_if_eq (tgt := 33) hX dX12_joined_11 rfl rfl hf (fun hf => ?_) (fun hf => ?_)
  · refine a_bipush (v := (-2)) hX dX12_joined_33 (by decide) rfl ?_
    exact a_iret hX hT hF (r_i hf) dX12_joined_35
  · refine a_iload_n hX dX12_joined_14 rfl 2 rfl rfl ?_
    refine a_iconst (v := 0) hX dX12_joined_15 (by decide) rfl ?_
    refine a_aload_n hX dX12_joined_16 rfl 0 rfl rfl ?_
    refine gX12_47 hX F_X12_364 dX12_joined_17 rfl ?_
    refine a_iconst (v := 1) hX dX12_joined_20 (by decide) rfl ?_
    refine a_isub hX dX12_joined_21 rfl ?_
    obtain ⟨x2, hg2, hf⟩ := cl1_some hf
    refine a_cSpi (rest := []) hX hE (ctX12_in hE hg2) K_X12_148 ⟨rfl, rfl, by decide, by decide⟩ ⟨Nat.zero_le _, Nat.zero_le _⟩ (Nat.le_of_ble_eq_true rfl) dX12_joined_22 rfl rfl ?_
    refine a_if_eq (tgt := 33) hX dX12_joined_25 rfl rfl hf (fun hf => ?_) (fun hf => ?_)
    · refine a_bipush (v := (-2)) hX dX12_joined_33 (by decide) rfl ?_
      exact a_iret hX hT hF (r_i hf) dX12_joined_35
    · refine a_iload_n hX dX12_joined_28 rfl 1 rfl rfl ?_
      refine a_iload_n hX dX12_joined_29 rfl 2 rfl rfl ?_
      refine a_icmp_ne (tgt := 36) hX dX12_joined_30 rfl rfl hf (fun hf => ?_) (fun hf => ?_)
      · refine a_aload_n hX dX12_joined_36 rfl 0 rfl rfl ?_
        refine a_iload_n hX dX12_joined_37 rfl 1 rfl rfl ?_
        refine a_iload_n hX dX12_joined_38 rfl 2 rfl rfl ?_
        obtain ⟨x3, hg3, hf⟩ := cl1_some hf
        refine a_cVsi (q0 := 0) (rest := []) hX hE (ctX12_isJoined (q := q) hE hg3) K_X12_370 ⟨rfl, rfl⟩ ⟨rfl, rfl, by decide, by decide⟩ ⟨Nat.zero_le _, Nat.zero_le _⟩ (Nat.le_of_ble_eq_true rfl) dX12_joined_39 rfl rfl ?_
        refine a_if_eq (tgt := 49) hX dX12_joined_42 rfl rfl hf (fun hf => ?_) (fun hf => ?_)
        · refine a_iconst (v := 0) hX dX12_joined_49 (by decide) rfl ?_
          exact a_iret hX hT hF (r_i hf) dX12_joined_50
        · refine a_iconst (v := 1) hX dX12_joined_45 (by decide) rfl ?_
          refine a_goto (pc' := 50) hX dX12_joined_46 rfl ?_
          exact a_iret hX hT hF (r_i hf) dX12_joined_50
      · refine a_bipush (v := (-2)) hX dX12_joined_33 (by decide) rfl ?_
        exact a_iret hX hT hF (r_i hf) dX12_joined_35
theorem ctX12_joined {V : Vx} {q : Nat → Nat} {u : St} {res : Int32} (hE : ZOK (vZ V)) {v1 : Int32} {v2 : Int32} (hf : fX12_joined u v1 v2 = some res) : Ct V yX12_joined (.code yX12_joined cX12_joined 3 (some .int)) rmX12_joined 0 0 [.ref (q 0), .int v1, .int v2] (wM V q u) (rEq (some (.int res)) (wM V q u)) :=
  Ct_of (by decide) (Nat.le_of_ble_eq_true rfl) rfl (fun X hX hT _ hF => wX12_joined ⟨hX, hT, hF⟩ hE hf)
def rmX12_findRow : Room := { frames := 1, cells := 0, slots := 0, locals := 26 }
def fX12_findRow_b100  (k11 : St → Int32 → Option (St)) (k17 : St → Int32 → Option (St)) (k31 : Int32 → Int32 → Option (St)) (u : St) (v2 : Int32) (v3 : Int32) (v4 : Int32) (v5 : Int32) : Option (St) := k31 v4 (v5 + 1)
theorem wX12_findRow_b100 {X : Cx} {V : Vx} {q : Nat → Nat} {res : St} (h : Run X cX12_findRow 7 RX12 rmX12_findRow V none (rEq none (wM V q res))) (hE : ZOK (vZ V)) {u : St} {v2 : Int32} {v3 : Int32} {v4 : Int32} {v5 : Int32} {k11 : St → Int32 → Option (St)} (hk11 : ∀ (u : St) (v2 : Int32), k11 u v2 = some res → At X 7 0 0 (wM V q u) 11 [(0, .ref (q 0)), (2, .int v2)] []) {k17 : St → Int32 → Option (St)} (hk17 : ∀ (u : St) (v3 : Int32), k17 u v3 = some res → At X 7 0 0 (wM V q u) 17 [(0, .ref (q 0)), (2, .int v2), (3, .int v3)] []) {k31 : Int32 → Int32 → Option (St)} (hk31 : ∀ (v4 : Int32) (v5 : Int32), k31 v4 v5 = some res → At X 7 0 0 (wM V q u) 31 [(0, .ref (q 0)), (2, .int v2), (3, .int v3), (4, .int v4), (5, .int v5)] []) (hf : fX12_findRow_b100  k11 k17 k31 u v2 v3 v4 v5 = some res) : At X 7 0 0 (wM V q u) 100 [(0, .ref (q 0)), (2, .int v2), (3, .int v3), (4, .int v4), (5, .int v5)] [] := by
  obtain ⟨hX, hT, hF⟩ := id h
  unfold fX12_findRow_b100 at hf
  refine a_iinc (v := v5 + 1) (lv' := [(5, .int (v5 + 1)), (0, .ref (q 0)), (2, .int v2), (3, .int v3), (4, .int v4)]) hX dX12_findRow_100 4 rfl rfl (by decide) rfl rfl ?_
  refine a_goto (pc' := 31) hX dX12_findRow_103 rfl ?_
  refine a_lv (lv' := [(0, .ref (q 0)), (2, .int v2), (3, .int v3), (4, .int v4), (5, .int (v5 + 1))]) [1, 2, 3, 4, 0] rfl ?_
  exact hk31 v4 (v5 + 1) hf
def fX12_findRow_b98  (k11 : St → Int32 → Option (St)) (k17 : St → Int32 → Option (St)) (k31 : Int32 → Int32 → Option (St)) (u : St) (v2 : Int32) (v3 : Int32) (v5 : Int32) (s0 : Int32) : Option (St) := fX12_findRow_b100 k11 k17 k31 u v2 v3 s0 v5
theorem wX12_findRow_b98 {X : Cx} {V : Vx} {q : Nat → Nat} {res : St} (h : Run X cX12_findRow 7 RX12 rmX12_findRow V none (rEq none (wM V q res))) (hE : ZOK (vZ V)) {u : St} {v2 : Int32} {v3 : Int32} {v5 : Int32} {s0 : Int32} {k11 : St → Int32 → Option (St)} (hk11 : ∀ (u : St) (v2 : Int32), k11 u v2 = some res → At X 7 0 0 (wM V q u) 11 [(0, .ref (q 0)), (2, .int v2)] []) {k17 : St → Int32 → Option (St)} (hk17 : ∀ (u : St) (v3 : Int32), k17 u v3 = some res → At X 7 0 0 (wM V q u) 17 [(0, .ref (q 0)), (2, .int v2), (3, .int v3)] []) {k31 : Int32 → Int32 → Option (St)} (hk31 : ∀ (v4 : Int32) (v5 : Int32), k31 v4 v5 = some res → At X 7 0 0 (wM V q u) 31 [(0, .ref (q 0)), (2, .int v2), (3, .int v3), (4, .int v4), (5, .int v5)] []) (hf : fX12_findRow_b98  k11 k17 k31 u v2 v3 v5 s0 = some res) : At X 7 0 0 (wM V q u) 98 [(0, .ref (q 0)), (2, .int v2), (3, .int v3), (5, .int v5)] [.int s0] := by
  obtain ⟨hX, hT, hF⟩ := id h
  unfold fX12_findRow_b98 at hf
  refine a_istore (lv' := [(4, .int s0), (0, .ref (q 0)), (2, .int v2), (3, .int v3), (5, .int v5)]) hX dX12_findRow_98 (by decide) rfl rfl ?_
  refine a_lv (lv' := [(0, .ref (q 0)), (2, .int v2), (3, .int v3), (4, .int s0), (5, .int v5)]) [1, 2, 3, 0, 4] rfl ?_
  exact wX12_findRow_b100 h hE hk11 hk17 hk31 hf
def fX12_findRow_l31b  (k11 : St → Int32 → Option (St)) (k17 : St → Int32 → Option (St)) (k31 : Int32 → Int32 → Option (St)) (u : St) (v2 : Int32) (v3 : Int32) (v4 : Int32) (v5 : Int32) : Option (St) := if gZ u 47 ≤ v5 then stI u 52 2048 ((8 * v2) + v3) v4 (fun u2 => k17 u2 (v3 + 1)) else (if (v2 >>> (v5 &&& 31)) &&& 1 = 1 then fX12_findRow_b100 k11 k17 k31 u v2 v3 v4 v5 else (cl1 (fX12_isJoined u v3 v5) (fun x3 => if x3 = 0 then fX12_findRow_b100 k11 k17 k31 u v2 v3 v4 v5 else (ldI (gA u 52) 2048 ((8 * (v2 ||| ((1 : Int32) <<< (v5 &&& 31)))) + v5) (fun x4 => nmI (1 + x4) (fun x5 => if x5 ≤ v4 then fX12_findRow_b98 k11 k17 k31 u v2 v3 v5 v4 else (fX12_findRow_b98 k11 k17 k31 u v2 v3 v5 x5)))))))
theorem wX12_findRow_l31b {X : Cx} {V : Vx} {q : Nat → Nat} {res : St} (h : Run X cX12_findRow 7 RX12 rmX12_findRow V none (rEq none (wM V q res))) (hE : ZOK (vZ V)) {u : St} {v2 : Int32} {v3 : Int32} {v4 : Int32} {v5 : Int32} {k11 : St → Int32 → Option (St)} (hk11 : ∀ (u : St) (v2 : Int32), k11 u v2 = some res → At X 7 0 0 (wM V q u) 11 [(0, .ref (q 0)), (2, .int v2)] []) {k17 : St → Int32 → Option (St)} (hk17 : ∀ (u : St) (v3 : Int32), k17 u v3 = some res → At X 7 0 0 (wM V q u) 17 [(0, .ref (q 0)), (2, .int v2), (3, .int v3)] []) {k31 : Int32 → Int32 → Option (St)} (hk31 : ∀ (v4 : Int32) (v5 : Int32), k31 v4 v5 = some res → At X 7 0 0 (wM V q u) 31 [(0, .ref (q 0)), (2, .int v2), (3, .int v3), (4, .int v4), (5, .int v5)] []) (hf : fX12_findRow_l31b  k11 k17 k31 u v2 v3 v4 v5 = some res) : At X 7 0 0 (wM V q u) 31 [(0, .ref (q 0)), (2, .int v2), (3, .int v3), (4, .int v4), (5, .int v5)] [] := by
  obtain ⟨hX, hT, hF⟩ := id h
  unfold fX12_findRow_l31b at hf
  refine a_iload hX dX12_findRow_31 4 rfl rfl ?_
  refine a_aload_n hX dX12_findRow_33 rfl 0 rfl rfl ?_
  refine gX12_47 hX F_X12_364 dX12_findRow_34 rfl ?_
  refine a_icmp_ge (tgt := 106) hX dX12_findRow_37 rfl rfl hf (fun hf => ?_) (fun hf => ?_)
  · refine a_aload_n hX dX12_findRow_106 rfl 0 rfl rfl ?_
    refine gX12_52 hX F_X12_100 dX12_findRow_107 rfl ?_
    refine a_bipush (v := 8) hX dX12_findRow_110 (by decide) rfl ?_
    refine a_iload_n hX dX12_findRow_112 rfl 1 rfl rfl ?_
    refine a_imul hX dX12_findRow_113 rfl ?_
    refine a_iload_n hX dX12_findRow_114 rfl 2 rfl rfl ?_
    refine a_iadd hX dX12_findRow_115 rfl ?_
    refine a_iload hX dX12_findRow_116 3 rfl rfl ?_
    refine sX12_52 hX dX12_findRow_118 rfl hf (fun u2 hf => ?_)
    refine a_iinc (v := v3 + 1) (lv' := [(3, .int (v3 + 1)), (0, .ref (q 0)), (2, .int v2), (4, .int v4), (5, .int v5)]) hX dX12_findRow_119 2 rfl rfl (by decide) rfl rfl ?_
    refine a_goto (pc' := 17) hX dX12_findRow_122 rfl ?_
    refine a_lv (lv' := [(0, .ref (q 0)), (2, .int v2), (3, .int (v3 + 1))]) [1, 2, 0] rfl ?_
    exact hk17 u2 (v3 + 1) hf
  · refine a_iload_n hX dX12_findRow_40 rfl 1 rfl rfl ?_
    refine a_iload hX dX12_findRow_41 4 rfl rfl ?_
    refine a_ishr hX dX12_findRow_43 rfl ?_
    refine a_iconst (v := 1) hX dX12_findRow_44 (by decide) rfl ?_
    refine a_iand hX dX12_findRow_45 rfl ?_
    refine a_iconst (v := 1) hX dX12_findRow_46 (by decide) rfl ?_
    refine a_icmp_eq (tgt := 100) hX dX12_findRow_47 rfl rfl hf (fun hf => ?_) (fun hf => ?_)
    · exact wX12_findRow_b100 h hE hk11 hk17 hk31 hf
    · refine a_aload_n hX dX12_findRow_50 rfl 0 rfl rfl ?_
      refine a_iload_n hX dX12_findRow_51 rfl 2 rfl rfl ?_
      refine a_iload hX dX12_findRow_52 4 rfl rfl ?_
      obtain ⟨x3, hg3, hf⟩ := cl1_some hf
      refine a_cVsi (q0 := 0) (rest := []) hX hE (ctX12_isJoined (q := q) hE hg3) K_X12_370 ⟨rfl, rfl⟩ ⟨rfl, rfl, by decide, by decide⟩ ⟨Nat.zero_le _, Nat.zero_le _⟩ (Nat.le_of_ble_eq_true rfl) dX12_findRow_54 rfl rfl ?_
      refine a_if_ne (tgt := 63) hX dX12_findRow_57 rfl rfl hf (fun hf => ?_) (fun hf => ?_)
      · refine a_iconst (v := 1) hX dX12_findRow_63 (by decide) rfl ?_
        refine a_aload_n hX dX12_findRow_64 rfl 0 rfl rfl ?_
        refine gX12_52 hX F_X12_100 dX12_findRow_65 rfl ?_
        refine a_bipush (v := 8) hX dX12_findRow_68 (by decide) rfl ?_
        refine a_iload_n hX dX12_findRow_70 rfl 1 rfl rfl ?_
        refine a_iconst (v := 1) hX dX12_findRow_71 (by decide) rfl ?_
        refine a_iload hX dX12_findRow_72 4 rfl rfl ?_
        refine a_ishl hX dX12_findRow_74 rfl ?_
        refine a_ior hX dX12_findRow_75 rfl ?_
        refine a_imul hX dX12_findRow_76 rfl ?_
        refine a_iload hX dX12_findRow_77 4 rfl rfl ?_
        refine a_iadd hX dX12_findRow_79 rfl ?_
        refine lX12_52 hX dX12_findRow_80 rfl hf (fun x4 hf => ?_)
        refine a_iadd hX dX12_findRow_81 rfl ?_
        refine a_nmI hf (fun x5 hf => ?_)
        refine a_istore (lv' := [(6, .int x5), (0, .ref (q 0)), (2, .int v2), (3, .int v3), (4, .int v4), (5, .int v5)]) hX dX12_findRow_82 (by decide) rfl rfl ?_
        refine a_iload hX dX12_findRow_84 0 rfl rfl ?_
        refine a_iload hX dX12_findRow_86 4 rfl rfl ?_
        refine a_icmp_le (tgt := 96) hX dX12_findRow_88 rfl rfl hf (fun hf => ?_) (fun hf => ?_)
        · refine a_iload hX dX12_findRow_96 4 rfl rfl ?_
          refine a_lv (lv' := [(0, .ref (q 0)), (2, .int v2), (3, .int v3), (5, .int v5)]) [1, 2, 3, 5] rfl ?_
          exact wX12_findRow_b98 h hE hk11 hk17 hk31 hf
        · refine a_iload hX dX12_findRow_91 0 rfl rfl ?_
          refine a_goto (pc' := 98) hX dX12_findRow_93 rfl ?_
          refine a_lv (lv' := [(0, .ref (q 0)), (2, .int v2), (3, .int v3), (5, .int v5)]) [1, 2, 3, 5] rfl ?_
          exact wX12_findRow_b98 h hE hk11 hk17 hk31 hf
      · refine a_goto (pc' := 100) hX dX12_findRow_60 rfl ?_
        exact wX12_findRow_b100 h hE hk11 hk17 hk31 hf
def fX12_findRow_l31  (k11 : St → Int32 → Option (St)) (k17 : St → Int32 → Option (St)) (u : St) (v2 : Int32) (v3 : Int32) : Nat → Int32 → Int32 → Option (St)
  | 0, _, _ => none
  | m + 1, v4, v5 => fX12_findRow_l31b  k11 k17 (fX12_findRow_l31  k11 k17 u v2 v3 m) u v2 v3 v4 v5
theorem wX12_findRow_l31 {X : Cx} {V : Vx} {q : Nat → Nat} {res : St} (h : Run X cX12_findRow 7 RX12 rmX12_findRow V none (rEq none (wM V q res))) (hE : ZOK (vZ V)) {u : St} {v2 : Int32} {v3 : Int32} {k11 : St → Int32 → Option (St)} (hk11 : ∀ (u : St) (v2 : Int32), k11 u v2 = some res → At X 7 0 0 (wM V q u) 11 [(0, .ref (q 0)), (2, .int v2)] []) {k17 : St → Int32 → Option (St)} (hk17 : ∀ (u : St) (v3 : Int32), k17 u v3 = some res → At X 7 0 0 (wM V q u) 17 [(0, .ref (q 0)), (2, .int v2), (3, .int v3)] []) : ∀ (m : Nat) (v4 : Int32) (v5 : Int32), fX12_findRow_l31  k11 k17 u v2 v3 m v4 v5 = some res → At X 7 0 0 (wM V q u) 31 [(0, .ref (q 0)), (2, .int v2), (3, .int v3), (4, .int v4), (5, .int v5)] [] := by
  intro m
  induction m with
  | zero => intro v4 v5 hf; cases hf
  | succ m ih => intro v4 v5 hf; exact wX12_findRow_l31b h hE hk11 hk17 ih hf
def fX12_findRow_l17b  (k11 : St → Int32 → Option (St)) (k17 : St → Int32 → Option (St)) (u : St) (v2 : Int32) (v3 : Int32) : Option (St) := if gZ u 47 ≤ v3 then k11 u (v2 + (-1)) else (fX12_findRow_l31 k11 k17 u v2 v3 NF 0 0)
theorem wX12_findRow_l17b {X : Cx} {V : Vx} {q : Nat → Nat} {res : St} (h : Run X cX12_findRow 7 RX12 rmX12_findRow V none (rEq none (wM V q res))) (hE : ZOK (vZ V)) {u : St} {v2 : Int32} {v3 : Int32} {k11 : St → Int32 → Option (St)} (hk11 : ∀ (u : St) (v2 : Int32), k11 u v2 = some res → At X 7 0 0 (wM V q u) 11 [(0, .ref (q 0)), (2, .int v2)] []) {k17 : St → Int32 → Option (St)} (hk17 : ∀ (u : St) (v3 : Int32), k17 u v3 = some res → At X 7 0 0 (wM V q u) 17 [(0, .ref (q 0)), (2, .int v2), (3, .int v3)] []) (hf : fX12_findRow_l17b  k11 k17 u v2 v3 = some res) : At X 7 0 0 (wM V q u) 17 [(0, .ref (q 0)), (2, .int v2), (3, .int v3)] [] := by
  obtain ⟨hX, hT, hF⟩ := id h
  unfold fX12_findRow_l17b at hf
  refine a_iload_n hX dX12_findRow_17 rfl 2 rfl rfl ?_
  refine a_aload_n hX dX12_findRow_18 rfl 0 rfl rfl ?_
  refine gX12_47 hX F_X12_364 dX12_findRow_19 rfl ?_
  refine a_icmp_ge (tgt := 125) hX dX12_findRow_22 rfl rfl hf (fun hf => ?_) (fun hf => ?_)
  · refine a_iinc (v := v2 + (-1)) (lv' := [(2, .int (v2 + (-1))), (0, .ref (q 0)), (3, .int v3)]) hX dX12_findRow_125 1 rfl rfl (by decide) rfl rfl ?_
    refine a_goto (pc' := 11) hX dX12_findRow_128 rfl ?_
    refine a_lv (lv' := [(0, .ref (q 0)), (2, .int (v2 + (-1)))]) [1, 0] rfl ?_
    exact hk11 u (v2 + (-1)) hf
  · refine a_iconst (v := 0) hX dX12_findRow_25 (by decide) rfl ?_
    refine a_istore (lv' := [(4, .int 0), (0, .ref (q 0)), (2, .int v2), (3, .int v3)]) hX dX12_findRow_26 (by decide) rfl rfl ?_
    refine a_iconst (v := 0) hX dX12_findRow_28 (by decide) rfl ?_
    refine a_istore (lv' := [(5, .int 0), (4, .int 0), (0, .ref (q 0)), (2, .int v2), (3, .int v3)]) hX dX12_findRow_29 (by decide) rfl rfl ?_
    refine a_lv (lv' := [(0, .ref (q 0)), (2, .int v2), (3, .int v3), (4, .int 0), (5, .int 0)]) [2, 3, 4, 1, 0] rfl ?_
    exact wX12_findRow_l31 h hE hk11 hk17 NF 0 0 hf
def fX12_findRow_l17  (k11 : St → Int32 → Option (St)) (v2 : Int32) : Nat → St → Int32 → Option (St)
  | 0, _, _ => none
  | m + 1, u, v3 => fX12_findRow_l17b  k11 (fX12_findRow_l17  k11 v2 m) u v2 v3
theorem wX12_findRow_l17 {X : Cx} {V : Vx} {q : Nat → Nat} {res : St} (h : Run X cX12_findRow 7 RX12 rmX12_findRow V none (rEq none (wM V q res))) (hE : ZOK (vZ V)) {v2 : Int32} {k11 : St → Int32 → Option (St)} (hk11 : ∀ (u : St) (v2 : Int32), k11 u v2 = some res → At X 7 0 0 (wM V q u) 11 [(0, .ref (q 0)), (2, .int v2)] []) : ∀ (m : Nat) (u : St) (v3 : Int32), fX12_findRow_l17  k11 v2 m u v3 = some res → At X 7 0 0 (wM V q u) 17 [(0, .ref (q 0)), (2, .int v2), (3, .int v3)] [] := by
  intro m
  induction m with
  | zero => intro u v3 hf; cases hf
  | succ m ih => intro u v3 hf; exact wX12_findRow_l17b h hE hk11 ih hf
def fX12_findRow_l11b  (k11 : St → Int32 → Option (St)) (u : St) (v2 : Int32) : Option (St) := if v2 ≤ 0 then some u else (fX12_findRow_l17 k11 v2 NF u 0)
theorem wX12_findRow_l11b {X : Cx} {V : Vx} {q : Nat → Nat} {res : St} (h : Run X cX12_findRow 7 RX12 rmX12_findRow V none (rEq none (wM V q res))) (hE : ZOK (vZ V)) {u : St} {v2 : Int32} {k11 : St → Int32 → Option (St)} (hk11 : ∀ (u : St) (v2 : Int32), k11 u v2 = some res → At X 7 0 0 (wM V q u) 11 [(0, .ref (q 0)), (2, .int v2)] []) (hf : fX12_findRow_l11b  k11 u v2 = some res) : At X 7 0 0 (wM V q u) 11 [(0, .ref (q 0)), (2, .int v2)] [] := by
  obtain ⟨hX, hT, hF⟩ := id h
  unfold fX12_findRow_l11b at hf
  refine a_iload_n hX dX12_findRow_11 rfl 1 rfl rfl ?_
  refine a_if_le (tgt := 131) hX dX12_findRow_12 rfl rfl hf (fun hf => ?_) (fun hf => ?_)
  · exact a_ret hX hT hF (r_vS (wf := (wM V q)) hf) dX12_findRow_131
  · refine a_iconst (v := 0) hX dX12_findRow_15 (by decide) rfl ?_
    refine a_istore_n (lv' := [(3, .int 0), (0, .ref (q 0)), (2, .int v2)]) hX dX12_findRow_16 rfl (by decide) rfl rfl ?_
    refine a_lv (lv' := [(0, .ref (q 0)), (2, .int v2), (3, .int 0)]) [1, 2, 0] rfl ?_
    exact wX12_findRow_l17 h hE hk11 NF u 0 hf
def fX12_findRow_l11    : Nat → St → Int32 → Option (St)
  | 0, _, _ => none
  | m + 1, u, v2 => fX12_findRow_l11b  (fX12_findRow_l11    m) u v2
theorem wX12_findRow_l11 {X : Cx} {V : Vx} {q : Nat → Nat} {res : St} (h : Run X cX12_findRow 7 RX12 rmX12_findRow V none (rEq none (wM V q res))) (hE : ZOK (vZ V))  : ∀ (m : Nat) (u : St) (v2 : Int32), fX12_findRow_l11    m u v2 = some res → At X 7 0 0 (wM V q u) 11 [(0, .ref (q 0)), (2, .int v2)] [] := by
  intro m
  induction m with
  | zero => intro u v2 hf; cases hf
  | succ m ih => intro u v2 hf; exact wX12_findRow_l11b h hE ih hf
def fX12_findRow (u : St) : Option (St) := nmI (((1 : Int32) <<< ((gZ u 47) &&& 31)) - 1) (fun x1 => fX12_findRow_l11 NF u x1)
theorem wX12_findRow {X : Cx} {V : Vx} {q : Nat → Nat} {res : St} (h : Run X cX12_findRow 7 RX12 rmX12_findRow V none (rEq none (wM V q res))) (hE : ZOK (vZ V)) {u : St} (hf : fX12_findRow u = some res) : At X 7 0 0 (wM V q u) 0 [(0, .ref (q 0))] [] := by
  obtain ⟨hX, hT, hF⟩ := id h
  unfold fX12_findRow at hf
  refine a_iconst (v := 1) hX dX12_findRow_0 (by decide) rfl ?_
  refine a_aload_n hX dX12_findRow_1 rfl 0 rfl rfl ?_
  refine gX12_47 hX F_X12_364 dX12_findRow_2 rfl ?_
  refine a_ishl hX dX12_findRow_5 rfl ?_
  refine a_iconst (v := 1) hX dX12_findRow_6 (by decide) rfl ?_
  refine a_isub hX dX12_findRow_7 rfl ?_
  refine a_nmI hf (fun x1 hf => ?_)
  refine a_istore_n (lv' := [(1, .int x1), (0, .ref (q 0))]) hX dX12_findRow_8 rfl (by decide) rfl rfl ?_
  refine a_iload_n hX dX12_findRow_9 rfl 0 rfl rfl ?_
  refine a_istore_n (lv' := [(2, .int x1), (1, .int x1), (0, .ref (q 0))]) hX dX12_findRow_10 rfl (by decide) rfl rfl ?_
  refine a_lv (lv' := [(0, .ref (q 0)), (2, .int x1)]) [2, 0] rfl ?_
  exact wX12_findRow_l11 h hE NF u x1 hf
theorem ctX12_findRow {V : Vx} {q : Nat → Nat} {u : St} {res : St} (hE : ZOK (vZ V))  (hf : fX12_findRow u = some res) : Ct V yX12_findRow (.code yX12_findRow cX12_findRow 7 none) rmX12_findRow 0 0 [.ref (q 0)] (wM V q u) (rEq none (wM V q res)) :=
  Ct_of (by decide) (Nat.le_of_ble_eq_true rfl) rfl (fun X hX hT _ hF => wX12_findRow ⟨hX, hT, hF⟩ hE hf)
def rmX12_row : Room := { frames := 2, cells := 0, slots := 0, locals := 52 }
def fX12_row_b45  (k8 : Int32 → Int32 → Option (Int32 × St)) (u : St) (v1 : Int32) (v3 : Int32) (s0 : Int32) : Option (Int32 × St) := k8 s0 (v3 + 1)
theorem wX12_row_b45 {X : Cx} {V : Vx} {q : Nat → Nat} {res : Int32 × St} (h : Run X cX12_row 7 RX12 rmX12_row V (some .int) (rEq (some (.int res.1)) (wM V q res.2))) (hE : ZOK (vZ V)) {u : St} {v1 : Int32} {v3 : Int32} {s0 : Int32} {k8 : Int32 → Int32 → Option (Int32 × St)} (hk8 : ∀ (v2 : Int32) (v3 : Int32), k8 v2 v3 = some res → At X 7 0 0 (wM V q u) 8 [(0, .ref (q 0)), (1, .int v1), (2, .int v2), (3, .int v3)] []) (hf : fX12_row_b45  k8 u v1 v3 s0 = some res) : At X 7 0 0 (wM V q u) 45 [(0, .ref (q 0)), (1, .int v1), (3, .int v3)] [.int s0] := by
  obtain ⟨hX, hT, hF⟩ := id h
  unfold fX12_row_b45 at hf
  refine a_istore_n (lv' := [(2, .int s0), (0, .ref (q 0)), (1, .int v1), (3, .int v3)]) hX dX12_row_45 rfl (by decide) rfl rfl ?_
  refine a_iinc (v := v3 + 1) (lv' := [(3, .int (v3 + 1)), (2, .int s0), (0, .ref (q 0)), (1, .int v1)]) hX dX12_row_46 3 rfl rfl (by decide) rfl rfl ?_
  refine a_goto (pc' := 8) hX dX12_row_49 rfl ?_
  refine a_lv (lv' := [(0, .ref (q 0)), (1, .int v1), (2, .int s0), (3, .int (v3 + 1))]) [2, 3, 1, 0] rfl ?_
  exact hk8 s0 (v3 + 1) hf
def fX12_row_b141  (k80 : Int32 → Int32 → Int32 → Option (Int32 × St)) (k89 : Int32 → Option (Int32 × St)) (u : St) (v1 : Int32) (v2 : Int32) (v3 : Int32) (v4 : Int32) (v5 : Int32) (v6 : Int32) : Option (Int32 × St) := k89 (v6 + 1)
theorem wX12_row_b141 {X : Cx} {V : Vx} {q : Nat → Nat} {res : Int32 × St} (h : Run X cX12_row 7 RX12 rmX12_row V (some .int) (rEq (some (.int res.1)) (wM V q res.2))) (hE : ZOK (vZ V)) {u : St} {v1 : Int32} {v2 : Int32} {v3 : Int32} {v4 : Int32} {v5 : Int32} {v6 : Int32} {k80 : Int32 → Int32 → Int32 → Option (Int32 × St)} (hk80 : ∀ (v3 : Int32) (v4 : Int32) (v5 : Int32), k80 v3 v4 v5 = some res → At X 7 0 0 (wM V q u) 80 [(0, .ref (q 0)), (1, .int v1), (2, .int v2), (3, .int v3), (4, .int v4), (5, .int v5)] []) {k89 : Int32 → Option (Int32 × St)} (hk89 : ∀ (v6 : Int32), k89 v6 = some res → At X 7 0 0 (wM V q u) 89 [(0, .ref (q 0)), (1, .int v1), (2, .int v2), (3, .int v3), (4, .int v4), (5, .int v5), (6, .int v6)] []) (hf : fX12_row_b141  k80 k89 u v1 v2 v3 v4 v5 v6 = some res) : At X 7 0 0 (wM V q u) 141 [(0, .ref (q 0)), (1, .int v1), (2, .int v2), (3, .int v3), (4, .int v4), (5, .int v5), (6, .int v6)] [] := by
  obtain ⟨hX, hT, hF⟩ := id h
  unfold fX12_row_b141 at hf
  refine a_iinc (v := v6 + 1) (lv' := [(6, .int (v6 + 1)), (0, .ref (q 0)), (1, .int v1), (2, .int v2), (3, .int v3), (4, .int v4), (5, .int v5)]) hX dX12_row_141 6 rfl rfl (by decide) rfl rfl ?_
  refine a_goto (pc' := 89) hX dX12_row_144 rfl ?_
  refine a_lv (lv' := [(0, .ref (q 0)), (1, .int v1), (2, .int v2), (3, .int v3), (4, .int v4), (5, .int v5), (6, .int (v6 + 1))]) [1, 2, 3, 4, 5, 6, 0] rfl ?_
  exact hk89 (v6 + 1) hf
def fX12_row_b115  (k80 : Int32 → Int32 → Int32 → Option (Int32 × St)) (k89 : Int32 → Option (Int32 × St)) (u : St) (v1 : Int32) (v2 : Int32) (v3 : Int32) (v4 : Int32) (v5 : Int32) (v6 : Int32) : Option (Int32 × St) := ldI (gA u 52) 2048 ((8 * (v3 ||| ((1 : Int32) <<< (v6 &&& 31)))) + v6) (fun x7 => if x7 = (v2 - v5) - 1 then nmI (v3 ||| ((1 : Int32) <<< (v6 &&& 31))) (fun x8 => k80 x8 v6 (v5 + 1)) else (fX12_row_b141 k80 k89 u v1 v2 v3 v4 v5 v6))
theorem wX12_row_b115 {X : Cx} {V : Vx} {q : Nat → Nat} {res : Int32 × St} (h : Run X cX12_row 7 RX12 rmX12_row V (some .int) (rEq (some (.int res.1)) (wM V q res.2))) (hE : ZOK (vZ V)) {u : St} {v1 : Int32} {v2 : Int32} {v3 : Int32} {v4 : Int32} {v5 : Int32} {v6 : Int32} {k80 : Int32 → Int32 → Int32 → Option (Int32 × St)} (hk80 : ∀ (v3 : Int32) (v4 : Int32) (v5 : Int32), k80 v3 v4 v5 = some res → At X 7 0 0 (wM V q u) 80 [(0, .ref (q 0)), (1, .int v1), (2, .int v2), (3, .int v3), (4, .int v4), (5, .int v5)] []) {k89 : Int32 → Option (Int32 × St)} (hk89 : ∀ (v6 : Int32), k89 v6 = some res → At X 7 0 0 (wM V q u) 89 [(0, .ref (q 0)), (1, .int v1), (2, .int v2), (3, .int v3), (4, .int v4), (5, .int v5), (6, .int v6)] []) (hf : fX12_row_b115  k80 k89 u v1 v2 v3 v4 v5 v6 = some res) : At X 7 0 0 (wM V q u) 115 [(0, .ref (q 0)), (1, .int v1), (2, .int v2), (3, .int v3), (4, .int v4), (5, .int v5), (6, .int v6)] [] := by
  obtain ⟨hX, hT, hF⟩ := id h
  unfold fX12_row_b115 at hf
  refine a_aload_n hX dX12_row_115 rfl 0 rfl rfl ?_
  refine gX12_52 hX F_X12_100 dX12_row_116 rfl ?_
  refine a_bipush (v := 8) hX dX12_row_119 (by decide) rfl ?_
  refine a_iload_n hX dX12_row_121 rfl 3 rfl rfl ?_
  refine a_iconst (v := 1) hX dX12_row_122 (by decide) rfl ?_
  refine a_iload hX dX12_row_123 6 rfl rfl ?_
  refine a_ishl hX dX12_row_125 rfl ?_
  refine a_ior hX dX12_row_126 rfl ?_
  refine a_imul hX dX12_row_127 rfl ?_
  refine a_iload hX dX12_row_128 6 rfl rfl ?_
  refine a_iadd hX dX12_row_130 rfl ?_
  refine lX12_52 hX dX12_row_131 rfl hf (fun x7 hf => ?_)
  refine a_iload_n hX dX12_row_132 rfl 2 rfl rfl ?_
  refine a_iload hX dX12_row_133 5 rfl rfl ?_
  refine a_isub hX dX12_row_135 rfl ?_
  refine a_iconst (v := 1) hX dX12_row_136 (by decide) rfl ?_
  refine a_isub hX dX12_row_137 rfl ?_
  refine a_icmp_eq (tgt := 147) hX dX12_row_138 rfl rfl hf (fun hf => ?_) (fun hf => ?_)
  · refine a_iload_n hX dX12_row_147 rfl 3 rfl rfl ?_
    refine a_iconst (v := 1) hX dX12_row_148 (by decide) rfl ?_
    refine a_iload hX dX12_row_149 6 rfl rfl ?_
    refine a_ishl hX dX12_row_151 rfl ?_
    refine a_ior hX dX12_row_152 rfl ?_
    refine a_nmI hf (fun x8 hf => ?_)
    refine a_istore_n (lv' := [(3, .int x8), (0, .ref (q 0)), (1, .int v1), (2, .int v2), (4, .int v4), (5, .int v5), (6, .int v6)]) hX dX12_row_153 rfl (by decide) rfl rfl ?_
    refine a_iload hX dX12_row_154 6 rfl rfl ?_
    refine a_istore (lv' := [(4, .int v6), (3, .int x8), (0, .ref (q 0)), (1, .int v1), (2, .int v2), (5, .int v5), (6, .int v6)]) hX dX12_row_156 (by decide) rfl rfl ?_
    refine a_iinc (v := v5 + 1) (lv' := [(5, .int (v5 + 1)), (4, .int v6), (3, .int x8), (0, .ref (q 0)), (1, .int v1), (2, .int v2), (6, .int v6)]) hX dX12_row_158 5 rfl rfl (by decide) rfl rfl ?_
    refine a_goto (pc' := 80) hX dX12_row_161 rfl ?_
    refine a_lv (lv' := [(0, .ref (q 0)), (1, .int v1), (2, .int v2), (3, .int x8), (4, .int v6), (5, .int (v5 + 1))]) [3, 4, 5, 2, 1, 0] rfl ?_
    exact hk80 x8 v6 (v5 + 1) hf
  · exact wX12_row_b141 h hE hk80 hk89 hf
def fX12_row_l89b  (k80 : Int32 → Int32 → Int32 → Option (Int32 × St)) (k89 : Int32 → Option (Int32 × St)) (u : St) (v1 : Int32) (v2 : Int32) (v3 : Int32) (v4 : Int32) (v5 : Int32) (v6 : Int32) : Option (Int32 × St) := if (v3 >>> (v6 &&& 31)) &&& 1 = 1 then fX12_row_b141 k80 k89 u v1 v2 v3 v4 v5 v6 else (if v5 ≤ 0 then fX12_row_b115 k80 k89 u v1 v2 v3 v4 v5 v6 else (cl1 (fX12_isJoined u v4 v6) (fun x6 => if x6 = 0 then fX12_row_b141 k80 k89 u v1 v2 v3 v4 v5 v6 else (fX12_row_b115 k80 k89 u v1 v2 v3 v4 v5 v6))))
theorem wX12_row_l89b {X : Cx} {V : Vx} {q : Nat → Nat} {res : Int32 × St} (h : Run X cX12_row 7 RX12 rmX12_row V (some .int) (rEq (some (.int res.1)) (wM V q res.2))) (hE : ZOK (vZ V)) {u : St} {v1 : Int32} {v2 : Int32} {v3 : Int32} {v4 : Int32} {v5 : Int32} {v6 : Int32} {k80 : Int32 → Int32 → Int32 → Option (Int32 × St)} (hk80 : ∀ (v3 : Int32) (v4 : Int32) (v5 : Int32), k80 v3 v4 v5 = some res → At X 7 0 0 (wM V q u) 80 [(0, .ref (q 0)), (1, .int v1), (2, .int v2), (3, .int v3), (4, .int v4), (5, .int v5)] []) {k89 : Int32 → Option (Int32 × St)} (hk89 : ∀ (v6 : Int32), k89 v6 = some res → At X 7 0 0 (wM V q u) 89 [(0, .ref (q 0)), (1, .int v1), (2, .int v2), (3, .int v3), (4, .int v4), (5, .int v5), (6, .int v6)] []) (hf : fX12_row_l89b  k80 k89 u v1 v2 v3 v4 v5 v6 = some res) : At X 7 0 0 (wM V q u) 89 [(0, .ref (q 0)), (1, .int v1), (2, .int v2), (3, .int v3), (4, .int v4), (5, .int v5), (6, .int v6)] [] := by
  obtain ⟨hX, hT, hF⟩ := id h
  unfold fX12_row_l89b at hf
  refine a_iload_n hX dX12_row_89 rfl 3 rfl rfl ?_
  refine a_iload hX dX12_row_90 6 rfl rfl ?_
  refine a_ishr hX dX12_row_92 rfl ?_
  refine a_iconst (v := 1) hX dX12_row_93 (by decide) rfl ?_
  refine a_iand hX dX12_row_94 rfl ?_
  refine a_iconst (v := 1) hX dX12_row_95 (by decide) rfl ?_
  refine a_icmp_eq (tgt := 141) hX dX12_row_96 rfl rfl hf (fun hf => ?_) (fun hf => ?_)
  · exact wX12_row_b141 h hE hk80 hk89 hf
  · refine a_iload hX dX12_row_99 5 rfl rfl ?_
    refine a_if_le (tgt := 115) hX dX12_row_101 rfl rfl hf (fun hf => ?_) (fun hf => ?_)
    · exact wX12_row_b115 h hE hk80 hk89 hf
    · refine a_aload_n hX dX12_row_104 rfl 0 rfl rfl ?_
      refine a_iload hX dX12_row_105 4 rfl rfl ?_
      refine a_iload hX dX12_row_107 6 rfl rfl ?_
      obtain ⟨x6, hg6, hf⟩ := cl1_some hf
      refine a_cVsi (q0 := 0) (rest := []) hX hE (ctX12_isJoined (q := q) hE hg6) K_X12_370 ⟨rfl, rfl⟩ ⟨rfl, rfl, by decide, by decide⟩ ⟨Nat.zero_le _, Nat.zero_le _⟩ (Nat.le_of_ble_eq_true rfl) dX12_row_109 rfl rfl ?_
      refine a_if_eq (tgt := 141) hX dX12_row_112 rfl rfl hf (fun hf => ?_) (fun hf => ?_)
      · exact wX12_row_b141 h hE hk80 hk89 hf
      · exact wX12_row_b115 h hE hk80 hk89 hf
def fX12_row_l89  (k80 : Int32 → Int32 → Int32 → Option (Int32 × St)) (u : St) (v1 : Int32) (v2 : Int32) (v3 : Int32) (v4 : Int32) (v5 : Int32) : Nat → Int32 → Option (Int32 × St)
  | 0, _ => none
  | m + 1, v6 => fX12_row_l89b  k80 (fX12_row_l89  k80 u v1 v2 v3 v4 v5 m) u v1 v2 v3 v4 v5 v6
theorem wX12_row_l89 {X : Cx} {V : Vx} {q : Nat → Nat} {res : Int32 × St} (h : Run X cX12_row 7 RX12 rmX12_row V (some .int) (rEq (some (.int res.1)) (wM V q res.2))) (hE : ZOK (vZ V)) {u : St} {v1 : Int32} {v2 : Int32} {v3 : Int32} {v4 : Int32} {v5 : Int32} {k80 : Int32 → Int32 → Int32 → Option (Int32 × St)} (hk80 : ∀ (v3 : Int32) (v4 : Int32) (v5 : Int32), k80 v3 v4 v5 = some res → At X 7 0 0 (wM V q u) 80 [(0, .ref (q 0)), (1, .int v1), (2, .int v2), (3, .int v3), (4, .int v4), (5, .int v5)] []) : ∀ (m : Nat) (v6 : Int32), fX12_row_l89  k80 u v1 v2 v3 v4 v5 m v6 = some res → At X 7 0 0 (wM V q u) 89 [(0, .ref (q 0)), (1, .int v1), (2, .int v2), (3, .int v3), (4, .int v4), (5, .int v5), (6, .int v6)] [] := by
  intro m
  induction m with
  | zero => intro v6 hf; cases hf
  | succ m ih => intro v6 hf; exact wX12_row_l89b h hE hk80 ih hf
def fX12_row_l80b  (k80 : Int32 → Int32 → Int32 → Option (Int32 × St)) (u : St) (v1 : Int32) (v2 : Int32) (v3 : Int32) (v4 : Int32) (v5 : Int32) : Option (Int32 × St) := if v1 < v5 then some (v4, u) else (fX12_row_l89 k80 u v1 v2 v3 v4 v5 NF 0)
theorem wX12_row_l80b {X : Cx} {V : Vx} {q : Nat → Nat} {res : Int32 × St} (h : Run X cX12_row 7 RX12 rmX12_row V (some .int) (rEq (some (.int res.1)) (wM V q res.2))) (hE : ZOK (vZ V)) {u : St} {v1 : Int32} {v2 : Int32} {v3 : Int32} {v4 : Int32} {v5 : Int32} {k80 : Int32 → Int32 → Int32 → Option (Int32 × St)} (hk80 : ∀ (v3 : Int32) (v4 : Int32) (v5 : Int32), k80 v3 v4 v5 = some res → At X 7 0 0 (wM V q u) 80 [(0, .ref (q 0)), (1, .int v1), (2, .int v2), (3, .int v3), (4, .int v4), (5, .int v5)] []) (hf : fX12_row_l80b  k80 u v1 v2 v3 v4 v5 = some res) : At X 7 0 0 (wM V q u) 80 [(0, .ref (q 0)), (1, .int v1), (2, .int v2), (3, .int v3), (4, .int v4), (5, .int v5)] [] := by
  obtain ⟨hX, hT, hF⟩ := id h
  unfold fX12_row_l80b at hf
  refine a_iload hX dX12_row_80 5 rfl rfl ?_
  refine a_iload_n hX dX12_row_82 rfl 1 rfl rfl ?_
  refine a_icmp_gt (tgt := 164) hX dX12_row_83 rfl rfl hf (fun hf => ?_) (fun hf => ?_)
  · refine a_iload hX dX12_row_164 4 rfl rfl ?_
    exact a_iret hX hT hF (r_iS (wf := (wM V q)) hf) dX12_row_166
  · refine a_iconst (v := 0) hX dX12_row_86 (by decide) rfl ?_
    refine a_istore (lv' := [(6, .int 0), (0, .ref (q 0)), (1, .int v1), (2, .int v2), (3, .int v3), (4, .int v4), (5, .int v5)]) hX dX12_row_87 (by decide) rfl rfl ?_
    refine a_lv (lv' := [(0, .ref (q 0)), (1, .int v1), (2, .int v2), (3, .int v3), (4, .int v4), (5, .int v5), (6, .int 0)]) [1, 2, 3, 4, 5, 6, 0] rfl ?_
    exact wX12_row_l89 h hE hk80 NF 0 hf
def fX12_row_l80   (u : St) (v1 : Int32) (v2 : Int32) : Nat → Int32 → Int32 → Int32 → Option (Int32 × St)
  | 0, _, _, _ => none
  | m + 1, v3, v4, v5 => fX12_row_l80b  (fX12_row_l80   u v1 v2 m) u v1 v2 v3 v4 v5
theorem wX12_row_l80 {X : Cx} {V : Vx} {q : Nat → Nat} {res : Int32 × St} (h : Run X cX12_row 7 RX12 rmX12_row V (some .int) (rEq (some (.int res.1)) (wM V q res.2))) (hE : ZOK (vZ V)) {u : St} {v1 : Int32} {v2 : Int32} : ∀ (m : Nat) (v3 : Int32) (v4 : Int32) (v5 : Int32), fX12_row_l80   u v1 v2 m v3 v4 v5 = some res → At X 7 0 0 (wM V q u) 80 [(0, .ref (q 0)), (1, .int v1), (2, .int v2), (3, .int v3), (4, .int v4), (5, .int v5)] [] := by
  intro m
  induction m with
  | zero => intro v3 v4 v5 hf; cases hf
  | succ m ih => intro v3 v4 v5 hf; exact wX12_row_l80b h hE ih hf
def fX12_row_l8b  (k8 : Int32 → Int32 → Option (Int32 × St)) (u : St) (v1 : Int32) (v2 : Int32) (v3 : Int32) : Option (Int32 × St) := if gZ u 47 ≤ v3 then if v1 = (-1) then some (v2, u) else (cl1 (fX12_in v1 0 (v2 - 1)) (fun x3 => if x3 = 0 then some ((-1), u) else (fX12_row_l80 u v1 v2 NF 0 (-1) 0))) else (ldI (gA u 52) 2048 ((8 * ((1 : Int32) <<< (v3 &&& 31))) + v3) (fun x4 => nmI (1 + x4) (fun x5 => if x5 ≤ v2 then fX12_row_b45 k8 u v1 v3 v2 else (fX12_row_b45 k8 u v1 v3 x5))))
theorem wX12_row_l8b {X : Cx} {V : Vx} {q : Nat → Nat} {res : Int32 × St} (h : Run X cX12_row 7 RX12 rmX12_row V (some .int) (rEq (some (.int res.1)) (wM V q res.2))) (hE : ZOK (vZ V)) {u : St} {v1 : Int32} {v2 : Int32} {v3 : Int32} {k8 : Int32 → Int32 → Option (Int32 × St)} (hk8 : ∀ (v2 : Int32) (v3 : Int32), k8 v2 v3 = some res → At X 7 0 0 (wM V q u) 8 [(0, .ref (q 0)), (1, .int v1), (2, .int v2), (3, .int v3)] []) (hf : fX12_row_l8b  k8 u v1 v2 v3 = some res) : At X 7 0 0 (wM V q u) 8 [(0, .ref (q 0)), (1, .int v1), (2, .int v2), (3, .int v3)] [] := by
  obtain ⟨hX, hT, hF⟩ := id h
  unfold fX12_row_l8b at hf
  refine a_iload_n hX dX12_row_8 rfl 3 rfl rfl ?_
  refine a_aload_n hX dX12_row_9 rfl 0 rfl rfl ?_
  refine gX12_47 hX F_X12_364 dX12_row_10 rfl ?_
  refine a_icmp_ge (tgt := 52) hX dX12_row_13 rfl rfl hf (fun hf => ?_) (fun hf => ?_)
  · refine a_iload_n hX dX12_row_52 rfl 1 rfl rfl ?_
    refine a_iconst (v := (-1)) hX dX12_row_53 (by decide) rfl ?_
    refine a_icmp_ne (tgt := 59) hX dX12_row_54 rfl rfl hf (fun hf => ?_) (fun hf => ?_)
    · refine a_iload_n hX dX12_row_59 rfl 1 rfl rfl ?_
      refine a_iconst (v := 0) hX dX12_row_60 (by decide) rfl ?_
      refine a_iload_n hX dX12_row_61 rfl 2 rfl rfl ?_
      refine a_iconst (v := 1) hX dX12_row_62 (by decide) rfl ?_
      refine a_isub hX dX12_row_63 rfl ?_
      obtain ⟨x3, hg3, hf⟩ := cl1_some hf
      refine a_cSpi (rest := []) hX hE (ctX12_in hE hg3) K_X12_148 ⟨rfl, rfl, by decide, by decide⟩ ⟨Nat.zero_le _, Nat.zero_le _⟩ (Nat.le_of_ble_eq_true rfl) dX12_row_64 rfl rfl ?_
      refine a_if_ne (tgt := 72) hX dX12_row_67 rfl rfl hf (fun hf => ?_) (fun hf => ?_)
      · refine a_iconst (v := 0) hX dX12_row_72 (by decide) rfl ?_
        refine a_istore_n (lv' := [(3, .int 0), (0, .ref (q 0)), (1, .int v1), (2, .int v2)]) hX dX12_row_73 rfl (by decide) rfl rfl ?_
        refine a_iconst (v := (-1)) hX dX12_row_74 (by decide) rfl ?_
        refine a_istore (lv' := [(4, .int (-1)), (3, .int 0), (0, .ref (q 0)), (1, .int v1), (2, .int v2)]) hX dX12_row_75 (by decide) rfl rfl ?_
        refine a_iconst (v := 0) hX dX12_row_77 (by decide) rfl ?_
        refine a_istore (lv' := [(5, .int 0), (4, .int (-1)), (3, .int 0), (0, .ref (q 0)), (1, .int v1), (2, .int v2)]) hX dX12_row_78 (by decide) rfl rfl ?_
        refine a_lv (lv' := [(0, .ref (q 0)), (1, .int v1), (2, .int v2), (3, .int 0), (4, .int (-1)), (5, .int 0)]) [3, 4, 5, 2, 1, 0] rfl ?_
        exact wX12_row_l80 h hE NF 0 (-1) 0 hf
      · refine a_iconst (v := (-1)) hX dX12_row_70 (by decide) rfl ?_
        exact a_iret hX hT hF (r_iS (wf := (wM V q)) hf) dX12_row_71
    · refine a_iload_n hX dX12_row_57 rfl 2 rfl rfl ?_
      exact a_iret hX hT hF (r_iS (wf := (wM V q)) hf) dX12_row_58
  · refine a_iconst (v := 1) hX dX12_row_16 (by decide) rfl ?_
    refine a_aload_n hX dX12_row_17 rfl 0 rfl rfl ?_
    refine gX12_52 hX F_X12_100 dX12_row_18 rfl ?_
    refine a_bipush (v := 8) hX dX12_row_21 (by decide) rfl ?_
    refine a_iconst (v := 1) hX dX12_row_23 (by decide) rfl ?_
    refine a_iload_n hX dX12_row_24 rfl 3 rfl rfl ?_
    refine a_ishl hX dX12_row_25 rfl ?_
    refine a_imul hX dX12_row_26 rfl ?_
    refine a_iload_n hX dX12_row_27 rfl 3 rfl rfl ?_
    refine a_iadd hX dX12_row_28 rfl ?_
    refine lX12_52 hX dX12_row_29 rfl hf (fun x4 hf => ?_)
    refine a_iadd hX dX12_row_30 rfl ?_
    refine a_nmI hf (fun x5 hf => ?_)
    refine a_istore (lv' := [(4, .int x5), (0, .ref (q 0)), (1, .int v1), (2, .int v2), (3, .int v3)]) hX dX12_row_31 (by decide) rfl rfl ?_
    refine a_iload hX dX12_row_33 0 rfl rfl ?_
    refine a_iload_n hX dX12_row_35 rfl 3 rfl rfl ?_
    refine a_icmp_le (tgt := 44) hX dX12_row_36 rfl rfl hf (fun hf => ?_) (fun hf => ?_)
    · refine a_iload_n hX dX12_row_44 rfl 3 rfl rfl ?_
      refine a_lv (lv' := [(0, .ref (q 0)), (1, .int v1), (3, .int v3)]) [1, 2, 4] rfl ?_
      exact wX12_row_b45 h hE hk8 hf
    · refine a_iload hX dX12_row_39 0 rfl rfl ?_
      refine a_goto (pc' := 45) hX dX12_row_41 rfl ?_
      refine a_lv (lv' := [(0, .ref (q 0)), (1, .int v1), (3, .int v3)]) [1, 2, 4] rfl ?_
      exact wX12_row_b45 h hE hk8 hf
def fX12_row_l8   (u : St) (v1 : Int32) : Nat → Int32 → Int32 → Option (Int32 × St)
  | 0, _, _ => none
  | m + 1, v2, v3 => fX12_row_l8b  (fX12_row_l8   u v1 m) u v1 v2 v3
theorem wX12_row_l8 {X : Cx} {V : Vx} {q : Nat → Nat} {res : Int32 × St} (h : Run X cX12_row 7 RX12 rmX12_row V (some .int) (rEq (some (.int res.1)) (wM V q res.2))) (hE : ZOK (vZ V)) {u : St} {v1 : Int32} : ∀ (m : Nat) (v2 : Int32) (v3 : Int32), fX12_row_l8   u v1 m v2 v3 = some res → At X 7 0 0 (wM V q u) 8 [(0, .ref (q 0)), (1, .int v1), (2, .int v2), (3, .int v3)] [] := by
  intro m
  induction m with
  | zero => intro v2 v3 hf; cases hf
  | succ m ih => intro v2 v3 hf; exact wX12_row_l8b h hE ih hf
def fX12_row (u : St) (v1 : Int32) : Option (Int32 × St) := cl1 (fX12_findRow u) (fun u2 => fX12_row_l8 u2 v1 NF 0 0)
theorem wX12_row {X : Cx} {V : Vx} {q : Nat → Nat} {res : Int32 × St} (h : Run X cX12_row 7 RX12 rmX12_row V (some .int) (rEq (some (.int res.1)) (wM V q res.2))) (hE : ZOK (vZ V)) {u : St} {v1 : Int32} (hf : fX12_row u v1 = some res) : At X 7 0 0 (wM V q u) 0 [(0, .ref (q 0)), (1, .int v1)] [] := by
  obtain ⟨hX, hT, hF⟩ := id h
  unfold fX12_row at hf
  refine a_aload_n hX dX12_row_0 rfl 0 rfl rfl ?_
  obtain ⟨u2, hg1, hf⟩ := cl1_some hf
  refine a_cVsv (q0 := 0) (rest := []) hX hE (ctX12_findRow (q := q) hE hg1) K_X12_373 ⟨rfl, rfl⟩ ⟨rfl, rfl, by decide, by decide⟩ ⟨Nat.zero_le _, Nat.zero_le _⟩ (Nat.le_of_ble_eq_true rfl) dX12_row_1 rfl rfl ?_
  refine a_iconst (v := 0) hX dX12_row_4 (by decide) rfl ?_
  refine a_istore_n (lv' := [(2, .int 0), (0, .ref (q 0)), (1, .int v1)]) hX dX12_row_5 rfl (by decide) rfl rfl ?_
  refine a_iconst (v := 0) hX dX12_row_6 (by decide) rfl ?_
  refine a_istore_n (lv' := [(3, .int 0), (2, .int 0), (0, .ref (q 0)), (1, .int v1)]) hX dX12_row_7 rfl (by decide) rfl rfl ?_
  refine a_lv (lv' := [(0, .ref (q 0)), (1, .int v1), (2, .int 0), (3, .int 0)]) [2, 3, 1, 0] rfl ?_
  exact wX12_row_l8 h hE NF 0 0 hf
theorem ctX12_row {V : Vx} {q : Nat → Nat} {u : St} {res : Int32 × St} (hE : ZOK (vZ V)) {v1 : Int32} (hf : fX12_row u v1 = some res) : Ct V yX12_row (.code yX12_row cX12_row 7 (some .int)) rmX12_row 0 0 [.ref (q 0), .int v1] (wM V q u) (rEq (some (.int res.1)) (wM V q res.2)) :=
  Ct_of (by decide) (Nat.le_of_ble_eq_true rfl) rfl (fun X hX hT _ hF => wX12_row ⟨hX, hT, hF⟩ hE hf)
def rmX12_record : Room := { frames := 1, cells := 0, slots := 0, locals := 22 }
def fX12_record (u : St) (v1 : Int32) (v2 : Int32) : Option (Int32 × St) := cl1 (fX12_in v1 0 1023) (fun x1 => if x1 = 0 then some ((-2), u) else (cl1 (fX12_in v2 0 1023) (fun x2 => if x2 = 0 then some ((-2), u) else (if gZ u 53 = 10 then some ((-4), u) else (stI u 54 10 (gZ u 53) (v1 &&& v2) (fun u3 => stI u3 55 10 (gZ u3 53) v2 (fun u4 => nmS (setZ u4 53 ((gZ u4 53) + 1)) (fun u5 => some ((gZ u5 53) - 1, u5)))))))))
theorem wX12_record {X : Cx} {V : Vx} {q : Nat → Nat} {res : Int32 × St} (h : Run X cX12_record 3 RX12 rmX12_record V (some .int) (rEq (some (.int res.1)) (wM V q res.2))) (hE : ZOK (vZ V)) {u : St} {v1 : Int32} {v2 : Int32} (hf : fX12_record u v1 v2 = some res) : At X 3 0 0 (wM V q u) 0 [(0, .ref (q 0)), (1, .int v1), (2, .int v2)] [] := by
  obtain ⟨hX, hT, hF⟩ := id h
  unfold fX12_record at hf
  refine a_iload_n hX dX12_record_0 rfl 1 rfl rfl ?_
  refine a_iconst (v := 0) hX dX12_record_1 (by decide) rfl ?_
  refine a_sipush (v := 1023) hX dX12_record_2 (by decide) rfl ?_
  obtain ⟨x1, hg1, hf⟩ := cl1_some hf
  refine a_cSpi (rest := []) hX hE (ctX12_in hE hg1) K_X12_148 ⟨rfl, rfl, by decide, by decide⟩ ⟨Nat.zero_le _, Nat.zero_le _⟩ (Nat.le_of_ble_eq_true rfl) dX12_record_5 rfl rfl ?_
  refine a_if_eq (tgt := 22) hX dX12_record_8 rfl rfl hf (fun hf => ?_) (fun hf => ?_)
  · refine a_bipush (v := (-2)) hX dX12_record_22 (by decide) rfl ?_
    exact a_iret hX hT hF (r_iS (wf := (wM V q)) hf) dX12_record_24
  · refine a_iload_n hX dX12_record_11 rfl 2 rfl rfl ?_
    refine a_iconst (v := 0) hX dX12_record_12 (by decide) rfl ?_
    refine a_sipush (v := 1023) hX dX12_record_13 (by decide) rfl ?_
    obtain ⟨x2, hg2, hf⟩ := cl1_some hf
    refine a_cSpi (rest := []) hX hE (ctX12_in hE hg2) K_X12_148 ⟨rfl, rfl, by decide, by decide⟩ ⟨Nat.zero_le _, Nat.zero_le _⟩ (Nat.le_of_ble_eq_true rfl) dX12_record_16 rfl rfl ?_
    refine a_if_ne (tgt := 25) hX dX12_record_19 rfl rfl hf (fun hf => ?_) (fun hf => ?_)
    · refine a_aload_n hX dX12_record_25 rfl 0 rfl rfl ?_
      refine gX12_53 hX F_X12_376 dX12_record_26 rfl ?_
      refine a_bipush (v := 10) hX dX12_record_29 (by decide) rfl ?_
      refine a_icmp_ne (tgt := 37) hX dX12_record_31 rfl rfl hf (fun hf => ?_) (fun hf => ?_)
      · refine a_aload_n hX dX12_record_37 rfl 0 rfl rfl ?_
        refine gX12_54 hX F_X12_103 dX12_record_38 rfl ?_
        refine a_aload_n hX dX12_record_41 rfl 0 rfl rfl ?_
        refine gX12_53 hX F_X12_376 dX12_record_42 rfl ?_
        refine a_iload_n hX dX12_record_45 rfl 1 rfl rfl ?_
        refine a_iload_n hX dX12_record_46 rfl 2 rfl rfl ?_
        refine a_iand hX dX12_record_47 rfl ?_
        refine sX12_54 hX dX12_record_48 rfl hf (fun u3 hf => ?_)
        refine a_aload_n hX dX12_record_49 rfl 0 rfl rfl ?_
        refine gX12_55 hX F_X12_106 dX12_record_50 rfl ?_
        refine a_aload_n hX dX12_record_53 rfl 0 rfl rfl ?_
        refine gX12_53 hX F_X12_376 dX12_record_54 rfl ?_
        refine a_iload_n hX dX12_record_57 rfl 2 rfl rfl ?_
        refine sX12_55 hX dX12_record_58 rfl hf (fun u4 hf => ?_)
        refine a_aload_n hX dX12_record_59 rfl 0 rfl rfl ?_
        refine a_dup hX dX12_record_60 rfl rfl ?_
        refine gX12_53 hX F_X12_376 dX12_record_61 rfl ?_
        refine a_iconst (v := 1) hX dX12_record_64 (by decide) rfl ?_
        refine a_iadd hX dX12_record_65 rfl ?_
        refine pX12_53 hX F_X12_376 dX12_record_66 rfl hf (fun u5 hf => ?_)
        refine a_aload_n hX dX12_record_69 rfl 0 rfl rfl ?_
        refine gX12_53 hX F_X12_376 dX12_record_70 rfl ?_
        refine a_iconst (v := 1) hX dX12_record_73 (by decide) rfl ?_
        refine a_isub hX dX12_record_74 rfl ?_
        exact a_iret hX hT hF (r_iS (wf := (wM V q)) hf) dX12_record_75
      · refine a_bipush (v := (-4)) hX dX12_record_34 (by decide) rfl ?_
        exact a_iret hX hT hF (r_iS (wf := (wM V q)) hf) dX12_record_36
    · refine a_bipush (v := (-2)) hX dX12_record_22 (by decide) rfl ?_
      exact a_iret hX hT hF (r_iS (wf := (wM V q)) hf) dX12_record_24
theorem ctX12_record {V : Vx} {q : Nat → Nat} {u : St} {res : Int32 × St} (hE : ZOK (vZ V)) {v1 : Int32} {v2 : Int32} (hf : fX12_record u v1 v2 = some res) : Ct V yX12_record (.code yX12_record cX12_record 3 (some .int)) rmX12_record 0 0 [.ref (q 0), .int v1, .int v2] (wM V q u) (rEq (some (.int res.1)) (wM V q res.2)) :=
  Ct_of (by decide) (Nat.le_of_ble_eq_true rfl) rfl (fun X hX hT _ hF => wX12_record ⟨hX, hT, hF⟩ hE hf)
def rmX12_areAtOdds : Room := { frames := 0, cells := 0, slots := 0, locals := 0 }
def fX12_areAtOdds (u : St) (v1 : Int32) (v2 : Int32) : Option (Int32) := ldI (gA u 54) 10 v1 (fun x1 => ldI (gA u 54) 10 v2 (fun x2 => ldI (gA u 55) 10 v1 (fun x3 => ldI (gA u 55) 10 v2 (fun x4 => if ((x1 ^^^ x2) &&& x3) &&& x4 = 0 then some 0 else (some 1)))))
theorem wX12_areAtOdds {X : Cx} {V : Vx} {q : Nat → Nat} {u : St} {res : Int32} (h : Run X cX12_areAtOdds 3 RX12 rmX12_areAtOdds V (some .boolean) (rEq (some (.int res)) (wM V q u))) (hE : ZOK (vZ V)) {v1 : Int32} {v2 : Int32} (hf : fX12_areAtOdds u v1 v2 = some res) : At X 3 0 0 (wM V q u) 0 [(0, .ref (q 0)), (1, .int v1), (2, .int v2)] [] := by
  obtain ⟨hX, hT, hF⟩ := id h
  unfold fX12_areAtOdds at hf
  refine a_aload_n hX dX12_areAtOdds_0 rfl 0 rfl rfl ?_
  refine gX12_54 hX F_X12_103 dX12_areAtOdds_1 rfl ?_
  refine a_iload_n hX dX12_areAtOdds_4 rfl 1 rfl rfl ?_
  refine lX12_54 hX dX12_areAtOdds_5 rfl hf (fun x1 hf => ?_)
  refine a_aload_n hX dX12_areAtOdds_6 rfl 0 rfl rfl ?_
  refine gX12_54 hX F_X12_103 dX12_areAtOdds_7 rfl ?_
  refine a_iload_n hX dX12_areAtOdds_10 rfl 2 rfl rfl ?_
  refine lX12_54 hX dX12_areAtOdds_11 rfl hf (fun x2 hf => ?_)
  refine a_ixor hX dX12_areAtOdds_12 rfl ?_
  refine a_aload_n hX dX12_areAtOdds_13 rfl 0 rfl rfl ?_
  refine gX12_55 hX F_X12_106 dX12_areAtOdds_14 rfl ?_
  refine a_iload_n hX dX12_areAtOdds_17 rfl 1 rfl rfl ?_
  refine lX12_55 hX dX12_areAtOdds_18 rfl hf (fun x3 hf => ?_)
  refine a_iand hX dX12_areAtOdds_19 rfl ?_
  refine a_aload_n hX dX12_areAtOdds_20 rfl 0 rfl rfl ?_
  refine gX12_55 hX F_X12_106 dX12_areAtOdds_21 rfl ?_
  refine a_iload_n hX dX12_areAtOdds_24 rfl 2 rfl rfl ?_
  refine lX12_55 hX dX12_areAtOdds_25 rfl hf (fun x4 hf => ?_)
  refine a_iand hX dX12_areAtOdds_26 rfl ?_
  refine a_if_eq (tgt := 34) hX dX12_areAtOdds_27 rfl rfl hf (fun hf => ?_) (fun hf => ?_)
  · refine a_iconst (v := 0) hX dX12_areAtOdds_34 (by decide) rfl ?_
    exact a_zret hX hT (by decide) hF (r_i hf) dX12_areAtOdds_35
  · refine a_iconst (v := 1) hX dX12_areAtOdds_30 (by decide) rfl ?_
    refine a_goto (pc' := 35) hX dX12_areAtOdds_31 rfl ?_
    exact a_zret hX hT (by decide) hF (r_i hf) dX12_areAtOdds_35
theorem ctX12_areAtOdds {V : Vx} {q : Nat → Nat} {u : St} {res : Int32} (hE : ZOK (vZ V)) {v1 : Int32} {v2 : Int32} (hf : fX12_areAtOdds u v1 v2 = some res) : Ct V yX12_areAtOdds (.code yX12_areAtOdds cX12_areAtOdds 3 (some .boolean)) rmX12_areAtOdds 0 0 [.ref (q 0), .int v1, .int v2] (wM V q u) (rEq (some (.int res)) (wM V q u)) :=
  Ct_of (by decide) (Nat.le_of_ble_eq_true rfl) rfl (fun X hX hT _ hF => wX12_areAtOdds ⟨hX, hT, hF⟩ hE hf)
def rmX12_match : Room := { frames := 1, cells := 0, slots := 0, locals := 22 }
def fX12_match (u : St) (v1 : Int32) (v2 : Int32) : Option (Int32) := cl1 (fX12_areAtOdds u v1 v2) (fun x1 => if x1 = 0 then ldI (gA u 55) 10 v1 (fun x2 => ldI (gA u 55) 10 v2 (fun x3 => cl1 (fX12_bitsOf (x2 &&& x3)) (fun x4 => if x4 < gZ u 51 then some 0 else (some 1)))) else (some 0))
theorem wX12_match {X : Cx} {V : Vx} {q : Nat → Nat} {u : St} {res : Int32} (h : Run X cX12_match 3 RX12 rmX12_match V (some .boolean) (rEq (some (.int res)) (wM V q u))) (hE : ZOK (vZ V)) {v1 : Int32} {v2 : Int32} (hf : fX12_match u v1 v2 = some res) : At X 3 0 0 (wM V q u) 0 [(0, .ref (q 0)), (1, .int v1), (2, .int v2)] [] := by
  obtain ⟨hX, hT, hF⟩ := id h
  unfold fX12_match at hf
  refine a_aload_n hX dX12_match_0 rfl 0 rfl rfl ?_
  refine a_iload_n hX dX12_match_1 rfl 1 rfl rfl ?_
  refine a_iload_n hX dX12_match_2 rfl 2 rfl rfl ?_
  obtain ⟨x1, hg1, hf⟩ := cl1_some hf
  refine a_cVsi (q0 := 0) (rest := []) hX hE (ctX12_areAtOdds (q := q) hE hg1) K_X12_379 ⟨rfl, rfl⟩ ⟨rfl, rfl, by decide, by decide⟩ ⟨Nat.zero_le _, Nat.zero_le _⟩ (Nat.le_of_ble_eq_true rfl) dX12_match_3 rfl rfl ?_
  refine a_if_ne (tgt := 36) hX dX12_match_6 rfl rfl hf (fun hf => ?_) (fun hf => ?_)
  · refine a_iconst (v := 0) hX dX12_match_36 (by decide) rfl ?_
    exact a_zret hX hT (by decide) hF (r_i hf) dX12_match_37
  · refine a_aload_n hX dX12_match_9 rfl 0 rfl rfl ?_
    refine gX12_55 hX F_X12_106 dX12_match_10 rfl ?_
    refine a_iload_n hX dX12_match_13 rfl 1 rfl rfl ?_
    refine lX12_55 hX dX12_match_14 rfl hf (fun x2 hf => ?_)
    refine a_aload_n hX dX12_match_15 rfl 0 rfl rfl ?_
    refine gX12_55 hX F_X12_106 dX12_match_16 rfl ?_
    refine a_iload_n hX dX12_match_19 rfl 2 rfl rfl ?_
    refine lX12_55 hX dX12_match_20 rfl hf (fun x3 hf => ?_)
    refine a_iand hX dX12_match_21 rfl ?_
    obtain ⟨x4, hg4, hf⟩ := cl1_some hf
    refine a_cSpi (rest := []) hX hE (ctX12_bitsOf hE hg4) K_X12_179 ⟨rfl, rfl, by decide, by decide⟩ ⟨Nat.zero_le _, Nat.zero_le _⟩ (Nat.le_of_ble_eq_true rfl) dX12_match_22 rfl rfl ?_
    refine a_aload_n hX dX12_match_25 rfl 0 rfl rfl ?_
    refine gX12_51 hX F_X12_143 dX12_match_26 rfl ?_
    refine a_icmp_lt (tgt := 36) hX dX12_match_29 rfl rfl hf (fun hf => ?_) (fun hf => ?_)
    · refine a_iconst (v := 0) hX dX12_match_36 (by decide) rfl ?_
      exact a_zret hX hT (by decide) hF (r_i hf) dX12_match_37
    · refine a_iconst (v := 1) hX dX12_match_32 (by decide) rfl ?_
      refine a_goto (pc' := 37) hX dX12_match_33 rfl ?_
      exact a_zret hX hT (by decide) hF (r_i hf) dX12_match_37
theorem ctX12_match {V : Vx} {q : Nat → Nat} {u : St} {res : Int32} (hE : ZOK (vZ V)) {v1 : Int32} {v2 : Int32} (hf : fX12_match u v1 v2 = some res) : Ct V yX12_match (.code yX12_match cX12_match 3 (some .boolean)) rmX12_match 0 0 [.ref (q 0), .int v1, .int v2] (wM V q u) (rEq (some (.int res)) (wM V q u)) :=
  Ct_of (by decide) (Nat.le_of_ble_eq_true rfl) rfl (fun X hX hT _ hF => wX12_match ⟨hX, hT, hF⟩ hE hf)
def rmX12_findThings : Room := { frames := 2, cells := 0, slots := 0, locals := 44 }
def fX12_findThings_b89  (k25 : St → Int32 → Option (St)) (k33 : St → Int32 → Int32 → Option (St)) (k43 : St → Int32 → Int32 → Option (St)) (u : St) (v1 : Int32) (v2 : Int32) (v3 : Int32) : Option (St) := k43 u v1 (v3 + 1)
theorem wX12_findThings_b89 {X : Cx} {V : Vx} {q : Nat → Nat} {res : St} (h : Run X cX12_findThings 4 RX12 rmX12_findThings V none (rEq none (wM V q res))) (hE : ZOK (vZ V)) {u : St} {v1 : Int32} {v2 : Int32} {v3 : Int32} {k25 : St → Int32 → Option (St)} (hk25 : ∀ (u : St) (v1 : Int32), k25 u v1 = some res → At X 4 0 0 (wM V q u) 25 [(0, .ref (q 0)), (1, .int v1)] []) {k33 : St → Int32 → Int32 → Option (St)} (hk33 : ∀ (u : St) (v1 : Int32) (v2 : Int32), k33 u v1 v2 = some res → At X 4 0 0 (wM V q u) 33 [(0, .ref (q 0)), (1, .int v1), (2, .int v2)] []) {k43 : St → Int32 → Int32 → Option (St)} (hk43 : ∀ (u : St) (v1 : Int32) (v3 : Int32), k43 u v1 v3 = some res → At X 4 0 0 (wM V q u) 43 [(0, .ref (q 0)), (1, .int v1), (2, .int v2), (3, .int v3)] []) (hf : fX12_findThings_b89  k25 k33 k43 u v1 v2 v3 = some res) : At X 4 0 0 (wM V q u) 89 [(0, .ref (q 0)), (1, .int v1), (2, .int v2), (3, .int v3)] [] := by
  obtain ⟨hX, hT, hF⟩ := id h
  unfold fX12_findThings_b89 at hf
  refine a_iinc (v := v3 + 1) (lv' := [(3, .int (v3 + 1)), (0, .ref (q 0)), (1, .int v1), (2, .int v2)]) hX dX12_findThings_89 3 rfl rfl (by decide) rfl rfl ?_
  refine a_goto (pc' := 43) hX dX12_findThings_92 rfl ?_
  refine a_lv (lv' := [(0, .ref (q 0)), (1, .int v1), (2, .int v2), (3, .int (v3 + 1))]) [1, 2, 3, 0] rfl ?_
  exact hk43 u v1 (v3 + 1) hf
def fX12_findThings_l43b  (k25 : St → Int32 → Option (St)) (k33 : St → Int32 → Int32 → Option (St)) (k43 : St → Int32 → Int32 → Option (St)) (u : St) (v1 : Int32) (v2 : Int32) (v3 : Int32) : Option (St) := if gZ u 53 ≤ v3 then k33 u v1 (v2 + 1) else (ldI (gA u 56) 10 v3 (fun x2 => ldI (gA u 56) 10 v2 (fun x3 => if x3 ≤ x2 then fX12_findThings_b89 k25 k33 k43 u v1 v2 v3 else (cl1 (fX12_match u v2 v3) (fun x4 => if x4 = 0 then fX12_findThings_b89 k25 k33 k43 u v1 v2 v3 else (ldI (gA u 56) 10 v3 (fun x5 => stI u 56 10 v2 x5 (fun u6 => fX12_findThings_b89 k25 k33 k43 u6 1 v2 v3))))))))
theorem wX12_findThings_l43b {X : Cx} {V : Vx} {q : Nat → Nat} {res : St} (h : Run X cX12_findThings 4 RX12 rmX12_findThings V none (rEq none (wM V q res))) (hE : ZOK (vZ V)) {u : St} {v1 : Int32} {v2 : Int32} {v3 : Int32} {k25 : St → Int32 → Option (St)} (hk25 : ∀ (u : St) (v1 : Int32), k25 u v1 = some res → At X 4 0 0 (wM V q u) 25 [(0, .ref (q 0)), (1, .int v1)] []) {k33 : St → Int32 → Int32 → Option (St)} (hk33 : ∀ (u : St) (v1 : Int32) (v2 : Int32), k33 u v1 v2 = some res → At X 4 0 0 (wM V q u) 33 [(0, .ref (q 0)), (1, .int v1), (2, .int v2)] []) {k43 : St → Int32 → Int32 → Option (St)} (hk43 : ∀ (u : St) (v1 : Int32) (v3 : Int32), k43 u v1 v3 = some res → At X 4 0 0 (wM V q u) 43 [(0, .ref (q 0)), (1, .int v1), (2, .int v2), (3, .int v3)] []) (hf : fX12_findThings_l43b  k25 k33 k43 u v1 v2 v3 = some res) : At X 4 0 0 (wM V q u) 43 [(0, .ref (q 0)), (1, .int v1), (2, .int v2), (3, .int v3)] [] := by
  obtain ⟨hX, hT, hF⟩ := id h
  unfold fX12_findThings_l43b at hf
  refine a_iload_n hX dX12_findThings_43 rfl 3 rfl rfl ?_
  refine a_aload_n hX dX12_findThings_44 rfl 0 rfl rfl ?_
  refine gX12_53 hX F_X12_376 dX12_findThings_45 rfl ?_
  refine a_icmp_ge (tgt := 95) hX dX12_findThings_48 rfl rfl hf (fun hf => ?_) (fun hf => ?_)
  · refine a_iinc (v := v2 + 1) (lv' := [(2, .int (v2 + 1)), (0, .ref (q 0)), (1, .int v1), (3, .int v3)]) hX dX12_findThings_95 2 rfl rfl (by decide) rfl rfl ?_
    refine a_goto (pc' := 33) hX dX12_findThings_98 rfl ?_
    refine a_lv (lv' := [(0, .ref (q 0)), (1, .int v1), (2, .int (v2 + 1))]) [1, 2, 0] rfl ?_
    exact hk33 u v1 (v2 + 1) hf
  · refine a_aload_n hX dX12_findThings_51 rfl 0 rfl rfl ?_
    refine gX12_56 hX F_X12_109 dX12_findThings_52 rfl ?_
    refine a_iload_n hX dX12_findThings_55 rfl 3 rfl rfl ?_
    refine lX12_56 hX dX12_findThings_56 rfl hf (fun x2 hf => ?_)
    refine a_aload_n hX dX12_findThings_57 rfl 0 rfl rfl ?_
    refine gX12_56 hX F_X12_109 dX12_findThings_58 rfl ?_
    refine a_iload_n hX dX12_findThings_61 rfl 2 rfl rfl ?_
    refine lX12_56 hX dX12_findThings_62 rfl hf (fun x3 hf => ?_)
    refine a_icmp_ge (tgt := 89) hX dX12_findThings_63 rfl rfl hf (fun hf => ?_) (fun hf => ?_)
    · exact wX12_findThings_b89 h hE hk25 hk33 hk43 hf
    · refine a_aload_n hX dX12_findThings_66 rfl 0 rfl rfl ?_
      refine a_iload_n hX dX12_findThings_67 rfl 2 rfl rfl ?_
      refine a_iload_n hX dX12_findThings_68 rfl 3 rfl rfl ?_
      obtain ⟨x4, hg4, hf⟩ := cl1_some hf
      refine a_cVsi (q0 := 0) (rest := []) hX hE (ctX12_match (q := q) hE hg4) K_X12_382 ⟨rfl, rfl⟩ ⟨rfl, rfl, by decide, by decide⟩ ⟨Nat.zero_le _, Nat.zero_le _⟩ (Nat.le_of_ble_eq_true rfl) dX12_findThings_69 rfl rfl ?_
      refine a_if_eq (tgt := 89) hX dX12_findThings_72 rfl rfl hf (fun hf => ?_) (fun hf => ?_)
      · exact wX12_findThings_b89 h hE hk25 hk33 hk43 hf
      · refine a_aload_n hX dX12_findThings_75 rfl 0 rfl rfl ?_
        refine gX12_56 hX F_X12_109 dX12_findThings_76 rfl ?_
        refine a_iload_n hX dX12_findThings_79 rfl 2 rfl rfl ?_
        refine a_aload_n hX dX12_findThings_80 rfl 0 rfl rfl ?_
        refine gX12_56 hX F_X12_109 dX12_findThings_81 rfl ?_
        refine a_iload_n hX dX12_findThings_84 rfl 3 rfl rfl ?_
        refine lX12_56 hX dX12_findThings_85 rfl hf (fun x5 hf => ?_)
        refine sX12_56 hX dX12_findThings_86 rfl hf (fun u6 hf => ?_)
        refine a_iconst (v := 1) hX dX12_findThings_87 (by decide) rfl ?_
        refine a_istore_n (lv' := [(1, .int 1), (0, .ref (q 0)), (2, .int v2), (3, .int v3)]) hX dX12_findThings_88 rfl (by decide) rfl rfl ?_
        refine a_lv (lv' := [(0, .ref (q 0)), (1, .int 1), (2, .int v2), (3, .int v3)]) [1, 0, 2, 3] rfl ?_
        exact wX12_findThings_b89 h hE hk25 hk33 hk43 hf
def fX12_findThings_l43  (k25 : St → Int32 → Option (St)) (k33 : St → Int32 → Int32 → Option (St)) (v2 : Int32) : Nat → St → Int32 → Int32 → Option (St)
  | 0, _, _, _ => none
  | m + 1, u, v1, v3 => fX12_findThings_l43b  k25 k33 (fX12_findThings_l43  k25 k33 v2 m) u v1 v2 v3
theorem wX12_findThings_l43 {X : Cx} {V : Vx} {q : Nat → Nat} {res : St} (h : Run X cX12_findThings 4 RX12 rmX12_findThings V none (rEq none (wM V q res))) (hE : ZOK (vZ V)) {v2 : Int32} {k25 : St → Int32 → Option (St)} (hk25 : ∀ (u : St) (v1 : Int32), k25 u v1 = some res → At X 4 0 0 (wM V q u) 25 [(0, .ref (q 0)), (1, .int v1)] []) {k33 : St → Int32 → Int32 → Option (St)} (hk33 : ∀ (u : St) (v1 : Int32) (v2 : Int32), k33 u v1 v2 = some res → At X 4 0 0 (wM V q u) 33 [(0, .ref (q 0)), (1, .int v1), (2, .int v2)] []) : ∀ (m : Nat) (u : St) (v1 : Int32) (v3 : Int32), fX12_findThings_l43  k25 k33 v2 m u v1 v3 = some res → At X 4 0 0 (wM V q u) 43 [(0, .ref (q 0)), (1, .int v1), (2, .int v2), (3, .int v3)] [] := by
  intro m
  induction m with
  | zero => intro u v1 v3 hf; cases hf
  | succ m ih => intro u v1 v3 hf; exact wX12_findThings_l43b h hE hk25 hk33 ih hf
def fX12_findThings_l33b  (k25 : St → Int32 → Option (St)) (k33 : St → Int32 → Int32 → Option (St)) (u : St) (v1 : Int32) (v2 : Int32) : Option (St) := if gZ u 53 ≤ v2 then k25 u v1 else (fX12_findThings_l43 k25 k33 v2 NF u v1 0)
theorem wX12_findThings_l33b {X : Cx} {V : Vx} {q : Nat → Nat} {res : St} (h : Run X cX12_findThings 4 RX12 rmX12_findThings V none (rEq none (wM V q res))) (hE : ZOK (vZ V)) {u : St} {v1 : Int32} {v2 : Int32} {k25 : St → Int32 → Option (St)} (hk25 : ∀ (u : St) (v1 : Int32), k25 u v1 = some res → At X 4 0 0 (wM V q u) 25 [(0, .ref (q 0)), (1, .int v1)] []) {k33 : St → Int32 → Int32 → Option (St)} (hk33 : ∀ (u : St) (v1 : Int32) (v2 : Int32), k33 u v1 v2 = some res → At X 4 0 0 (wM V q u) 33 [(0, .ref (q 0)), (1, .int v1), (2, .int v2)] []) (hf : fX12_findThings_l33b  k25 k33 u v1 v2 = some res) : At X 4 0 0 (wM V q u) 33 [(0, .ref (q 0)), (1, .int v1), (2, .int v2)] [] := by
  obtain ⟨hX, hT, hF⟩ := id h
  unfold fX12_findThings_l33b at hf
  refine a_iload_n hX dX12_findThings_33 rfl 2 rfl rfl ?_
  refine a_aload_n hX dX12_findThings_34 rfl 0 rfl rfl ?_
  refine gX12_53 hX F_X12_376 dX12_findThings_35 rfl ?_
  refine a_icmp_ge (tgt := 101) hX dX12_findThings_38 rfl rfl hf (fun hf => ?_) (fun hf => ?_)
  · refine a_goto (pc' := 25) hX dX12_findThings_101 rfl ?_
    refine a_lv (lv' := [(0, .ref (q 0)), (1, .int v1)]) [0, 1] rfl ?_
    exact hk25 u v1 hf
  · refine a_iconst (v := 0) hX dX12_findThings_41 (by decide) rfl ?_
    refine a_istore_n (lv' := [(3, .int 0), (0, .ref (q 0)), (1, .int v1), (2, .int v2)]) hX dX12_findThings_42 rfl (by decide) rfl rfl ?_
    refine a_lv (lv' := [(0, .ref (q 0)), (1, .int v1), (2, .int v2), (3, .int 0)]) [1, 2, 3, 0] rfl ?_
    exact wX12_findThings_l43 h hE hk25 hk33 NF u v1 0 hf
def fX12_findThings_l33  (k25 : St → Int32 → Option (St))  : Nat → St → Int32 → Int32 → Option (St)
  | 0, _, _, _ => none
  | m + 1, u, v1, v2 => fX12_findThings_l33b  k25 (fX12_findThings_l33  k25  m) u v1 v2
theorem wX12_findThings_l33 {X : Cx} {V : Vx} {q : Nat → Nat} {res : St} (h : Run X cX12_findThings 4 RX12 rmX12_findThings V none (rEq none (wM V q res))) (hE : ZOK (vZ V))  {k25 : St → Int32 → Option (St)} (hk25 : ∀ (u : St) (v1 : Int32), k25 u v1 = some res → At X 4 0 0 (wM V q u) 25 [(0, .ref (q 0)), (1, .int v1)] []) : ∀ (m : Nat) (u : St) (v1 : Int32) (v2 : Int32), fX12_findThings_l33  k25  m u v1 v2 = some res → At X 4 0 0 (wM V q u) 33 [(0, .ref (q 0)), (1, .int v1), (2, .int v2)] [] := by
  intro m
  induction m with
  | zero => intro u v1 v2 hf; cases hf
  | succ m ih => intro u v1 v2 hf; exact wX12_findThings_l33b h hE hk25 ih hf
def fX12_findThings_l25b  (k25 : St → Int32 → Option (St)) (u : St) (v1 : Int32) : Option (St) := if v1 = 0 then some u else (fX12_findThings_l33 k25 NF u 0 0)
theorem wX12_findThings_l25b {X : Cx} {V : Vx} {q : Nat → Nat} {res : St} (h : Run X cX12_findThings 4 RX12 rmX12_findThings V none (rEq none (wM V q res))) (hE : ZOK (vZ V)) {u : St} {v1 : Int32} {k25 : St → Int32 → Option (St)} (hk25 : ∀ (u : St) (v1 : Int32), k25 u v1 = some res → At X 4 0 0 (wM V q u) 25 [(0, .ref (q 0)), (1, .int v1)] []) (hf : fX12_findThings_l25b  k25 u v1 = some res) : At X 4 0 0 (wM V q u) 25 [(0, .ref (q 0)), (1, .int v1)] [] := by
  obtain ⟨hX, hT, hF⟩ := id h
  unfold fX12_findThings_l25b at hf
  refine a_iload_n hX dX12_findThings_25 rfl 1 rfl rfl ?_
  refine a_if_eq (tgt := 104) hX dX12_findThings_26 rfl rfl hf (fun hf => ?_) (fun hf => ?_)
  · exact a_ret hX hT hF (r_vS (wf := (wM V q)) hf) dX12_findThings_104
  · refine a_iconst (v := 0) hX dX12_findThings_29 (by decide) rfl ?_
    refine a_istore_n (lv' := [(1, .int 0), (0, .ref (q 0))]) hX dX12_findThings_30 rfl (by decide) rfl rfl ?_
    refine a_iconst (v := 0) hX dX12_findThings_31 (by decide) rfl ?_
    refine a_istore_n (lv' := [(2, .int 0), (1, .int 0), (0, .ref (q 0))]) hX dX12_findThings_32 rfl (by decide) rfl rfl ?_
    refine a_lv (lv' := [(0, .ref (q 0)), (1, .int 0), (2, .int 0)]) [2, 1, 0] rfl ?_
    exact wX12_findThings_l33 h hE hk25 NF u 0 0 hf
def fX12_findThings_l25    : Nat → St → Int32 → Option (St)
  | 0, _, _ => none
  | m + 1, u, v1 => fX12_findThings_l25b  (fX12_findThings_l25    m) u v1
theorem wX12_findThings_l25 {X : Cx} {V : Vx} {q : Nat → Nat} {res : St} (h : Run X cX12_findThings 4 RX12 rmX12_findThings V none (rEq none (wM V q res))) (hE : ZOK (vZ V))  : ∀ (m : Nat) (u : St) (v1 : Int32), fX12_findThings_l25    m u v1 = some res → At X 4 0 0 (wM V q u) 25 [(0, .ref (q 0)), (1, .int v1)] [] := by
  intro m
  induction m with
  | zero => intro u v1 hf; cases hf
  | succ m ih => intro u v1 hf; exact wX12_findThings_l25b h hE ih hf
def fX12_findThings_l2b  (k2 : St → Int32 → Option (St)) (u : St) (v1 : Int32) : Option (St) := if gZ u 53 ≤ v1 then fX12_findThings_l25 NF u 1 else (stI u 56 10 v1 v1 (fun u1 => k2 u1 (v1 + 1)))
theorem wX12_findThings_l2b {X : Cx} {V : Vx} {q : Nat → Nat} {res : St} (h : Run X cX12_findThings 4 RX12 rmX12_findThings V none (rEq none (wM V q res))) (hE : ZOK (vZ V)) {u : St} {v1 : Int32} {k2 : St → Int32 → Option (St)} (hk2 : ∀ (u : St) (v1 : Int32), k2 u v1 = some res → At X 4 0 0 (wM V q u) 2 [(0, .ref (q 0)), (1, .int v1)] []) (hf : fX12_findThings_l2b  k2 u v1 = some res) : At X 4 0 0 (wM V q u) 2 [(0, .ref (q 0)), (1, .int v1)] [] := by
  obtain ⟨hX, hT, hF⟩ := id h
  unfold fX12_findThings_l2b at hf
  refine a_iload_n hX dX12_findThings_2 rfl 1 rfl rfl ?_
  refine a_aload_n hX dX12_findThings_3 rfl 0 rfl rfl ?_
  refine gX12_53 hX F_X12_376 dX12_findThings_4 rfl ?_
  refine a_icmp_ge (tgt := 23) hX dX12_findThings_7 rfl rfl hf (fun hf => ?_) (fun hf => ?_)
  · refine a_iconst (v := 1) hX dX12_findThings_23 (by decide) rfl ?_
    refine a_istore_n (lv' := [(1, .int 1), (0, .ref (q 0))]) hX dX12_findThings_24 rfl (by decide) rfl rfl ?_
    refine a_lv (lv' := [(0, .ref (q 0)), (1, .int 1)]) [1, 0] rfl ?_
    exact wX12_findThings_l25 h hE NF u 1 hf
  · refine a_aload_n hX dX12_findThings_10 rfl 0 rfl rfl ?_
    refine gX12_56 hX F_X12_109 dX12_findThings_11 rfl ?_
    refine a_iload_n hX dX12_findThings_14 rfl 1 rfl rfl ?_
    refine a_iload_n hX dX12_findThings_15 rfl 1 rfl rfl ?_
    refine sX12_56 hX dX12_findThings_16 rfl hf (fun u1 hf => ?_)
    refine a_iinc (v := v1 + 1) (lv' := [(1, .int (v1 + 1)), (0, .ref (q 0))]) hX dX12_findThings_17 1 rfl rfl (by decide) rfl rfl ?_
    refine a_goto (pc' := 2) hX dX12_findThings_20 rfl ?_
    refine a_lv (lv' := [(0, .ref (q 0)), (1, .int (v1 + 1))]) [1, 0] rfl ?_
    exact hk2 u1 (v1 + 1) hf
def fX12_findThings_l2    : Nat → St → Int32 → Option (St)
  | 0, _, _ => none
  | m + 1, u, v1 => fX12_findThings_l2b  (fX12_findThings_l2    m) u v1
theorem wX12_findThings_l2 {X : Cx} {V : Vx} {q : Nat → Nat} {res : St} (h : Run X cX12_findThings 4 RX12 rmX12_findThings V none (rEq none (wM V q res))) (hE : ZOK (vZ V))  : ∀ (m : Nat) (u : St) (v1 : Int32), fX12_findThings_l2    m u v1 = some res → At X 4 0 0 (wM V q u) 2 [(0, .ref (q 0)), (1, .int v1)] [] := by
  intro m
  induction m with
  | zero => intro u v1 hf; cases hf
  | succ m ih => intro u v1 hf; exact wX12_findThings_l2b h hE ih hf
def fX12_findThings (u : St) : Option (St) := fX12_findThings_l2 NF u 0
theorem wX12_findThings {X : Cx} {V : Vx} {q : Nat → Nat} {res : St} (h : Run X cX12_findThings 4 RX12 rmX12_findThings V none (rEq none (wM V q res))) (hE : ZOK (vZ V)) {u : St} (hf : fX12_findThings u = some res) : At X 4 0 0 (wM V q u) 0 [(0, .ref (q 0))] [] := by
  obtain ⟨hX, hT, hF⟩ := id h
  unfold fX12_findThings at hf
  refine a_iconst (v := 0) hX dX12_findThings_0 (by decide) rfl ?_
  refine a_istore_n (lv' := [(1, .int 0), (0, .ref (q 0))]) hX dX12_findThings_1 rfl (by decide) rfl rfl ?_
  refine a_lv (lv' := [(0, .ref (q 0)), (1, .int 0)]) [1, 0] rfl ?_
  exact wX12_findThings_l2 h hE NF u 0 hf
theorem ctX12_findThings {V : Vx} {q : Nat → Nat} {u : St} {res : St} (hE : ZOK (vZ V))  (hf : fX12_findThings u = some res) : Ct V yX12_findThings (.code yX12_findThings cX12_findThings 4 none) rmX12_findThings 0 0 [.ref (q 0)] (wM V q u) (rEq none (wM V q res)) :=
  Ct_of (by decide) (Nat.le_of_ble_eq_true rfl) rfl (fun X hX hT _ hF => wX12_findThings ⟨hX, hT, hF⟩ hE hf)
def rmX12_same : Room := { frames := 3, cells := 0, slots := 0, locals := 67 }
def fX12_same_b92   (u : St) : Option (Int32 × St) := some (1, u)
theorem wX12_same_b92 {X : Cx} {V : Vx} {q : Nat → Nat} {res : Int32 × St} (h : Run X cX12_same 4 RX12 rmX12_same V (some .int) (rEq (some (.int res.1)) (wM V q res.2))) (hE : ZOK (vZ V)) {u : St} (hf : fX12_same_b92   u = some res) : At X 4 0 0 (wM V q u) 92 [] [] := by
  obtain ⟨hX, hT, hF⟩ := id h
  unfold fX12_same_b92 at hf
  refine a_iconst (v := 1) hX dX12_same_92 (by decide) rfl ?_
  refine a_goto (pc' := 97) hX dX12_same_93 rfl ?_
  exact a_iret hX hT hF (r_iS (wf := (wM V q)) hf) dX12_same_97
def fX12_same (u : St) (v1 : Int32) (v2 : Int32) (v3 : Int32) : Option (Int32 × St) := cl1 (fX12_in v1 0 ((gZ u 53) - 1)) (fun x1 => if x1 = 0 then some ((-2), u) else (cl1 (fX12_in v2 0 ((gZ u 53) - 1)) (fun x2 => if x2 = 0 then some ((-2), u) else (cl1 (fX12_in v3 0 2) (fun x3 => if x3 = 0 then some ((-2), u) else (cl1 (fX12_findThings u) (fun u5 => if v3 = 0 then cl1 (fX12_match u5 v1 v2) (fun x9 => if x9 = 0 then some (0, u5) else (fX12_same_b92 u5)) else (if v3 = 1 then cl1 (fX12_areAtOdds u5 v1 v2) (fun x8 => if x8 = 0 then some (0, u5) else (fX12_same_b92 u5)) else (ldI (gA u5 56) 10 v1 (fun x6 => ldI (gA u5 56) 10 v2 (fun x7 => if x6 = x7 then fX12_same_b92 u5 else (some (0, u5)))))))))))))
theorem wX12_same {X : Cx} {V : Vx} {q : Nat → Nat} {res : Int32 × St} (h : Run X cX12_same 4 RX12 rmX12_same V (some .int) (rEq (some (.int res.1)) (wM V q res.2))) (hE : ZOK (vZ V)) {u : St} {v1 : Int32} {v2 : Int32} {v3 : Int32} (hf : fX12_same u v1 v2 v3 = some res) : At X 4 0 0 (wM V q u) 0 [(0, .ref (q 0)), (1, .int v1), (2, .int v2), (3, .int v3)] [] := by
  obtain ⟨hX, hT, hF⟩ := id h
  unfold fX12_same at hf
  refine a_iload_n hX dX12_same_0 rfl 1 rfl rfl ?_
  refine a_iconst (v := 0) hX dX12_same_1 (by decide) rfl ?_
  refine a_aload_n hX dX12_same_2 rfl 0 rfl rfl ?_
  refine gX12_53 hX F_X12_376 dX12_same_3 rfl ?_
  refine a_iconst (v := 1) hX dX12_same_6 (by decide) rfl ?_
  refine a_isub hX dX12_same_7 rfl ?_
  obtain ⟨x1, hg1, hf⟩ := cl1_some hf
  refine a_cSpi (rest := []) hX hE (ctX12_in hE hg1) K_X12_148 ⟨rfl, rfl, by decide, by decide⟩ ⟨Nat.zero_le _, Nat.zero_le _⟩ (Nat.le_of_ble_eq_true rfl) dX12_same_8 rfl rfl ?_
  refine a_if_eq (tgt := 37) hX dX12_same_11 rfl rfl hf (fun hf => ?_) (fun hf => ?_)
  · refine a_bipush (v := (-2)) hX dX12_same_37 (by decide) rfl ?_
    exact a_iret hX hT hF (r_iS (wf := (wM V q)) hf) dX12_same_39
  · refine a_iload_n hX dX12_same_14 rfl 2 rfl rfl ?_
    refine a_iconst (v := 0) hX dX12_same_15 (by decide) rfl ?_
    refine a_aload_n hX dX12_same_16 rfl 0 rfl rfl ?_
    refine gX12_53 hX F_X12_376 dX12_same_17 rfl ?_
    refine a_iconst (v := 1) hX dX12_same_20 (by decide) rfl ?_
    refine a_isub hX dX12_same_21 rfl ?_
    obtain ⟨x2, hg2, hf⟩ := cl1_some hf
    refine a_cSpi (rest := []) hX hE (ctX12_in hE hg2) K_X12_148 ⟨rfl, rfl, by decide, by decide⟩ ⟨Nat.zero_le _, Nat.zero_le _⟩ (Nat.le_of_ble_eq_true rfl) dX12_same_22 rfl rfl ?_
    refine a_if_eq (tgt := 37) hX dX12_same_25 rfl rfl hf (fun hf => ?_) (fun hf => ?_)
    · refine a_bipush (v := (-2)) hX dX12_same_37 (by decide) rfl ?_
      exact a_iret hX hT hF (r_iS (wf := (wM V q)) hf) dX12_same_39
    · refine a_iload_n hX dX12_same_28 rfl 3 rfl rfl ?_
      refine a_iconst (v := 0) hX dX12_same_29 (by decide) rfl ?_
      refine a_iconst (v := 2) hX dX12_same_30 (by decide) rfl ?_
      obtain ⟨x3, hg3, hf⟩ := cl1_some hf
      refine a_cSpi (rest := []) hX hE (ctX12_in hE hg3) K_X12_148 ⟨rfl, rfl, by decide, by decide⟩ ⟨Nat.zero_le _, Nat.zero_le _⟩ (Nat.le_of_ble_eq_true rfl) dX12_same_31 rfl rfl ?_
      refine a_if_ne (tgt := 40) hX dX12_same_34 rfl rfl hf (fun hf => ?_) (fun hf => ?_)
      · refine a_aload_n hX dX12_same_40 rfl 0 rfl rfl ?_
        obtain ⟨u5, hg4, hf⟩ := cl1_some hf
        refine a_cVsv (q0 := 0) (rest := []) hX hE (ctX12_findThings (q := q) hE hg4) K_X12_385 ⟨rfl, rfl⟩ ⟨rfl, rfl, by decide, by decide⟩ ⟨Nat.zero_le _, Nat.zero_le _⟩ (Nat.le_of_ble_eq_true rfl) dX12_same_41 rfl rfl ?_
        refine a_iload_n hX dX12_same_44 rfl 3 rfl rfl ?_
        refine a_if_ne (tgt := 60) hX dX12_same_45 rfl rfl hf (fun hf => ?_) (fun hf => ?_)
        · refine a_iload_n hX dX12_same_60 rfl 3 rfl rfl ?_
          refine a_iconst (v := 1) hX dX12_same_61 (by decide) rfl ?_
          refine a_icmp_ne (tgt := 77) hX dX12_same_62 rfl rfl hf (fun hf => ?_) (fun hf => ?_)
          · refine a_aload_n hX dX12_same_77 rfl 0 rfl rfl ?_
            refine gX12_56 hX F_X12_109 dX12_same_78 rfl ?_
            refine a_iload_n hX dX12_same_81 rfl 1 rfl rfl ?_
            refine lX12_56 hX dX12_same_82 rfl hf (fun x6 hf => ?_)
            refine a_aload_n hX dX12_same_83 rfl 0 rfl rfl ?_
            refine gX12_56 hX F_X12_109 dX12_same_84 rfl ?_
            refine a_iload_n hX dX12_same_87 rfl 2 rfl rfl ?_
            refine lX12_56 hX dX12_same_88 rfl hf (fun x7 hf => ?_)
            refine a_icmp_ne (tgt := 96) hX dX12_same_89 rfl rfl hf (fun hf => ?_) (fun hf => ?_)
            · refine a_iconst (v := 0) hX dX12_same_96 (by decide) rfl ?_
              exact a_iret hX hT hF (r_iS (wf := (wM V q)) hf) dX12_same_97
            · refine a_lv (lv' := []) [] rfl ?_
              exact wX12_same_b92 h hE hf
          · refine a_aload_n hX dX12_same_65 rfl 0 rfl rfl ?_
            refine a_iload_n hX dX12_same_66 rfl 1 rfl rfl ?_
            refine a_iload_n hX dX12_same_67 rfl 2 rfl rfl ?_
            obtain ⟨x8, hg8, hf⟩ := cl1_some hf
            refine a_cVsi (q0 := 0) (rest := []) hX hE (ctX12_areAtOdds (q := q) hE hg8) K_X12_379 ⟨rfl, rfl⟩ ⟨rfl, rfl, by decide, by decide⟩ ⟨Nat.zero_le _, Nat.zero_le _⟩ (Nat.le_of_ble_eq_true rfl) dX12_same_68 rfl rfl ?_
            refine a_if_eq (tgt := 96) hX dX12_same_71 rfl rfl hf (fun hf => ?_) (fun hf => ?_)
            · refine a_iconst (v := 0) hX dX12_same_96 (by decide) rfl ?_
              exact a_iret hX hT hF (r_iS (wf := (wM V q)) hf) dX12_same_97
            · refine a_goto (pc' := 92) hX dX12_same_74 rfl ?_
              refine a_lv (lv' := []) [] rfl ?_
              exact wX12_same_b92 h hE hf
        · refine a_aload_n hX dX12_same_48 rfl 0 rfl rfl ?_
          refine a_iload_n hX dX12_same_49 rfl 1 rfl rfl ?_
          refine a_iload_n hX dX12_same_50 rfl 2 rfl rfl ?_
          obtain ⟨x9, hg9, hf⟩ := cl1_some hf
          refine a_cVsi (q0 := 0) (rest := []) hX hE (ctX12_match (q := q) hE hg9) K_X12_382 ⟨rfl, rfl⟩ ⟨rfl, rfl, by decide, by decide⟩ ⟨Nat.zero_le _, Nat.zero_le _⟩ (Nat.le_of_ble_eq_true rfl) dX12_same_51 rfl rfl ?_
          refine a_if_eq (tgt := 96) hX dX12_same_54 rfl rfl hf (fun hf => ?_) (fun hf => ?_)
          · refine a_iconst (v := 0) hX dX12_same_96 (by decide) rfl ?_
            exact a_iret hX hT hF (r_iS (wf := (wM V q)) hf) dX12_same_97
          · refine a_goto (pc' := 92) hX dX12_same_57 rfl ?_
            refine a_lv (lv' := []) [] rfl ?_
            exact wX12_same_b92 h hE hf
      · refine a_bipush (v := (-2)) hX dX12_same_37 (by decide) rfl ?_
        exact a_iret hX hT hF (r_iS (wf := (wM V q)) hf) dX12_same_39
theorem ctX12_same {V : Vx} {q : Nat → Nat} {u : St} {res : Int32 × St} (hE : ZOK (vZ V)) {v1 : Int32} {v2 : Int32} {v3 : Int32} (hf : fX12_same u v1 v2 v3 = some res) : Ct V yX12_same (.code yX12_same cX12_same 4 (some .int)) rmX12_same 0 0 [.ref (q 0), .int v1, .int v2, .int v3] (wM V q u) (rEq (some (.int res.1)) (wM V q res.2)) :=
  Ct_of (by decide) (Nat.le_of_ble_eq_true rfl) rfl (fun X hX hT _ hF => wX12_same ⟨hX, hT, hF⟩ hE hf)
def rmX12_hasCopy : Room := { frames := 1, cells := 0, slots := 0, locals := 22 }
def fX12_hasCopy_b53 (u : St) (k2 : Int32 → Option (Int32)) (k14 : Int32 → Option (Int32)) (v1 : Int32) (v2 : Int32) (v3 : Int32) : Option (Int32) := k14 (v3 + 1)
theorem wX12_hasCopy_b53 {X : Cx} {V : Vx} {q : Nat → Nat} {u : St} {res : Int32} (h : Run X cX12_hasCopy 4 RX12 rmX12_hasCopy V (some .boolean) (rEq (some (.int res)) (wM V q u))) (hE : ZOK (vZ V)) {v1 : Int32} {v2 : Int32} {v3 : Int32} {k2 : Int32 → Option (Int32)} (hk2 : ∀ (v2 : Int32), k2 v2 = some res → At X 4 0 0 (wM V q u) 2 [(0, .ref (q 0)), (1, .int v1), (2, .int v2)] []) {k14 : Int32 → Option (Int32)} (hk14 : ∀ (v3 : Int32), k14 v3 = some res → At X 4 0 0 (wM V q u) 14 [(0, .ref (q 0)), (1, .int v1), (2, .int v2), (3, .int v3)] []) (hf : fX12_hasCopy_b53 u k2 k14 v1 v2 v3 = some res) : At X 4 0 0 (wM V q u) 53 [(0, .ref (q 0)), (1, .int v1), (2, .int v2), (3, .int v3)] [] := by
  obtain ⟨hX, hT, hF⟩ := id h
  unfold fX12_hasCopy_b53 at hf
  refine a_iinc (v := v3 + 1) (lv' := [(3, .int (v3 + 1)), (0, .ref (q 0)), (1, .int v1), (2, .int v2)]) hX dX12_hasCopy_53 3 rfl rfl (by decide) rfl rfl ?_
  refine a_goto (pc' := 14) hX dX12_hasCopy_56 rfl ?_
  refine a_lv (lv' := [(0, .ref (q 0)), (1, .int v1), (2, .int v2), (3, .int (v3 + 1))]) [1, 2, 3, 0] rfl ?_
  exact hk14 (v3 + 1) hf
def fX12_hasCopy_l14b (u : St) (k2 : Int32 → Option (Int32)) (k14 : Int32 → Option (Int32)) (v1 : Int32) (v2 : Int32) (v3 : Int32) : Option (Int32) := if gZ u 53 ≤ v3 then k2 (v2 + 1) else (ldI (gA u 56) 10 v2 (fun x2 => if x2 = v1 then ldI (gA u 56) 10 v3 (fun x3 => if x3 = v1 then cl1 (fX12_areAtOdds u v2 v3) (fun x4 => if x4 = 0 then fX12_hasCopy_b53 u k2 k14 v1 v2 v3 else (some 1)) else (fX12_hasCopy_b53 u k2 k14 v1 v2 v3)) else (fX12_hasCopy_b53 u k2 k14 v1 v2 v3)))
theorem wX12_hasCopy_l14b {X : Cx} {V : Vx} {q : Nat → Nat} {u : St} {res : Int32} (h : Run X cX12_hasCopy 4 RX12 rmX12_hasCopy V (some .boolean) (rEq (some (.int res)) (wM V q u))) (hE : ZOK (vZ V)) {v1 : Int32} {v2 : Int32} {v3 : Int32} {k2 : Int32 → Option (Int32)} (hk2 : ∀ (v2 : Int32), k2 v2 = some res → At X 4 0 0 (wM V q u) 2 [(0, .ref (q 0)), (1, .int v1), (2, .int v2)] []) {k14 : Int32 → Option (Int32)} (hk14 : ∀ (v3 : Int32), k14 v3 = some res → At X 4 0 0 (wM V q u) 14 [(0, .ref (q 0)), (1, .int v1), (2, .int v2), (3, .int v3)] []) (hf : fX12_hasCopy_l14b u k2 k14 v1 v2 v3 = some res) : At X 4 0 0 (wM V q u) 14 [(0, .ref (q 0)), (1, .int v1), (2, .int v2), (3, .int v3)] [] := by
  obtain ⟨hX, hT, hF⟩ := id h
  unfold fX12_hasCopy_l14b at hf
  refine a_iload_n hX dX12_hasCopy_14 rfl 3 rfl rfl ?_
  refine a_aload_n hX dX12_hasCopy_15 rfl 0 rfl rfl ?_
  refine gX12_53 hX F_X12_376 dX12_hasCopy_16 rfl ?_
  refine a_icmp_ge (tgt := 59) hX dX12_hasCopy_19 rfl rfl hf (fun hf => ?_) (fun hf => ?_)
  · refine a_iinc (v := v2 + 1) (lv' := [(2, .int (v2 + 1)), (0, .ref (q 0)), (1, .int v1), (3, .int v3)]) hX dX12_hasCopy_59 2 rfl rfl (by decide) rfl rfl ?_
    refine a_goto (pc' := 2) hX dX12_hasCopy_62 rfl ?_
    refine a_lv (lv' := [(0, .ref (q 0)), (1, .int v1), (2, .int (v2 + 1))]) [1, 2, 0] rfl ?_
    exact hk2 (v2 + 1) hf
  · refine a_aload_n hX dX12_hasCopy_22 rfl 0 rfl rfl ?_
    refine gX12_56 hX F_X12_109 dX12_hasCopy_23 rfl ?_
    refine a_iload_n hX dX12_hasCopy_26 rfl 2 rfl rfl ?_
    refine lX12_56 hX dX12_hasCopy_27 rfl hf (fun x2 hf => ?_)
    refine a_iload_n hX dX12_hasCopy_28 rfl 1 rfl rfl ?_
    refine a_icmp_ne (tgt := 53) hX dX12_hasCopy_29 rfl rfl hf (fun hf => ?_) (fun hf => ?_)
    · exact wX12_hasCopy_b53 h hE hk2 hk14 hf
    · refine a_aload_n hX dX12_hasCopy_32 rfl 0 rfl rfl ?_
      refine gX12_56 hX F_X12_109 dX12_hasCopy_33 rfl ?_
      refine a_iload_n hX dX12_hasCopy_36 rfl 3 rfl rfl ?_
      refine lX12_56 hX dX12_hasCopy_37 rfl hf (fun x3 hf => ?_)
      refine a_iload_n hX dX12_hasCopy_38 rfl 1 rfl rfl ?_
      refine a_icmp_ne (tgt := 53) hX dX12_hasCopy_39 rfl rfl hf (fun hf => ?_) (fun hf => ?_)
      · exact wX12_hasCopy_b53 h hE hk2 hk14 hf
      · refine a_aload_n hX dX12_hasCopy_42 rfl 0 rfl rfl ?_
        refine a_iload_n hX dX12_hasCopy_43 rfl 2 rfl rfl ?_
        refine a_iload_n hX dX12_hasCopy_44 rfl 3 rfl rfl ?_
        obtain ⟨x4, hg4, hf⟩ := cl1_some hf
        refine a_cVsi (q0 := 0) (rest := []) hX hE (ctX12_areAtOdds (q := q) hE hg4) K_X12_379 ⟨rfl, rfl⟩ ⟨rfl, rfl, by decide, by decide⟩ ⟨Nat.zero_le _, Nat.zero_le _⟩ (Nat.le_of_ble_eq_true rfl) dX12_hasCopy_45 rfl rfl ?_
        refine a_if_eq (tgt := 53) hX dX12_hasCopy_48 rfl rfl hf (fun hf => ?_) (fun hf => ?_)
        · exact wX12_hasCopy_b53 h hE hk2 hk14 hf
        · refine a_iconst (v := 1) hX dX12_hasCopy_51 (by decide) rfl ?_
          exact a_zret hX hT (by decide) hF (r_i hf) dX12_hasCopy_52
def fX12_hasCopy_l14 (u : St) (k2 : Int32 → Option (Int32)) (v1 : Int32) (v2 : Int32) : Nat → Int32 → Option (Int32)
  | 0, _ => none
  | m + 1, v3 => fX12_hasCopy_l14b u k2 (fX12_hasCopy_l14 u k2 v1 v2 m) v1 v2 v3
theorem wX12_hasCopy_l14 {X : Cx} {V : Vx} {q : Nat → Nat} {u : St} {res : Int32} (h : Run X cX12_hasCopy 4 RX12 rmX12_hasCopy V (some .boolean) (rEq (some (.int res)) (wM V q u))) (hE : ZOK (vZ V)) {v1 : Int32} {v2 : Int32} {k2 : Int32 → Option (Int32)} (hk2 : ∀ (v2 : Int32), k2 v2 = some res → At X 4 0 0 (wM V q u) 2 [(0, .ref (q 0)), (1, .int v1), (2, .int v2)] []) : ∀ (m : Nat) (v3 : Int32), fX12_hasCopy_l14 u k2 v1 v2 m v3 = some res → At X 4 0 0 (wM V q u) 14 [(0, .ref (q 0)), (1, .int v1), (2, .int v2), (3, .int v3)] [] := by
  intro m
  induction m with
  | zero => intro v3 hf; cases hf
  | succ m ih => intro v3 hf; exact wX12_hasCopy_l14b h hE hk2 ih hf
def fX12_hasCopy_l2b (u : St) (k2 : Int32 → Option (Int32)) (v1 : Int32) (v2 : Int32) : Option (Int32) := if gZ u 53 ≤ v2 then some 0 else (nmI (v2 + 1) (fun x1 => fX12_hasCopy_l14 u k2 v1 v2 NF x1))
theorem wX12_hasCopy_l2b {X : Cx} {V : Vx} {q : Nat → Nat} {u : St} {res : Int32} (h : Run X cX12_hasCopy 4 RX12 rmX12_hasCopy V (some .boolean) (rEq (some (.int res)) (wM V q u))) (hE : ZOK (vZ V)) {v1 : Int32} {v2 : Int32} {k2 : Int32 → Option (Int32)} (hk2 : ∀ (v2 : Int32), k2 v2 = some res → At X 4 0 0 (wM V q u) 2 [(0, .ref (q 0)), (1, .int v1), (2, .int v2)] []) (hf : fX12_hasCopy_l2b u k2 v1 v2 = some res) : At X 4 0 0 (wM V q u) 2 [(0, .ref (q 0)), (1, .int v1), (2, .int v2)] [] := by
  obtain ⟨hX, hT, hF⟩ := id h
  unfold fX12_hasCopy_l2b at hf
  refine a_iload_n hX dX12_hasCopy_2 rfl 2 rfl rfl ?_
  refine a_aload_n hX dX12_hasCopy_3 rfl 0 rfl rfl ?_
  refine gX12_53 hX F_X12_376 dX12_hasCopy_4 rfl ?_
  refine a_icmp_ge (tgt := 65) hX dX12_hasCopy_7 rfl rfl hf (fun hf => ?_) (fun hf => ?_)
  · refine a_iconst (v := 0) hX dX12_hasCopy_65 (by decide) rfl ?_
    exact a_zret hX hT (by decide) hF (r_i hf) dX12_hasCopy_66
  · refine a_iload_n hX dX12_hasCopy_10 rfl 2 rfl rfl ?_
    refine a_iconst (v := 1) hX dX12_hasCopy_11 (by decide) rfl ?_
    refine a_iadd hX dX12_hasCopy_12 rfl ?_
    refine a_nmI hf (fun x1 hf => ?_)
    refine a_istore_n (lv' := [(3, .int x1), (0, .ref (q 0)), (1, .int v1), (2, .int v2)]) hX dX12_hasCopy_13 rfl (by decide) rfl rfl ?_
    refine a_lv (lv' := [(0, .ref (q 0)), (1, .int v1), (2, .int v2), (3, .int x1)]) [1, 2, 3, 0] rfl ?_
    exact wX12_hasCopy_l14 h hE hk2 NF x1 hf
def fX12_hasCopy_l2 (u : St)  (v1 : Int32) : Nat → Int32 → Option (Int32)
  | 0, _ => none
  | m + 1, v2 => fX12_hasCopy_l2b u (fX12_hasCopy_l2 u  v1 m) v1 v2
theorem wX12_hasCopy_l2 {X : Cx} {V : Vx} {q : Nat → Nat} {u : St} {res : Int32} (h : Run X cX12_hasCopy 4 RX12 rmX12_hasCopy V (some .boolean) (rEq (some (.int res)) (wM V q u))) (hE : ZOK (vZ V)) {v1 : Int32} : ∀ (m : Nat) (v2 : Int32), fX12_hasCopy_l2 u  v1 m v2 = some res → At X 4 0 0 (wM V q u) 2 [(0, .ref (q 0)), (1, .int v1), (2, .int v2)] [] := by
  intro m
  induction m with
  | zero => intro v2 hf; cases hf
  | succ m ih => intro v2 hf; exact wX12_hasCopy_l2b h hE ih hf
def fX12_hasCopy (u : St) (v1 : Int32) : Option (Int32) := fX12_hasCopy_l2 u v1 NF 0
theorem wX12_hasCopy {X : Cx} {V : Vx} {q : Nat → Nat} {u : St} {res : Int32} (h : Run X cX12_hasCopy 4 RX12 rmX12_hasCopy V (some .boolean) (rEq (some (.int res)) (wM V q u))) (hE : ZOK (vZ V)) {v1 : Int32} (hf : fX12_hasCopy u v1 = some res) : At X 4 0 0 (wM V q u) 0 [(0, .ref (q 0)), (1, .int v1)] [] := by
  obtain ⟨hX, hT, hF⟩ := id h
  unfold fX12_hasCopy at hf
  refine a_iconst (v := 0) hX dX12_hasCopy_0 (by decide) rfl ?_
  refine a_istore_n (lv' := [(2, .int 0), (0, .ref (q 0)), (1, .int v1)]) hX dX12_hasCopy_1 rfl (by decide) rfl rfl ?_
  refine a_lv (lv' := [(0, .ref (q 0)), (1, .int v1), (2, .int 0)]) [1, 2, 0] rfl ?_
  exact wX12_hasCopy_l2 h hE NF 0 hf
theorem ctX12_hasCopy {V : Vx} {q : Nat → Nat} {u : St} {res : Int32} (hE : ZOK (vZ V)) {v1 : Int32} (hf : fX12_hasCopy u v1 = some res) : Ct V yX12_hasCopy (.code yX12_hasCopy cX12_hasCopy 4 (some .boolean)) rmX12_hasCopy 0 0 [.ref (q 0), .int v1] (wM V q u) (rEq (some (.int res)) (wM V q u)) :=
  Ct_of (by decide) (Nat.le_of_ble_eq_true rfl) rfl (fun X hX hT _ hF => wX12_hasCopy ⟨hX, hT, hF⟩ hE hf)
def rmX12_things : Room := { frames := 3, cells := 0, slots := 0, locals := 67 }
def fX12_things_b59  (k22 : Int32 → Int32 → Option (Int32 × St)) (u : St) (v1 : Int32) (v3 : Int32) (s0 : Int32) (s1 : Int32) : Option (Int32 × St) := nmI (s1 + s0) (fun x5 => k22 x5 (v3 + 1))
theorem wX12_things_b59 {X : Cx} {V : Vx} {q : Nat → Nat} {res : Int32 × St} (h : Run X cX12_things 4 RX12 rmX12_things V (some .int) (rEq (some (.int res.1)) (wM V q res.2))) (hE : ZOK (vZ V)) {u : St} {v1 : Int32} {v3 : Int32} {s0 : Int32} {s1 : Int32} {k22 : Int32 → Int32 → Option (Int32 × St)} (hk22 : ∀ (v2 : Int32) (v3 : Int32), k22 v2 v3 = some res → At X 4 0 0 (wM V q u) 22 [(0, .ref (q 0)), (1, .int v1), (2, .int v2), (3, .int v3)] []) (hf : fX12_things_b59  k22 u v1 v3 s0 s1 = some res) : At X 4 0 0 (wM V q u) 59 [(0, .ref (q 0)), (1, .int v1), (3, .int v3)] [.int s0, .int s1] := by
  obtain ⟨hX, hT, hF⟩ := id h
  unfold fX12_things_b59 at hf
  refine a_iadd hX dX12_things_59 rfl ?_
  refine a_nmI hf (fun x5 hf => ?_)
  refine a_istore_n (lv' := [(2, .int x5), (0, .ref (q 0)), (1, .int v1), (3, .int v3)]) hX dX12_things_60 rfl (by decide) rfl rfl ?_
  refine a_iinc (v := v3 + 1) (lv' := [(3, .int (v3 + 1)), (2, .int x5), (0, .ref (q 0)), (1, .int v1)]) hX dX12_things_61 3 rfl rfl (by decide) rfl rfl ?_
  refine a_goto (pc' := 22) hX dX12_things_64 rfl ?_
  refine a_lv (lv' := [(0, .ref (q 0)), (1, .int v1), (2, .int x5), (3, .int (v3 + 1))]) [2, 3, 1, 0] rfl ?_
  exact hk22 x5 (v3 + 1) hf
def fX12_things_b54  (k22 : Int32 → Int32 → Option (Int32 × St)) (u : St) (v1 : Int32) (v3 : Int32) (s0 : Int32) : Option (Int32 × St) := fX12_things_b59 k22 u v1 v3 1 s0
theorem wX12_things_b54 {X : Cx} {V : Vx} {q : Nat → Nat} {res : Int32 × St} (h : Run X cX12_things 4 RX12 rmX12_things V (some .int) (rEq (some (.int res.1)) (wM V q res.2))) (hE : ZOK (vZ V)) {u : St} {v1 : Int32} {v3 : Int32} {s0 : Int32} {k22 : Int32 → Int32 → Option (Int32 × St)} (hk22 : ∀ (v2 : Int32) (v3 : Int32), k22 v2 v3 = some res → At X 4 0 0 (wM V q u) 22 [(0, .ref (q 0)), (1, .int v1), (2, .int v2), (3, .int v3)] []) (hf : fX12_things_b54  k22 u v1 v3 s0 = some res) : At X 4 0 0 (wM V q u) 54 [(0, .ref (q 0)), (1, .int v1), (3, .int v3)] [.int s0] := by
  obtain ⟨hX, hT, hF⟩ := id h
  unfold fX12_things_b54 at hf
  refine a_iconst (v := 1) hX dX12_things_54 (by decide) rfl ?_
  refine a_goto (pc' := 59) hX dX12_things_55 rfl ?_
  exact wX12_things_b59 h hE hk22 hf
def fX12_things_b58  (k22 : Int32 → Int32 → Option (Int32 × St)) (u : St) (v1 : Int32) (v3 : Int32) (s0 : Int32) : Option (Int32 × St) := fX12_things_b59 k22 u v1 v3 0 s0
theorem wX12_things_b58 {X : Cx} {V : Vx} {q : Nat → Nat} {res : Int32 × St} (h : Run X cX12_things 4 RX12 rmX12_things V (some .int) (rEq (some (.int res.1)) (wM V q res.2))) (hE : ZOK (vZ V)) {u : St} {v1 : Int32} {v3 : Int32} {s0 : Int32} {k22 : Int32 → Int32 → Option (Int32 × St)} (hk22 : ∀ (v2 : Int32) (v3 : Int32), k22 v2 v3 = some res → At X 4 0 0 (wM V q u) 22 [(0, .ref (q 0)), (1, .int v1), (2, .int v2), (3, .int v3)] []) (hf : fX12_things_b58  k22 u v1 v3 s0 = some res) : At X 4 0 0 (wM V q u) 58 [(0, .ref (q 0)), (1, .int v1), (3, .int v3)] [.int s0] := by
  obtain ⟨hX, hT, hF⟩ := id h
  unfold fX12_things_b58 at hf
  refine a_iconst (v := 0) hX dX12_things_58 (by decide) rfl ?_
  exact wX12_things_b59 h hE hk22 hf
def fX12_things_l22b  (k22 : Int32 → Int32 → Option (Int32 × St)) (u : St) (v1 : Int32) (v2 : Int32) (v3 : Int32) : Option (Int32 × St) := if gZ u 53 ≤ v3 then some (v2, u) else (ldI (gA u 56) 10 v3 (fun x3 => if x3 = v3 then if v1 = (-1) then fX12_things_b54 k22 u v1 v3 v2 else (cl1 (fX12_hasCopy u v3) (fun x4 => if x4 = 0 then fX12_things_b58 k22 u v1 v3 v2 else (fX12_things_b54 k22 u v1 v3 v2))) else (fX12_things_b58 k22 u v1 v3 v2)))
theorem wX12_things_l22b {X : Cx} {V : Vx} {q : Nat → Nat} {res : Int32 × St} (h : Run X cX12_things 4 RX12 rmX12_things V (some .int) (rEq (some (.int res.1)) (wM V q res.2))) (hE : ZOK (vZ V)) {u : St} {v1 : Int32} {v2 : Int32} {v3 : Int32} {k22 : Int32 → Int32 → Option (Int32 × St)} (hk22 : ∀ (v2 : Int32) (v3 : Int32), k22 v2 v3 = some res → At X 4 0 0 (wM V q u) 22 [(0, .ref (q 0)), (1, .int v1), (2, .int v2), (3, .int v3)] []) (hf : fX12_things_l22b  k22 u v1 v2 v3 = some res) : At X 4 0 0 (wM V q u) 22 [(0, .ref (q 0)), (1, .int v1), (2, .int v2), (3, .int v3)] [] := by
  obtain ⟨hX, hT, hF⟩ := id h
  unfold fX12_things_l22b at hf
  refine a_iload_n hX dX12_things_22 rfl 3 rfl rfl ?_
  refine a_aload_n hX dX12_things_23 rfl 0 rfl rfl ?_
  refine gX12_53 hX F_X12_376 dX12_things_24 rfl ?_
  refine a_icmp_ge (tgt := 67) hX dX12_things_27 rfl rfl hf (fun hf => ?_) (fun hf => ?_)
  · refine a_iload_n hX dX12_things_67 rfl 2 rfl rfl ?_
    exact a_iret hX hT hF (r_iS (wf := (wM V q)) hf) dX12_things_68
  · refine a_iload_n hX dX12_things_30 rfl 2 rfl rfl ?_
    refine a_aload_n hX dX12_things_31 rfl 0 rfl rfl ?_
    refine gX12_56 hX F_X12_109 dX12_things_32 rfl ?_
    refine a_iload_n hX dX12_things_35 rfl 3 rfl rfl ?_
    refine lX12_56 hX dX12_things_36 rfl hf (fun x3 hf => ?_)
    refine a_iload_n hX dX12_things_37 rfl 3 rfl rfl ?_
    refine a_icmp_ne (tgt := 58) hX dX12_things_38 rfl rfl hf (fun hf => ?_) (fun hf => ?_)
    · refine a_lv (lv' := [(0, .ref (q 0)), (1, .int v1), (3, .int v3)]) [0, 1, 3] rfl ?_
      exact wX12_things_b58 h hE hk22 hf
    · refine a_iload_n hX dX12_things_41 rfl 1 rfl rfl ?_
      refine a_iconst (v := (-1)) hX dX12_things_42 (by decide) rfl ?_
      refine a_icmp_eq (tgt := 54) hX dX12_things_43 rfl rfl hf (fun hf => ?_) (fun hf => ?_)
      · refine a_lv (lv' := [(0, .ref (q 0)), (1, .int v1), (3, .int v3)]) [0, 1, 3] rfl ?_
        exact wX12_things_b54 h hE hk22 hf
      · refine a_aload_n hX dX12_things_46 rfl 0 rfl rfl ?_
        refine a_iload_n hX dX12_things_47 rfl 3 rfl rfl ?_
        obtain ⟨x4, hg4, hf⟩ := cl1_some hf
        refine a_cVsi (q0 := 0) (rest := [.int v2]) hX hE (ctX12_hasCopy (q := q) hE hg4) K_X12_388 ⟨rfl, rfl⟩ ⟨rfl, rfl, by decide, by decide⟩ ⟨Nat.zero_le _, Nat.zero_le _⟩ (Nat.le_of_ble_eq_true rfl) dX12_things_48 rfl rfl ?_
        refine a_if_eq (tgt := 58) hX dX12_things_51 rfl rfl hf (fun hf => ?_) (fun hf => ?_)
        · refine a_lv (lv' := [(0, .ref (q 0)), (1, .int v1), (3, .int v3)]) [0, 1, 3] rfl ?_
          exact wX12_things_b58 h hE hk22 hf
        · refine a_lv (lv' := [(0, .ref (q 0)), (1, .int v1), (3, .int v3)]) [0, 1, 3] rfl ?_
          exact wX12_things_b54 h hE hk22 hf
def fX12_things_l22   (u : St) (v1 : Int32) : Nat → Int32 → Int32 → Option (Int32 × St)
  | 0, _, _ => none
  | m + 1, v2, v3 => fX12_things_l22b  (fX12_things_l22   u v1 m) u v1 v2 v3
theorem wX12_things_l22 {X : Cx} {V : Vx} {q : Nat → Nat} {res : Int32 × St} (h : Run X cX12_things 4 RX12 rmX12_things V (some .int) (rEq (some (.int res.1)) (wM V q res.2))) (hE : ZOK (vZ V)) {u : St} {v1 : Int32} : ∀ (m : Nat) (v2 : Int32) (v3 : Int32), fX12_things_l22   u v1 m v2 v3 = some res → At X 4 0 0 (wM V q u) 22 [(0, .ref (q 0)), (1, .int v1), (2, .int v2), (3, .int v3)] [] := by
  intro m
  induction m with
  | zero => intro v2 v3 hf; cases hf
  | succ m ih => intro v2 v3 hf; exact wX12_things_l22b h hE ih hf
def fX12_things_b14   (u : St) (v1 : Int32) : Option (Int32 × St) := cl1 (fX12_findThings u) (fun u2 => fX12_things_l22 u2 v1 NF 0 0)
theorem wX12_things_b14 {X : Cx} {V : Vx} {q : Nat → Nat} {res : Int32 × St} (h : Run X cX12_things 4 RX12 rmX12_things V (some .int) (rEq (some (.int res.1)) (wM V q res.2))) (hE : ZOK (vZ V)) {u : St} {v1 : Int32} (hf : fX12_things_b14   u v1 = some res) : At X 4 0 0 (wM V q u) 14 [(0, .ref (q 0)), (1, .int v1)] [] := by
  obtain ⟨hX, hT, hF⟩ := id h
  unfold fX12_things_b14 at hf
  refine a_aload_n hX dX12_things_14 rfl 0 rfl rfl ?_
  obtain ⟨u2, hg1, hf⟩ := cl1_some hf
  refine a_cVsv (q0 := 0) (rest := []) hX hE (ctX12_findThings (q := q) hE hg1) K_X12_385 ⟨rfl, rfl⟩ ⟨rfl, rfl, by decide, by decide⟩ ⟨Nat.zero_le _, Nat.zero_le _⟩ (Nat.le_of_ble_eq_true rfl) dX12_things_15 rfl rfl ?_
  refine a_iconst (v := 0) hX dX12_things_18 (by decide) rfl ?_
  refine a_istore_n (lv' := [(2, .int 0), (0, .ref (q 0)), (1, .int v1)]) hX dX12_things_19 rfl (by decide) rfl rfl ?_
  refine a_iconst (v := 0) hX dX12_things_20 (by decide) rfl ?_
  refine a_istore_n (lv' := [(3, .int 0), (2, .int 0), (0, .ref (q 0)), (1, .int v1)]) hX dX12_things_21 rfl (by decide) rfl rfl ?_
  refine a_lv (lv' := [(0, .ref (q 0)), (1, .int v1), (2, .int 0), (3, .int 0)]) [2, 3, 1, 0] rfl ?_
  exact wX12_things_l22 h hE NF 0 0 hf
def fX12_things (u : St) (v1 : Int32) : Option (Int32 × St) := if v1 = (-1) then fX12_things_b14 u v1 else (if v1 = (-2) then fX12_things_b14 u v1 else (some ((-2), u)))
theorem wX12_things {X : Cx} {V : Vx} {q : Nat → Nat} {res : Int32 × St} (h : Run X cX12_things 4 RX12 rmX12_things V (some .int) (rEq (some (.int res.1)) (wM V q res.2))) (hE : ZOK (vZ V)) {u : St} {v1 : Int32} (hf : fX12_things u v1 = some res) : At X 4 0 0 (wM V q u) 0 [(0, .ref (q 0)), (1, .int v1)] [] := by
  obtain ⟨hX, hT, hF⟩ := id h
  unfold fX12_things at hf
  refine a_iload_n hX dX12_things_0 rfl 1 rfl rfl ?_
  refine a_iconst (v := (-1)) hX dX12_things_1 (by decide) rfl ?_
  refine a_icmp_eq (tgt := 14) hX dX12_things_2 rfl rfl hf (fun hf => ?_) (fun hf => ?_)
  · exact wX12_things_b14 h hE hf
  · refine a_iload_n hX dX12_things_5 rfl 1 rfl rfl ?_
    refine a_bipush (v := (-2)) hX dX12_things_6 (by decide) rfl ?_
    refine a_icmp_eq (tgt := 14) hX dX12_things_8 rfl rfl hf (fun hf => ?_) (fun hf => ?_)
    · exact wX12_things_b14 h hE hf
    · refine a_bipush (v := (-2)) hX dX12_things_11 (by decide) rfl ?_
      exact a_iret hX hT hF (r_iS (wf := (wM V q)) hf) dX12_things_13
theorem ctX12_things {V : Vx} {q : Nat → Nat} {u : St} {res : Int32 × St} (hE : ZOK (vZ V)) {v1 : Int32} (hf : fX12_things u v1 = some res) : Ct V yX12_things (.code yX12_things cX12_things 4 (some .int)) rmX12_things 0 0 [.ref (q 0), .int v1] (wM V q u) (rEq (some (.int res.1)) (wM V q res.2)) :=
  Ct_of (by decide) (Nat.le_of_ble_eq_true rfl) rfl (fun X hX hT _ hF => wX12_things ⟨hX, hT, hF⟩ hE hf)
def rmX12_count : Room := { frames := 1, cells := 0, slots := 0, locals := 23 }
def fX12_count (u : St) (v1 : Int32) : Option (Int32) := if v1 = 0 then some (gZ u 1) else (if v1 = 1 then some (gZ u 3) else (if v1 = 2 then some (gZ u 8) else (if v1 = 3 then cl1 (fX12_standing u (-1)) (fun x1 => cl1 (fX12_bitsOf x1) (fun x2 => some x2)) else (if v1 = 4 then some (gZ u 38) else (if v1 = 5 then some (gZ u 45) else (if v1 = 6 then some (gZ u 47) else (if v1 = 7 then some (gZ u 53) else (if v1 = 8 then some (gZ u 23) else (if v1 = 9 then some (gZ u 25) else (if v1 = 10 then some (gZ u 2) else (some (-2))))))))))))
theorem wX12_count {X : Cx} {V : Vx} {q : Nat → Nat} {u : St} {res : Int32} (h : Run X cX12_count 2 RX12 rmX12_count V (some .int) (rEq (some (.int res)) (wM V q u))) (hE : ZOK (vZ V)) {v1 : Int32} (hf : fX12_count u v1 = some res) : At X 2 0 0 (wM V q u) 0 [(0, .ref (q 0)), (1, .int v1)] [] := by
  obtain ⟨hX, hT, hF⟩ := id h
  unfold fX12_count at hf
  refine a_iload_n hX dX12_count_0 rfl 1 rfl rfl ?_
  by_cases hs0 : v1 = 0
  · rw [if_pos hs0] at hf
    refine a_tsw (pc' := 60) hX dX12_count_1 0 hs0 (by decide) (by decide) rfl rfl ?_
    refine a_aload_n hX dX12_count_60 rfl 0 rfl rfl ?_
    refine gX12_1 hX F_X12_124 dX12_count_61 rfl ?_
    exact a_iret hX hT hF (r_i hf) dX12_count_64
  · rw [if_neg hs0] at hf
    by_cases hs1 : v1 = 1
    · rw [if_pos hs1] at hf
      refine a_tsw (pc' := 65) hX dX12_count_1 1 hs1 (by decide) (by decide) rfl rfl ?_
      refine a_aload_n hX dX12_count_65 rfl 0 rfl rfl ?_
      refine gX12_3 hX F_X12_159 dX12_count_66 rfl ?_
      exact a_iret hX hT hF (r_i hf) dX12_count_69
    · rw [if_neg hs1] at hf
      by_cases hs2 : v1 = 2
      · rw [if_pos hs2] at hf
        refine a_tsw (pc' := 70) hX dX12_count_1 2 hs2 (by decide) (by decide) rfl rfl ?_
        refine a_aload_n hX dX12_count_70 rfl 0 rfl rfl ?_
        refine gX12_8 hX F_X12_162 dX12_count_71 rfl ?_
        exact a_iret hX hT hF (r_i hf) dX12_count_74
      · rw [if_neg hs2] at hf
        by_cases hs3 : v1 = 3
        · rw [if_pos hs3] at hf
          refine a_tsw (pc' := 75) hX dX12_count_1 3 hs3 (by decide) (by decide) rfl rfl ?_
          refine a_aload_n hX dX12_count_75 rfl 0 rfl rfl ?_
          refine a_iconst (v := (-1)) hX dX12_count_76 (by decide) rfl ?_
          obtain ⟨x1, hg1, hf⟩ := cl1_some hf
          refine a_cVsi (q0 := 0) (rest := []) hX hE (ctX12_standing (q := q) hE hg1) K_X12_168 ⟨rfl, rfl⟩ ⟨rfl, rfl, by decide, by decide⟩ ⟨Nat.zero_le _, Nat.zero_le _⟩ (Nat.le_of_ble_eq_true rfl) dX12_count_77 rfl rfl ?_
          obtain ⟨x2, hg2, hf⟩ := cl1_some hf
          refine a_cSpi (rest := []) hX hE (ctX12_bitsOf hE hg2) K_X12_179 ⟨rfl, rfl, by decide, by decide⟩ ⟨Nat.zero_le _, Nat.zero_le _⟩ (Nat.le_of_ble_eq_true rfl) dX12_count_80 rfl rfl ?_
          exact a_iret hX hT hF (r_i hf) dX12_count_83
        · rw [if_neg hs3] at hf
          by_cases hs4 : v1 = 4
          · rw [if_pos hs4] at hf
            refine a_tsw (pc' := 84) hX dX12_count_1 4 hs4 (by decide) (by decide) rfl rfl ?_
            refine a_aload_n hX dX12_count_84 rfl 0 rfl rfl ?_
            refine gX12_38 hX F_X12_333 dX12_count_85 rfl ?_
            exact a_iret hX hT hF (r_i hf) dX12_count_88
          · rw [if_neg hs4] at hf
            by_cases hs5 : v1 = 5
            · rw [if_pos hs5] at hf
              refine a_tsw (pc' := 89) hX dX12_count_1 5 hs5 (by decide) (by decide) rfl rfl ?_
              refine a_aload_n hX dX12_count_89 rfl 0 rfl rfl ?_
              refine gX12_45 hX F_X12_346 dX12_count_90 rfl ?_
              exact a_iret hX hT hF (r_i hf) dX12_count_93
            · rw [if_neg hs5] at hf
              by_cases hs6 : v1 = 6
              · rw [if_pos hs6] at hf
                refine a_tsw (pc' := 94) hX dX12_count_1 6 hs6 (by decide) (by decide) rfl rfl ?_
                refine a_aload_n hX dX12_count_94 rfl 0 rfl rfl ?_
                refine gX12_47 hX F_X12_364 dX12_count_95 rfl ?_
                exact a_iret hX hT hF (r_i hf) dX12_count_98
              · rw [if_neg hs6] at hf
                by_cases hs7 : v1 = 7
                · rw [if_pos hs7] at hf
                  refine a_tsw (pc' := 99) hX dX12_count_1 7 hs7 (by decide) (by decide) rfl rfl ?_
                  refine a_aload_n hX dX12_count_99 rfl 0 rfl rfl ?_
                  refine gX12_53 hX F_X12_376 dX12_count_100 rfl ?_
                  exact a_iret hX hT hF (r_i hf) dX12_count_103
                · rw [if_neg hs7] at hf
                  by_cases hs8 : v1 = 8
                  · rw [if_pos hs8] at hf
                    refine a_tsw (pc' := 104) hX dX12_count_1 8 hs8 (by decide) (by decide) rfl rfl ?_
                    refine a_aload_n hX dX12_count_104 rfl 0 rfl rfl ?_
                    refine gX12_23 hX F_X12_137 dX12_count_105 rfl ?_
                    exact a_iret hX hT hF (r_i hf) dX12_count_108
                  · rw [if_neg hs8] at hf
                    by_cases hs9 : v1 = 9
                    · rw [if_pos hs9] at hf
                      refine a_tsw (pc' := 109) hX dX12_count_1 9 hs9 (by decide) (by decide) rfl rfl ?_
                      refine a_aload_n hX dX12_count_109 rfl 0 rfl rfl ?_
                      refine gX12_25 hX F_X12_206 dX12_count_110 rfl ?_
                      exact a_iret hX hT hF (r_i hf) dX12_count_113
                    · rw [if_neg hs9] at hf
                      by_cases hs10 : v1 = 10
                      · rw [if_pos hs10] at hf
                        refine a_tsw (pc' := 114) hX dX12_count_1 10 hs10 (by decide) (by decide) rfl rfl ?_
                        refine a_aload_n hX dX12_count_114 rfl 0 rfl rfl ?_
                        refine gX12_2 hX F_X12_140 dX12_count_115 rfl ?_
                        exact a_iret hX hT hF (r_i hf) dX12_count_118
                      · rw [if_neg hs10] at hf
                        have hs0 : ¬ Int32.toInt v1 = 0 := ne_toInt hs0
                        have hs1 : ¬ Int32.toInt v1 = 1 := ne_toInt hs1
                        have hs2 : ¬ Int32.toInt v1 = 2 := ne_toInt hs2
                        have hs3 : ¬ Int32.toInt v1 = 3 := ne_toInt hs3
                        have hs4 : ¬ Int32.toInt v1 = 4 := ne_toInt hs4
                        have hs5 : ¬ Int32.toInt v1 = 5 := ne_toInt hs5
                        have hs6 : ¬ Int32.toInt v1 = 6 := ne_toInt hs6
                        have hs7 : ¬ Int32.toInt v1 = 7 := ne_toInt hs7
                        have hs8 : ¬ Int32.toInt v1 = 8 := ne_toInt hs8
                        have hs9 : ¬ Int32.toInt v1 = 9 := ne_toInt hs9
                        have hs10 : ¬ Int32.toInt v1 = 10 := ne_toInt hs10
                        refine a_tswO (pc' := 119) hX dX12_count_1 (by omega) rfl ?_
                        refine a_bipush (v := (-2)) hX dX12_count_119 (by decide) rfl ?_
                        exact a_iret hX hT hF (r_i hf) dX12_count_121
theorem ctX12_count {V : Vx} {q : Nat → Nat} {u : St} {res : Int32} (hE : ZOK (vZ V)) {v1 : Int32} (hf : fX12_count u v1 = some res) : Ct V yX12_count (.code yX12_count cX12_count 2 (some .int)) rmX12_count 0 0 [.ref (q 0), .int v1] (wM V q u) (rEq (some (.int res)) (wM V q u)) :=
  Ct_of (by decide) (Nat.le_of_ble_eq_true rfl) rfl (fun X hX hT _ hF => wX12_count ⟨hX, hT, hF⟩ hE hf)
def rmX12_isSheet : Room := { frames := 1, cells := 0, slots := 0, locals := 22 }
def fX12_isSheet (v0 : Int32) : Option (Int32) := cl1 (fX12_in v0 0 3) (fun x1 => rtZ x1 x1)
theorem wX12_isSheet {X : Cx} {V : Vx} {res : Int32} (h : Run X cX12_isSheet 1 RX12 rmX12_isSheet V (some .boolean) (rEq (some (.int res)) [])) (hE : ZOK (vZ V)) {v0 : Int32} (hf : fX12_isSheet v0 = some res) : At X 1 0 0 [] 0 [(0, .int v0)] [] := by
  obtain ⟨hX, hT, hF⟩ := id h
  unfold fX12_isSheet at hf
  refine a_iload_n hX dX12_isSheet_0 rfl 0 rfl rfl ?_
  refine a_iconst (v := 0) hX dX12_isSheet_1 (by decide) rfl ?_
  refine a_iconst (v := 3) hX dX12_isSheet_2 (by decide) rfl ?_
  obtain ⟨x1, hg1, hf⟩ := cl1_some hf
  refine a_cSpi (rest := []) hX hE (ctX12_in hE hg1) K_X12_148 ⟨rfl, rfl, by decide, by decide⟩ ⟨Nat.zero_le _, Nat.zero_le _⟩ (Nat.le_of_ble_eq_true rfl) dX12_isSheet_3 rfl rfl ?_
  exact a_zret hX hT (r_z hf).1 hF (r_i (r_z hf).2) dX12_isSheet_6
theorem ctX12_isSheet {V : Vx} {res : Int32} (hE : ZOK (vZ V)) {v0 : Int32} (hf : fX12_isSheet v0 = some res) : Ct V yX12_isSheet (.code yX12_isSheet cX12_isSheet 1 (some .boolean)) rmX12_isSheet 0 0 [.int v0] [] (rEq (some (.int res)) []) :=
  Ct_of (by decide) (Nat.le_of_ble_eq_true rfl) rfl (fun X hX hT _ hF => wX12_isSheet ⟨hX, hT, hF⟩ hE hf)
def rmX12_sheet : Room := { frames := 2, cells := 0, slots := 0, locals := 42 }
def fX12_sheet_l72b  (k72 : St → Int32 → Option (Int32 × St)) (u : St) (v1 : Int32) (v2 : Int32) (v3 : Int32) (v4 : Int32) : Option (Int32 × St) := if v3 ≤ v4 then some (1, u) else (if v2 < 0 then some (1, u) else (stI u 60 160 ((40 * v1) + v4) 0 (fun u6 => k72 u6 (v4 + 1))))
theorem wX12_sheet_l72b {X : Cx} {V : Vx} {q : Nat → Nat} {res : Int32 × St} (h : Run X cX12_sheet 5 RX12 rmX12_sheet V (some .int) (rEq (some (.int res.1)) (wM V q res.2))) (hE : ZOK (vZ V)) {u : St} {v1 : Int32} {v2 : Int32} {v3 : Int32} {v4 : Int32} {k72 : St → Int32 → Option (Int32 × St)} (hk72 : ∀ (u : St) (v4 : Int32), k72 u v4 = some res → At X 5 0 0 (wM V q u) 72 [(0, .ref (q 0)), (1, .int v1), (2, .int v2), (3, .int v3), (4, .int v4)] []) (hf : fX12_sheet_l72b  k72 u v1 v2 v3 v4 = some res) : At X 5 0 0 (wM V q u) 72 [(0, .ref (q 0)), (1, .int v1), (2, .int v2), (3, .int v3), (4, .int v4)] [] := by
  obtain ⟨hX, hT, hF⟩ := id h
  unfold fX12_sheet_l72b at hf
  refine a_iload hX dX12_sheet_72 4 rfl rfl ?_
  refine a_iload_n hX dX12_sheet_74 rfl 3 rfl rfl ?_
  refine a_icmp_ge (tgt := 101) hX dX12_sheet_75 rfl rfl hf (fun hf => ?_) (fun hf => ?_)
  · refine a_iconst (v := 1) hX dX12_sheet_101 (by decide) rfl ?_
    exact a_iret hX hT hF (r_iS (wf := (wM V q)) hf) dX12_sheet_102
  · refine a_iload_n hX dX12_sheet_78 rfl 2 rfl rfl ?_
    refine a_if_lt (tgt := 101) hX dX12_sheet_79 rfl rfl hf (fun hf => ?_) (fun hf => ?_)
    · refine a_iconst (v := 1) hX dX12_sheet_101 (by decide) rfl ?_
      exact a_iret hX hT hF (r_iS (wf := (wM V q)) hf) dX12_sheet_102
    · refine a_aload_n hX dX12_sheet_82 rfl 0 rfl rfl ?_
      refine gX12_60 hX F_X12_121 dX12_sheet_83 rfl ?_
      refine a_bipush (v := 40) hX dX12_sheet_86 (by decide) rfl ?_
      refine a_iload_n hX dX12_sheet_88 rfl 1 rfl rfl ?_
      refine a_imul hX dX12_sheet_89 rfl ?_
      refine a_iload hX dX12_sheet_90 4 rfl rfl ?_
      refine a_iadd hX dX12_sheet_92 rfl ?_
      refine a_iconst (v := 0) hX dX12_sheet_93 (by decide) rfl ?_
      refine sX12_60 hX dX12_sheet_94 rfl hf (fun u6 hf => ?_)
      refine a_iinc (v := v4 + 1) (lv' := [(4, .int (v4 + 1)), (0, .ref (q 0)), (1, .int v1), (2, .int v2), (3, .int v3)]) hX dX12_sheet_95 4 rfl rfl (by decide) rfl rfl ?_
      refine a_goto (pc' := 72) hX dX12_sheet_98 rfl ?_
      refine a_lv (lv' := [(0, .ref (q 0)), (1, .int v1), (2, .int v2), (3, .int v3), (4, .int (v4 + 1))]) [1, 2, 3, 4, 0] rfl ?_
      exact hk72 u6 (v4 + 1) hf
def fX12_sheet_l72   (v1 : Int32) (v2 : Int32) (v3 : Int32) : Nat → St → Int32 → Option (Int32 × St)
  | 0, _, _ => none
  | m + 1, u, v4 => fX12_sheet_l72b  (fX12_sheet_l72   v1 v2 v3 m) u v1 v2 v3 v4
theorem wX12_sheet_l72 {X : Cx} {V : Vx} {q : Nat → Nat} {res : Int32 × St} (h : Run X cX12_sheet 5 RX12 rmX12_sheet V (some .int) (rEq (some (.int res.1)) (wM V q res.2))) (hE : ZOK (vZ V)) {v1 : Int32} {v2 : Int32} {v3 : Int32} : ∀ (m : Nat) (u : St) (v4 : Int32), fX12_sheet_l72   v1 v2 v3 m u v4 = some res → At X 5 0 0 (wM V q u) 72 [(0, .ref (q 0)), (1, .int v1), (2, .int v2), (3, .int v3), (4, .int v4)] [] := by
  intro m
  induction m with
  | zero => intro u v4 hf; cases hf
  | succ m ih => intro u v4 hf; exact wX12_sheet_l72b h hE ih hf
def fX12_sheet_b54   (u : St) (v1 : Int32) (v2 : Int32) (v3 : Int32) (s0 : Int32) (s1 : Int32) : Option (Int32 × St) := stZ u 57 4 s1 s0 (fun u3 => stI u3 58 4 v1 v2 (fun u4 => stI u4 59 4 v1 v3 (fun u5 => fX12_sheet_l72 v1 v2 v3 NF u5 0)))
theorem wX12_sheet_b54 {X : Cx} {V : Vx} {q : Nat → Nat} {res : Int32 × St} (h : Run X cX12_sheet 5 RX12 rmX12_sheet V (some .int) (rEq (some (.int res.1)) (wM V q res.2))) (hE : ZOK (vZ V)) {u : St} {v1 : Int32} {v2 : Int32} {v3 : Int32} {s0 : Int32} {s1 : Int32} (hf : fX12_sheet_b54   u v1 v2 v3 s0 s1 = some res) : At X 5 0 0 (wM V q u) 54 [(0, .ref (q 0)), (1, .int v1), (2, .int v2), (3, .int v3)] [.int s0, .int s1, .ref (q 58)] := by
  obtain ⟨hX, hT, hF⟩ := id h
  unfold fX12_sheet_b54 at hf
  refine sX12_57 hX dX12_sheet_54 rfl hf (fun u3 hf => ?_)
  refine a_aload_n hX dX12_sheet_55 rfl 0 rfl rfl ?_
  refine gX12_58 hX F_X12_115 dX12_sheet_56 rfl ?_
  refine a_iload_n hX dX12_sheet_59 rfl 1 rfl rfl ?_
  refine a_iload_n hX dX12_sheet_60 rfl 2 rfl rfl ?_
  refine sX12_58 hX dX12_sheet_61 rfl hf (fun u4 hf => ?_)
  refine a_aload_n hX dX12_sheet_62 rfl 0 rfl rfl ?_
  refine gX12_59 hX F_X12_118 dX12_sheet_63 rfl ?_
  refine a_iload_n hX dX12_sheet_66 rfl 1 rfl rfl ?_
  refine a_iload_n hX dX12_sheet_67 rfl 3 rfl rfl ?_
  refine sX12_59 hX dX12_sheet_68 rfl hf (fun u5 hf => ?_)
  refine a_iconst (v := 0) hX dX12_sheet_69 (by decide) rfl ?_
  refine a_istore (lv' := [(4, .int 0), (0, .ref (q 0)), (1, .int v1), (2, .int v2), (3, .int v3)]) hX dX12_sheet_70 (by decide) rfl rfl ?_
  refine a_lv (lv' := [(0, .ref (q 0)), (1, .int v1), (2, .int v2), (3, .int v3), (4, .int 0)]) [1, 2, 3, 4, 0] rfl ?_
  exact wX12_sheet_l72 h hE NF u5 0 hf
def fX12_sheet_b40   (u : St) (v1 : Int32) (v2 : Int32) (v3 : Int32) : Option (Int32 × St) := if v2 < 0 then fX12_sheet_b54 u v1 v2 v3 0 v1 else (fX12_sheet_b54 u v1 v2 v3 1 v1)
theorem wX12_sheet_b40 {X : Cx} {V : Vx} {q : Nat → Nat} {res : Int32 × St} (h : Run X cX12_sheet 5 RX12 rmX12_sheet V (some .int) (rEq (some (.int res.1)) (wM V q res.2))) (hE : ZOK (vZ V)) {u : St} {v1 : Int32} {v2 : Int32} {v3 : Int32} (hf : fX12_sheet_b40   u v1 v2 v3 = some res) : At X 5 0 0 (wM V q u) 40 [(0, .ref (q 0)), (1, .int v1), (2, .int v2), (3, .int v3)] [] := by
  obtain ⟨hX, hT, hF⟩ := id h
  unfold fX12_sheet_b40 at hf
  refine a_aload_n hX dX12_sheet_40 rfl 0 rfl rfl ?_
  refine gX12_57 hX F_X12_112 dX12_sheet_41 rfl ?_
  refine a_iload_n hX dX12_sheet_44 rfl 1 rfl rfl ?_
  refine a_iload_n hX dX12_sheet_45 rfl 2 rfl rfl ?_
  refine a_if_lt (tgt := 53) hX dX12_sheet_46 rfl rfl hf (fun hf => ?_) (fun hf => ?_)
  · refine a_iconst (v := 0) hX dX12_sheet_53 (by decide) rfl ?_
    exact wX12_sheet_b54 h hE hf
  · refine a_iconst (v := 1) hX dX12_sheet_49 (by decide) rfl ?_
    refine a_goto (pc' := 54) hX dX12_sheet_50 rfl ?_
    exact wX12_sheet_b54 h hE hf
def fX12_sheet_b29   (u : St) (v1 : Int32) (v2 : Int32) (v3 : Int32) : Option (Int32 × St) := if v2 < 0 then fX12_sheet_b40 u v1 v2 v3 else (if 0 ≤ v3 then fX12_sheet_b40 u v1 v2 v3 else (some ((-14), u)))
theorem wX12_sheet_b29 {X : Cx} {V : Vx} {q : Nat → Nat} {res : Int32 × St} (h : Run X cX12_sheet 5 RX12 rmX12_sheet V (some .int) (rEq (some (.int res.1)) (wM V q res.2))) (hE : ZOK (vZ V)) {u : St} {v1 : Int32} {v2 : Int32} {v3 : Int32} (hf : fX12_sheet_b29   u v1 v2 v3 = some res) : At X 5 0 0 (wM V q u) 29 [(0, .ref (q 0)), (1, .int v1), (2, .int v2), (3, .int v3)] [] := by
  obtain ⟨hX, hT, hF⟩ := id h
  unfold fX12_sheet_b29 at hf
  refine a_iload_n hX dX12_sheet_29 rfl 2 rfl rfl ?_
  refine a_if_lt (tgt := 40) hX dX12_sheet_30 rfl rfl hf (fun hf => ?_) (fun hf => ?_)
  · exact wX12_sheet_b40 h hE hf
  · refine a_iload_n hX dX12_sheet_33 rfl 3 rfl rfl ?_
    refine a_if_ge (tgt := 40) hX dX12_sheet_34 rfl rfl hf (fun hf => ?_) (fun hf => ?_)
    · exact wX12_sheet_b40 h hE hf
    · refine a_bipush (v := (-14)) hX dX12_sheet_37 (by decide) rfl ?_
      exact a_iret hX hT hF (r_iS (wf := (wM V q)) hf) dX12_sheet_39
def fX12_sheet (u : St) (v1 : Int32) (v2 : Int32) (v3 : Int32) : Option (Int32 × St) := cl1 (fX12_isSheet v1) (fun x1 => if x1 = 0 then some ((-2), u) else (cl1 (fX12_in v2 (-1) 2) (fun x2 => if x2 = 0 then some ((-2), u) else (if v2 < 0 then fX12_sheet_b29 u v1 v2 v3 else (if v3 ≤ 40 then fX12_sheet_b29 u v1 v2 v3 else (some ((-2), u)))))))
theorem wX12_sheet {X : Cx} {V : Vx} {q : Nat → Nat} {res : Int32 × St} (h : Run X cX12_sheet 5 RX12 rmX12_sheet V (some .int) (rEq (some (.int res.1)) (wM V q res.2))) (hE : ZOK (vZ V)) {u : St} {v1 : Int32} {v2 : Int32} {v3 : Int32} (hf : fX12_sheet u v1 v2 v3 = some res) : At X 5 0 0 (wM V q u) 0 [(0, .ref (q 0)), (1, .int v1), (2, .int v2), (3, .int v3)] [] := by
  obtain ⟨hX, hT, hF⟩ := id h
  unfold fX12_sheet at hf
  refine a_iload_n hX dX12_sheet_0 rfl 1 rfl rfl ?_
  obtain ⟨x1, hg1, hf⟩ := cl1_some hf
  refine a_cSpi (rest := []) hX hE (ctX12_isSheet hE hg1) K_X12_391 ⟨rfl, rfl, by decide, by decide⟩ ⟨Nat.zero_le _, Nat.zero_le _⟩ (Nat.le_of_ble_eq_true rfl) dX12_sheet_1 rfl rfl ?_
  refine a_if_eq (tgt := 26) hX dX12_sheet_4 rfl rfl hf (fun hf => ?_) (fun hf => ?_)
  · refine a_bipush (v := (-2)) hX dX12_sheet_26 (by decide) rfl ?_
    exact a_iret hX hT hF (r_iS (wf := (wM V q)) hf) dX12_sheet_28
  · refine a_iload_n hX dX12_sheet_7 rfl 2 rfl rfl ?_
    refine a_iconst (v := (-1)) hX dX12_sheet_8 (by decide) rfl ?_
    refine a_iconst (v := 2) hX dX12_sheet_9 (by decide) rfl ?_
    obtain ⟨x2, hg2, hf⟩ := cl1_some hf
    refine a_cSpi (rest := []) hX hE (ctX12_in hE hg2) K_X12_148 ⟨rfl, rfl, by decide, by decide⟩ ⟨Nat.zero_le _, Nat.zero_le _⟩ (Nat.le_of_ble_eq_true rfl) dX12_sheet_10 rfl rfl ?_
    refine a_if_eq (tgt := 26) hX dX12_sheet_13 rfl rfl hf (fun hf => ?_) (fun hf => ?_)
    · refine a_bipush (v := (-2)) hX dX12_sheet_26 (by decide) rfl ?_
      exact a_iret hX hT hF (r_iS (wf := (wM V q)) hf) dX12_sheet_28
    · refine a_iload_n hX dX12_sheet_16 rfl 2 rfl rfl ?_
      refine a_if_lt (tgt := 29) hX dX12_sheet_17 rfl rfl hf (fun hf => ?_) (fun hf => ?_)
      · exact wX12_sheet_b29 h hE hf
      · refine a_iload_n hX dX12_sheet_20 rfl 3 rfl rfl ?_
        refine a_bipush (v := 40) hX dX12_sheet_21 (by decide) rfl ?_
        refine a_icmp_le (tgt := 29) hX dX12_sheet_23 rfl rfl hf (fun hf => ?_) (fun hf => ?_)
        · exact wX12_sheet_b29 h hE hf
        · refine a_bipush (v := (-2)) hX dX12_sheet_26 (by decide) rfl ?_
          exact a_iret hX hT hF (r_iS (wf := (wM V q)) hf) dX12_sheet_28
theorem ctX12_sheet {V : Vx} {q : Nat → Nat} {u : St} {res : Int32 × St} (hE : ZOK (vZ V)) {v1 : Int32} {v2 : Int32} {v3 : Int32} (hf : fX12_sheet u v1 v2 v3 = some res) : Ct V yX12_sheet (.code yX12_sheet cX12_sheet 5 (some .int)) rmX12_sheet 0 0 [.ref (q 0), .int v1, .int v2, .int v3] (wM V q u) (rEq (some (.int res.1)) (wM V q res.2)) :=
  Ct_of (by decide) (Nat.le_of_ble_eq_true rfl) rfl (fun X hX hT _ hF => wX12_sheet ⟨hX, hT, hF⟩ hE hf)
def rmX12_cell : Room := { frames := 2, cells := 0, slots := 0, locals := 42 }
def fX12_cell_b81   (u : St) (s0 : Int32) (s1 : Int32) : Option (Int32 × St) := stI u 60 160 s1 s0 (fun u7 => some (1, u7))
theorem wX12_cell_b81 {X : Cx} {V : Vx} {q : Nat → Nat} {res : Int32 × St} (h : Run X cX12_cell 4 RX12 rmX12_cell V (some .int) (rEq (some (.int res.1)) (wM V q res.2))) (hE : ZOK (vZ V)) {u : St} {s0 : Int32} {s1 : Int32} (hf : fX12_cell_b81   u s0 s1 = some res) : At X 4 0 0 (wM V q u) 81 [] [.int s0, .int s1, .ref (q 61)] := by
  obtain ⟨hX, hT, hF⟩ := id h
  unfold fX12_cell_b81 at hf
  refine sX12_60 hX dX12_cell_81 rfl hf (fun u7 hf => ?_)
  refine a_iconst (v := 1) hX dX12_cell_82 (by decide) rfl ?_
  exact a_iret hX hT hF (r_iS (wf := (wM V q)) hf) dX12_cell_83
def fX12_cell (u : St) (v1 : Int32) (v2 : Int32) (v3 : Int32) : Option (Int32 × St) := cl1 (fX12_isSheet v1) (fun x1 => if x1 = 0 then some ((-2), u) else (ldI (gA u 57) 4 v1 (fun x2 => if x2 = 0 then some ((-11), u) else (ldI (gA u 59) 4 v1 (fun x3 => cl1 (fX12_in v2 0 (x3 - 1)) (fun x4 => if x4 = 0 then some ((-12), u) else (ldI (gA u 58) 4 v1 (fun x5 => if x5 = 0 then fX12_cell_b81 u ((Int32.toInt8 v3).toInt32) ((40 * v1) + v2) else (ldI (gA u 58) 4 v1 (fun x6 => if x6 = 1 then fX12_cell_b81 u ((Int32.toInt16 v3).toInt32) ((40 * v1) + v2) else (fX12_cell_b81 u v3 ((40 * v1) + v2))))))))))))
theorem wX12_cell {X : Cx} {V : Vx} {q : Nat → Nat} {res : Int32 × St} (h : Run X cX12_cell 4 RX12 rmX12_cell V (some .int) (rEq (some (.int res.1)) (wM V q res.2))) (hE : ZOK (vZ V)) {u : St} {v1 : Int32} {v2 : Int32} {v3 : Int32} (hf : fX12_cell u v1 v2 v3 = some res) : At X 4 0 0 (wM V q u) 0 [(0, .ref (q 0)), (1, .int v1), (2, .int v2), (3, .int v3)] [] := by
  obtain ⟨hX, hT, hF⟩ := id h
  unfold fX12_cell at hf
  refine a_iload_n hX dX12_cell_0 rfl 1 rfl rfl ?_
  obtain ⟨x1, hg1, hf⟩ := cl1_some hf
  refine a_cSpi (rest := []) hX hE (ctX12_isSheet hE hg1) K_X12_391 ⟨rfl, rfl, by decide, by decide⟩ ⟨Nat.zero_le _, Nat.zero_le _⟩ (Nat.le_of_ble_eq_true rfl) dX12_cell_1 rfl rfl ?_
  refine a_if_ne (tgt := 10) hX dX12_cell_4 rfl rfl hf (fun hf => ?_) (fun hf => ?_)
  · refine a_aload_n hX dX12_cell_10 rfl 0 rfl rfl ?_
    refine gX12_57 hX F_X12_112 dX12_cell_11 rfl ?_
    refine a_iload_n hX dX12_cell_14 rfl 1 rfl rfl ?_
    refine lX12_57 hX dX12_cell_15 rfl hf (fun x2 hf => ?_)
    refine a_if_ne (tgt := 22) hX dX12_cell_16 rfl rfl hf (fun hf => ?_) (fun hf => ?_)
    · refine a_iload_n hX dX12_cell_22 rfl 2 rfl rfl ?_
      refine a_iconst (v := 0) hX dX12_cell_23 (by decide) rfl ?_
      refine a_aload_n hX dX12_cell_24 rfl 0 rfl rfl ?_
      refine gX12_59 hX F_X12_118 dX12_cell_25 rfl ?_
      refine a_iload_n hX dX12_cell_28 rfl 1 rfl rfl ?_
      refine lX12_59 hX dX12_cell_29 rfl hf (fun x3 hf => ?_)
      refine a_iconst (v := 1) hX dX12_cell_30 (by decide) rfl ?_
      refine a_isub hX dX12_cell_31 rfl ?_
      obtain ⟨x4, hg4, hf⟩ := cl1_some hf
      refine a_cSpi (rest := []) hX hE (ctX12_in hE hg4) K_X12_148 ⟨rfl, rfl, by decide, by decide⟩ ⟨Nat.zero_le _, Nat.zero_le _⟩ (Nat.le_of_ble_eq_true rfl) dX12_cell_32 rfl rfl ?_
      refine a_if_ne (tgt := 41) hX dX12_cell_35 rfl rfl hf (fun hf => ?_) (fun hf => ?_)
      · refine a_aload_n hX dX12_cell_41 rfl 0 rfl rfl ?_
        refine gX12_60 hX F_X12_121 dX12_cell_42 rfl ?_
        refine a_bipush (v := 40) hX dX12_cell_45 (by decide) rfl ?_
        refine a_iload_n hX dX12_cell_47 rfl 1 rfl rfl ?_
        refine a_imul hX dX12_cell_48 rfl ?_
        refine a_iload_n hX dX12_cell_49 rfl 2 rfl rfl ?_
        refine a_iadd hX dX12_cell_50 rfl ?_
        refine a_aload_n hX dX12_cell_51 rfl 0 rfl rfl ?_
        refine gX12_58 hX F_X12_115 dX12_cell_52 rfl ?_
        refine a_iload_n hX dX12_cell_55 rfl 1 rfl rfl ?_
        refine lX12_58 hX dX12_cell_56 rfl hf (fun x5 hf => ?_)
        refine a_if_ne (tgt := 65) hX dX12_cell_57 rfl rfl hf (fun hf => ?_) (fun hf => ?_)
        · refine a_aload_n hX dX12_cell_65 rfl 0 rfl rfl ?_
          refine gX12_58 hX F_X12_115 dX12_cell_66 rfl ?_
          refine a_iload_n hX dX12_cell_69 rfl 1 rfl rfl ?_
          refine lX12_58 hX dX12_cell_70 rfl hf (fun x6 hf => ?_)
          refine a_iconst (v := 1) hX dX12_cell_71 (by decide) rfl ?_
          refine a_icmp_ne (tgt := 80) hX dX12_cell_72 rfl rfl hf (fun hf => ?_) (fun hf => ?_)
          · refine a_iload_n hX dX12_cell_80 rfl 3 rfl rfl ?_
            refine a_lv (lv' := []) [] rfl ?_
            exact wX12_cell_b81 h hE hf
          · refine a_iload_n hX dX12_cell_75 rfl 3 rfl rfl ?_
            refine a_i2s hX dX12_cell_76 rfl ?_
            refine a_goto (pc' := 81) hX dX12_cell_77 rfl ?_
            refine a_lv (lv' := []) [] rfl ?_
            exact wX12_cell_b81 h hE hf
        · refine a_iload_n hX dX12_cell_60 rfl 3 rfl rfl ?_
          refine a_i2b hX dX12_cell_61 rfl ?_
          refine a_goto (pc' := 81) hX dX12_cell_62 rfl ?_
          refine a_lv (lv' := []) [] rfl ?_
          exact wX12_cell_b81 h hE hf
      · refine a_bipush (v := (-12)) hX dX12_cell_38 (by decide) rfl ?_
        exact a_iret hX hT hF (r_iS (wf := (wM V q)) hf) dX12_cell_40
    · refine a_bipush (v := (-11)) hX dX12_cell_19 (by decide) rfl ?_
      exact a_iret hX hT hF (r_iS (wf := (wM V q)) hf) dX12_cell_21
  · refine a_bipush (v := (-2)) hX dX12_cell_7 (by decide) rfl ?_
    exact a_iret hX hT hF (r_iS (wf := (wM V q)) hf) dX12_cell_9
theorem ctX12_cell {V : Vx} {q : Nat → Nat} {u : St} {res : Int32 × St} (hE : ZOK (vZ V)) {v1 : Int32} {v2 : Int32} {v3 : Int32} (hf : fX12_cell u v1 v2 v3 = some res) : Ct V yX12_cell (.code yX12_cell cX12_cell 4 (some .int)) rmX12_cell 0 0 [.ref (q 0), .int v1, .int v2, .int v3] (wM V q u) (rEq (some (.int res.1)) (wM V q res.2)) :=
  Ct_of (by decide) (Nat.le_of_ble_eq_true rfl) rfl (fun X hX hT _ hF => wX12_cell ⟨hX, hT, hF⟩ hE hf)
def rmX12_copy : Room := { frames := 2, cells := 0, slots := 0, locals := 42 }
def fX12_copy_b121  (k103 : St → Int32 → Option (Int32 × St)) (u : St) (v1 : Int32) (v2 : Int32) (v3 : Int32) (v4 : Int32) (v5 : Int32) (v6 : Int32) : Option (Int32 × St) := ldI (gA u 60) 160 (((40 * v1) + v2) + v6) (fun x9 => stI u 60 160 (((40 * v3) + v4) + v6) x9 (fun u10 => k103 u10 (v6 + 1)))
theorem wX12_copy_b121 {X : Cx} {V : Vx} {q : Nat → Nat} {res : Int32 × St} (h : Run X cX12_copy 7 RX12 rmX12_copy V (some .int) (rEq (some (.int res.1)) (wM V q res.2))) (hE : ZOK (vZ V)) {u : St} {v1 : Int32} {v2 : Int32} {v3 : Int32} {v4 : Int32} {v5 : Int32} {v6 : Int32} {k103 : St → Int32 → Option (Int32 × St)} (hk103 : ∀ (u : St) (v6 : Int32), k103 u v6 = some res → At X 7 0 0 (wM V q u) 103 [(0, .ref (q 0)), (1, .int v1), (2, .int v2), (3, .int v3), (4, .int v4), (5, .int v5), (6, .int v6)] []) (hf : fX12_copy_b121  k103 u v1 v2 v3 v4 v5 v6 = some res) : At X 7 0 0 (wM V q u) 121 [(0, .ref (q 0)), (1, .int v1), (2, .int v2), (3, .int v3), (4, .int v4), (5, .int v5), (6, .int v6)] [] := by
  obtain ⟨hX, hT, hF⟩ := id h
  unfold fX12_copy_b121 at hf
  refine a_aload_n hX dX12_copy_121 rfl 0 rfl rfl ?_
  refine gX12_60 hX F_X12_121 dX12_copy_122 rfl ?_
  refine a_bipush (v := 40) hX dX12_copy_125 (by decide) rfl ?_
  refine a_iload_n hX dX12_copy_127 rfl 3 rfl rfl ?_
  refine a_imul hX dX12_copy_128 rfl ?_
  refine a_iload hX dX12_copy_129 4 rfl rfl ?_
  refine a_iadd hX dX12_copy_131 rfl ?_
  refine a_iload hX dX12_copy_132 6 rfl rfl ?_
  refine a_iadd hX dX12_copy_134 rfl ?_
  refine a_aload_n hX dX12_copy_135 rfl 0 rfl rfl ?_
  refine gX12_60 hX F_X12_121 dX12_copy_136 rfl ?_
  refine a_bipush (v := 40) hX dX12_copy_139 (by decide) rfl ?_
  refine a_iload_n hX dX12_copy_141 rfl 1 rfl rfl ?_
  refine a_imul hX dX12_copy_142 rfl ?_
  refine a_iload_n hX dX12_copy_143 rfl 2 rfl rfl ?_
  refine a_iadd hX dX12_copy_144 rfl ?_
  refine a_iload hX dX12_copy_145 6 rfl rfl ?_
  refine a_iadd hX dX12_copy_147 rfl ?_
  refine lX12_60 hX dX12_copy_148 rfl hf (fun x9 hf => ?_)
  refine sX12_60 hX dX12_copy_149 rfl hf (fun u10 hf => ?_)
  refine a_iinc (v := v6 + 1) (lv' := [(6, .int (v6 + 1)), (0, .ref (q 0)), (1, .int v1), (2, .int v2), (3, .int v3), (4, .int v4), (5, .int v5)]) hX dX12_copy_150 6 rfl rfl (by decide) rfl rfl ?_
  refine a_goto (pc' := 103) hX dX12_copy_153 rfl ?_
  refine a_lv (lv' := [(0, .ref (q 0)), (1, .int v1), (2, .int v2), (3, .int v3), (4, .int v4), (5, .int v5), (6, .int (v6 + 1))]) [1, 2, 3, 4, 5, 6, 0] rfl ?_
  exact hk103 u10 (v6 + 1) hf
def fX12_copy_l162b  (k162 : St → Int32 → Option (Int32 × St)) (u : St) (v1 : Int32) (v2 : Int32) (v3 : Int32) (v4 : Int32) (v5 : Int32) (v6 : Int32) : Option (Int32 × St) := if v6 < 0 then some (v5, u) else (if v1 = v3 then if v4 ≤ v2 then some (v5, u) else (ldI (gA u 60) 160 (((40 * v1) + v2) + v6) (fun x12 => stI u 60 160 (((40 * v3) + v4) + v6) x12 (fun u13 => k162 u13 (v6 + (-1))))) else (some (v5, u)))
theorem wX12_copy_l162b {X : Cx} {V : Vx} {q : Nat → Nat} {res : Int32 × St} (h : Run X cX12_copy 7 RX12 rmX12_copy V (some .int) (rEq (some (.int res.1)) (wM V q res.2))) (hE : ZOK (vZ V)) {u : St} {v1 : Int32} {v2 : Int32} {v3 : Int32} {v4 : Int32} {v5 : Int32} {v6 : Int32} {k162 : St → Int32 → Option (Int32 × St)} (hk162 : ∀ (u : St) (v6 : Int32), k162 u v6 = some res → At X 7 0 0 (wM V q u) 162 [(0, .ref (q 0)), (1, .int v1), (2, .int v2), (3, .int v3), (4, .int v4), (5, .int v5), (6, .int v6)] []) (hf : fX12_copy_l162b  k162 u v1 v2 v3 v4 v5 v6 = some res) : At X 7 0 0 (wM V q u) 162 [(0, .ref (q 0)), (1, .int v1), (2, .int v2), (3, .int v3), (4, .int v4), (5, .int v5), (6, .int v6)] [] := by
  obtain ⟨hX, hT, hF⟩ := id h
  unfold fX12_copy_l162b at hf
  refine a_iload hX dX12_copy_162 6 rfl rfl ?_
  refine a_if_lt (tgt := 213) hX dX12_copy_164 rfl rfl hf (fun hf => ?_) (fun hf => ?_)
  · refine a_iload hX dX12_copy_213 5 rfl rfl ?_
    exact a_iret hX hT hF (r_iS (wf := (wM V q)) hf) dX12_copy_215
  · refine a_iload_n hX dX12_copy_167 rfl 1 rfl rfl ?_
    refine a_iload_n hX dX12_copy_168 rfl 3 rfl rfl ?_
    refine a_icmp_ne (tgt := 213) hX dX12_copy_169 rfl rfl hf (fun hf => ?_) (fun hf => ?_)
    · refine a_iload hX dX12_copy_213 5 rfl rfl ?_
      exact a_iret hX hT hF (r_iS (wf := (wM V q)) hf) dX12_copy_215
    · refine a_iload_n hX dX12_copy_172 rfl 2 rfl rfl ?_
      refine a_iload hX dX12_copy_173 4 rfl rfl ?_
      refine a_icmp_ge (tgt := 213) hX dX12_copy_175 rfl rfl hf (fun hf => ?_) (fun hf => ?_)
      · refine a_iload hX dX12_copy_213 5 rfl rfl ?_
        exact a_iret hX hT hF (r_iS (wf := (wM V q)) hf) dX12_copy_215
      · refine a_aload_n hX dX12_copy_178 rfl 0 rfl rfl ?_
        refine gX12_60 hX F_X12_121 dX12_copy_179 rfl ?_
        refine a_bipush (v := 40) hX dX12_copy_182 (by decide) rfl ?_
        refine a_iload_n hX dX12_copy_184 rfl 3 rfl rfl ?_
        refine a_imul hX dX12_copy_185 rfl ?_
        refine a_iload hX dX12_copy_186 4 rfl rfl ?_
        refine a_iadd hX dX12_copy_188 rfl ?_
        refine a_iload hX dX12_copy_189 6 rfl rfl ?_
        refine a_iadd hX dX12_copy_191 rfl ?_
        refine a_aload_n hX dX12_copy_192 rfl 0 rfl rfl ?_
        refine gX12_60 hX F_X12_121 dX12_copy_193 rfl ?_
        refine a_bipush (v := 40) hX dX12_copy_196 (by decide) rfl ?_
        refine a_iload_n hX dX12_copy_198 rfl 1 rfl rfl ?_
        refine a_imul hX dX12_copy_199 rfl ?_
        refine a_iload_n hX dX12_copy_200 rfl 2 rfl rfl ?_
        refine a_iadd hX dX12_copy_201 rfl ?_
        refine a_iload hX dX12_copy_202 6 rfl rfl ?_
        refine a_iadd hX dX12_copy_204 rfl ?_
        refine lX12_60 hX dX12_copy_205 rfl hf (fun x12 hf => ?_)
        refine sX12_60 hX dX12_copy_206 rfl hf (fun u13 hf => ?_)
        refine a_iinc (v := v6 + (-1)) (lv' := [(6, .int (v6 + (-1))), (0, .ref (q 0)), (1, .int v1), (2, .int v2), (3, .int v3), (4, .int v4), (5, .int v5)]) hX dX12_copy_207 6 rfl rfl (by decide) rfl rfl ?_
        refine a_goto (pc' := 162) hX dX12_copy_210 rfl ?_
        refine a_lv (lv' := [(0, .ref (q 0)), (1, .int v1), (2, .int v2), (3, .int v3), (4, .int v4), (5, .int v5), (6, .int (v6 + (-1)))]) [1, 2, 3, 4, 5, 6, 0] rfl ?_
        exact hk162 u13 (v6 + (-1)) hf
def fX12_copy_l162   (v1 : Int32) (v2 : Int32) (v3 : Int32) (v4 : Int32) (v5 : Int32) : Nat → St → Int32 → Option (Int32 × St)
  | 0, _, _ => none
  | m + 1, u, v6 => fX12_copy_l162b  (fX12_copy_l162   v1 v2 v3 v4 v5 m) u v1 v2 v3 v4 v5 v6
theorem wX12_copy_l162 {X : Cx} {V : Vx} {q : Nat → Nat} {res : Int32 × St} (h : Run X cX12_copy 7 RX12 rmX12_copy V (some .int) (rEq (some (.int res.1)) (wM V q res.2))) (hE : ZOK (vZ V)) {v1 : Int32} {v2 : Int32} {v3 : Int32} {v4 : Int32} {v5 : Int32} : ∀ (m : Nat) (u : St) (v6 : Int32), fX12_copy_l162   v1 v2 v3 v4 v5 m u v6 = some res → At X 7 0 0 (wM V q u) 162 [(0, .ref (q 0)), (1, .int v1), (2, .int v2), (3, .int v3), (4, .int v4), (5, .int v5), (6, .int v6)] [] := by
  intro m
  induction m with
  | zero => intro u v6 hf; cases hf
  | succ m ih => intro u v6 hf; exact wX12_copy_l162b h hE ih hf
def fX12_copy_b156   (u : St) (v1 : Int32) (v2 : Int32) (v3 : Int32) (v4 : Int32) (v5 : Int32) : Option (Int32 × St) := nmI (v5 - 1) (fun x11 => fX12_copy_l162 v1 v2 v3 v4 v5 NF u x11)
theorem wX12_copy_b156 {X : Cx} {V : Vx} {q : Nat → Nat} {res : Int32 × St} (h : Run X cX12_copy 7 RX12 rmX12_copy V (some .int) (rEq (some (.int res.1)) (wM V q res.2))) (hE : ZOK (vZ V)) {u : St} {v1 : Int32} {v2 : Int32} {v3 : Int32} {v4 : Int32} {v5 : Int32} (hf : fX12_copy_b156   u v1 v2 v3 v4 v5 = some res) : At X 7 0 0 (wM V q u) 156 [(0, .ref (q 0)), (1, .int v1), (2, .int v2), (3, .int v3), (4, .int v4), (5, .int v5)] [] := by
  obtain ⟨hX, hT, hF⟩ := id h
  unfold fX12_copy_b156 at hf
  refine a_iload hX dX12_copy_156 5 rfl rfl ?_
  refine a_iconst (v := 1) hX dX12_copy_158 (by decide) rfl ?_
  refine a_isub hX dX12_copy_159 rfl ?_
  refine a_nmI hf (fun x11 hf => ?_)
  refine a_istore (lv' := [(6, .int x11), (0, .ref (q 0)), (1, .int v1), (2, .int v2), (3, .int v3), (4, .int v4), (5, .int v5)]) hX dX12_copy_160 (by decide) rfl rfl ?_
  refine a_lv (lv' := [(0, .ref (q 0)), (1, .int v1), (2, .int v2), (3, .int v3), (4, .int v4), (5, .int v5), (6, .int x11)]) [1, 2, 3, 4, 5, 6, 0] rfl ?_
  exact wX12_copy_l162 h hE NF u x11 hf
def fX12_copy_l103b  (k103 : St → Int32 → Option (Int32 × St)) (u : St) (v1 : Int32) (v2 : Int32) (v3 : Int32) (v4 : Int32) (v5 : Int32) (v6 : Int32) : Option (Int32 × St) := if v5 ≤ v6 then fX12_copy_b156 u v1 v2 v3 v4 v5 else (if v1 = v3 then if v2 < v4 then fX12_copy_b156 u v1 v2 v3 v4 v5 else (fX12_copy_b121 k103 u v1 v2 v3 v4 v5 v6) else (fX12_copy_b121 k103 u v1 v2 v3 v4 v5 v6))
theorem wX12_copy_l103b {X : Cx} {V : Vx} {q : Nat → Nat} {res : Int32 × St} (h : Run X cX12_copy 7 RX12 rmX12_copy V (some .int) (rEq (some (.int res.1)) (wM V q res.2))) (hE : ZOK (vZ V)) {u : St} {v1 : Int32} {v2 : Int32} {v3 : Int32} {v4 : Int32} {v5 : Int32} {v6 : Int32} {k103 : St → Int32 → Option (Int32 × St)} (hk103 : ∀ (u : St) (v6 : Int32), k103 u v6 = some res → At X 7 0 0 (wM V q u) 103 [(0, .ref (q 0)), (1, .int v1), (2, .int v2), (3, .int v3), (4, .int v4), (5, .int v5), (6, .int v6)] []) (hf : fX12_copy_l103b  k103 u v1 v2 v3 v4 v5 v6 = some res) : At X 7 0 0 (wM V q u) 103 [(0, .ref (q 0)), (1, .int v1), (2, .int v2), (3, .int v3), (4, .int v4), (5, .int v5), (6, .int v6)] [] := by
  obtain ⟨hX, hT, hF⟩ := id h
  unfold fX12_copy_l103b at hf
  refine a_iload hX dX12_copy_103 6 rfl rfl ?_
  refine a_iload hX dX12_copy_105 5 rfl rfl ?_
  refine a_icmp_ge (tgt := 156) hX dX12_copy_107 rfl rfl hf (fun hf => ?_) (fun hf => ?_)
  · refine a_lv (lv' := [(0, .ref (q 0)), (1, .int v1), (2, .int v2), (3, .int v3), (4, .int v4), (5, .int v5)]) [0, 1, 2, 3, 4, 5] rfl ?_
    exact wX12_copy_b156 h hE hf
  · refine a_iload_n hX dX12_copy_110 rfl 1 rfl rfl ?_
    refine a_iload_n hX dX12_copy_111 rfl 3 rfl rfl ?_
    refine a_icmp_ne (tgt := 121) hX dX12_copy_112 rfl rfl hf (fun hf => ?_) (fun hf => ?_)
    · exact wX12_copy_b121 h hE hk103 hf
    · refine a_iload_n hX dX12_copy_115 rfl 2 rfl rfl ?_
      refine a_iload hX dX12_copy_116 4 rfl rfl ?_
      refine a_icmp_lt (tgt := 156) hX dX12_copy_118 rfl rfl hf (fun hf => ?_) (fun hf => ?_)
      · refine a_lv (lv' := [(0, .ref (q 0)), (1, .int v1), (2, .int v2), (3, .int v3), (4, .int v4), (5, .int v5)]) [0, 1, 2, 3, 4, 5] rfl ?_
        exact wX12_copy_b156 h hE hf
      · exact wX12_copy_b121 h hE hk103 hf
def fX12_copy_l103   (v1 : Int32) (v2 : Int32) (v3 : Int32) (v4 : Int32) (v5 : Int32) : Nat → St → Int32 → Option (Int32 × St)
  | 0, _, _ => none
  | m + 1, u, v6 => fX12_copy_l103b  (fX12_copy_l103   v1 v2 v3 v4 v5 m) u v1 v2 v3 v4 v5 v6
theorem wX12_copy_l103 {X : Cx} {V : Vx} {q : Nat → Nat} {res : Int32 × St} (h : Run X cX12_copy 7 RX12 rmX12_copy V (some .int) (rEq (some (.int res.1)) (wM V q res.2))) (hE : ZOK (vZ V)) {v1 : Int32} {v2 : Int32} {v3 : Int32} {v4 : Int32} {v5 : Int32} : ∀ (m : Nat) (u : St) (v6 : Int32), fX12_copy_l103   v1 v2 v3 v4 v5 m u v6 = some res → At X 7 0 0 (wM V q u) 103 [(0, .ref (q 0)), (1, .int v1), (2, .int v2), (3, .int v3), (4, .int v4), (5, .int v5), (6, .int v6)] [] := by
  intro m
  induction m with
  | zero => intro u v6 hf; cases hf
  | succ m ih => intro u v6 hf; exact wX12_copy_l103b h hE ih hf
def fX12_copy (u : St) (v1 : Int32) (v2 : Int32) (v3 : Int32) (v4 : Int32) (v5 : Int32) : Option (Int32 × St) := cl1 (fX12_isSheet v1) (fun x1 => if x1 = 0 then some ((-2), u) else (cl1 (fX12_isSheet v3) (fun x2 => if x2 = 0 then some ((-2), u) else (ldI (gA u 57) 4 v1 (fun x3 => if x3 = 0 then some ((-11), u) else (ldI (gA u 57) 4 v3 (fun x4 => if x4 = 0 then some ((-11), u) else (ldI (gA u 58) 4 v1 (fun x5 => ldI (gA u 58) 4 v3 (fun x6 => if x5 = x6 then if v5 < 0 then some ((-12), u) else (if v2 < 0 then some ((-12), u) else (if v4 < 0 then some ((-12), u) else (ldI (gA u 59) 4 v1 (fun x7 => if x7 - v5 < v2 then some ((-12), u) else (ldI (gA u 59) 4 v3 (fun x8 => if v4 ≤ x8 - v5 then fX12_copy_l103 v1 v2 v3 v4 v5 NF u 0 else (some ((-12), u)))))))) else (some ((-13), u))))))))))))
theorem wX12_copy {X : Cx} {V : Vx} {q : Nat → Nat} {res : Int32 × St} (h : Run X cX12_copy 7 RX12 rmX12_copy V (some .int) (rEq (some (.int res.1)) (wM V q res.2))) (hE : ZOK (vZ V)) {u : St} {v1 : Int32} {v2 : Int32} {v3 : Int32} {v4 : Int32} {v5 : Int32} (hf : fX12_copy u v1 v2 v3 v4 v5 = some res) : At X 7 0 0 (wM V q u) 0 [(0, .ref (q 0)), (1, .int v1), (2, .int v2), (3, .int v3), (4, .int v4), (5, .int v5)] [] := by
  obtain ⟨hX, hT, hF⟩ := id h
  unfold fX12_copy at hf
  refine a_iload_n hX dX12_copy_0 rfl 1 rfl rfl ?_
  obtain ⟨x1, hg1, hf⟩ := cl1_some hf
  refine a_cSpi (rest := []) hX hE (ctX12_isSheet hE hg1) K_X12_391 ⟨rfl, rfl, by decide, by decide⟩ ⟨Nat.zero_le _, Nat.zero_le _⟩ (Nat.le_of_ble_eq_true rfl) dX12_copy_1 rfl rfl ?_
  refine a_if_eq (tgt := 14) hX dX12_copy_4 rfl rfl hf (fun hf => ?_) (fun hf => ?_)
  · refine a_bipush (v := (-2)) hX dX12_copy_14 (by decide) rfl ?_
    exact a_iret hX hT hF (r_iS (wf := (wM V q)) hf) dX12_copy_16
  · refine a_iload_n hX dX12_copy_7 rfl 3 rfl rfl ?_
    obtain ⟨x2, hg2, hf⟩ := cl1_some hf
    refine a_cSpi (rest := []) hX hE (ctX12_isSheet hE hg2) K_X12_391 ⟨rfl, rfl, by decide, by decide⟩ ⟨Nat.zero_le _, Nat.zero_le _⟩ (Nat.le_of_ble_eq_true rfl) dX12_copy_8 rfl rfl ?_
    refine a_if_ne (tgt := 17) hX dX12_copy_11 rfl rfl hf (fun hf => ?_) (fun hf => ?_)
    · refine a_aload_n hX dX12_copy_17 rfl 0 rfl rfl ?_
      refine gX12_57 hX F_X12_112 dX12_copy_18 rfl ?_
      refine a_iload_n hX dX12_copy_21 rfl 1 rfl rfl ?_
      refine lX12_57 hX dX12_copy_22 rfl hf (fun x3 hf => ?_)
      refine a_if_eq (tgt := 35) hX dX12_copy_23 rfl rfl hf (fun hf => ?_) (fun hf => ?_)
      · refine a_bipush (v := (-11)) hX dX12_copy_35 (by decide) rfl ?_
        exact a_iret hX hT hF (r_iS (wf := (wM V q)) hf) dX12_copy_37
      · refine a_aload_n hX dX12_copy_26 rfl 0 rfl rfl ?_
        refine gX12_57 hX F_X12_112 dX12_copy_27 rfl ?_
        refine a_iload_n hX dX12_copy_30 rfl 3 rfl rfl ?_
        refine lX12_57 hX dX12_copy_31 rfl hf (fun x4 hf => ?_)
        refine a_if_ne (tgt := 38) hX dX12_copy_32 rfl rfl hf (fun hf => ?_) (fun hf => ?_)
        · refine a_aload_n hX dX12_copy_38 rfl 0 rfl rfl ?_
          refine gX12_58 hX F_X12_115 dX12_copy_39 rfl ?_
          refine a_iload_n hX dX12_copy_42 rfl 1 rfl rfl ?_
          refine lX12_58 hX dX12_copy_43 rfl hf (fun x5 hf => ?_)
          refine a_aload_n hX dX12_copy_44 rfl 0 rfl rfl ?_
          refine gX12_58 hX F_X12_115 dX12_copy_45 rfl ?_
          refine a_iload_n hX dX12_copy_48 rfl 3 rfl rfl ?_
          refine lX12_58 hX dX12_copy_49 rfl hf (fun x6 hf => ?_)
          refine a_icmp_eq (tgt := 56) hX dX12_copy_50 rfl rfl hf (fun hf => ?_) (fun hf => ?_)
          · refine a_iload hX dX12_copy_56 5 rfl rfl ?_
            refine a_if_lt (tgt := 97) hX dX12_copy_58 rfl rfl hf (fun hf => ?_) (fun hf => ?_)
            · refine a_bipush (v := (-12)) hX dX12_copy_97 (by decide) rfl ?_
              exact a_iret hX hT hF (r_iS (wf := (wM V q)) hf) dX12_copy_99
            · refine a_iload_n hX dX12_copy_61 rfl 2 rfl rfl ?_
              refine a_if_lt (tgt := 97) hX dX12_copy_62 rfl rfl hf (fun hf => ?_) (fun hf => ?_)
              · refine a_bipush (v := (-12)) hX dX12_copy_97 (by decide) rfl ?_
                exact a_iret hX hT hF (r_iS (wf := (wM V q)) hf) dX12_copy_99
              · refine a_iload hX dX12_copy_65 4 rfl rfl ?_
                refine a_if_lt (tgt := 97) hX dX12_copy_67 rfl rfl hf (fun hf => ?_) (fun hf => ?_)
                · refine a_bipush (v := (-12)) hX dX12_copy_97 (by decide) rfl ?_
                  exact a_iret hX hT hF (r_iS (wf := (wM V q)) hf) dX12_copy_99
                · refine a_iload_n hX dX12_copy_70 rfl 2 rfl rfl ?_
                  refine a_aload_n hX dX12_copy_71 rfl 0 rfl rfl ?_
                  refine gX12_59 hX F_X12_118 dX12_copy_72 rfl ?_
                  refine a_iload_n hX dX12_copy_75 rfl 1 rfl rfl ?_
                  refine lX12_59 hX dX12_copy_76 rfl hf (fun x7 hf => ?_)
                  refine a_iload hX dX12_copy_77 5 rfl rfl ?_
                  refine a_isub hX dX12_copy_79 rfl ?_
                  refine a_icmp_gt (tgt := 97) hX dX12_copy_80 rfl rfl hf (fun hf => ?_) (fun hf => ?_)
                  · refine a_bipush (v := (-12)) hX dX12_copy_97 (by decide) rfl ?_
                    exact a_iret hX hT hF (r_iS (wf := (wM V q)) hf) dX12_copy_99
                  · refine a_iload hX dX12_copy_83 4 rfl rfl ?_
                    refine a_aload_n hX dX12_copy_85 rfl 0 rfl rfl ?_
                    refine gX12_59 hX F_X12_118 dX12_copy_86 rfl ?_
                    refine a_iload_n hX dX12_copy_89 rfl 3 rfl rfl ?_
                    refine lX12_59 hX dX12_copy_90 rfl hf (fun x8 hf => ?_)
                    refine a_iload hX dX12_copy_91 5 rfl rfl ?_
                    refine a_isub hX dX12_copy_93 rfl ?_
                    refine a_icmp_le (tgt := 100) hX dX12_copy_94 rfl rfl hf (fun hf => ?_) (fun hf => ?_)
                    · refine a_iconst (v := 0) hX dX12_copy_100 (by decide) rfl ?_
                      refine a_istore (lv' := [(6, .int 0), (0, .ref (q 0)), (1, .int v1), (2, .int v2), (3, .int v3), (4, .int v4), (5, .int v5)]) hX dX12_copy_101 (by decide) rfl rfl ?_
                      refine a_lv (lv' := [(0, .ref (q 0)), (1, .int v1), (2, .int v2), (3, .int v3), (4, .int v4), (5, .int v5), (6, .int 0)]) [1, 2, 3, 4, 5, 6, 0] rfl ?_
                      exact wX12_copy_l103 h hE NF u 0 hf
                    · refine a_bipush (v := (-12)) hX dX12_copy_97 (by decide) rfl ?_
                      exact a_iret hX hT hF (r_iS (wf := (wM V q)) hf) dX12_copy_99
          · refine a_bipush (v := (-13)) hX dX12_copy_53 (by decide) rfl ?_
            exact a_iret hX hT hF (r_iS (wf := (wM V q)) hf) dX12_copy_55
        · refine a_bipush (v := (-11)) hX dX12_copy_35 (by decide) rfl ?_
          exact a_iret hX hT hF (r_iS (wf := (wM V q)) hf) dX12_copy_37
    · refine a_bipush (v := (-2)) hX dX12_copy_14 (by decide) rfl ?_
      exact a_iret hX hT hF (r_iS (wf := (wM V q)) hf) dX12_copy_16
theorem ctX12_copy {V : Vx} {q : Nat → Nat} {u : St} {res : Int32 × St} (hE : ZOK (vZ V)) {v1 : Int32} {v2 : Int32} {v3 : Int32} {v4 : Int32} {v5 : Int32} (hf : fX12_copy u v1 v2 v3 v4 v5 = some res) : Ct V yX12_copy (.code yX12_copy cX12_copy 7 (some .int)) rmX12_copy 0 0 [.ref (q 0), .int v1, .int v2, .int v3, .int v4, .int v5] (wM V q u) (rEq (some (.int res.1)) (wM V q res.2)) :=
  Ct_of (by decide) (Nat.le_of_ble_eq_true rfl) rfl (fun X hX hT _ hF => wX12_copy ⟨hX, hT, hF⟩ hE hf)
def rmX12_papers : Room := { frames := 3, cells := 0, slots := 0, locals := 68 }
def fX12_papers_b175  (k82 : St → Int32 → Int32 → Option (Int32 × St)) (u : St) (v1 : Int32) (v3 : Int32) (v4 : Int32) (v5 : Int32) (v6 : Int32) : Option (Int32 × St) := k82 u v5 (v6 + 1)
theorem wX12_papers_b175 {X : Cx} {V : Vx} {q : Nat → Nat} {res : Int32 × St} (h : Run X cX12_papers 8 RX12 rmX12_papers V (some .int) (rEq (some (.int res.1)) (wM V q res.2))) (hE : ZOK (vZ V)) {u : St} {v1 : Int32} {v3 : Int32} {v4 : Int32} {v5 : Int32} {v6 : Int32} {k82 : St → Int32 → Int32 → Option (Int32 × St)} (hk82 : ∀ (u : St) (v5 : Int32) (v6 : Int32), k82 u v5 v6 = some res → At X 8 0 0 (wM V q u) 82 [(0, .ref (q 0)), (1, .int v1), (3, .int v3), (4, .int v4), (5, .int v5), (6, .int v6)] []) (hf : fX12_papers_b175  k82 u v1 v3 v4 v5 v6 = some res) : At X 8 0 0 (wM V q u) 175 [(0, .ref (q 0)), (1, .int v1), (3, .int v3), (4, .int v4), (5, .int v5), (6, .int v6)] [] := by
  obtain ⟨hX, hT, hF⟩ := id h
  unfold fX12_papers_b175 at hf
  refine a_iinc (v := v6 + 1) (lv' := [(6, .int (v6 + 1)), (0, .ref (q 0)), (1, .int v1), (3, .int v3), (4, .int v4), (5, .int v5)]) hX dX12_papers_175 5 rfl rfl (by decide) rfl rfl ?_
  refine a_goto (pc' := 82) hX dX12_papers_178 rfl ?_
  refine a_lv (lv' := [(0, .ref (q 0)), (1, .int v1), (3, .int v3), (4, .int v4), (5, .int v5), (6, .int (v6 + 1))]) [1, 2, 3, 4, 5, 0] rfl ?_
  exact hk82 u v5 (v6 + 1) hf
def fX12_papers_l82b  (k82 : St → Int32 → Int32 → Option (Int32 × St)) (u : St) (v1 : Int32) (v3 : Int32) (v4 : Int32) (v5 : Int32) (v6 : Int32) : Option (Int32 × St) := if v4 ≤ v6 then some (v5, u) else (ldI (gA u 59) 4 v1 (fun x7 => if v3 ≤ (x7 - (5 * v6)) - 5 then nmI (((40 * v1) + v3) + (5 * v6)) (fun x8 => ldI (gA u 60) 160 x8 (fun x9 => ldI (gA u 60) 160 (x8 + 1) (fun x10 => ldI (gA u 60) 160 (x8 + 2) (fun x11 => ldI (gA u 60) 160 (x8 + 3) (fun x12 => ldI (gA u 60) 160 (x8 + 4) (fun x13 => cl2 (fX12_paper u x9 x10 x11 x12 x13) (fun x14 u15 => if x14 < 0 then fX12_papers_b175 k82 u15 v1 v3 v4 v5 v6 else (fX12_papers_b175 k82 u15 v1 v3 v4 (v5 + 1) v6)))))))) else (some ((-12), u))))
theorem wX12_papers_l82b {X : Cx} {V : Vx} {q : Nat → Nat} {res : Int32 × St} (h : Run X cX12_papers 8 RX12 rmX12_papers V (some .int) (rEq (some (.int res.1)) (wM V q res.2))) (hE : ZOK (vZ V)) {u : St} {v1 : Int32} {v3 : Int32} {v4 : Int32} {v5 : Int32} {v6 : Int32} {k82 : St → Int32 → Int32 → Option (Int32 × St)} (hk82 : ∀ (u : St) (v5 : Int32) (v6 : Int32), k82 u v5 v6 = some res → At X 8 0 0 (wM V q u) 82 [(0, .ref (q 0)), (1, .int v1), (3, .int v3), (4, .int v4), (5, .int v5), (6, .int v6)] []) (hf : fX12_papers_l82b  k82 u v1 v3 v4 v5 v6 = some res) : At X 8 0 0 (wM V q u) 82 [(0, .ref (q 0)), (1, .int v1), (3, .int v3), (4, .int v4), (5, .int v5), (6, .int v6)] [] := by
  obtain ⟨hX, hT, hF⟩ := id h
  unfold fX12_papers_l82b at hf
  refine a_iload hX dX12_papers_82 5 rfl rfl ?_
  refine a_iload hX dX12_papers_84 3 rfl rfl ?_
  refine a_icmp_ge (tgt := 181) hX dX12_papers_86 rfl rfl hf (fun hf => ?_) (fun hf => ?_)
  · refine a_iload hX dX12_papers_181 4 rfl rfl ?_
    exact a_iret hX hT hF (r_iS (wf := (wM V q)) hf) dX12_papers_183
  · refine a_iload_n hX dX12_papers_89 rfl 2 rfl rfl ?_
    refine a_aload_n hX dX12_papers_90 rfl 0 rfl rfl ?_
    refine gX12_59 hX F_X12_118 dX12_papers_91 rfl ?_
    refine a_iload_n hX dX12_papers_94 rfl 1 rfl rfl ?_
    refine lX12_59 hX dX12_papers_95 rfl hf (fun x7 hf => ?_)
    refine a_iconst (v := 5) hX dX12_papers_96 (by decide) rfl ?_
    refine a_iload hX dX12_papers_97 5 rfl rfl ?_
    refine a_imul hX dX12_papers_99 rfl ?_
    refine a_isub hX dX12_papers_100 rfl ?_
    refine a_iconst (v := 5) hX dX12_papers_101 (by decide) rfl ?_
    refine a_isub hX dX12_papers_102 rfl ?_
    refine a_icmp_le (tgt := 109) hX dX12_papers_103 rfl rfl hf (fun hf => ?_) (fun hf => ?_)
    · refine a_bipush (v := 40) hX dX12_papers_109 (by decide) rfl ?_
      refine a_iload_n hX dX12_papers_111 rfl 1 rfl rfl ?_
      refine a_imul hX dX12_papers_112 rfl ?_
      refine a_iload_n hX dX12_papers_113 rfl 2 rfl rfl ?_
      refine a_iadd hX dX12_papers_114 rfl ?_
      refine a_iconst (v := 5) hX dX12_papers_115 (by decide) rfl ?_
      refine a_iload hX dX12_papers_116 5 rfl rfl ?_
      refine a_imul hX dX12_papers_118 rfl ?_
      refine a_iadd hX dX12_papers_119 rfl ?_
      refine a_nmI hf (fun x8 hf => ?_)
      refine a_istore (lv' := [(7, .int x8), (0, .ref (q 0)), (1, .int v1), (3, .int v3), (4, .int v4), (5, .int v5), (6, .int v6)]) hX dX12_papers_120 (by decide) rfl rfl ?_
      refine a_aload_n hX dX12_papers_122 rfl 1 rfl rfl ?_
      refine a_aload_n hX dX12_papers_123 rfl 1 rfl rfl ?_
      refine gX12_60 hX F_X12_121 dX12_papers_124 rfl ?_
      refine a_iload hX dX12_papers_127 0 rfl rfl ?_
      refine lX12_60 hX dX12_papers_129 rfl hf (fun x9 hf => ?_)
      refine a_aload_n hX dX12_papers_130 rfl 1 rfl rfl ?_
      refine gX12_60 hX F_X12_121 dX12_papers_131 rfl ?_
      refine a_iload hX dX12_papers_134 0 rfl rfl ?_
      refine a_iconst (v := 1) hX dX12_papers_136 (by decide) rfl ?_
      refine a_iadd hX dX12_papers_137 rfl ?_
      refine lX12_60 hX dX12_papers_138 rfl hf (fun x10 hf => ?_)
      refine a_aload_n hX dX12_papers_139 rfl 1 rfl rfl ?_
      refine gX12_60 hX F_X12_121 dX12_papers_140 rfl ?_
      refine a_iload hX dX12_papers_143 0 rfl rfl ?_
      refine a_iconst (v := 2) hX dX12_papers_145 (by decide) rfl ?_
      refine a_iadd hX dX12_papers_146 rfl ?_
      refine lX12_60 hX dX12_papers_147 rfl hf (fun x11 hf => ?_)
      refine a_aload_n hX dX12_papers_148 rfl 1 rfl rfl ?_
      refine gX12_60 hX F_X12_121 dX12_papers_149 rfl ?_
      refine a_iload hX dX12_papers_152 0 rfl rfl ?_
      refine a_iconst (v := 3) hX dX12_papers_154 (by decide) rfl ?_
      refine a_iadd hX dX12_papers_155 rfl ?_
      refine lX12_60 hX dX12_papers_156 rfl hf (fun x12 hf => ?_)
      refine a_aload_n hX dX12_papers_157 rfl 1 rfl rfl ?_
      refine gX12_60 hX F_X12_121 dX12_papers_158 rfl ?_
      refine a_iload hX dX12_papers_161 0 rfl rfl ?_
      refine a_iconst (v := 4) hX dX12_papers_163 (by decide) rfl ?_
      refine a_iadd hX dX12_papers_164 rfl ?_
      refine lX12_60 hX dX12_papers_165 rfl hf (fun x13 hf => ?_)
      obtain ⟨x14, u15, hg14, hf⟩ := cl2_some hf
      refine a_cVsi (q0 := 0) (rest := []) hX hE (ctX12_paper (q := q) hE hg14) K_X12_394 ⟨rfl, rfl⟩ ⟨rfl, rfl, by decide, by decide⟩ ⟨Nat.zero_le _, Nat.zero_le _⟩ (Nat.le_of_ble_eq_true rfl) dX12_papers_166 rfl rfl ?_
      refine a_if_lt (tgt := 175) hX dX12_papers_169 rfl rfl hf (fun hf => ?_) (fun hf => ?_)
      · refine a_lv (lv' := [(0, .ref (q 0)), (1, .int v1), (3, .int v3), (4, .int v4), (5, .int v5), (6, .int v6)]) [1, 2, 3, 4, 5, 6] rfl ?_
        exact wX12_papers_b175 h hE hk82 hf
      · refine a_iinc (v := v5 + 1) (lv' := [(5, .int (v5 + 1)), (7, .int x8), (0, .ref (q 0)), (1, .int v1), (3, .int v3), (4, .int v4), (6, .int v6)]) hX dX12_papers_172 5 rfl rfl (by decide) rfl rfl ?_
        refine a_lv (lv' := [(0, .ref (q 0)), (1, .int v1), (3, .int v3), (4, .int v4), (5, .int (v5 + 1)), (6, .int v6)]) [2, 3, 4, 5, 0, 6] rfl ?_
        exact wX12_papers_b175 h hE hk82 hf
    · refine a_bipush (v := (-12)) hX dX12_papers_106 (by decide) rfl ?_
      exact a_iret hX hT hF (r_iS (wf := (wM V q)) hf) dX12_papers_108
def fX12_papers_l82   (v1 : Int32) (v3 : Int32) (v4 : Int32) : Nat → St → Int32 → Int32 → Option (Int32 × St)
  | 0, _, _, _ => none
  | m + 1, u, v5, v6 => fX12_papers_l82b  (fX12_papers_l82   v1 v3 v4 m) u v1 v3 v4 v5 v6
theorem wX12_papers_l82 {X : Cx} {V : Vx} {q : Nat → Nat} {res : Int32 × St} (h : Run X cX12_papers 8 RX12 rmX12_papers V (some .int) (rEq (some (.int res.1)) (wM V q res.2))) (hE : ZOK (vZ V)) {v1 : Int32} {v3 : Int32} {v4 : Int32} : ∀ (m : Nat) (u : St) (v5 : Int32) (v6 : Int32), fX12_papers_l82   v1 v3 v4 m u v5 v6 = some res → At X 8 0 0 (wM V q u) 82 [(0, .ref (q 0)), (1, .int v1), (3, .int v3), (4, .int v4), (5, .int v5), (6, .int v6)] [] := by
  intro m
  induction m with
  | zero => intro u v5 v6 hf; cases hf
  | succ m ih => intro u v5 v6 hf; exact wX12_papers_l82b h hE ih hf
def fX12_papers_b76   (u : St) (v1 : Int32) (v3 : Int32) (v4 : Int32) : Option (Int32 × St) := fX12_papers_l82 v1 v3 v4 NF u 0 0
theorem wX12_papers_b76 {X : Cx} {V : Vx} {q : Nat → Nat} {res : Int32 × St} (h : Run X cX12_papers 8 RX12 rmX12_papers V (some .int) (rEq (some (.int res.1)) (wM V q res.2))) (hE : ZOK (vZ V)) {u : St} {v1 : Int32} {v3 : Int32} {v4 : Int32} (hf : fX12_papers_b76   u v1 v3 v4 = some res) : At X 8 0 0 (wM V q u) 76 [(0, .ref (q 0)), (1, .int v1), (3, .int v3), (4, .int v4)] [] := by
  obtain ⟨hX, hT, hF⟩ := id h
  unfold fX12_papers_b76 at hf
  refine a_iconst (v := 0) hX dX12_papers_76 (by decide) rfl ?_
  refine a_istore (lv' := [(5, .int 0), (0, .ref (q 0)), (1, .int v1), (3, .int v3), (4, .int v4)]) hX dX12_papers_77 (by decide) rfl rfl ?_
  refine a_iconst (v := 0) hX dX12_papers_79 (by decide) rfl ?_
  refine a_istore (lv' := [(6, .int 0), (5, .int 0), (0, .ref (q 0)), (1, .int v1), (3, .int v3), (4, .int v4)]) hX dX12_papers_80 (by decide) rfl rfl ?_
  refine a_lv (lv' := [(0, .ref (q 0)), (1, .int v1), (3, .int v3), (4, .int v4), (5, .int 0), (6, .int 0)]) [2, 3, 4, 5, 1, 0] rfl ?_
  exact wX12_papers_l82 h hE NF u 0 0 hf
def fX12_papers_b52   (u : St) (v1 : Int32) (v3 : Int32) (v4 : Int32) : Option (Int32 × St) := ldI (gA u 57) 4 v1 (fun x6 => if x6 = 0 then some ((-11), u) else (if v4 ≤ 0 then fX12_papers_b76 u v1 v3 v4 else (if 0 ≤ v3 then fX12_papers_b76 u v1 v3 v4 else (some ((-12), u)))))
theorem wX12_papers_b52 {X : Cx} {V : Vx} {q : Nat → Nat} {res : Int32 × St} (h : Run X cX12_papers 8 RX12 rmX12_papers V (some .int) (rEq (some (.int res.1)) (wM V q res.2))) (hE : ZOK (vZ V)) {u : St} {v1 : Int32} {v3 : Int32} {v4 : Int32} (hf : fX12_papers_b52   u v1 v3 v4 = some res) : At X 8 0 0 (wM V q u) 52 [(0, .ref (q 0)), (1, .int v1), (3, .int v3), (4, .int v4)] [] := by
  obtain ⟨hX, hT, hF⟩ := id h
  unfold fX12_papers_b52 at hf
  refine a_aload_n hX dX12_papers_52 rfl 0 rfl rfl ?_
  refine gX12_57 hX F_X12_112 dX12_papers_53 rfl ?_
  refine a_iload_n hX dX12_papers_56 rfl 1 rfl rfl ?_
  refine lX12_57 hX dX12_papers_57 rfl hf (fun x6 hf => ?_)
  refine a_if_ne (tgt := 64) hX dX12_papers_58 rfl rfl hf (fun hf => ?_) (fun hf => ?_)
  · refine a_iload hX dX12_papers_64 3 rfl rfl ?_
    refine a_if_le (tgt := 76) hX dX12_papers_66 rfl rfl hf (fun hf => ?_) (fun hf => ?_)
    · exact wX12_papers_b76 h hE hf
    · refine a_iload_n hX dX12_papers_69 rfl 2 rfl rfl ?_
      refine a_if_ge (tgt := 76) hX dX12_papers_70 rfl rfl hf (fun hf => ?_) (fun hf => ?_)
      · exact wX12_papers_b76 h hE hf
      · refine a_bipush (v := (-12)) hX dX12_papers_73 (by decide) rfl ?_
        exact a_iret hX hT hF (r_iS (wf := (wM V q)) hf) dX12_papers_75
  · refine a_bipush (v := (-11)) hX dX12_papers_61 (by decide) rfl ?_
    exact a_iret hX hT hF (r_iS (wf := (wM V q)) hf) dX12_papers_63
def fX12_papers (u : St) (v1 : Int32) (v2 : Int32) (v3 : Int32) (v4 : Int32) : Option (Int32 × St) := cl1 (fX12_isSheet v1) (fun x1 => if x1 = 0 then some ((-2), u) else (cl1 (fX12_in v2 0 2) (fun x2 => if x2 = 0 then some ((-2), u) else (cl1 (fX12_in v4 0 8) (fun x3 => if x3 = 0 then some ((-2), u) else (ldI (gA u 57) 4 v1 (fun x4 => if x4 = 0 then fX12_papers_b52 u v1 v3 v4 else (ldI (gA u 58) 4 v1 (fun x5 => if x5 = v2 then fX12_papers_b52 u v1 v3 v4 else (some ((-13), u)))))))))))
theorem wX12_papers {X : Cx} {V : Vx} {q : Nat → Nat} {res : Int32 × St} (h : Run X cX12_papers 8 RX12 rmX12_papers V (some .int) (rEq (some (.int res.1)) (wM V q res.2))) (hE : ZOK (vZ V)) {u : St} {v1 : Int32} {v2 : Int32} {v3 : Int32} {v4 : Int32} (hf : fX12_papers u v1 v2 v3 v4 = some res) : At X 8 0 0 (wM V q u) 0 [(0, .ref (q 0)), (1, .int v1), (2, .int v2), (3, .int v3), (4, .int v4)] [] := by
  obtain ⟨hX, hT, hF⟩ := id h
  unfold fX12_papers at hf
  refine a_iload_n hX dX12_papers_0 rfl 1 rfl rfl ?_
  obtain ⟨x1, hg1, hf⟩ := cl1_some hf
  refine a_cSpi (rest := []) hX hE (ctX12_isSheet hE hg1) K_X12_391 ⟨rfl, rfl, by decide, by decide⟩ ⟨Nat.zero_le _, Nat.zero_le _⟩ (Nat.le_of_ble_eq_true rfl) dX12_papers_1 rfl rfl ?_
  refine a_if_eq (tgt := 27) hX dX12_papers_4 rfl rfl hf (fun hf => ?_) (fun hf => ?_)
  · refine a_bipush (v := (-2)) hX dX12_papers_27 (by decide) rfl ?_
    exact a_iret hX hT hF (r_iS (wf := (wM V q)) hf) dX12_papers_29
  · refine a_iload_n hX dX12_papers_7 rfl 2 rfl rfl ?_
    refine a_iconst (v := 0) hX dX12_papers_8 (by decide) rfl ?_
    refine a_iconst (v := 2) hX dX12_papers_9 (by decide) rfl ?_
    obtain ⟨x2, hg2, hf⟩ := cl1_some hf
    refine a_cSpi (rest := []) hX hE (ctX12_in hE hg2) K_X12_148 ⟨rfl, rfl, by decide, by decide⟩ ⟨Nat.zero_le _, Nat.zero_le _⟩ (Nat.le_of_ble_eq_true rfl) dX12_papers_10 rfl rfl ?_
    refine a_if_eq (tgt := 27) hX dX12_papers_13 rfl rfl hf (fun hf => ?_) (fun hf => ?_)
    · refine a_bipush (v := (-2)) hX dX12_papers_27 (by decide) rfl ?_
      exact a_iret hX hT hF (r_iS (wf := (wM V q)) hf) dX12_papers_29
    · refine a_iload hX dX12_papers_16 4 rfl rfl ?_
      refine a_iconst (v := 0) hX dX12_papers_18 (by decide) rfl ?_
      refine a_bipush (v := 8) hX dX12_papers_19 (by decide) rfl ?_
      obtain ⟨x3, hg3, hf⟩ := cl1_some hf
      refine a_cSpi (rest := []) hX hE (ctX12_in hE hg3) K_X12_148 ⟨rfl, rfl, by decide, by decide⟩ ⟨Nat.zero_le _, Nat.zero_le _⟩ (Nat.le_of_ble_eq_true rfl) dX12_papers_21 rfl rfl ?_
      refine a_if_ne (tgt := 30) hX dX12_papers_24 rfl rfl hf (fun hf => ?_) (fun hf => ?_)
      · refine a_aload_n hX dX12_papers_30 rfl 0 rfl rfl ?_
        refine gX12_57 hX F_X12_112 dX12_papers_31 rfl ?_
        refine a_iload_n hX dX12_papers_34 rfl 1 rfl rfl ?_
        refine lX12_57 hX dX12_papers_35 rfl hf (fun x4 hf => ?_)
        refine a_if_eq (tgt := 52) hX dX12_papers_36 rfl rfl hf (fun hf => ?_) (fun hf => ?_)
        · refine a_lv (lv' := [(0, .ref (q 0)), (1, .int v1), (3, .int v3), (4, .int v4)]) [0, 1, 3, 4] rfl ?_
          exact wX12_papers_b52 h hE hf
        · refine a_aload_n hX dX12_papers_39 rfl 0 rfl rfl ?_
          refine gX12_58 hX F_X12_115 dX12_papers_40 rfl ?_
          refine a_iload_n hX dX12_papers_43 rfl 1 rfl rfl ?_
          refine lX12_58 hX dX12_papers_44 rfl hf (fun x5 hf => ?_)
          refine a_iload_n hX dX12_papers_45 rfl 2 rfl rfl ?_
          refine a_icmp_eq (tgt := 52) hX dX12_papers_46 rfl rfl hf (fun hf => ?_) (fun hf => ?_)
          · refine a_lv (lv' := [(0, .ref (q 0)), (1, .int v1), (3, .int v3), (4, .int v4)]) [0, 1, 3, 4] rfl ?_
            exact wX12_papers_b52 h hE hf
          · refine a_bipush (v := (-13)) hX dX12_papers_49 (by decide) rfl ?_
            exact a_iret hX hT hF (r_iS (wf := (wM V q)) hf) dX12_papers_51
      · refine a_bipush (v := (-2)) hX dX12_papers_27 (by decide) rfl ?_
        exact a_iret hX hT hF (r_iS (wf := (wM V q)) hf) dX12_papers_29
theorem ctX12_papers {V : Vx} {q : Nat → Nat} {u : St} {res : Int32 × St} (hE : ZOK (vZ V)) {v1 : Int32} {v2 : Int32} {v3 : Int32} {v4 : Int32} (hf : fX12_papers u v1 v2 v3 v4 = some res) : Ct V yX12_papers (.code yX12_papers cX12_papers 8 (some .int)) rmX12_papers 0 0 [.ref (q 0), .int v1, .int v2, .int v3, .int v4] (wM V q u) (rEq (some (.int res.1)) (wM V q res.2)) :=
  Ct_of (by decide) (Nat.le_of_ble_eq_true rfl) rfl (fun X hX hT _ hF => wX12_papers ⟨hX, hT, hF⟩ hE hf)
def rmX12_over : Room := { frames := 0, cells := 0, slots := 0, locals := 0 }
def fX12_over (v0 : Int32) : Option (Int32) := if v0 = 0 then some (-1) else (if v0 = 3 then some 1 else (if v0 = 4 then some 2 else (some 0)))
theorem wX12_over {X : Cx} {V : Vx} {res : Int32} (h : Run X cX12_over 1 RX12 rmX12_over V (some .int) (rEq (some (.int res)) [])) (hE : ZOK (vZ V)) {v0 : Int32} (hf : fX12_over v0 = some res) : At X 1 0 0 [] 0 [(0, .int v0)] [] := by
  obtain ⟨hX, hT, hF⟩ := id h
  unfold fX12_over at hf
  refine a_iload_n hX dX12_over_0 rfl 0 rfl rfl ?_
  refine a_if_ne (tgt := 8) hX dX12_over_1 rfl rfl hf (fun hf => ?_) (fun hf => ?_)
  · refine a_iload_n hX dX12_over_8 rfl 0 rfl rfl ?_
    refine a_iconst (v := 3) hX dX12_over_9 (by decide) rfl ?_
    refine a_icmp_ne (tgt := 17) hX dX12_over_10 rfl rfl hf (fun hf => ?_) (fun hf => ?_)
    · refine a_iload_n hX dX12_over_17 rfl 0 rfl rfl ?_
      refine a_iconst (v := 4) hX dX12_over_18 (by decide) rfl ?_
      refine a_icmp_ne (tgt := 26) hX dX12_over_19 rfl rfl hf (fun hf => ?_) (fun hf => ?_)
      · refine a_iconst (v := 0) hX dX12_over_26 (by decide) rfl ?_
        exact a_iret hX hT hF (r_i hf) dX12_over_27
      · refine a_iconst (v := 2) hX dX12_over_22 (by decide) rfl ?_
        refine a_goto (pc' := 27) hX dX12_over_23 rfl ?_
        exact a_iret hX hT hF (r_i hf) dX12_over_27
    · refine a_iconst (v := 1) hX dX12_over_13 (by decide) rfl ?_
      refine a_goto (pc' := 27) hX dX12_over_14 rfl ?_
      exact a_iret hX hT hF (r_i hf) dX12_over_27
  · refine a_iconst (v := (-1)) hX dX12_over_4 (by decide) rfl ?_
    refine a_goto (pc' := 27) hX dX12_over_5 rfl ?_
    exact a_iret hX hT hF (r_i hf) dX12_over_27
theorem ctX12_over {V : Vx} {res : Int32} (hE : ZOK (vZ V)) {v0 : Int32} (hf : fX12_over v0 = some res) : Ct V yX12_over (.code yX12_over cX12_over 1 (some .int)) rmX12_over 0 0 [.int v0] [] (rEq (some (.int res)) []) :=
  Ct_of (by decide) (Nat.le_of_ble_eq_true rfl) rfl (fun X hX hT _ hF => wX12_over ⟨hX, hT, hF⟩ hE hf)
def rmX12_taken : Room := { frames := 2, cells := 0, slots := 0, locals := 43 }
def fX12_taken_b48 (u : St)  (v1 : Int32) (v2 : Int32) (v3 : Int32) : Option (Int32) := if v3 = v2 then ldI (gA u 10) 16 v1 (fun x5 => some x5) else (some (-13))
theorem wX12_taken_b48 {X : Cx} {V : Vx} {q : Nat → Nat} {u : St} {res : Int32} (h : Run X cX12_taken 4 RX12 rmX12_taken V (some .int) (rEq (some (.int res)) (wM V q u))) (hE : ZOK (vZ V)) {v1 : Int32} {v2 : Int32} {v3 : Int32} (hf : fX12_taken_b48 u  v1 v2 v3 = some res) : At X 4 0 0 (wM V q u) 48 [(0, .ref (q 0)), (1, .int v1), (2, .int v2), (3, .int v3)] [] := by
  obtain ⟨hX, hT, hF⟩ := id h
  unfold fX12_taken_b48 at hf
  refine a_iload_n hX dX12_taken_48 rfl 3 rfl rfl ?_
  refine a_iload_n hX dX12_taken_49 rfl 2 rfl rfl ?_
  refine a_icmp_ne (tgt := 62) hX dX12_taken_50 rfl rfl hf (fun hf => ?_) (fun hf => ?_)
  · refine a_bipush (v := (-13)) hX dX12_taken_62 (by decide) rfl ?_
    exact a_iret hX hT hF (r_i hf) dX12_taken_64
  · refine a_aload_n hX dX12_taken_53 rfl 0 rfl rfl ?_
    refine gX12_10 hX F_X12_29 dX12_taken_54 rfl ?_
    refine a_iload_n hX dX12_taken_57 rfl 1 rfl rfl ?_
    refine lX12_10 hX dX12_taken_58 rfl hf (fun x5 hf => ?_)
    refine a_goto (pc' := 64) hX dX12_taken_59 rfl ?_
    exact a_iret hX hT hF (r_i hf) dX12_taken_64
def fX12_taken_l30b (u : St) (k30 : Int32 → Option (Int32)) (v1 : Int32) (v2 : Int32) (v3 : Int32) : Option (Int32) := if v3 = (-1) then fX12_taken_b48 u v1 v2 v3 else (if v3 = v2 then fX12_taken_b48 u v1 v2 v3 else (cl1 (fX12_over v3) (fun x4 => k30 x4)))
theorem wX12_taken_l30b {X : Cx} {V : Vx} {q : Nat → Nat} {u : St} {res : Int32} (h : Run X cX12_taken 4 RX12 rmX12_taken V (some .int) (rEq (some (.int res)) (wM V q u))) (hE : ZOK (vZ V)) {v1 : Int32} {v2 : Int32} {v3 : Int32} {k30 : Int32 → Option (Int32)} (hk30 : ∀ (v3 : Int32), k30 v3 = some res → At X 4 0 0 (wM V q u) 30 [(0, .ref (q 0)), (1, .int v1), (2, .int v2), (3, .int v3)] []) (hf : fX12_taken_l30b u k30 v1 v2 v3 = some res) : At X 4 0 0 (wM V q u) 30 [(0, .ref (q 0)), (1, .int v1), (2, .int v2), (3, .int v3)] [] := by
  obtain ⟨hX, hT, hF⟩ := id h
  unfold fX12_taken_l30b at hf
  refine a_iload_n hX dX12_taken_30 rfl 3 rfl rfl ?_
  refine a_iconst (v := (-1)) hX dX12_taken_31 (by decide) rfl ?_
  refine a_icmp_eq (tgt := 48) hX dX12_taken_32 rfl rfl hf (fun hf => ?_) (fun hf => ?_)
  · exact wX12_taken_b48 h hE hf
  · refine a_iload_n hX dX12_taken_35 rfl 3 rfl rfl ?_
    refine a_iload_n hX dX12_taken_36 rfl 2 rfl rfl ?_
    refine a_icmp_eq (tgt := 48) hX dX12_taken_37 rfl rfl hf (fun hf => ?_) (fun hf => ?_)
    · exact wX12_taken_b48 h hE hf
    · refine a_iload_n hX dX12_taken_40 rfl 3 rfl rfl ?_
      obtain ⟨x4, hg4, hf⟩ := cl1_some hf
      refine a_cSpi (rest := []) hX hE (ctX12_over hE hg4) K_X12_397 ⟨rfl, rfl, by decide, by decide⟩ ⟨Nat.zero_le _, Nat.zero_le _⟩ (Nat.le_of_ble_eq_true rfl) dX12_taken_41 rfl rfl ?_
      refine a_istore_n (lv' := [(3, .int x4), (0, .ref (q 0)), (1, .int v1), (2, .int v2)]) hX dX12_taken_44 rfl (by decide) rfl rfl ?_
      refine a_goto (pc' := 30) hX dX12_taken_45 rfl ?_
      refine a_lv (lv' := [(0, .ref (q 0)), (1, .int v1), (2, .int v2), (3, .int x4)]) [1, 2, 3, 0] rfl ?_
      exact hk30 x4 hf
def fX12_taken_l30 (u : St)  (v1 : Int32) (v2 : Int32) : Nat → Int32 → Option (Int32)
  | 0, _ => none
  | m + 1, v3 => fX12_taken_l30b u (fX12_taken_l30 u  v1 v2 m) v1 v2 v3
theorem wX12_taken_l30 {X : Cx} {V : Vx} {q : Nat → Nat} {u : St} {res : Int32} (h : Run X cX12_taken 4 RX12 rmX12_taken V (some .int) (rEq (some (.int res)) (wM V q u))) (hE : ZOK (vZ V)) {v1 : Int32} {v2 : Int32} : ∀ (m : Nat) (v3 : Int32), fX12_taken_l30 u  v1 v2 m v3 = some res → At X 4 0 0 (wM V q u) 30 [(0, .ref (q 0)), (1, .int v1), (2, .int v2), (3, .int v3)] [] := by
  intro m
  induction m with
  | zero => intro v3 hf; cases hf
  | succ m ih => intro v3 hf; exact wX12_taken_l30b h hE ih hf
def fX12_taken (u : St) (v1 : Int32) (v2 : Int32) : Option (Int32) := cl1 (fX12_in v2 0 5) (fun x1 => if x1 = 0 then some (-2) else (cl1 (fX12_isPaper u v1) (fun x2 => if x2 = 0 then some (-11) else (ldI (gA u 9) 16 v1 (fun x3 => fX12_taken_l30 u v1 v2 NF x3)))))
theorem wX12_taken {X : Cx} {V : Vx} {q : Nat → Nat} {u : St} {res : Int32} (h : Run X cX12_taken 4 RX12 rmX12_taken V (some .int) (rEq (some (.int res)) (wM V q u))) (hE : ZOK (vZ V)) {v1 : Int32} {v2 : Int32} (hf : fX12_taken u v1 v2 = some res) : At X 4 0 0 (wM V q u) 0 [(0, .ref (q 0)), (1, .int v1), (2, .int v2)] [] := by
  obtain ⟨hX, hT, hF⟩ := id h
  unfold fX12_taken at hf
  refine a_iload_n hX dX12_taken_0 rfl 2 rfl rfl ?_
  refine a_iconst (v := 0) hX dX12_taken_1 (by decide) rfl ?_
  refine a_iconst (v := 5) hX dX12_taken_2 (by decide) rfl ?_
  obtain ⟨x1, hg1, hf⟩ := cl1_some hf
  refine a_cSpi (rest := []) hX hE (ctX12_in hE hg1) K_X12_148 ⟨rfl, rfl, by decide, by decide⟩ ⟨Nat.zero_le _, Nat.zero_le _⟩ (Nat.le_of_ble_eq_true rfl) dX12_taken_3 rfl rfl ?_
  refine a_if_ne (tgt := 12) hX dX12_taken_6 rfl rfl hf (fun hf => ?_) (fun hf => ?_)
  · refine a_aload_n hX dX12_taken_12 rfl 0 rfl rfl ?_
    refine a_iload_n hX dX12_taken_13 rfl 1 rfl rfl ?_
    obtain ⟨x2, hg2, hf⟩ := cl1_some hf
    refine a_cVsi (q0 := 0) (rest := []) hX hE (ctX12_isPaper (q := q) hE hg2) K_X12_165 ⟨rfl, rfl⟩ ⟨rfl, rfl, by decide, by decide⟩ ⟨Nat.zero_le _, Nat.zero_le _⟩ (Nat.le_of_ble_eq_true rfl) dX12_taken_14 rfl rfl ?_
    refine a_if_ne (tgt := 23) hX dX12_taken_17 rfl rfl hf (fun hf => ?_) (fun hf => ?_)
    · refine a_aload_n hX dX12_taken_23 rfl 0 rfl rfl ?_
      refine gX12_9 hX F_X12_26 dX12_taken_24 rfl ?_
      refine a_iload_n hX dX12_taken_27 rfl 1 rfl rfl ?_
      refine lX12_9 hX dX12_taken_28 rfl hf (fun x3 hf => ?_)
      refine a_istore_n (lv' := [(3, .int x3), (0, .ref (q 0)), (1, .int v1), (2, .int v2)]) hX dX12_taken_29 rfl (by decide) rfl rfl ?_
      refine a_lv (lv' := [(0, .ref (q 0)), (1, .int v1), (2, .int v2), (3, .int x3)]) [1, 2, 3, 0] rfl ?_
      exact wX12_taken_l30 h hE NF x3 hf
    · refine a_bipush (v := (-11)) hX dX12_taken_20 (by decide) rfl ?_
      exact a_iret hX hT hF (r_i hf) dX12_taken_22
  · refine a_bipush (v := (-2)) hX dX12_taken_9 (by decide) rfl ?_
    exact a_iret hX hT hF (r_i hf) dX12_taken_11
theorem ctX12_taken {V : Vx} {q : Nat → Nat} {u : St} {res : Int32} (hE : ZOK (vZ V)) {v1 : Int32} {v2 : Int32} (hf : fX12_taken u v1 v2 = some res) : Ct V yX12_taken (.code yX12_taken cX12_taken 4 (some .int)) rmX12_taken 0 0 [.ref (q 0), .int v1, .int v2] (wM V q u) (rEq (some (.int res)) (wM V q u)) :=
  Ct_of (by decide) (Nat.le_of_ble_eq_true rfl) rfl (fun X hX hT _ hF => wX12_taken ⟨hX, hT, hF⟩ hE hf)
