def rmX12_isSheet : Room := { frames := 1, cells := 0, slots := 0, locals := 22 }
def fX12_isSheet (v0 : Int32) : Option (Int32) := cl1 (fX12_in v0 0 3) (fun x1 => rtZ x1 x1)
theorem wX12_isSheet {X : Cx} {V : Vx} {res : Int32} (h : Run X cX12_isSheet 1 RX12 rmX12_isSheet V (some .boolean) (rEq (some (.int res)) [])) (hE : ZOK (vZ V)) {v0 : Int32} (hf : fX12_isSheet v0 = some res) : At X 1 0 0 [] 0 [(0, .int v0)] [] := by
  obtain ⟨hX, hT, hF⟩ := id h
  unfold fX12_isSheet at hf
  refine a_iload_n hX dX12_isSheet_0 rfl 0 rfl rfl ?_
  refine a_iconst (v := 0) hX dX12_isSheet_1 (by decide) rfl ?_
  refine a_iconst (v := 3) hX dX12_isSheet_2 (by decide) rfl ?_
  obtain ⟨x1, hg1, hf⟩ := cl1_some hf
  refine a_cSpi (rest := []) hX hE (cX12_in hE hg1) K_X12_148 ⟨rfl, rfl, by decide, by decide⟩ ⟨Nat.zero_le _, Nat.zero_le _⟩ (Nat.le_of_ble_eq_true rfl) dX12_isSheet_3 rfl rfl ?_
  exact a_zret hX hT (r_z hf).1 hF (r_i (r_z hf).2) dX12_isSheet_6
theorem cX12_isSheet {V : Vx} {res : Int32} (hE : ZOK (vZ V)) {v0 : Int32} (hf : fX12_isSheet v0 = some res) : Ct V yX12_isSheet (.code yX12_isSheet cX12_isSheet 1 (some .boolean)) rmX12_isSheet 0 0 [.int v0] [] (rEq (some (.int res)) []) :=
  Ct_of (by decide) (Nat.le_of_ble_eq_true rfl) rfl (fun X hX hT _ hF => wX12_isSheet ⟨hX, hT, hF⟩ hE hf)
def rmX12_sheet : Room := { frames := 2, cells := 0, slots := 0, locals := 42 }
def fX12_sheet_l72b  (k72 : St → Int32 → Option (Int32 × St)) (u : St) (v1 : Int32) (v2 : Int32) (v3 : Int32) (v4 : Int32) : Option (Int32 × St) := if v3 ≤ v4 then some (1, u) else (if v2 < 0 then some (1, u) else (stI u 60 160 ((40 * v1) + v4) 0 (fun u6 => k72 u6 (v4 + 1))))
theorem wX12_sheet_l72b {X : Cx} {V : Vx} {q : Nat → Nat} {res : Int32 × St} (h : Run X cX12_sheet 5 RX12 rmX12_sheet V (some .int) (rEq (some (.int res.1)) (wM V q res.2))) (hE : ZOK (vZ V)) {u : St} {v1 : Int32} {v2 : Int32} {v3 : Int32} {v4 : Int32} {k72 : St → Int32 → Option (Int32 × St)} (hk72 : ∀ (u : St) (v4 : Int32), k72 u v4 = some res → At X 5 0 0 (wM V q u) 72 [(0, .ref (q 0)), (1, .int v1), (2, .int v2), (3, .int v3), (4, .int v4)] []) (hf : fX12_sheet_l72b  k72 u v1 v2 v3 v4 = some res) : At X 5 0 0 (wM V q u) 72 [(0, .ref (q 0)), (1, .int v1), (2, .int v2), (3, .int v3), (4, .int v4)] [] := by
  obtain ⟨hX, hT, hF⟩ := id h
  unfold fX12_sheet_l72b at hf
  refine a_iload hX dX12_sheet_72 4 rfl rfl ?_
  refine a_iload_n hX dX12_sheet_74 rfl 3 rfl rfl ?_
  refine a_icmp_ge (tgt := 101) hX dX12_sheet_75 rfl rfl hf (fun hf => ?_) (fun hf => ?_)
  · refine a_iconst (v := 1) hX dX12_sheet_101 (by decide) rfl ?_
    exact a_iret hX hT hF (r_iS (wf := (wM V q)) hf) dX12_sheet_102
  · refine a_iload_n hX dX12_sheet_78 rfl 2 rfl rfl ?_
    refine a_if_lt (tgt := 101) hX dX12_sheet_79 rfl rfl hf (fun hf => ?_) (fun hf => ?_)
    · refine a_iconst (v := 1) hX dX12_sheet_101 (by decide) rfl ?_
      exact a_iret hX hT hF (r_iS (wf := (wM V q)) hf) dX12_sheet_102
    · refine a_aload_n hX dX12_sheet_82 rfl 0 rfl rfl ?_
      refine gX12_60 hX F_X12_121 dX12_sheet_83 rfl ?_
      refine a_bipush (v := 40) hX dX12_sheet_86 (by decide) rfl ?_
      refine a_iload_n hX dX12_sheet_88 rfl 1 rfl rfl ?_
      refine a_imul hX dX12_sheet_89 rfl ?_
      refine a_iload hX dX12_sheet_90 4 rfl rfl ?_
      refine a_iadd hX dX12_sheet_92 rfl ?_
      refine a_iconst (v := 0) hX dX12_sheet_93 (by decide) rfl ?_
      refine sX12_60 hX dX12_sheet_94 rfl hf (fun u6 hf => ?_)
      refine a_iinc (v := v4 + 1) (lv' := [(4, .int (v4 + 1)), (0, .ref (q 0)), (1, .int v1), (2, .int v2), (3, .int v3)]) hX dX12_sheet_95 4 rfl rfl (by decide) rfl rfl ?_
      refine a_goto (pc' := 72) hX dX12_sheet_98 rfl ?_
      refine a_lv (lv' := [(0, .ref (q 0)), (1, .int v1), (2, .int v2), (3, .int v3), (4, .int (v4 + 1))]) [1, 2, 3, 4, 0] rfl ?_
      exact hk72 u6 (v4 + 1) hf
def fX12_sheet_l72   (v1 : Int32) (v2 : Int32) (v3 : Int32) : Nat → St → Int32 → Option (Int32 × St)
  | 0, _, _ => none
  | m + 1, u, v4 => fX12_sheet_l72b  (fX12_sheet_l72   v1 v2 v3 m) u v1 v2 v3 v4
theorem wX12_sheet_l72 {X : Cx} {V : Vx} {q : Nat → Nat} {res : Int32 × St} (h : Run X cX12_sheet 5 RX12 rmX12_sheet V (some .int) (rEq (some (.int res.1)) (wM V q res.2))) (hE : ZOK (vZ V)) {v1 : Int32} {v2 : Int32} {v3 : Int32} : ∀ (m : Nat) (u : St) (v4 : Int32), fX12_sheet_l72   v1 v2 v3 m u v4 = some res → At X 5 0 0 (wM V q u) 72 [(0, .ref (q 0)), (1, .int v1), (2, .int v2), (3, .int v3), (4, .int v4)] [] := by
  intro m
  induction m with
  | zero => intro u v4 hf; cases hf
  | succ m ih => intro u v4 hf; exact wX12_sheet_l72b h hE ih hf
def fX12_sheet_b54   (u : St) (v1 : Int32) (v2 : Int32) (v3 : Int32) (s0 : Int32) (s1 : Int32) : Option (Int32 × St) := stZ u 57 4 s1 s0 (fun u3 => stI u3 58 4 v1 v2 (fun u4 => stI u4 59 4 v1 v3 (fun u5 => fX12_sheet_l72 v1 v2 v3 NF u5 0)))
theorem wX12_sheet_b54 {X : Cx} {V : Vx} {q : Nat → Nat} {res : Int32 × St} (h : Run X cX12_sheet 5 RX12 rmX12_sheet V (some .int) (rEq (some (.int res.1)) (wM V q res.2))) (hE : ZOK (vZ V)) {u : St} {v1 : Int32} {v2 : Int32} {v3 : Int32} {s0 : Int32} {s1 : Int32} (hf : fX12_sheet_b54   u v1 v2 v3 s0 s1 = some res) : At X 5 0 0 (wM V q u) 54 [(0, .ref (q 0)), (1, .int v1), (2, .int v2), (3, .int v3)] [.int s0, .int s1, .ref (q 58)] := by
  obtain ⟨hX, hT, hF⟩ := id h
  unfold fX12_sheet_b54 at hf
  refine sX12_57 hX dX12_sheet_54 rfl hf (fun u3 hf => ?_)
  refine a_aload_n hX dX12_sheet_55 rfl 0 rfl rfl ?_
  refine gX12_58 hX F_X12_115 dX12_sheet_56 rfl ?_
  refine a_iload_n hX dX12_sheet_59 rfl 1 rfl rfl ?_
  refine a_iload_n hX dX12_sheet_60 rfl 2 rfl rfl ?_
  refine sX12_58 hX dX12_sheet_61 rfl hf (fun u4 hf => ?_)
  refine a_aload_n hX dX12_sheet_62 rfl 0 rfl rfl ?_
  refine gX12_59 hX F_X12_118 dX12_sheet_63 rfl ?_
  refine a_iload_n hX dX12_sheet_66 rfl 1 rfl rfl ?_
  refine a_iload_n hX dX12_sheet_67 rfl 3 rfl rfl ?_
  refine sX12_59 hX dX12_sheet_68 rfl hf (fun u5 hf => ?_)
  refine a_iconst (v := 0) hX dX12_sheet_69 (by decide) rfl ?_
  refine a_istore (lv' := [(4, .int 0), (0, .ref (q 0)), (1, .int v1), (2, .int v2), (3, .int v3)]) hX dX12_sheet_70 (by decide) rfl rfl ?_
  refine a_lv (lv' := [(0, .ref (q 0)), (1, .int v1), (2, .int v2), (3, .int v3), (4, .int 0)]) [1, 2, 3, 4, 0] rfl ?_
  exact wX12_sheet_l72 h hE NF u5 0 hf
def fX12_sheet_b40   (u : St) (v1 : Int32) (v2 : Int32) (v3 : Int32) : Option (Int32 × St) := if v2 < 0 then fX12_sheet_b54 u v1 v2 v3 0 v1 else (fX12_sheet_b54 u v1 v2 v3 1 v1)
theorem wX12_sheet_b40 {X : Cx} {V : Vx} {q : Nat → Nat} {res : Int32 × St} (h : Run X cX12_sheet 5 RX12 rmX12_sheet V (some .int) (rEq (some (.int res.1)) (wM V q res.2))) (hE : ZOK (vZ V)) {u : St} {v1 : Int32} {v2 : Int32} {v3 : Int32} (hf : fX12_sheet_b40   u v1 v2 v3 = some res) : At X 5 0 0 (wM V q u) 40 [(0, .ref (q 0)), (1, .int v1), (2, .int v2), (3, .int v3)] [] := by
  obtain ⟨hX, hT, hF⟩ := id h
  unfold fX12_sheet_b40 at hf
  refine a_aload_n hX dX12_sheet_40 rfl 0 rfl rfl ?_
  refine gX12_57 hX F_X12_112 dX12_sheet_41 rfl ?_
  refine a_iload_n hX dX12_sheet_44 rfl 1 rfl rfl ?_
  refine a_iload_n hX dX12_sheet_45 rfl 2 rfl rfl ?_
  refine a_if_lt (tgt := 53) hX dX12_sheet_46 rfl rfl hf (fun hf => ?_) (fun hf => ?_)
  · refine a_iconst (v := 0) hX dX12_sheet_53 (by decide) rfl ?_
    exact wX12_sheet_b54 h hE hf
  · refine a_iconst (v := 1) hX dX12_sheet_49 (by decide) rfl ?_
    refine a_goto (pc' := 54) hX dX12_sheet_50 rfl ?_
    exact wX12_sheet_b54 h hE hf
def fX12_sheet_b29   (u : St) (v1 : Int32) (v2 : Int32) (v3 : Int32) : Option (Int32 × St) := if v2 < 0 then fX12_sheet_b40 u v1 v2 v3 else (if 0 ≤ v3 then fX12_sheet_b40 u v1 v2 v3 else (some ((-14), u)))
theorem wX12_sheet_b29 {X : Cx} {V : Vx} {q : Nat → Nat} {res : Int32 × St} (h : Run X cX12_sheet 5 RX12 rmX12_sheet V (some .int) (rEq (some (.int res.1)) (wM V q res.2))) (hE : ZOK (vZ V)) {u : St} {v1 : Int32} {v2 : Int32} {v3 : Int32} (hf : fX12_sheet_b29   u v1 v2 v3 = some res) : At X 5 0 0 (wM V q u) 29 [(0, .ref (q 0)), (1, .int v1), (2, .int v2), (3, .int v3)] [] := by
  obtain ⟨hX, hT, hF⟩ := id h
  unfold fX12_sheet_b29 at hf
  refine a_iload_n hX dX12_sheet_29 rfl 2 rfl rfl ?_
  refine a_if_lt (tgt := 40) hX dX12_sheet_30 rfl rfl hf (fun hf => ?_) (fun hf => ?_)
  · exact wX12_sheet_b40 h hE hf
  · refine a_iload_n hX dX12_sheet_33 rfl 3 rfl rfl ?_
    refine a_if_ge (tgt := 40) hX dX12_sheet_34 rfl rfl hf (fun hf => ?_) (fun hf => ?_)
    · exact wX12_sheet_b40 h hE hf
    · refine a_bipush (v := (-14)) hX dX12_sheet_37 (by decide) rfl ?_
      exact a_iret hX hT hF (r_iS (wf := (wM V q)) hf) dX12_sheet_39
def fX12_sheet (u : St) (v1 : Int32) (v2 : Int32) (v3 : Int32) : Option (Int32 × St) := cl1 (fX12_isSheet v1) (fun x1 => if x1 = 0 then some ((-2), u) else (cl1 (fX12_in v2 (-1) 2) (fun x2 => if x2 = 0 then some ((-2), u) else (if v2 < 0 then fX12_sheet_b29 u v1 v2 v3 else (if v3 ≤ 40 then fX12_sheet_b29 u v1 v2 v3 else (some ((-2), u)))))))
theorem wX12_sheet {X : Cx} {V : Vx} {q : Nat → Nat} {res : Int32 × St} (h : Run X cX12_sheet 5 RX12 rmX12_sheet V (some .int) (rEq (some (.int res.1)) (wM V q res.2))) (hE : ZOK (vZ V)) {u : St} {v1 : Int32} {v2 : Int32} {v3 : Int32} (hf : fX12_sheet u v1 v2 v3 = some res) : At X 5 0 0 (wM V q u) 0 [(0, .ref (q 0)), (1, .int v1), (2, .int v2), (3, .int v3)] [] := by
  obtain ⟨hX, hT, hF⟩ := id h
  unfold fX12_sheet at hf
  refine a_iload_n hX dX12_sheet_0 rfl 1 rfl rfl ?_
  obtain ⟨x1, hg1, hf⟩ := cl1_some hf
  refine a_cSpi (rest := []) hX hE (cX12_isSheet hE hg1) K_X12_391 ⟨rfl, rfl, by decide, by decide⟩ ⟨Nat.zero_le _, Nat.zero_le _⟩ (Nat.le_of_ble_eq_true rfl) dX12_sheet_1 rfl rfl ?_
  refine a_if_eq (tgt := 26) hX dX12_sheet_4 rfl rfl hf (fun hf => ?_) (fun hf => ?_)
  · refine a_bipush (v := (-2)) hX dX12_sheet_26 (by decide) rfl ?_
    exact a_iret hX hT hF (r_iS (wf := (wM V q)) hf) dX12_sheet_28
  · refine a_iload_n hX dX12_sheet_7 rfl 2 rfl rfl ?_
    refine a_iconst (v := (-1)) hX dX12_sheet_8 (by decide) rfl ?_
    refine a_iconst (v := 2) hX dX12_sheet_9 (by decide) rfl ?_
    obtain ⟨x2, hg2, hf⟩ := cl1_some hf
    refine a_cSpi (rest := []) hX hE (cX12_in hE hg2) K_X12_148 ⟨rfl, rfl, by decide, by decide⟩ ⟨Nat.zero_le _, Nat.zero_le _⟩ (Nat.le_of_ble_eq_true rfl) dX12_sheet_10 rfl rfl ?_
    refine a_if_eq (tgt := 26) hX dX12_sheet_13 rfl rfl hf (fun hf => ?_) (fun hf => ?_)
    · refine a_bipush (v := (-2)) hX dX12_sheet_26 (by decide) rfl ?_
      exact a_iret hX hT hF (r_iS (wf := (wM V q)) hf) dX12_sheet_28
    · refine a_iload_n hX dX12_sheet_16 rfl 2 rfl rfl ?_
      refine a_if_lt (tgt := 29) hX dX12_sheet_17 rfl rfl hf (fun hf => ?_) (fun hf => ?_)
      · exact wX12_sheet_b29 h hE hf
      · refine a_iload_n hX dX12_sheet_20 rfl 3 rfl rfl ?_
        refine a_bipush (v := 40) hX dX12_sheet_21 (by decide) rfl ?_
        refine a_icmp_le (tgt := 29) hX dX12_sheet_23 rfl rfl hf (fun hf => ?_) (fun hf => ?_)
        · exact wX12_sheet_b29 h hE hf
        · refine a_bipush (v := (-2)) hX dX12_sheet_26 (by decide) rfl ?_
          exact a_iret hX hT hF (r_iS (wf := (wM V q)) hf) dX12_sheet_28
theorem cX12_sheet {V : Vx} {q : Nat → Nat} {u : St} {res : Int32 × St} (hE : ZOK (vZ V)) {v1 : Int32} {v2 : Int32} {v3 : Int32} (hf : fX12_sheet u v1 v2 v3 = some res) : Ct V yX12_sheet (.code yX12_sheet cX12_sheet 5 (some .int)) rmX12_sheet 0 0 [.ref (q 0), .int v1, .int v2, .int v3] (wM V q u) (rEq (some (.int res.1)) (wM V q res.2)) :=
  Ct_of (by decide) (Nat.le_of_ble_eq_true rfl) rfl (fun X hX hT _ hF => wX12_sheet ⟨hX, hT, hF⟩ hE hf)
def rmX12_cell : Room := { frames := 2, cells := 0, slots := 0, locals := 42 }
def fX12_cell_b81   (u : St) (s0 : Int32) (s1 : Int32) : Option (Int32 × St) := stI u 60 160 s1 s0 (fun u7 => some (1, u7))
theorem wX12_cell_b81 {X : Cx} {V : Vx} {q : Nat → Nat} {res : Int32 × St} (h : Run X cX12_cell 4 RX12 rmX12_cell V (some .int) (rEq (some (.int res.1)) (wM V q res.2))) (hE : ZOK (vZ V)) {u : St} {s0 : Int32} {s1 : Int32} (hf : fX12_cell_b81   u s0 s1 = some res) : At X 4 0 0 (wM V q u) 81 [] [.int s0, .int s1, .ref (q 61)] := by
  obtain ⟨hX, hT, hF⟩ := id h
  unfold fX12_cell_b81 at hf
  refine sX12_60 hX dX12_cell_81 rfl hf (fun u7 hf => ?_)
  refine a_iconst (v := 1) hX dX12_cell_82 (by decide) rfl ?_
  exact a_iret hX hT hF (r_iS (wf := (wM V q)) hf) dX12_cell_83
def fX12_cell (u : St) (v1 : Int32) (v2 : Int32) (v3 : Int32) : Option (Int32 × St) := cl1 (fX12_isSheet v1) (fun x1 => if x1 = 0 then some ((-2), u) else (ldI (gA u 57) 4 v1 (fun x2 => if x2 = 0 then some ((-11), u) else (ldI (gA u 59) 4 v1 (fun x3 => cl1 (fX12_in v2 0 (x3 - 1)) (fun x4 => if x4 = 0 then some ((-12), u) else (ldI (gA u 58) 4 v1 (fun x5 => if x5 = 0 then fX12_cell_b81 u ((Int32.toInt8 v3).toInt32) ((40 * v1) + v2) else (ldI (gA u 58) 4 v1 (fun x6 => if x6 = 1 then fX12_cell_b81 u ((Int32.toInt16 v3).toInt32) ((40 * v1) + v2) else (fX12_cell_b81 u v3 ((40 * v1) + v2))))))))))))
theorem wX12_cell {X : Cx} {V : Vx} {q : Nat → Nat} {res : Int32 × St} (h : Run X cX12_cell 4 RX12 rmX12_cell V (some .int) (rEq (some (.int res.1)) (wM V q res.2))) (hE : ZOK (vZ V)) {u : St} {v1 : Int32} {v2 : Int32} {v3 : Int32} (hf : fX12_cell u v1 v2 v3 = some res) : At X 4 0 0 (wM V q u) 0 [(0, .ref (q 0)), (1, .int v1), (2, .int v2), (3, .int v3)] [] := by
  obtain ⟨hX, hT, hF⟩ := id h
  unfold fX12_cell at hf
  refine a_iload_n hX dX12_cell_0 rfl 1 rfl rfl ?_
  obtain ⟨x1, hg1, hf⟩ := cl1_some hf
  refine a_cSpi (rest := []) hX hE (cX12_isSheet hE hg1) K_X12_391 ⟨rfl, rfl, by decide, by decide⟩ ⟨Nat.zero_le _, Nat.zero_le _⟩ (Nat.le_of_ble_eq_true rfl) dX12_cell_1 rfl rfl ?_
  refine a_if_ne (tgt := 10) hX dX12_cell_4 rfl rfl hf (fun hf => ?_) (fun hf => ?_)
  · refine a_aload_n hX dX12_cell_10 rfl 0 rfl rfl ?_
    refine gX12_57 hX F_X12_112 dX12_cell_11 rfl ?_
    refine a_iload_n hX dX12_cell_14 rfl 1 rfl rfl ?_
    refine lX12_57 hX dX12_cell_15 rfl hf (fun x2 hf => ?_)
    refine a_if_ne (tgt := 22) hX dX12_cell_16 rfl rfl hf (fun hf => ?_) (fun hf => ?_)
    · refine a_iload_n hX dX12_cell_22 rfl 2 rfl rfl ?_
      refine a_iconst (v := 0) hX dX12_cell_23 (by decide) rfl ?_
      refine a_aload_n hX dX12_cell_24 rfl 0 rfl rfl ?_
      refine gX12_59 hX F_X12_118 dX12_cell_25 rfl ?_
      refine a_iload_n hX dX12_cell_28 rfl 1 rfl rfl ?_
      refine lX12_59 hX dX12_cell_29 rfl hf (fun x3 hf => ?_)
      refine a_iconst (v := 1) hX dX12_cell_30 (by decide) rfl ?_
      refine a_isub hX dX12_cell_31 rfl ?_
      obtain ⟨x4, hg4, hf⟩ := cl1_some hf
      refine a_cSpi (rest := []) hX hE (cX12_in hE hg4) K_X12_148 ⟨rfl, rfl, by decide, by decide⟩ ⟨Nat.zero_le _, Nat.zero_le _⟩ (Nat.le_of_ble_eq_true rfl) dX12_cell_32 rfl rfl ?_
      refine a_if_ne (tgt := 41) hX dX12_cell_35 rfl rfl hf (fun hf => ?_) (fun hf => ?_)
      · refine a_aload_n hX dX12_cell_41 rfl 0 rfl rfl ?_
        refine gX12_60 hX F_X12_121 dX12_cell_42 rfl ?_
        refine a_bipush (v := 40) hX dX12_cell_45 (by decide) rfl ?_
        refine a_iload_n hX dX12_cell_47 rfl 1 rfl rfl ?_
        refine a_imul hX dX12_cell_48 rfl ?_
        refine a_iload_n hX dX12_cell_49 rfl 2 rfl rfl ?_
        refine a_iadd hX dX12_cell_50 rfl ?_
        refine a_aload_n hX dX12_cell_51 rfl 0 rfl rfl ?_
        refine gX12_58 hX F_X12_115 dX12_cell_52 rfl ?_
        refine a_iload_n hX dX12_cell_55 rfl 1 rfl rfl ?_
        refine lX12_58 hX dX12_cell_56 rfl hf (fun x5 hf => ?_)
        refine a_if_ne (tgt := 65) hX dX12_cell_57 rfl rfl hf (fun hf => ?_) (fun hf => ?_)
        · refine a_aload_n hX dX12_cell_65 rfl 0 rfl rfl ?_
          refine gX12_58 hX F_X12_115 dX12_cell_66 rfl ?_
          refine a_iload_n hX dX12_cell_69 rfl 1 rfl rfl ?_
          refine lX12_58 hX dX12_cell_70 rfl hf (fun x6 hf => ?_)
          refine a_iconst (v := 1) hX dX12_cell_71 (by decide) rfl ?_
          refine a_icmp_ne (tgt := 80) hX dX12_cell_72 rfl rfl hf (fun hf => ?_) (fun hf => ?_)
          · refine a_iload_n hX dX12_cell_80 rfl 3 rfl rfl ?_
            refine a_lv (lv' := []) [] rfl ?_
            exact wX12_cell_b81 h hE hf
          · refine a_iload_n hX dX12_cell_75 rfl 3 rfl rfl ?_
            refine a_i2s hX dX12_cell_76 rfl ?_
            refine a_goto (pc' := 81) hX dX12_cell_77 rfl ?_
            refine a_lv (lv' := []) [] rfl ?_
            exact wX12_cell_b81 h hE hf
        · refine a_iload_n hX dX12_cell_60 rfl 3 rfl rfl ?_
          refine a_i2b hX dX12_cell_61 rfl ?_
          refine a_goto (pc' := 81) hX dX12_cell_62 rfl ?_
          refine a_lv (lv' := []) [] rfl ?_
          exact wX12_cell_b81 h hE hf
      · refine a_bipush (v := (-12)) hX dX12_cell_38 (by decide) rfl ?_
        exact a_iret hX hT hF (r_iS (wf := (wM V q)) hf) dX12_cell_40
    · refine a_bipush (v := (-11)) hX dX12_cell_19 (by decide) rfl ?_
      exact a_iret hX hT hF (r_iS (wf := (wM V q)) hf) dX12_cell_21
  · refine a_bipush (v := (-2)) hX dX12_cell_7 (by decide) rfl ?_
    exact a_iret hX hT hF (r_iS (wf := (wM V q)) hf) dX12_cell_9
theorem cX12_cell {V : Vx} {q : Nat → Nat} {u : St} {res : Int32 × St} (hE : ZOK (vZ V)) {v1 : Int32} {v2 : Int32} {v3 : Int32} (hf : fX12_cell u v1 v2 v3 = some res) : Ct V yX12_cell (.code yX12_cell cX12_cell 4 (some .int)) rmX12_cell 0 0 [.ref (q 0), .int v1, .int v2, .int v3] (wM V q u) (rEq (some (.int res.1)) (wM V q res.2)) :=
  Ct_of (by decide) (Nat.le_of_ble_eq_true rfl) rfl (fun X hX hT _ hF => wX12_cell ⟨hX, hT, hF⟩ hE hf)
def rmX12_copy : Room := { frames := 2, cells := 0, slots := 0, locals := 42 }
def fX12_copy_b121  (k103 : St → Int32 → Option (Int32 × St)) (u : St) (v1 : Int32) (v2 : Int32) (v3 : Int32) (v4 : Int32) (v5 : Int32) (v6 : Int32) : Option (Int32 × St) := ldI (gA u 60) 160 (((40 * v1) + v2) + v6) (fun x9 => stI u 60 160 (((40 * v3) + v4) + v6) x9 (fun u10 => k103 u10 (v6 + 1)))
theorem wX12_copy_b121 {X : Cx} {V : Vx} {q : Nat → Nat} {res : Int32 × St} (h : Run X cX12_copy 7 RX12 rmX12_copy V (some .int) (rEq (some (.int res.1)) (wM V q res.2))) (hE : ZOK (vZ V)) {u : St} {v1 : Int32} {v2 : Int32} {v3 : Int32} {v4 : Int32} {v5 : Int32} {v6 : Int32} {k103 : St → Int32 → Option (Int32 × St)} (hk103 : ∀ (u : St) (v6 : Int32), k103 u v6 = some res → At X 7 0 0 (wM V q u) 103 [(0, .ref (q 0)), (1, .int v1), (2, .int v2), (3, .int v3), (4, .int v4), (5, .int v5), (6, .int v6)] []) (hf : fX12_copy_b121  k103 u v1 v2 v3 v4 v5 v6 = some res) : At X 7 0 0 (wM V q u) 121 [(0, .ref (q 0)), (1, .int v1), (2, .int v2), (3, .int v3), (4, .int v4), (5, .int v5), (6, .int v6)] [] := by
  obtain ⟨hX, hT, hF⟩ := id h
  unfold fX12_copy_b121 at hf
  refine a_aload_n hX dX12_copy_121 rfl 0 rfl rfl ?_
  refine gX12_60 hX F_X12_121 dX12_copy_122 rfl ?_
  refine a_bipush (v := 40) hX dX12_copy_125 (by decide) rfl ?_
  refine a_iload_n hX dX12_copy_127 rfl 3 rfl rfl ?_
  refine a_imul hX dX12_copy_128 rfl ?_
  refine a_iload hX dX12_copy_129 4 rfl rfl ?_
  refine a_iadd hX dX12_copy_131 rfl ?_
  refine a_iload hX dX12_copy_132 6 rfl rfl ?_
  refine a_iadd hX dX12_copy_134 rfl ?_
  refine a_aload_n hX dX12_copy_135 rfl 0 rfl rfl ?_
  refine gX12_60 hX F_X12_121 dX12_copy_136 rfl ?_
  refine a_bipush (v := 40) hX dX12_copy_139 (by decide) rfl ?_
  refine a_iload_n hX dX12_copy_141 rfl 1 rfl rfl ?_
  refine a_imul hX dX12_copy_142 rfl ?_
  refine a_iload_n hX dX12_copy_143 rfl 2 rfl rfl ?_
  refine a_iadd hX dX12_copy_144 rfl ?_
  refine a_iload hX dX12_copy_145 6 rfl rfl ?_
  refine a_iadd hX dX12_copy_147 rfl ?_
  refine lX12_60 hX dX12_copy_148 rfl hf (fun x9 hf => ?_)
  refine sX12_60 hX dX12_copy_149 rfl hf (fun u10 hf => ?_)
  refine a_iinc (v := v6 + 1) (lv' := [(6, .int (v6 + 1)), (0, .ref (q 0)), (1, .int v1), (2, .int v2), (3, .int v3), (4, .int v4), (5, .int v5)]) hX dX12_copy_150 6 rfl rfl (by decide) rfl rfl ?_
  refine a_goto (pc' := 103) hX dX12_copy_153 rfl ?_
  refine a_lv (lv' := [(0, .ref (q 0)), (1, .int v1), (2, .int v2), (3, .int v3), (4, .int v4), (5, .int v5), (6, .int (v6 + 1))]) [1, 2, 3, 4, 5, 6, 0] rfl ?_
  exact hk103 u10 (v6 + 1) hf
def fX12_copy_l162b  (k162 : St → Int32 → Option (Int32 × St)) (u : St) (v1 : Int32) (v2 : Int32) (v3 : Int32) (v4 : Int32) (v5 : Int32) (v6 : Int32) : Option (Int32 × St) := if v6 < 0 then some (v5, u) else (if v1 = v3 then if v4 ≤ v2 then some (v5, u) else (ldI (gA u 60) 160 (((40 * v1) + v2) + v6) (fun x12 => stI u 60 160 (((40 * v3) + v4) + v6) x12 (fun u13 => k162 u13 (v6 + (-1))))) else (some (v5, u)))
theorem wX12_copy_l162b {X : Cx} {V : Vx} {q : Nat → Nat} {res : Int32 × St} (h : Run X cX12_copy 7 RX12 rmX12_copy V (some .int) (rEq (some (.int res.1)) (wM V q res.2))) (hE : ZOK (vZ V)) {u : St} {v1 : Int32} {v2 : Int32} {v3 : Int32} {v4 : Int32} {v5 : Int32} {v6 : Int32} {k162 : St → Int32 → Option (Int32 × St)} (hk162 : ∀ (u : St) (v6 : Int32), k162 u v6 = some res → At X 7 0 0 (wM V q u) 162 [(0, .ref (q 0)), (1, .int v1), (2, .int v2), (3, .int v3), (4, .int v4), (5, .int v5), (6, .int v6)] []) (hf : fX12_copy_l162b  k162 u v1 v2 v3 v4 v5 v6 = some res) : At X 7 0 0 (wM V q u) 162 [(0, .ref (q 0)), (1, .int v1), (2, .int v2), (3, .int v3), (4, .int v4), (5, .int v5), (6, .int v6)] [] := by
  obtain ⟨hX, hT, hF⟩ := id h
  unfold fX12_copy_l162b at hf
  refine a_iload hX dX12_copy_162 6 rfl rfl ?_
  refine a_if_lt (tgt := 213) hX dX12_copy_164 rfl rfl hf (fun hf => ?_) (fun hf => ?_)
  · refine a_iload hX dX12_copy_213 5 rfl rfl ?_
    exact a_iret hX hT hF (r_iS (wf := (wM V q)) hf) dX12_copy_215
  · refine a_iload_n hX dX12_copy_167 rfl 1 rfl rfl ?_
    refine a_iload_n hX dX12_copy_168 rfl 3 rfl rfl ?_
    refine a_icmp_ne (tgt := 213) hX dX12_copy_169 rfl rfl hf (fun hf => ?_) (fun hf => ?_)
    · refine a_iload hX dX12_copy_213 5 rfl rfl ?_
      exact a_iret hX hT hF (r_iS (wf := (wM V q)) hf) dX12_copy_215
    · refine a_iload_n hX dX12_copy_172 rfl 2 rfl rfl ?_
      refine a_iload hX dX12_copy_173 4 rfl rfl ?_
      refine a_icmp_ge (tgt := 213) hX dX12_copy_175 rfl rfl hf (fun hf => ?_) (fun hf => ?_)
      · refine a_iload hX dX12_copy_213 5 rfl rfl ?_
        exact a_iret hX hT hF (r_iS (wf := (wM V q)) hf) dX12_copy_215
      · refine a_aload_n hX dX12_copy_178 rfl 0 rfl rfl ?_
        refine gX12_60 hX F_X12_121 dX12_copy_179 rfl ?_
        refine a_bipush (v := 40) hX dX12_copy_182 (by decide) rfl ?_
        refine a_iload_n hX dX12_copy_184 rfl 3 rfl rfl ?_
        refine a_imul hX dX12_copy_185 rfl ?_
        refine a_iload hX dX12_copy_186 4 rfl rfl ?_
        refine a_iadd hX dX12_copy_188 rfl ?_
        refine a_iload hX dX12_copy_189 6 rfl rfl ?_
        refine a_iadd hX dX12_copy_191 rfl ?_
        refine a_aload_n hX dX12_copy_192 rfl 0 rfl rfl ?_
        refine gX12_60 hX F_X12_121 dX12_copy_193 rfl ?_
        refine a_bipush (v := 40) hX dX12_copy_196 (by decide) rfl ?_
        refine a_iload_n hX dX12_copy_198 rfl 1 rfl rfl ?_
        refine a_imul hX dX12_copy_199 rfl ?_
        refine a_iload_n hX dX12_copy_200 rfl 2 rfl rfl ?_
        refine a_iadd hX dX12_copy_201 rfl ?_
        refine a_iload hX dX12_copy_202 6 rfl rfl ?_
        refine a_iadd hX dX12_copy_204 rfl ?_
        refine lX12_60 hX dX12_copy_205 rfl hf (fun x12 hf => ?_)
        refine sX12_60 hX dX12_copy_206 rfl hf (fun u13 hf => ?_)
        refine a_iinc (v := v6 + (-1)) (lv' := [(6, .int (v6 + (-1))), (0, .ref (q 0)), (1, .int v1), (2, .int v2), (3, .int v3), (4, .int v4), (5, .int v5)]) hX dX12_copy_207 6 rfl rfl (by decide) rfl rfl ?_
        refine a_goto (pc' := 162) hX dX12_copy_210 rfl ?_
        refine a_lv (lv' := [(0, .ref (q 0)), (1, .int v1), (2, .int v2), (3, .int v3), (4, .int v4), (5, .int v5), (6, .int (v6 + (-1)))]) [1, 2, 3, 4, 5, 6, 0] rfl ?_
        exact hk162 u13 (v6 + (-1)) hf
def fX12_copy_l162   (v1 : Int32) (v2 : Int32) (v3 : Int32) (v4 : Int32) (v5 : Int32) : Nat → St → Int32 → Option (Int32 × St)
  | 0, _, _ => none
  | m + 1, u, v6 => fX12_copy_l162b  (fX12_copy_l162   v1 v2 v3 v4 v5 m) u v1 v2 v3 v4 v5 v6
theorem wX12_copy_l162 {X : Cx} {V : Vx} {q : Nat → Nat} {res : Int32 × St} (h : Run X cX12_copy 7 RX12 rmX12_copy V (some .int) (rEq (some (.int res.1)) (wM V q res.2))) (hE : ZOK (vZ V)) {v1 : Int32} {v2 : Int32} {v3 : Int32} {v4 : Int32} {v5 : Int32} : ∀ (m : Nat) (u : St) (v6 : Int32), fX12_copy_l162   v1 v2 v3 v4 v5 m u v6 = some res → At X 7 0 0 (wM V q u) 162 [(0, .ref (q 0)), (1, .int v1), (2, .int v2), (3, .int v3), (4, .int v4), (5, .int v5), (6, .int v6)] [] := by
  intro m
  induction m with
  | zero => intro u v6 hf; cases hf
  | succ m ih => intro u v6 hf; exact wX12_copy_l162b h hE ih hf
def fX12_copy_b156   (u : St) (v1 : Int32) (v2 : Int32) (v3 : Int32) (v4 : Int32) (v5 : Int32) : Option (Int32 × St) := nmI (v5 - 1) (fun x11 => fX12_copy_l162 v1 v2 v3 v4 v5 NF u x11)
theorem wX12_copy_b156 {X : Cx} {V : Vx} {q : Nat → Nat} {res : Int32 × St} (h : Run X cX12_copy 7 RX12 rmX12_copy V (some .int) (rEq (some (.int res.1)) (wM V q res.2))) (hE : ZOK (vZ V)) {u : St} {v1 : Int32} {v2 : Int32} {v3 : Int32} {v4 : Int32} {v5 : Int32} (hf : fX12_copy_b156   u v1 v2 v3 v4 v5 = some res) : At X 7 0 0 (wM V q u) 156 [(0, .ref (q 0)), (1, .int v1), (2, .int v2), (3, .int v3), (4, .int v4), (5, .int v5)] [] := by
  obtain ⟨hX, hT, hF⟩ := id h
  unfold fX12_copy_b156 at hf
  refine a_iload hX dX12_copy_156 5 rfl rfl ?_
  refine a_iconst (v := 1) hX dX12_copy_158 (by decide) rfl ?_
  refine a_isub hX dX12_copy_159 rfl ?_
  refine a_nmI hf (fun x11 hf => ?_)
  refine a_istore (lv' := [(6, .int x11), (0, .ref (q 0)), (1, .int v1), (2, .int v2), (3, .int v3), (4, .int v4), (5, .int v5)]) hX dX12_copy_160 (by decide) rfl rfl ?_
  refine a_lv (lv' := [(0, .ref (q 0)), (1, .int v1), (2, .int v2), (3, .int v3), (4, .int v4), (5, .int v5), (6, .int x11)]) [1, 2, 3, 4, 5, 6, 0] rfl ?_
  exact wX12_copy_l162 h hE NF u x11 hf
def fX12_copy_l103b  (k103 : St → Int32 → Option (Int32 × St)) (u : St) (v1 : Int32) (v2 : Int32) (v3 : Int32) (v4 : Int32) (v5 : Int32) (v6 : Int32) : Option (Int32 × St) := if v5 ≤ v6 then fX12_copy_b156 u v1 v2 v3 v4 v5 else (if v1 = v3 then if v2 < v4 then fX12_copy_b156 u v1 v2 v3 v4 v5 else (fX12_copy_b121 k103 u v1 v2 v3 v4 v5 v6) else (fX12_copy_b121 k103 u v1 v2 v3 v4 v5 v6))
theorem wX12_copy_l103b {X : Cx} {V : Vx} {q : Nat → Nat} {res : Int32 × St} (h : Run X cX12_copy 7 RX12 rmX12_copy V (some .int) (rEq (some (.int res.1)) (wM V q res.2))) (hE : ZOK (vZ V)) {u : St} {v1 : Int32} {v2 : Int32} {v3 : Int32} {v4 : Int32} {v5 : Int32} {v6 : Int32} {k103 : St → Int32 → Option (Int32 × St)} (hk103 : ∀ (u : St) (v6 : Int32), k103 u v6 = some res → At X 7 0 0 (wM V q u) 103 [(0, .ref (q 0)), (1, .int v1), (2, .int v2), (3, .int v3), (4, .int v4), (5, .int v5), (6, .int v6)] []) (hf : fX12_copy_l103b  k103 u v1 v2 v3 v4 v5 v6 = some res) : At X 7 0 0 (wM V q u) 103 [(0, .ref (q 0)), (1, .int v1), (2, .int v2), (3, .int v3), (4, .int v4), (5, .int v5), (6, .int v6)] [] := by
  obtain ⟨hX, hT, hF⟩ := id h
  unfold fX12_copy_l103b at hf
  refine a_iload hX dX12_copy_103 6 rfl rfl ?_
  refine a_iload hX dX12_copy_105 5 rfl rfl ?_
  refine a_icmp_ge (tgt := 156) hX dX12_copy_107 rfl rfl hf (fun hf => ?_) (fun hf => ?_)
  · refine a_lv (lv' := [(0, .ref (q 0)), (1, .int v1), (2, .int v2), (3, .int v3), (4, .int v4), (5, .int v5)]) [0, 1, 2, 3, 4, 5] rfl ?_
    exact wX12_copy_b156 h hE hf
  · refine a_iload_n hX dX12_copy_110 rfl 1 rfl rfl ?_
    refine a_iload_n hX dX12_copy_111 rfl 3 rfl rfl ?_
    refine a_icmp_ne (tgt := 121) hX dX12_copy_112 rfl rfl hf (fun hf => ?_) (fun hf => ?_)
    · exact wX12_copy_b121 h hE hk103 hf
    · refine a_iload_n hX dX12_copy_115 rfl 2 rfl rfl ?_
      refine a_iload hX dX12_copy_116 4 rfl rfl ?_
      refine a_icmp_lt (tgt := 156) hX dX12_copy_118 rfl rfl hf (fun hf => ?_) (fun hf => ?_)
      · refine a_lv (lv' := [(0, .ref (q 0)), (1, .int v1), (2, .int v2), (3, .int v3), (4, .int v4), (5, .int v5)]) [0, 1, 2, 3, 4, 5] rfl ?_
        exact wX12_copy_b156 h hE hf
      · exact wX12_copy_b121 h hE hk103 hf
def fX12_copy_l103   (v1 : Int32) (v2 : Int32) (v3 : Int32) (v4 : Int32) (v5 : Int32) : Nat → St → Int32 → Option (Int32 × St)
  | 0, _, _ => none
  | m + 1, u, v6 => fX12_copy_l103b  (fX12_copy_l103   v1 v2 v3 v4 v5 m) u v1 v2 v3 v4 v5 v6
theorem wX12_copy_l103 {X : Cx} {V : Vx} {q : Nat → Nat} {res : Int32 × St} (h : Run X cX12_copy 7 RX12 rmX12_copy V (some .int) (rEq (some (.int res.1)) (wM V q res.2))) (hE : ZOK (vZ V)) {v1 : Int32} {v2 : Int32} {v3 : Int32} {v4 : Int32} {v5 : Int32} : ∀ (m : Nat) (u : St) (v6 : Int32), fX12_copy_l103   v1 v2 v3 v4 v5 m u v6 = some res → At X 7 0 0 (wM V q u) 103 [(0, .ref (q 0)), (1, .int v1), (2, .int v2), (3, .int v3), (4, .int v4), (5, .int v5), (6, .int v6)] [] := by
  intro m
  induction m with
  | zero => intro u v6 hf; cases hf
  | succ m ih => intro u v6 hf; exact wX12_copy_l103b h hE ih hf
def fX12_copy (u : St) (v1 : Int32) (v2 : Int32) (v3 : Int32) (v4 : Int32) (v5 : Int32) : Option (Int32 × St) := cl1 (fX12_isSheet v1) (fun x1 => if x1 = 0 then some ((-2), u) else (cl1 (fX12_isSheet v3) (fun x2 => if x2 = 0 then some ((-2), u) else (ldI (gA u 57) 4 v1 (fun x3 => if x3 = 0 then some ((-11), u) else (ldI (gA u 57) 4 v3 (fun x4 => if x4 = 0 then some ((-11), u) else (ldI (gA u 58) 4 v1 (fun x5 => ldI (gA u 58) 4 v3 (fun x6 => if x5 = x6 then if v5 < 0 then some ((-12), u) else (if v2 < 0 then some ((-12), u) else (if v4 < 0 then some ((-12), u) else (ldI (gA u 59) 4 v1 (fun x7 => if x7 - v5 < v2 then some ((-12), u) else (ldI (gA u 59) 4 v3 (fun x8 => if v4 ≤ x8 - v5 then fX12_copy_l103 v1 v2 v3 v4 v5 NF u 0 else (some ((-12), u)))))))) else (some ((-13), u))))))))))))
theorem wX12_copy {X : Cx} {V : Vx} {q : Nat → Nat} {res : Int32 × St} (h : Run X cX12_copy 7 RX12 rmX12_copy V (some .int) (rEq (some (.int res.1)) (wM V q res.2))) (hE : ZOK (vZ V)) {u : St} {v1 : Int32} {v2 : Int32} {v3 : Int32} {v4 : Int32} {v5 : Int32} (hf : fX12_copy u v1 v2 v3 v4 v5 = some res) : At X 7 0 0 (wM V q u) 0 [(0, .ref (q 0)), (1, .int v1), (2, .int v2), (3, .int v3), (4, .int v4), (5, .int v5)] [] := by
  obtain ⟨hX, hT, hF⟩ := id h
  unfold fX12_copy at hf
  refine a_iload_n hX dX12_copy_0 rfl 1 rfl rfl ?_
  obtain ⟨x1, hg1, hf⟩ := cl1_some hf
  refine a_cSpi (rest := []) hX hE (cX12_isSheet hE hg1) K_X12_391 ⟨rfl, rfl, by decide, by decide⟩ ⟨Nat.zero_le _, Nat.zero_le _⟩ (Nat.le_of_ble_eq_true rfl) dX12_copy_1 rfl rfl ?_
  refine a_if_eq (tgt := 14) hX dX12_copy_4 rfl rfl hf (fun hf => ?_) (fun hf => ?_)
  · refine a_bipush (v := (-2)) hX dX12_copy_14 (by decide) rfl ?_
    exact a_iret hX hT hF (r_iS (wf := (wM V q)) hf) dX12_copy_16
  · refine a_iload_n hX dX12_copy_7 rfl 3 rfl rfl ?_
    obtain ⟨x2, hg2, hf⟩ := cl1_some hf
    refine a_cSpi (rest := []) hX hE (cX12_isSheet hE hg2) K_X12_391 ⟨rfl, rfl, by decide, by decide⟩ ⟨Nat.zero_le _, Nat.zero_le _⟩ (Nat.le_of_ble_eq_true rfl) dX12_copy_8 rfl rfl ?_
    refine a_if_ne (tgt := 17) hX dX12_copy_11 rfl rfl hf (fun hf => ?_) (fun hf => ?_)
    · refine a_aload_n hX dX12_copy_17 rfl 0 rfl rfl ?_
      refine gX12_57 hX F_X12_112 dX12_copy_18 rfl ?_
      refine a_iload_n hX dX12_copy_21 rfl 1 rfl rfl ?_
      refine lX12_57 hX dX12_copy_22 rfl hf (fun x3 hf => ?_)
      refine a_if_eq (tgt := 35) hX dX12_copy_23 rfl rfl hf (fun hf => ?_) (fun hf => ?_)
      · refine a_bipush (v := (-11)) hX dX12_copy_35 (by decide) rfl ?_
        exact a_iret hX hT hF (r_iS (wf := (wM V q)) hf) dX12_copy_37
      · refine a_aload_n hX dX12_copy_26 rfl 0 rfl rfl ?_
        refine gX12_57 hX F_X12_112 dX12_copy_27 rfl ?_
        refine a_iload_n hX dX12_copy_30 rfl 3 rfl rfl ?_
        refine lX12_57 hX dX12_copy_31 rfl hf (fun x4 hf => ?_)
        refine a_if_ne (tgt := 38) hX dX12_copy_32 rfl rfl hf (fun hf => ?_) (fun hf => ?_)
        · refine a_aload_n hX dX12_copy_38 rfl 0 rfl rfl ?_
          refine gX12_58 hX F_X12_115 dX12_copy_39 rfl ?_
          refine a_iload_n hX dX12_copy_42 rfl 1 rfl rfl ?_
          refine lX12_58 hX dX12_copy_43 rfl hf (fun x5 hf => ?_)
          refine a_aload_n hX dX12_copy_44 rfl 0 rfl rfl ?_
          refine gX12_58 hX F_X12_115 dX12_copy_45 rfl ?_
          refine a_iload_n hX dX12_copy_48 rfl 3 rfl rfl ?_
          refine lX12_58 hX dX12_copy_49 rfl hf (fun x6 hf => ?_)
          refine a_icmp_eq (tgt := 56) hX dX12_copy_50 rfl rfl hf (fun hf => ?_) (fun hf => ?_)
          · refine a_iload hX dX12_copy_56 5 rfl rfl ?_
            refine a_if_lt (tgt := 97) hX dX12_copy_58 rfl rfl hf (fun hf => ?_) (fun hf => ?_)
            · refine a_bipush (v := (-12)) hX dX12_copy_97 (by decide) rfl ?_
              exact a_iret hX hT hF (r_iS (wf := (wM V q)) hf) dX12_copy_99
            · refine a_iload_n hX dX12_copy_61 rfl 2 rfl rfl ?_
              refine a_if_lt (tgt := 97) hX dX12_copy_62 rfl rfl hf (fun hf => ?_) (fun hf => ?_)
              · refine a_bipush (v := (-12)) hX dX12_copy_97 (by decide) rfl ?_
                exact a_iret hX hT hF (r_iS (wf := (wM V q)) hf) dX12_copy_99
              · refine a_iload hX dX12_copy_65 4 rfl rfl ?_
                refine a_if_lt (tgt := 97) hX dX12_copy_67 rfl rfl hf (fun hf => ?_) (fun hf => ?_)
                · refine a_bipush (v := (-12)) hX dX12_copy_97 (by decide) rfl ?_
                  exact a_iret hX hT hF (r_iS (wf := (wM V q)) hf) dX12_copy_99
                · refine a_iload_n hX dX12_copy_70 rfl 2 rfl rfl ?_
                  refine a_aload_n hX dX12_copy_71 rfl 0 rfl rfl ?_
                  refine gX12_59 hX F_X12_118 dX12_copy_72 rfl ?_
                  refine a_iload_n hX dX12_copy_75 rfl 1 rfl rfl ?_
                  refine lX12_59 hX dX12_copy_76 rfl hf (fun x7 hf => ?_)
                  refine a_iload hX dX12_copy_77 5 rfl rfl ?_
                  refine a_isub hX dX12_copy_79 rfl ?_
                  refine a_icmp_gt (tgt := 97) hX dX12_copy_80 rfl rfl hf (fun hf => ?_) (fun hf => ?_)
                  · refine a_bipush (v := (-12)) hX dX12_copy_97 (by decide) rfl ?_
                    exact a_iret hX hT hF (r_iS (wf := (wM V q)) hf) dX12_copy_99
                  · refine a_iload hX dX12_copy_83 4 rfl rfl ?_
                    refine a_aload_n hX dX12_copy_85 rfl 0 rfl rfl ?_
                    refine gX12_59 hX F_X12_118 dX12_copy_86 rfl ?_
                    refine a_iload_n hX dX12_copy_89 rfl 3 rfl rfl ?_
                    refine lX12_59 hX dX12_copy_90 rfl hf (fun x8 hf => ?_)
                    refine a_iload hX dX12_copy_91 5 rfl rfl ?_
                    refine a_isub hX dX12_copy_93 rfl ?_
                    refine a_icmp_le (tgt := 100) hX dX12_copy_94 rfl rfl hf (fun hf => ?_) (fun hf => ?_)
                    · refine a_iconst (v := 0) hX dX12_copy_100 (by decide) rfl ?_
                      refine a_istore (lv' := [(6, .int 0), (0, .ref (q 0)), (1, .int v1), (2, .int v2), (3, .int v3), (4, .int v4), (5, .int v5)]) hX dX12_copy_101 (by decide) rfl rfl ?_
                      refine a_lv (lv' := [(0, .ref (q 0)), (1, .int v1), (2, .int v2), (3, .int v3), (4, .int v4), (5, .int v5), (6, .int 0)]) [1, 2, 3, 4, 5, 6, 0] rfl ?_
                      exact wX12_copy_l103 h hE NF u 0 hf
                    · refine a_bipush (v := (-12)) hX dX12_copy_97 (by decide) rfl ?_
                      exact a_iret hX hT hF (r_iS (wf := (wM V q)) hf) dX12_copy_99
          · refine a_bipush (v := (-13)) hX dX12_copy_53 (by decide) rfl ?_
            exact a_iret hX hT hF (r_iS (wf := (wM V q)) hf) dX12_copy_55
        · refine a_bipush (v := (-11)) hX dX12_copy_35 (by decide) rfl ?_
          exact a_iret hX hT hF (r_iS (wf := (wM V q)) hf) dX12_copy_37
    · refine a_bipush (v := (-2)) hX dX12_copy_14 (by decide) rfl ?_
      exact a_iret hX hT hF (r_iS (wf := (wM V q)) hf) dX12_copy_16
theorem cX12_copy {V : Vx} {q : Nat → Nat} {u : St} {res : Int32 × St} (hE : ZOK (vZ V)) {v1 : Int32} {v2 : Int32} {v3 : Int32} {v4 : Int32} {v5 : Int32} (hf : fX12_copy u v1 v2 v3 v4 v5 = some res) : Ct V yX12_copy (.code yX12_copy cX12_copy 7 (some .int)) rmX12_copy 0 0 [.ref (q 0), .int v1, .int v2, .int v3, .int v4, .int v5] (wM V q u) (rEq (some (.int res.1)) (wM V q res.2)) :=
  Ct_of (by decide) (Nat.le_of_ble_eq_true rfl) rfl (fun X hX hT _ hF => wX12_copy ⟨hX, hT, hF⟩ hE hf)
def rmX12_papers : Room := { frames := 3, cells := 0, slots := 0, locals := 68 }
def fX12_papers_b175  (k82 : St → Int32 → Int32 → Option (Int32 × St)) (u : St) (v1 : Int32) (v3 : Int32) (v4 : Int32) (v5 : Int32) (v6 : Int32) : Option (Int32 × St) := k82 u v5 (v6 + 1)
theorem wX12_papers_b175 {X : Cx} {V : Vx} {q : Nat → Nat} {res : Int32 × St} (h : Run X cX12_papers 8 RX12 rmX12_papers V (some .int) (rEq (some (.int res.1)) (wM V q res.2))) (hE : ZOK (vZ V)) {u : St} {v1 : Int32} {v3 : Int32} {v4 : Int32} {v5 : Int32} {v6 : Int32} {k82 : St → Int32 → Int32 → Option (Int32 × St)} (hk82 : ∀ (u : St) (v5 : Int32) (v6 : Int32), k82 u v5 v6 = some res → At X 8 0 0 (wM V q u) 82 [(0, .ref (q 0)), (1, .int v1), (3, .int v3), (4, .int v4), (5, .int v5), (6, .int v6)] []) (hf : fX12_papers_b175  k82 u v1 v3 v4 v5 v6 = some res) : At X 8 0 0 (wM V q u) 175 [(0, .ref (q 0)), (1, .int v1), (3, .int v3), (4, .int v4), (5, .int v5), (6, .int v6)] [] := by
  obtain ⟨hX, hT, hF⟩ := id h
  unfold fX12_papers_b175 at hf
  refine a_iinc (v := v6 + 1) (lv' := [(6, .int (v6 + 1)), (0, .ref (q 0)), (1, .int v1), (3, .int v3), (4, .int v4), (5, .int v5)]) hX dX12_papers_175 5 rfl rfl (by decide) rfl rfl ?_
  refine a_goto (pc' := 82) hX dX12_papers_178 rfl ?_
  refine a_lv (lv' := [(0, .ref (q 0)), (1, .int v1), (3, .int v3), (4, .int v4), (5, .int v5), (6, .int (v6 + 1))]) [1, 2, 3, 4, 5, 0] rfl ?_
  exact hk82 u v5 (v6 + 1) hf
def fX12_papers_l82b  (k82 : St → Int32 → Int32 → Option (Int32 × St)) (u : St) (v1 : Int32) (v3 : Int32) (v4 : Int32) (v5 : Int32) (v6 : Int32) : Option (Int32 × St) := if v4 ≤ v6 then some (v5, u) else (ldI (gA u 59) 4 v1 (fun x7 => if v3 ≤ (x7 - (5 * v6)) - 5 then nmI (((40 * v1) + v3) + (5 * v6)) (fun x8 => ldI (gA u 60) 160 x8 (fun x9 => ldI (gA u 60) 160 (x8 + 1) (fun x10 => ldI (gA u 60) 160 (x8 + 2) (fun x11 => ldI (gA u 60) 160 (x8 + 3) (fun x12 => ldI (gA u 60) 160 (x8 + 4) (fun x13 => cl2 (fX12_paper u x9 x10 x11 x12 x13) (fun x14 u15 => if x14 < 0 then fX12_papers_b175 k82 u15 v1 v3 v4 v5 v6 else (fX12_papers_b175 k82 u15 v1 v3 v4 (v5 + 1) v6)))))))) else (some ((-12), u))))
theorem wX12_papers_l82b {X : Cx} {V : Vx} {q : Nat → Nat} {res : Int32 × St} (h : Run X cX12_papers 8 RX12 rmX12_papers V (some .int) (rEq (some (.int res.1)) (wM V q res.2))) (hE : ZOK (vZ V)) {u : St} {v1 : Int32} {v3 : Int32} {v4 : Int32} {v5 : Int32} {v6 : Int32} {k82 : St → Int32 → Int32 → Option (Int32 × St)} (hk82 : ∀ (u : St) (v5 : Int32) (v6 : Int32), k82 u v5 v6 = some res → At X 8 0 0 (wM V q u) 82 [(0, .ref (q 0)), (1, .int v1), (3, .int v3), (4, .int v4), (5, .int v5), (6, .int v6)] []) (hf : fX12_papers_l82b  k82 u v1 v3 v4 v5 v6 = some res) : At X 8 0 0 (wM V q u) 82 [(0, .ref (q 0)), (1, .int v1), (3, .int v3), (4, .int v4), (5, .int v5), (6, .int v6)] [] := by
  obtain ⟨hX, hT, hF⟩ := id h
  unfold fX12_papers_l82b at hf
  refine a_iload hX dX12_papers_82 5 rfl rfl ?_
  refine a_iload hX dX12_papers_84 3 rfl rfl ?_
  refine a_icmp_ge (tgt := 181) hX dX12_papers_86 rfl rfl hf (fun hf => ?_) (fun hf => ?_)
  · refine a_iload hX dX12_papers_181 4 rfl rfl ?_
    exact a_iret hX hT hF (r_iS (wf := (wM V q)) hf) dX12_papers_183
  · refine a_iload_n hX dX12_papers_89 rfl 2 rfl rfl ?_
    refine a_aload_n hX dX12_papers_90 rfl 0 rfl rfl ?_
    refine gX12_59 hX F_X12_118 dX12_papers_91 rfl ?_
    refine a_iload_n hX dX12_papers_94 rfl 1 rfl rfl ?_
    refine lX12_59 hX dX12_papers_95 rfl hf (fun x7 hf => ?_)
    refine a_iconst (v := 5) hX dX12_papers_96 (by decide) rfl ?_
    refine a_iload hX dX12_papers_97 5 rfl rfl ?_
    refine a_imul hX dX12_papers_99 rfl ?_
    refine a_isub hX dX12_papers_100 rfl ?_
    refine a_iconst (v := 5) hX dX12_papers_101 (by decide) rfl ?_
    refine a_isub hX dX12_papers_102 rfl ?_
    refine a_icmp_le (tgt := 109) hX dX12_papers_103 rfl rfl hf (fun hf => ?_) (fun hf => ?_)
    · refine a_bipush (v := 40) hX dX12_papers_109 (by decide) rfl ?_
      refine a_iload_n hX dX12_papers_111 rfl 1 rfl rfl ?_
      refine a_imul hX dX12_papers_112 rfl ?_
      refine a_iload_n hX dX12_papers_113 rfl 2 rfl rfl ?_
      refine a_iadd hX dX12_papers_114 rfl ?_
      refine a_iconst (v := 5) hX dX12_papers_115 (by decide) rfl ?_
      refine a_iload hX dX12_papers_116 5 rfl rfl ?_
      refine a_imul hX dX12_papers_118 rfl ?_
      refine a_iadd hX dX12_papers_119 rfl ?_
      refine a_nmI hf (fun x8 hf => ?_)
      refine a_istore (lv' := [(7, .int x8), (0, .ref (q 0)), (1, .int v1), (3, .int v3), (4, .int v4), (5, .int v5), (6, .int v6)]) hX dX12_papers_120 (by decide) rfl rfl ?_
      refine a_aload_n hX dX12_papers_122 rfl 1 rfl rfl ?_
      refine a_aload_n hX dX12_papers_123 rfl 1 rfl rfl ?_
      refine gX12_60 hX F_X12_121 dX12_papers_124 rfl ?_
      refine a_iload hX dX12_papers_127 0 rfl rfl ?_
      refine lX12_60 hX dX12_papers_129 rfl hf (fun x9 hf => ?_)
      refine a_aload_n hX dX12_papers_130 rfl 1 rfl rfl ?_
      refine gX12_60 hX F_X12_121 dX12_papers_131 rfl ?_
      refine a_iload hX dX12_papers_134 0 rfl rfl ?_
      refine a_iconst (v := 1) hX dX12_papers_136 (by decide) rfl ?_
      refine a_iadd hX dX12_papers_137 rfl ?_
      refine lX12_60 hX dX12_papers_138 rfl hf (fun x10 hf => ?_)
      refine a_aload_n hX dX12_papers_139 rfl 1 rfl rfl ?_
      refine gX12_60 hX F_X12_121 dX12_papers_140 rfl ?_
      refine a_iload hX dX12_papers_143 0 rfl rfl ?_
      refine a_iconst (v := 2) hX dX12_papers_145 (by decide) rfl ?_
      refine a_iadd hX dX12_papers_146 rfl ?_
      refine lX12_60 hX dX12_papers_147 rfl hf (fun x11 hf => ?_)
      refine a_aload_n hX dX12_papers_148 rfl 1 rfl rfl ?_
      refine gX12_60 hX F_X12_121 dX12_papers_149 rfl ?_
      refine a_iload hX dX12_papers_152 0 rfl rfl ?_
      refine a_iconst (v := 3) hX dX12_papers_154 (by decide) rfl ?_
      refine a_iadd hX dX12_papers_155 rfl ?_
      refine lX12_60 hX dX12_papers_156 rfl hf (fun x12 hf => ?_)
      refine a_aload_n hX dX12_papers_157 rfl 1 rfl rfl ?_
      refine gX12_60 hX F_X12_121 dX12_papers_158 rfl ?_
      refine a_iload hX dX12_papers_161 0 rfl rfl ?_
      refine a_iconst (v := 4) hX dX12_papers_163 (by decide) rfl ?_
      refine a_iadd hX dX12_papers_164 rfl ?_
      refine lX12_60 hX dX12_papers_165 rfl hf (fun x13 hf => ?_)
      obtain ⟨x14, u15, hg14, hf⟩ := cl2_some hf
      refine a_cVsi (q0 := 0) (rest := []) hX hE (cX12_paper (q := q) hE hg14) K_X12_394 ⟨rfl, rfl⟩ ⟨rfl, rfl, by decide, by decide⟩ ⟨Nat.zero_le _, Nat.zero_le _⟩ (Nat.le_of_ble_eq_true rfl) dX12_papers_166 rfl rfl ?_
      refine a_if_lt (tgt := 175) hX dX12_papers_169 rfl rfl hf (fun hf => ?_) (fun hf => ?_)
      · refine a_lv (lv' := [(0, .ref (q 0)), (1, .int v1), (3, .int v3), (4, .int v4), (5, .int v5), (6, .int v6)]) [1, 2, 3, 4, 5, 6] rfl ?_
        exact wX12_papers_b175 h hE hk82 hf
      · refine a_iinc (v := v5 + 1) (lv' := [(5, .int (v5 + 1)), (7, .int x8), (0, .ref (q 0)), (1, .int v1), (3, .int v3), (4, .int v4), (6, .int v6)]) hX dX12_papers_172 5 rfl rfl (by decide) rfl rfl ?_
        refine a_lv (lv' := [(0, .ref (q 0)), (1, .int v1), (3, .int v3), (4, .int v4), (5, .int (v5 + 1)), (6, .int v6)]) [2, 3, 4, 5, 0, 6] rfl ?_
        exact wX12_papers_b175 h hE hk82 hf
    · refine a_bipush (v := (-12)) hX dX12_papers_106 (by decide) rfl ?_
      exact a_iret hX hT hF (r_iS (wf := (wM V q)) hf) dX12_papers_108
def fX12_papers_l82   (v1 : Int32) (v3 : Int32) (v4 : Int32) : Nat → St → Int32 → Int32 → Option (Int32 × St)
  | 0, _, _, _ => none
  | m + 1, u, v5, v6 => fX12_papers_l82b  (fX12_papers_l82   v1 v3 v4 m) u v1 v3 v4 v5 v6
theorem wX12_papers_l82 {X : Cx} {V : Vx} {q : Nat → Nat} {res : Int32 × St} (h : Run X cX12_papers 8 RX12 rmX12_papers V (some .int) (rEq (some (.int res.1)) (wM V q res.2))) (hE : ZOK (vZ V)) {v1 : Int32} {v3 : Int32} {v4 : Int32} : ∀ (m : Nat) (u : St) (v5 : Int32) (v6 : Int32), fX12_papers_l82   v1 v3 v4 m u v5 v6 = some res → At X 8 0 0 (wM V q u) 82 [(0, .ref (q 0)), (1, .int v1), (3, .int v3), (4, .int v4), (5, .int v5), (6, .int v6)] [] := by
  intro m
  induction m with
  | zero => intro u v5 v6 hf; cases hf
  | succ m ih => intro u v5 v6 hf; exact wX12_papers_l82b h hE ih hf
def fX12_papers_b76   (u : St) (v1 : Int32) (v3 : Int32) (v4 : Int32) : Option (Int32 × St) := fX12_papers_l82 v1 v3 v4 NF u 0 0
theorem wX12_papers_b76 {X : Cx} {V : Vx} {q : Nat → Nat} {res : Int32 × St} (h : Run X cX12_papers 8 RX12 rmX12_papers V (some .int) (rEq (some (.int res.1)) (wM V q res.2))) (hE : ZOK (vZ V)) {u : St} {v1 : Int32} {v3 : Int32} {v4 : Int32} (hf : fX12_papers_b76   u v1 v3 v4 = some res) : At X 8 0 0 (wM V q u) 76 [(0, .ref (q 0)), (1, .int v1), (3, .int v3), (4, .int v4)] [] := by
  obtain ⟨hX, hT, hF⟩ := id h
  unfold fX12_papers_b76 at hf
  refine a_iconst (v := 0) hX dX12_papers_76 (by decide) rfl ?_
  refine a_istore (lv' := [(5, .int 0), (0, .ref (q 0)), (1, .int v1), (3, .int v3), (4, .int v4)]) hX dX12_papers_77 (by decide) rfl rfl ?_
  refine a_iconst (v := 0) hX dX12_papers_79 (by decide) rfl ?_
  refine a_istore (lv' := [(6, .int 0), (5, .int 0), (0, .ref (q 0)), (1, .int v1), (3, .int v3), (4, .int v4)]) hX dX12_papers_80 (by decide) rfl rfl ?_
  refine a_lv (lv' := [(0, .ref (q 0)), (1, .int v1), (3, .int v3), (4, .int v4), (5, .int 0), (6, .int 0)]) [2, 3, 4, 5, 1, 0] rfl ?_
  exact wX12_papers_l82 h hE NF u 0 0 hf
def fX12_papers_b52   (u : St) (v1 : Int32) (v3 : Int32) (v4 : Int32) : Option (Int32 × St) := ldI (gA u 57) 4 v1 (fun x6 => if x6 = 0 then some ((-11), u) else (if v4 ≤ 0 then fX12_papers_b76 u v1 v3 v4 else (if 0 ≤ v3 then fX12_papers_b76 u v1 v3 v4 else (some ((-12), u)))))
theorem wX12_papers_b52 {X : Cx} {V : Vx} {q : Nat → Nat} {res : Int32 × St} (h : Run X cX12_papers 8 RX12 rmX12_papers V (some .int) (rEq (some (.int res.1)) (wM V q res.2))) (hE : ZOK (vZ V)) {u : St} {v1 : Int32} {v3 : Int32} {v4 : Int32} (hf : fX12_papers_b52   u v1 v3 v4 = some res) : At X 8 0 0 (wM V q u) 52 [(0, .ref (q 0)), (1, .int v1), (3, .int v3), (4, .int v4)] [] := by
  obtain ⟨hX, hT, hF⟩ := id h
  unfold fX12_papers_b52 at hf
  refine a_aload_n hX dX12_papers_52 rfl 0 rfl rfl ?_
  refine gX12_57 hX F_X12_112 dX12_papers_53 rfl ?_
  refine a_iload_n hX dX12_papers_56 rfl 1 rfl rfl ?_
  refine lX12_57 hX dX12_papers_57 rfl hf (fun x6 hf => ?_)
  refine a_if_ne (tgt := 64) hX dX12_papers_58 rfl rfl hf (fun hf => ?_) (fun hf => ?_)
  · refine a_iload hX dX12_papers_64 3 rfl rfl ?_
    refine a_if_le (tgt := 76) hX dX12_papers_66 rfl rfl hf (fun hf => ?_) (fun hf => ?_)
    · exact wX12_papers_b76 h hE hf
    · refine a_iload_n hX dX12_papers_69 rfl 2 rfl rfl ?_
      refine a_if_ge (tgt := 76) hX dX12_papers_70 rfl rfl hf (fun hf => ?_) (fun hf => ?_)
      · exact wX12_papers_b76 h hE hf
      · refine a_bipush (v := (-12)) hX dX12_papers_73 (by decide) rfl ?_
        exact a_iret hX hT hF (r_iS (wf := (wM V q)) hf) dX12_papers_75
  · refine a_bipush (v := (-11)) hX dX12_papers_61 (by decide) rfl ?_
    exact a_iret hX hT hF (r_iS (wf := (wM V q)) hf) dX12_papers_63
def fX12_papers (u : St) (v1 : Int32) (v2 : Int32) (v3 : Int32) (v4 : Int32) : Option (Int32 × St) := cl1 (fX12_isSheet v1) (fun x1 => if x1 = 0 then some ((-2), u) else (cl1 (fX12_in v2 0 2) (fun x2 => if x2 = 0 then some ((-2), u) else (cl1 (fX12_in v4 0 8) (fun x3 => if x3 = 0 then some ((-2), u) else (ldI (gA u 57) 4 v1 (fun x4 => if x4 = 0 then fX12_papers_b52 u v1 v3 v4 else (ldI (gA u 58) 4 v1 (fun x5 => if x5 = v2 then fX12_papers_b52 u v1 v3 v4 else (some ((-13), u)))))))))))
theorem wX12_papers {X : Cx} {V : Vx} {q : Nat → Nat} {res : Int32 × St} (h : Run X cX12_papers 8 RX12 rmX12_papers V (some .int) (rEq (some (.int res.1)) (wM V q res.2))) (hE : ZOK (vZ V)) {u : St} {v1 : Int32} {v2 : Int32} {v3 : Int32} {v4 : Int32} (hf : fX12_papers u v1 v2 v3 v4 = some res) : At X 8 0 0 (wM V q u) 0 [(0, .ref (q 0)), (1, .int v1), (2, .int v2), (3, .int v3), (4, .int v4)] [] := by
  obtain ⟨hX, hT, hF⟩ := id h
  unfold fX12_papers at hf
  refine a_iload_n hX dX12_papers_0 rfl 1 rfl rfl ?_
  obtain ⟨x1, hg1, hf⟩ := cl1_some hf
  refine a_cSpi (rest := []) hX hE (cX12_isSheet hE hg1) K_X12_391 ⟨rfl, rfl, by decide, by decide⟩ ⟨Nat.zero_le _, Nat.zero_le _⟩ (Nat.le_of_ble_eq_true rfl) dX12_papers_1 rfl rfl ?_
  refine a_if_eq (tgt := 27) hX dX12_papers_4 rfl rfl hf (fun hf => ?_) (fun hf => ?_)
  · refine a_bipush (v := (-2)) hX dX12_papers_27 (by decide) rfl ?_
    exact a_iret hX hT hF (r_iS (wf := (wM V q)) hf) dX12_papers_29
  · refine a_iload_n hX dX12_papers_7 rfl 2 rfl rfl ?_
    refine a_iconst (v := 0) hX dX12_papers_8 (by decide) rfl ?_
    refine a_iconst (v := 2) hX dX12_papers_9 (by decide) rfl ?_
    obtain ⟨x2, hg2, hf⟩ := cl1_some hf
    refine a_cSpi (rest := []) hX hE (cX12_in hE hg2) K_X12_148 ⟨rfl, rfl, by decide, by decide⟩ ⟨Nat.zero_le _, Nat.zero_le _⟩ (Nat.le_of_ble_eq_true rfl) dX12_papers_10 rfl rfl ?_
    refine a_if_eq (tgt := 27) hX dX12_papers_13 rfl rfl hf (fun hf => ?_) (fun hf => ?_)
    · refine a_bipush (v := (-2)) hX dX12_papers_27 (by decide) rfl ?_
      exact a_iret hX hT hF (r_iS (wf := (wM V q)) hf) dX12_papers_29
    · refine a_iload hX dX12_papers_16 4 rfl rfl ?_
      refine a_iconst (v := 0) hX dX12_papers_18 (by decide) rfl ?_
      refine a_bipush (v := 8) hX dX12_papers_19 (by decide) rfl ?_
      obtain ⟨x3, hg3, hf⟩ := cl1_some hf
      refine a_cSpi (rest := []) hX hE (cX12_in hE hg3) K_X12_148 ⟨rfl, rfl, by decide, by decide⟩ ⟨Nat.zero_le _, Nat.zero_le _⟩ (Nat.le_of_ble_eq_true rfl) dX12_papers_21 rfl rfl ?_
      refine a_if_ne (tgt := 30) hX dX12_papers_24 rfl rfl hf (fun hf => ?_) (fun hf => ?_)
      · refine a_aload_n hX dX12_papers_30 rfl 0 rfl rfl ?_
        refine gX12_57 hX F_X12_112 dX12_papers_31 rfl ?_
        refine a_iload_n hX dX12_papers_34 rfl 1 rfl rfl ?_
        refine lX12_57 hX dX12_papers_35 rfl hf (fun x4 hf => ?_)
        refine a_if_eq (tgt := 52) hX dX12_papers_36 rfl rfl hf (fun hf => ?_) (fun hf => ?_)
        · refine a_lv (lv' := [(0, .ref (q 0)), (1, .int v1), (3, .int v3), (4, .int v4)]) [0, 1, 3, 4] rfl ?_
          exact wX12_papers_b52 h hE hf
        · refine a_aload_n hX dX12_papers_39 rfl 0 rfl rfl ?_
          refine gX12_58 hX F_X12_115 dX12_papers_40 rfl ?_
          refine a_iload_n hX dX12_papers_43 rfl 1 rfl rfl ?_
          refine lX12_58 hX dX12_papers_44 rfl hf (fun x5 hf => ?_)
          refine a_iload_n hX dX12_papers_45 rfl 2 rfl rfl ?_
          refine a_icmp_eq (tgt := 52) hX dX12_papers_46 rfl rfl hf (fun hf => ?_) (fun hf => ?_)
          · refine a_lv (lv' := [(0, .ref (q 0)), (1, .int v1), (3, .int v3), (4, .int v4)]) [0, 1, 3, 4] rfl ?_
            exact wX12_papers_b52 h hE hf
          · refine a_bipush (v := (-13)) hX dX12_papers_49 (by decide) rfl ?_
            exact a_iret hX hT hF (r_iS (wf := (wM V q)) hf) dX12_papers_51
      · refine a_bipush (v := (-2)) hX dX12_papers_27 (by decide) rfl ?_
        exact a_iret hX hT hF (r_iS (wf := (wM V q)) hf) dX12_papers_29
theorem cX12_papers {V : Vx} {q : Nat → Nat} {u : St} {res : Int32 × St} (hE : ZOK (vZ V)) {v1 : Int32} {v2 : Int32} {v3 : Int32} {v4 : Int32} (hf : fX12_papers u v1 v2 v3 v4 = some res) : Ct V yX12_papers (.code yX12_papers cX12_papers 8 (some .int)) rmX12_papers 0 0 [.ref (q 0), .int v1, .int v2, .int v3, .int v4] (wM V q u) (rEq (some (.int res.1)) (wM V q res.2)) :=
  Ct_of (by decide) (Nat.le_of_ble_eq_true rfl) rfl (fun X hX hT _ hF => wX12_papers ⟨hX, hT, hF⟩ hE hf)
def rmX12_over : Room := { frames := 0, cells := 0, slots := 0, locals := 0 }
def fX12_over (v0 : Int32) : Option (Int32) := if v0 = 0 then some (-1) else (if v0 = 3 then some 1 else (if v0 = 4 then some 2 else (some 0)))
theorem wX12_over {X : Cx} {V : Vx} {res : Int32} (h : Run X cX12_over 1 RX12 rmX12_over V (some .int) (rEq (some (.int res)) [])) (hE : ZOK (vZ V)) {v0 : Int32} (hf : fX12_over v0 = some res) : At X 1 0 0 [] 0 [(0, .int v0)] [] := by
  obtain ⟨hX, hT, hF⟩ := id h
  unfold fX12_over at hf
  refine a_iload_n hX dX12_over_0 rfl 0 rfl rfl ?_
  refine a_if_ne (tgt := 8) hX dX12_over_1 rfl rfl hf (fun hf => ?_) (fun hf => ?_)
  · refine a_iload_n hX dX12_over_8 rfl 0 rfl rfl ?_
    refine a_iconst (v := 3) hX dX12_over_9 (by decide) rfl ?_
    refine a_icmp_ne (tgt := 17) hX dX12_over_10 rfl rfl hf (fun hf => ?_) (fun hf => ?_)
    · refine a_iload_n hX dX12_over_17 rfl 0 rfl rfl ?_
      refine a_iconst (v := 4) hX dX12_over_18 (by decide) rfl ?_
      refine a_icmp_ne (tgt := 26) hX dX12_over_19 rfl rfl hf (fun hf => ?_) (fun hf => ?_)
      · refine a_iconst (v := 0) hX dX12_over_26 (by decide) rfl ?_
        exact a_iret hX hT hF (r_i hf) dX12_over_27
      · refine a_iconst (v := 2) hX dX12_over_22 (by decide) rfl ?_
        refine a_goto (pc' := 27) hX dX12_over_23 rfl ?_
        exact a_iret hX hT hF (r_i hf) dX12_over_27
    · refine a_iconst (v := 1) hX dX12_over_13 (by decide) rfl ?_
      refine a_goto (pc' := 27) hX dX12_over_14 rfl ?_
      exact a_iret hX hT hF (r_i hf) dX12_over_27
  · refine a_iconst (v := (-1)) hX dX12_over_4 (by decide) rfl ?_
    refine a_goto (pc' := 27) hX dX12_over_5 rfl ?_
    exact a_iret hX hT hF (r_i hf) dX12_over_27
theorem cX12_over {V : Vx} {res : Int32} (hE : ZOK (vZ V)) {v0 : Int32} (hf : fX12_over v0 = some res) : Ct V yX12_over (.code yX12_over cX12_over 1 (some .int)) rmX12_over 0 0 [.int v0] [] (rEq (some (.int res)) []) :=
  Ct_of (by decide) (Nat.le_of_ble_eq_true rfl) rfl (fun X hX hT _ hF => wX12_over ⟨hX, hT, hF⟩ hE hf)
def rmX12_taken : Room := { frames := 2, cells := 0, slots := 0, locals := 43 }
def fX12_taken_b48 (u : St)  (v1 : Int32) (v2 : Int32) (v3 : Int32) : Option (Int32) := if v3 = v2 then ldI (gA u 10) 16 v1 (fun x5 => some x5) else (some (-13))
theorem wX12_taken_b48 {X : Cx} {V : Vx} {q : Nat → Nat} {u : St} {res : Int32} (h : Run X cX12_taken 4 RX12 rmX12_taken V (some .int) (rEq (some (.int res)) (wM V q u))) (hE : ZOK (vZ V)) {v1 : Int32} {v2 : Int32} {v3 : Int32} (hf : fX12_taken_b48 u  v1 v2 v3 = some res) : At X 4 0 0 (wM V q u) 48 [(0, .ref (q 0)), (1, .int v1), (2, .int v2), (3, .int v3)] [] := by
  obtain ⟨hX, hT, hF⟩ := id h
  unfold fX12_taken_b48 at hf
  refine a_iload_n hX dX12_taken_48 rfl 3 rfl rfl ?_
  refine a_iload_n hX dX12_taken_49 rfl 2 rfl rfl ?_
  refine a_icmp_ne (tgt := 62) hX dX12_taken_50 rfl rfl hf (fun hf => ?_) (fun hf => ?_)
  · refine a_bipush (v := (-13)) hX dX12_taken_62 (by decide) rfl ?_
    exact a_iret hX hT hF (r_i hf) dX12_taken_64
  · refine a_aload_n hX dX12_taken_53 rfl 0 rfl rfl ?_
    refine gX12_10 hX F_X12_29 dX12_taken_54 rfl ?_
    refine a_iload_n hX dX12_taken_57 rfl 1 rfl rfl ?_
    refine lX12_10 hX dX12_taken_58 rfl hf (fun x5 hf => ?_)
    refine a_goto (pc' := 64) hX dX12_taken_59 rfl ?_
    exact a_iret hX hT hF (r_i hf) dX12_taken_64
def fX12_taken_l30b (u : St) (k30 : Int32 → Option (Int32)) (v1 : Int32) (v2 : Int32) (v3 : Int32) : Option (Int32) := if v3 = (-1) then fX12_taken_b48 u v1 v2 v3 else (if v3 = v2 then fX12_taken_b48 u v1 v2 v3 else (cl1 (fX12_over v3) (fun x4 => k30 x4)))
theorem wX12_taken_l30b {X : Cx} {V : Vx} {q : Nat → Nat} {u : St} {res : Int32} (h : Run X cX12_taken 4 RX12 rmX12_taken V (some .int) (rEq (some (.int res)) (wM V q u))) (hE : ZOK (vZ V)) {v1 : Int32} {v2 : Int32} {v3 : Int32} {k30 : Int32 → Option (Int32)} (hk30 : ∀ (v3 : Int32), k30 v3 = some res → At X 4 0 0 (wM V q u) 30 [(0, .ref (q 0)), (1, .int v1), (2, .int v2), (3, .int v3)] []) (hf : fX12_taken_l30b u k30 v1 v2 v3 = some res) : At X 4 0 0 (wM V q u) 30 [(0, .ref (q 0)), (1, .int v1), (2, .int v2), (3, .int v3)] [] := by
  obtain ⟨hX, hT, hF⟩ := id h
  unfold fX12_taken_l30b at hf
  refine a_iload_n hX dX12_taken_30 rfl 3 rfl rfl ?_
  refine a_iconst (v := (-1)) hX dX12_taken_31 (by decide) rfl ?_
  refine a_icmp_eq (tgt := 48) hX dX12_taken_32 rfl rfl hf (fun hf => ?_) (fun hf => ?_)
  · exact wX12_taken_b48 h hE hf
  · refine a_iload_n hX dX12_taken_35 rfl 3 rfl rfl ?_
    refine a_iload_n hX dX12_taken_36 rfl 2 rfl rfl ?_
    refine a_icmp_eq (tgt := 48) hX dX12_taken_37 rfl rfl hf (fun hf => ?_) (fun hf => ?_)
    · exact wX12_taken_b48 h hE hf
    · refine a_iload_n hX dX12_taken_40 rfl 3 rfl rfl ?_
      obtain ⟨x4, hg4, hf⟩ := cl1_some hf
      refine a_cSpi (rest := []) hX hE (cX12_over hE hg4) K_X12_397 ⟨rfl, rfl, by decide, by decide⟩ ⟨Nat.zero_le _, Nat.zero_le _⟩ (Nat.le_of_ble_eq_true rfl) dX12_taken_41 rfl rfl ?_
      refine a_istore_n (lv' := [(3, .int x4), (0, .ref (q 0)), (1, .int v1), (2, .int v2)]) hX dX12_taken_44 rfl (by decide) rfl rfl ?_
      refine a_goto (pc' := 30) hX dX12_taken_45 rfl ?_
      refine a_lv (lv' := [(0, .ref (q 0)), (1, .int v1), (2, .int v2), (3, .int x4)]) [1, 2, 3, 0] rfl ?_
      exact hk30 x4 hf
def fX12_taken_l30 (u : St)  (v1 : Int32) (v2 : Int32) : Nat → Int32 → Option (Int32)
  | 0, _ => none
  | m + 1, v3 => fX12_taken_l30b u (fX12_taken_l30 u  v1 v2 m) v1 v2 v3
theorem wX12_taken_l30 {X : Cx} {V : Vx} {q : Nat → Nat} {u : St} {res : Int32} (h : Run X cX12_taken 4 RX12 rmX12_taken V (some .int) (rEq (some (.int res)) (wM V q u))) (hE : ZOK (vZ V)) {v1 : Int32} {v2 : Int32} : ∀ (m : Nat) (v3 : Int32), fX12_taken_l30 u  v1 v2 m v3 = some res → At X 4 0 0 (wM V q u) 30 [(0, .ref (q 0)), (1, .int v1), (2, .int v2), (3, .int v3)] [] := by
  intro m
  induction m with
  | zero => intro v3 hf; cases hf
  | succ m ih => intro v3 hf; exact wX12_taken_l30b h hE ih hf
def fX12_taken (u : St) (v1 : Int32) (v2 : Int32) : Option (Int32) := cl1 (fX12_in v2 0 5) (fun x1 => if x1 = 0 then some (-2) else (cl1 (fX12_isPaper u v1) (fun x2 => if x2 = 0 then some (-11) else (ldI (gA u 9) 16 v1 (fun x3 => fX12_taken_l30 u v1 v2 NF x3)))))
theorem wX12_taken {X : Cx} {V : Vx} {q : Nat → Nat} {u : St} {res : Int32} (h : Run X cX12_taken 4 RX12 rmX12_taken V (some .int) (rEq (some (.int res)) (wM V q u))) (hE : ZOK (vZ V)) {v1 : Int32} {v2 : Int32} (hf : fX12_taken u v1 v2 = some res) : At X 4 0 0 (wM V q u) 0 [(0, .ref (q 0)), (1, .int v1), (2, .int v2)] [] := by
  obtain ⟨hX, hT, hF⟩ := id h
  unfold fX12_taken at hf
  refine a_iload_n hX dX12_taken_0 rfl 2 rfl rfl ?_
  refine a_iconst (v := 0) hX dX12_taken_1 (by decide) rfl ?_
  refine a_iconst (v := 5) hX dX12_taken_2 (by decide) rfl ?_
  obtain ⟨x1, hg1, hf⟩ := cl1_some hf
  refine a_cSpi (rest := []) hX hE (cX12_in hE hg1) K_X12_148 ⟨rfl, rfl, by decide, by decide⟩ ⟨Nat.zero_le _, Nat.zero_le _⟩ (Nat.le_of_ble_eq_true rfl) dX12_taken_3 rfl rfl ?_
  refine a_if_ne (tgt := 12) hX dX12_taken_6 rfl rfl hf (fun hf => ?_) (fun hf => ?_)
  · refine a_aload_n hX dX12_taken_12 rfl 0 rfl rfl ?_
    refine a_iload_n hX dX12_taken_13 rfl 1 rfl rfl ?_
    obtain ⟨x2, hg2, hf⟩ := cl1_some hf
    refine a_cVsi (q0 := 0) (rest := []) hX hE (cX12_isPaper (q := q) hE hg2) K_X12_165 ⟨rfl, rfl⟩ ⟨rfl, rfl, by decide, by decide⟩ ⟨Nat.zero_le _, Nat.zero_le _⟩ (Nat.le_of_ble_eq_true rfl) dX12_taken_14 rfl rfl ?_
    refine a_if_ne (tgt := 23) hX dX12_taken_17 rfl rfl hf (fun hf => ?_) (fun hf => ?_)
    · refine a_aload_n hX dX12_taken_23 rfl 0 rfl rfl ?_
      refine gX12_9 hX F_X12_26 dX12_taken_24 rfl ?_
      refine a_iload_n hX dX12_taken_27 rfl 1 rfl rfl ?_
      refine lX12_9 hX dX12_taken_28 rfl hf (fun x3 hf => ?_)
      refine a_istore_n (lv' := [(3, .int x3), (0, .ref (q 0)), (1, .int v1), (2, .int v2)]) hX dX12_taken_29 rfl (by decide) rfl rfl ?_
      refine a_lv (lv' := [(0, .ref (q 0)), (1, .int v1), (2, .int v2), (3, .int x3)]) [1, 2, 3, 0] rfl ?_
      exact wX12_taken_l30 h hE NF x3 hf
    · refine a_bipush (v := (-11)) hX dX12_taken_20 (by decide) rfl ?_
      exact a_iret hX hT hF (r_i hf) dX12_taken_22
  · refine a_bipush (v := (-2)) hX dX12_taken_9 (by decide) rfl ?_
    exact a_iret hX hT hF (r_i hf) dX12_taken_11
theorem cX12_taken {V : Vx} {q : Nat → Nat} {u : St} {res : Int32} (hE : ZOK (vZ V)) {v1 : Int32} {v2 : Int32} (hf : fX12_taken u v1 v2 = some res) : Ct V yX12_taken (.code yX12_taken cX12_taken 4 (some .int)) rmX12_taken 0 0 [.ref (q 0), .int v1, .int v2] (wM V q u) (rEq (some (.int res)) (wM V q u)) :=
  Ct_of (by decide) (Nat.le_of_ble_eq_true rfl) rfl (fun X hX hT _ hF => wX12_taken ⟨hX, hT, hF⟩ hE hf)
