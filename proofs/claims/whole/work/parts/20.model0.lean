def rmX12_in : Room := { frames := 0, cells := 0, slots := 0, locals := 0 }
def fX12_in (v0 : Int32) (v1 : Int32) (v2 : Int32) : Option (Int32) := if v0 < v1 then some 0 else (if v2 < v0 then some 0 else (some 1))
theorem wX12_in {X : Cx} {V : Vx} {res : Int32} (h : Run X cX12_in 3 RX12 rmX12_in V (some .boolean) (rEq (some (.int res)) [])) (hE : ZOK (vZ V)) {v0 : Int32} {v1 : Int32} {v2 : Int32} (hf : fX12_in v0 v1 v2 = some res) : At X 3 0 0 [] 0 [(0, .int v0), (1, .int v1), (2, .int v2)] [] := by
  obtain ⟨hX, hT, hF⟩ := id h
  unfold fX12_in at hf
  refine a_iload_n hX dX12_in_0 rfl 0 rfl rfl ?_
  refine a_iload_n hX dX12_in_1 rfl 1 rfl rfl ?_
  refine a_icmp_lt (tgt := 14) hX dX12_in_2 rfl rfl hf (fun hf => ?_) (fun hf => ?_)
  · refine a_iconst (v := 0) hX dX12_in_14 (by decide) rfl ?_
    exact a_zret hX hT (by decide) hF (r_i hf) dX12_in_15
  · refine a_iload_n hX dX12_in_5 rfl 0 rfl rfl ?_
    refine a_iload_n hX dX12_in_6 rfl 2 rfl rfl ?_
    refine a_icmp_gt (tgt := 14) hX dX12_in_7 rfl rfl hf (fun hf => ?_) (fun hf => ?_)
    · refine a_iconst (v := 0) hX dX12_in_14 (by decide) rfl ?_
      exact a_zret hX hT (by decide) hF (r_i hf) dX12_in_15
    · refine a_iconst (v := 1) hX dX12_in_10 (by decide) rfl ?_
      refine a_goto (pc' := 15) hX dX12_in_11 rfl ?_
      exact a_zret hX hT (by decide) hF (r_i hf) dX12_in_15
theorem ctX12_in {V : Vx} {res : Int32} (hE : ZOK (vZ V)) {v0 : Int32} {v1 : Int32} {v2 : Int32} (hf : fX12_in v0 v1 v2 = some res) : Ct V yX12_in (.code yX12_in cX12_in 3 (some .boolean)) rmX12_in 0 0 [.int v0, .int v1, .int v2] [] (rEq (some (.int res)) []) :=
  Ct_of (by decide) (Nat.le_of_ble_eq_true rfl) rfl (fun X hX hT _ hF => wX12_in ⟨hX, hT, hF⟩ hE hf)
def rmX12_spell : Room := { frames := 0, cells := 0, slots := 0, locals := 0 }
def fX12_spell_l3b  (k3 : St → Int32 → Option (St)) (u : St) (v1 : Int32) (v2 : Int64) (v4 : Int32) : Option (St) := if 8 ≤ v4 then some u else (stI u 21 960 (v1 + v4) (Int64.toInt32 ((v2 >>> (Int32.toInt64 (56 - (8 * v4)) &&& 63)) &&& 255)) (fun u1 => k3 u1 (v4 + 1)))
theorem wX12_spell_l3b {X : Cx} {V : Vx} {q : Nat → Nat} {res : St} (h : Run X cX12_spell 5 RX12 rmX12_spell V none (rEq none (wM V q res))) (hE : ZOK (vZ V)) {u : St} {v1 : Int32} {v2 : Int64} {v4 : Int32} {k3 : St → Int32 → Option (St)} (hk3 : ∀ (u : St) (v4 : Int32), k3 u v4 = some res → At X 5 0 0 (wM V q u) 3 [(0, .ref (q 0)), (1, .int v1), (2, .long v2), (4, .int v4)] []) (hf : fX12_spell_l3b  k3 u v1 v2 v4 = some res) : At X 5 0 0 (wM V q u) 3 [(0, .ref (q 0)), (1, .int v1), (2, .long v2), (4, .int v4)] [] := by
  obtain ⟨hX, hT, hF⟩ := id h
  unfold fX12_spell_l3b at hf
  refine a_iload hX dX12_spell_3 3 rfl rfl ?_
  refine a_bipush (v := 8) hX dX12_spell_5 (by decide) rfl ?_
  refine a_icmp_ge (tgt := 40) hX dX12_spell_7 rfl rfl hf (fun hf => ?_) (fun hf => ?_)
  · exact a_ret hX hT hF (r_vS (wf := (wM V q)) hf) dX12_spell_40
  · refine a_aload_n hX dX12_spell_10 rfl 0 rfl rfl ?_
    refine gX12_21 hX F_X12_64 dX12_spell_11 rfl ?_
    refine a_iload_n hX dX12_spell_14 rfl 1 rfl rfl ?_
    refine a_iload hX dX12_spell_15 3 rfl rfl ?_
    refine a_iadd hX dX12_spell_17 rfl ?_
    refine a_lload_n hX dX12_spell_18 rfl 2 rfl rfl ?_
    refine a_bipush (v := 56) hX dX12_spell_19 (by decide) rfl ?_
    refine a_bipush (v := 8) hX dX12_spell_21 (by decide) rfl ?_
    refine a_iload hX dX12_spell_23 3 rfl rfl ?_
    refine a_imul hX dX12_spell_25 rfl ?_
    refine a_isub hX dX12_spell_26 rfl ?_
    refine a_lshr hX dX12_spell_27 rfl ?_
    refine a_ldc2 hX dX12_spell_28 N_X12_146 rfl ?_
    refine a_land hX dX12_spell_31 rfl ?_
    refine a_l2i hX dX12_spell_32 rfl ?_
    refine sX12_21 hX dX12_spell_33 rfl hf (fun u1 hf => ?_)
    refine a_iinc (v := v4 + 1) (lv' := [(4, .int (v4 + 1)), (0, .ref (q 0)), (1, .int v1), (2, .long v2)]) hX dX12_spell_34 3 rfl rfl (by decide) rfl rfl ?_
    refine a_goto (pc' := 3) hX dX12_spell_37 rfl ?_
    refine a_lv (lv' := [(0, .ref (q 0)), (1, .int v1), (2, .long v2), (4, .int (v4 + 1))]) [1, 2, 3, 0] rfl ?_
    exact hk3 u1 (v4 + 1) hf
def fX12_spell_l3   (v1 : Int32) (v2 : Int64) : Nat → St → Int32 → Option (St)
  | 0, _, _ => none
  | m + 1, u, v4 => fX12_spell_l3b  (fX12_spell_l3   v1 v2 m) u v1 v2 v4
theorem wX12_spell_l3 {X : Cx} {V : Vx} {q : Nat → Nat} {res : St} (h : Run X cX12_spell 5 RX12 rmX12_spell V none (rEq none (wM V q res))) (hE : ZOK (vZ V)) {v1 : Int32} {v2 : Int64} : ∀ (m : Nat) (u : St) (v4 : Int32), fX12_spell_l3   v1 v2 m u v4 = some res → At X 5 0 0 (wM V q u) 3 [(0, .ref (q 0)), (1, .int v1), (2, .long v2), (4, .int v4)] [] := by
  intro m
  induction m with
  | zero => intro u v4 hf; cases hf
  | succ m ih => intro u v4 hf; exact wX12_spell_l3b h hE ih hf
def fX12_spell (u : St) (v1 : Int32) (v2 : Int64) : Option (St) := fX12_spell_l3 v1 v2 NF u 0
theorem wX12_spell {X : Cx} {V : Vx} {q : Nat → Nat} {res : St} (h : Run X cX12_spell 5 RX12 rmX12_spell V none (rEq none (wM V q res))) (hE : ZOK (vZ V)) {u : St} {v1 : Int32} {v2 : Int64} (hf : fX12_spell u v1 v2 = some res) : At X 5 0 0 (wM V q u) 0 [(0, .ref (q 0)), (1, .int v1), (2, .long v2)] [] := by
  obtain ⟨hX, hT, hF⟩ := id h
  unfold fX12_spell at hf
  refine a_iconst (v := 0) hX dX12_spell_0 (by decide) rfl ?_
  refine a_istore (lv' := [(4, .int 0), (0, .ref (q 0)), (1, .int v1), (2, .long v2)]) hX dX12_spell_1 (by decide) rfl rfl ?_
  refine a_lv (lv' := [(0, .ref (q 0)), (1, .int v1), (2, .long v2), (4, .int 0)]) [1, 2, 3, 0] rfl ?_
  exact wX12_spell_l3 h hE NF u 0 hf
theorem ctX12_spell {V : Vx} {q : Nat → Nat} {u : St} {res : St} (hE : ZOK (vZ V)) {v1 : Int32} {v2 : Int64} (hf : fX12_spell u v1 v2 = some res) : Ct V yX12_spell (.code yX12_spell cX12_spell 5 none) rmX12_spell 0 0 [.ref (q 0), .int v1, .long v2] (wM V q u) (rEq none (wM V q res)) :=
  Ct_of (by decide) (Nat.le_of_ble_eq_true rfl) rfl (fun X hX hT _ hF => wX12_spell ⟨hX, hT, hF⟩ hE hf)
def rmX12_isLand : Room := { frames := 1, cells := 0, slots := 0, locals := 22 }
def fX12_isLand (v0 : Int32) : Option (Int32) := cl1 (fX12_in v0 0 4) (fun x1 => rtZ x1 x1)
theorem wX12_isLand {X : Cx} {V : Vx} {res : Int32} (h : Run X cX12_isLand 1 RX12 rmX12_isLand V (some .boolean) (rEq (some (.int res)) [])) (hE : ZOK (vZ V)) {v0 : Int32} (hf : fX12_isLand v0 = some res) : At X 1 0 0 [] 0 [(0, .int v0)] [] := by
  obtain ⟨hX, hT, hF⟩ := id h
  unfold fX12_isLand at hf
  refine a_iload_n hX dX12_isLand_0 rfl 0 rfl rfl ?_
  refine a_iconst (v := 0) hX dX12_isLand_1 (by decide) rfl ?_
  refine a_iconst (v := 4) hX dX12_isLand_2 (by decide) rfl ?_
  obtain ⟨x1, hg1, hf⟩ := cl1_some hf
  refine a_cSpi (rest := []) hX hE (ctX12_in hE hg1) K_X12_148 ⟨rfl, rfl, by decide, by decide⟩ ⟨Nat.zero_le _, Nat.zero_le _⟩ (Nat.le_of_ble_eq_true rfl) dX12_isLand_3 rfl rfl ?_
  exact a_zret hX hT (r_z hf).1 hF (r_i (r_z hf).2) dX12_isLand_6
theorem ctX12_isLand {V : Vx} {res : Int32} (hE : ZOK (vZ V)) {v0 : Int32} (hf : fX12_isLand v0 = some res) : Ct V yX12_isLand (.code yX12_isLand cX12_isLand 1 (some .boolean)) rmX12_isLand 0 0 [.int v0] [] (rEq (some (.int res)) []) :=
  Ct_of (by decide) (Nat.le_of_ble_eq_true rfl) rfl (fun X hX hT _ hF => wX12_isLand ⟨hX, hT, hF⟩ hE hf)
def rmX12_isPeriod : Room := { frames := 1, cells := 0, slots := 0, locals := 22 }
def fX12_isPeriod (u : St) (v1 : Int32) : Option (Int32) := cl1 (fX12_in v1 0 ((gZ u 1) - 1)) (fun x1 => rtZ x1 x1)
theorem wX12_isPeriod {X : Cx} {V : Vx} {q : Nat → Nat} {u : St} {res : Int32} (h : Run X cX12_isPeriod 2 RX12 rmX12_isPeriod V (some .boolean) (rEq (some (.int res)) (wM V q u))) (hE : ZOK (vZ V)) {v1 : Int32} (hf : fX12_isPeriod u v1 = some res) : At X 2 0 0 (wM V q u) 0 [(0, .ref (q 0)), (1, .int v1)] [] := by
  obtain ⟨hX, hT, hF⟩ := id h
  unfold fX12_isPeriod at hf
  refine a_iload_n hX dX12_isPeriod_0 rfl 1 rfl rfl ?_
  refine a_iconst (v := 0) hX dX12_isPeriod_1 (by decide) rfl ?_
  refine a_aload_n hX dX12_isPeriod_2 rfl 0 rfl rfl ?_
  refine gX12_1 hX F_X12_124 dX12_isPeriod_3 rfl ?_
  refine a_iconst (v := 1) hX dX12_isPeriod_6 (by decide) rfl ?_
  refine a_isub hX dX12_isPeriod_7 rfl ?_
  obtain ⟨x1, hg1, hf⟩ := cl1_some hf
  refine a_cSpi (rest := []) hX hE (ctX12_in hE hg1) K_X12_148 ⟨rfl, rfl, by decide, by decide⟩ ⟨Nat.zero_le _, Nat.zero_le _⟩ (Nat.le_of_ble_eq_true rfl) dX12_isPeriod_8 rfl rfl ?_
  exact a_zret hX hT (r_z hf).1 hF (r_i (r_z hf).2) dX12_isPeriod_11
theorem ctX12_isPeriod {V : Vx} {q : Nat → Nat} {u : St} {res : Int32} (hE : ZOK (vZ V)) {v1 : Int32} (hf : fX12_isPeriod u v1 = some res) : Ct V yX12_isPeriod (.code yX12_isPeriod cX12_isPeriod 2 (some .boolean)) rmX12_isPeriod 0 0 [.ref (q 0), .int v1] (wM V q u) (rEq (some (.int res)) (wM V q u)) :=
  Ct_of (by decide) (Nat.le_of_ble_eq_true rfl) rfl (fun X hX hT _ hF => wX12_isPeriod ⟨hX, hT, hF⟩ hE hf)
def rmX12_isPlace : Room := { frames := 2, cells := 0, slots := 0, locals := 43 }
def fX12_isPlace (u : St) (v1 : Int32) (v2 : Int32) : Option (Int32) := cl1 (fX12_isLand v1) (fun x1 => if x1 = 0 then some 0 else (cl1 (fX12_isPeriod u v2) (fun x2 => if x2 = 0 then some 0 else (some 1))))
theorem wX12_isPlace {X : Cx} {V : Vx} {q : Nat → Nat} {u : St} {res : Int32} (h : Run X cX12_isPlace 3 RX12 rmX12_isPlace V (some .boolean) (rEq (some (.int res)) (wM V q u))) (hE : ZOK (vZ V)) {v1 : Int32} {v2 : Int32} (hf : fX12_isPlace u v1 v2 = some res) : At X 3 0 0 (wM V q u) 0 [(0, .ref (q 0)), (1, .int v1), (2, .int v2)] [] := by
  obtain ⟨hX, hT, hF⟩ := id h
  unfold fX12_isPlace at hf
  refine a_iload_n hX dX12_isPlace_0 rfl 1 rfl rfl ?_
  obtain ⟨x1, hg1, hf⟩ := cl1_some hf
  refine a_cSpi (rest := []) hX hE (ctX12_isLand hE hg1) K_X12_152 ⟨rfl, rfl, by decide, by decide⟩ ⟨Nat.zero_le _, Nat.zero_le _⟩ (Nat.le_of_ble_eq_true rfl) dX12_isPlace_1 rfl rfl ?_
  refine a_if_eq (tgt := 19) hX dX12_isPlace_4 rfl rfl hf (fun hf => ?_) (fun hf => ?_)
  · refine a_iconst (v := 0) hX dX12_isPlace_19 (by decide) rfl ?_
    exact a_zret hX hT (by decide) hF (r_i hf) dX12_isPlace_20
  · refine a_aload_n hX dX12_isPlace_7 rfl 0 rfl rfl ?_
    refine a_iload_n hX dX12_isPlace_8 rfl 2 rfl rfl ?_
    obtain ⟨x2, hg2, hf⟩ := cl1_some hf
    refine a_cVsi (q0 := 0) (rest := []) hX hE (ctX12_isPeriod (q := q) hE hg2) K_X12_156 ⟨rfl, rfl⟩ ⟨rfl, rfl, by decide, by decide⟩ ⟨Nat.zero_le _, Nat.zero_le _⟩ (Nat.le_of_ble_eq_true rfl) dX12_isPlace_9 rfl rfl ?_
    refine a_if_eq (tgt := 19) hX dX12_isPlace_12 rfl rfl hf (fun hf => ?_) (fun hf => ?_)
    · refine a_iconst (v := 0) hX dX12_isPlace_19 (by decide) rfl ?_
      exact a_zret hX hT (by decide) hF (r_i hf) dX12_isPlace_20
    · refine a_iconst (v := 1) hX dX12_isPlace_15 (by decide) rfl ?_
      refine a_goto (pc' := 20) hX dX12_isPlace_16 rfl ?_
      exact a_zret hX hT (by decide) hF (r_i hf) dX12_isPlace_20
theorem ctX12_isPlace {V : Vx} {q : Nat → Nat} {u : St} {res : Int32} (hE : ZOK (vZ V)) {v1 : Int32} {v2 : Int32} (hf : fX12_isPlace u v1 v2 = some res) : Ct V yX12_isPlace (.code yX12_isPlace cX12_isPlace 3 (some .boolean)) rmX12_isPlace 0 0 [.ref (q 0), .int v1, .int v2] (wM V q u) (rEq (some (.int res)) (wM V q u)) :=
  Ct_of (by decide) (Nat.le_of_ble_eq_true rfl) rfl (fun X hX hT _ hF => wX12_isPlace ⟨hX, hT, hF⟩ hE hf)
def rmX12_way : Room := { frames := 2, cells := 0, slots := 0, locals := 42 }
def fX12_way (u : St) (v1 : Int32) (v2 : Int32) (v3 : Int32) (v4 : Int32) : Option (Int32 × St) := cl1 (fX12_isLand v1) (fun x1 => if x1 = 0 then some ((-2), u) else (cl1 (fX12_isLand v2) (fun x2 => if x2 = 0 then some ((-2), u) else (if v1 = v2 then some ((-2), u) else (cl1 (fX12_in v3 0 ((gZ u 1) - 2)) (fun x3 => if x3 = 0 then some ((-2), u) else (cl1 (fX12_in v4 v3 ((gZ u 1) - 2)) (fun x4 => if x4 = 0 then some ((-2), u) else (if gZ u 3 = 20 then some ((-4), u) else (stI u 4 20 (gZ u 3) v1 (fun u5 => stI u5 5 20 (gZ u5 3) v2 (fun u6 => stI u6 6 20 (gZ u6 3) v3 (fun u7 => stI u7 7 20 (gZ u7 3) v4 (fun u8 => nmS (setZ u8 3 ((gZ u8 3) + 1)) (fun u9 => some ((gZ u9 3) - 1, u9))))))))))))))))
theorem wX12_way {X : Cx} {V : Vx} {q : Nat → Nat} {res : Int32 × St} (h : Run X cX12_way 5 RX12 rmX12_way V (some .int) (rEq (some (.int res.1)) (wM V q res.2))) (hE : ZOK (vZ V)) {u : St} {v1 : Int32} {v2 : Int32} {v3 : Int32} {v4 : Int32} (hf : fX12_way u v1 v2 v3 v4 = some res) : At X 5 0 0 (wM V q u) 0 [(0, .ref (q 0)), (1, .int v1), (2, .int v2), (3, .int v3), (4, .int v4)] [] := by
  obtain ⟨hX, hT, hF⟩ := id h
  unfold fX12_way at hf
  refine a_iload_n hX dX12_way_0 rfl 1 rfl rfl ?_
  obtain ⟨x1, hg1, hf⟩ := cl1_some hf
  refine a_cSpi (rest := []) hX hE (ctX12_isLand hE hg1) K_X12_152 ⟨rfl, rfl, by decide, by decide⟩ ⟨Nat.zero_le _, Nat.zero_le _⟩ (Nat.le_of_ble_eq_true rfl) dX12_way_1 rfl rfl ?_
  refine a_if_eq (tgt := 48) hX dX12_way_4 rfl rfl hf (fun hf => ?_) (fun hf => ?_)
  · refine a_bipush (v := (-2)) hX dX12_way_48 (by decide) rfl ?_
    exact a_iret hX hT hF (r_iS (wf := (wM V q)) hf) dX12_way_50
  · refine a_iload_n hX dX12_way_7 rfl 2 rfl rfl ?_
    obtain ⟨x2, hg2, hf⟩ := cl1_some hf
    refine a_cSpi (rest := []) hX hE (ctX12_isLand hE hg2) K_X12_152 ⟨rfl, rfl, by decide, by decide⟩ ⟨Nat.zero_le _, Nat.zero_le _⟩ (Nat.le_of_ble_eq_true rfl) dX12_way_8 rfl rfl ?_
    refine a_if_eq (tgt := 48) hX dX12_way_11 rfl rfl hf (fun hf => ?_) (fun hf => ?_)
    · refine a_bipush (v := (-2)) hX dX12_way_48 (by decide) rfl ?_
      exact a_iret hX hT hF (r_iS (wf := (wM V q)) hf) dX12_way_50
    · refine a_iload_n hX dX12_way_14 rfl 1 rfl rfl ?_
      refine a_iload_n hX dX12_way_15 rfl 2 rfl rfl ?_
      refine a_icmp_eq (tgt := 48) hX dX12_way_16 rfl rfl hf (fun hf => ?_) (fun hf => ?_)
      · refine a_bipush (v := (-2)) hX dX12_way_48 (by decide) rfl ?_
        exact a_iret hX hT hF (r_iS (wf := (wM V q)) hf) dX12_way_50
      · refine a_iload_n hX dX12_way_19 rfl 3 rfl rfl ?_
        refine a_iconst (v := 0) hX dX12_way_20 (by decide) rfl ?_
        refine a_aload_n hX dX12_way_21 rfl 0 rfl rfl ?_
        refine gX12_1 hX F_X12_124 dX12_way_22 rfl ?_
        refine a_iconst (v := 2) hX dX12_way_25 (by decide) rfl ?_
        refine a_isub hX dX12_way_26 rfl ?_
        obtain ⟨x3, hg3, hf⟩ := cl1_some hf
        refine a_cSpi (rest := []) hX hE (ctX12_in hE hg3) K_X12_148 ⟨rfl, rfl, by decide, by decide⟩ ⟨Nat.zero_le _, Nat.zero_le _⟩ (Nat.le_of_ble_eq_true rfl) dX12_way_27 rfl rfl ?_
        refine a_if_eq (tgt := 48) hX dX12_way_30 rfl rfl hf (fun hf => ?_) (fun hf => ?_)
        · refine a_bipush (v := (-2)) hX dX12_way_48 (by decide) rfl ?_
          exact a_iret hX hT hF (r_iS (wf := (wM V q)) hf) dX12_way_50
        · refine a_iload hX dX12_way_33 4 rfl rfl ?_
          refine a_iload_n hX dX12_way_35 rfl 3 rfl rfl ?_
          refine a_aload_n hX dX12_way_36 rfl 0 rfl rfl ?_
          refine gX12_1 hX F_X12_124 dX12_way_37 rfl ?_
          refine a_iconst (v := 2) hX dX12_way_40 (by decide) rfl ?_
          refine a_isub hX dX12_way_41 rfl ?_
          obtain ⟨x4, hg4, hf⟩ := cl1_some hf
          refine a_cSpi (rest := []) hX hE (ctX12_in hE hg4) K_X12_148 ⟨rfl, rfl, by decide, by decide⟩ ⟨Nat.zero_le _, Nat.zero_le _⟩ (Nat.le_of_ble_eq_true rfl) dX12_way_42 rfl rfl ?_
          refine a_if_ne (tgt := 51) hX dX12_way_45 rfl rfl hf (fun hf => ?_) (fun hf => ?_)
          · refine a_aload_n hX dX12_way_51 rfl 0 rfl rfl ?_
            refine gX12_3 hX F_X12_159 dX12_way_52 rfl ?_
            refine a_bipush (v := 20) hX dX12_way_55 (by decide) rfl ?_
            refine a_icmp_ne (tgt := 63) hX dX12_way_57 rfl rfl hf (fun hf => ?_) (fun hf => ?_)
            · refine a_aload_n hX dX12_way_63 rfl 0 rfl rfl ?_
              refine gX12_4 hX F_X12_13 dX12_way_64 rfl ?_
              refine a_aload_n hX dX12_way_67 rfl 0 rfl rfl ?_
              refine gX12_3 hX F_X12_159 dX12_way_68 rfl ?_
              refine a_iload_n hX dX12_way_71 rfl 1 rfl rfl ?_
              refine sX12_4 hX dX12_way_72 rfl hf (fun u5 hf => ?_)
              refine a_aload_n hX dX12_way_73 rfl 0 rfl rfl ?_
              refine gX12_5 hX F_X12_17 dX12_way_74 rfl ?_
              refine a_aload_n hX dX12_way_77 rfl 0 rfl rfl ?_
              refine gX12_3 hX F_X12_159 dX12_way_78 rfl ?_
              refine a_iload_n hX dX12_way_81 rfl 2 rfl rfl ?_
              refine sX12_5 hX dX12_way_82 rfl hf (fun u6 hf => ?_)
              refine a_aload_n hX dX12_way_83 rfl 0 rfl rfl ?_
              refine gX12_6 hX F_X12_20 dX12_way_84 rfl ?_
              refine a_aload_n hX dX12_way_87 rfl 0 rfl rfl ?_
              refine gX12_3 hX F_X12_159 dX12_way_88 rfl ?_
              refine a_iload_n hX dX12_way_91 rfl 3 rfl rfl ?_
              refine sX12_6 hX dX12_way_92 rfl hf (fun u7 hf => ?_)
              refine a_aload_n hX dX12_way_93 rfl 0 rfl rfl ?_
              refine gX12_7 hX F_X12_23 dX12_way_94 rfl ?_
              refine a_aload_n hX dX12_way_97 rfl 0 rfl rfl ?_
              refine gX12_3 hX F_X12_159 dX12_way_98 rfl ?_
              refine a_iload hX dX12_way_101 4 rfl rfl ?_
              refine sX12_7 hX dX12_way_103 rfl hf (fun u8 hf => ?_)
              refine a_aload_n hX dX12_way_104 rfl 0 rfl rfl ?_
              refine a_dup hX dX12_way_105 rfl rfl ?_
              refine gX12_3 hX F_X12_159 dX12_way_106 rfl ?_
              refine a_iconst (v := 1) hX dX12_way_109 (by decide) rfl ?_
              refine a_iadd hX dX12_way_110 rfl ?_
              refine pX12_3 hX F_X12_159 dX12_way_111 rfl hf (fun u9 hf => ?_)
              refine a_aload_n hX dX12_way_114 rfl 0 rfl rfl ?_
              refine gX12_3 hX F_X12_159 dX12_way_115 rfl ?_
              refine a_iconst (v := 1) hX dX12_way_118 (by decide) rfl ?_
              refine a_isub hX dX12_way_119 rfl ?_
              exact a_iret hX hT hF (r_iS (wf := (wM V q)) hf) dX12_way_120
            · refine a_bipush (v := (-4)) hX dX12_way_60 (by decide) rfl ?_
              exact a_iret hX hT hF (r_iS (wf := (wM V q)) hf) dX12_way_62
          · refine a_bipush (v := (-2)) hX dX12_way_48 (by decide) rfl ?_
            exact a_iret hX hT hF (r_iS (wf := (wM V q)) hf) dX12_way_50
theorem ctX12_way {V : Vx} {q : Nat → Nat} {u : St} {res : Int32 × St} (hE : ZOK (vZ V)) {v1 : Int32} {v2 : Int32} {v3 : Int32} {v4 : Int32} (hf : fX12_way u v1 v2 v3 v4 = some res) : Ct V yX12_way (.code yX12_way cX12_way 5 (some .int)) rmX12_way 0 0 [.ref (q 0), .int v1, .int v2, .int v3, .int v4] (wM V q u) (rEq (some (.int res.1)) (wM V q res.2)) :=
  Ct_of (by decide) (Nat.le_of_ble_eq_true rfl) rfl (fun X hX hT _ hF => wX12_way ⟨hX, hT, hF⟩ hE hf)
def rmX12_soil : Room := { frames := 1, cells := 0, slots := 0, locals := 22 }
def fX12_soil (u : St) (v1 : Int32) : Option (Int32 × St) := cl1 (fX12_in v1 0 31) (fun x1 => if x1 = 0 then some ((-2), u) else (nmI (gZ u 2) (fun x2 => nmS (setZ u 2 v1) (fun u3 => some (x2, u3)))))
theorem wX12_soil {X : Cx} {V : Vx} {q : Nat → Nat} {res : Int32 × St} (h : Run X cX12_soil 3 RX12 rmX12_soil V (some .int) (rEq (some (.int res.1)) (wM V q res.2))) (hE : ZOK (vZ V)) {u : St} {v1 : Int32} (hf : fX12_soil u v1 = some res) : At X 3 0 0 (wM V q u) 0 [(0, .ref (q 0)), (1, .int v1)] [] := by
  obtain ⟨hX, hT, hF⟩ := id h
  unfold fX12_soil at hf
  refine a_iload_n hX dX12_soil_0 rfl 1 rfl rfl ?_
  refine a_iconst (v := 0) hX dX12_soil_1 (by decide) rfl ?_
  refine a_bipush (v := 31) hX dX12_soil_2 (by decide) rfl ?_
  obtain ⟨x1, hg1, hf⟩ := cl1_some hf
  refine a_cSpi (rest := []) hX hE (ctX12_in hE hg1) K_X12_148 ⟨rfl, rfl, by decide, by decide⟩ ⟨Nat.zero_le _, Nat.zero_le _⟩ (Nat.le_of_ble_eq_true rfl) dX12_soil_4 rfl rfl ?_
  refine a_if_ne (tgt := 13) hX dX12_soil_7 rfl rfl hf (fun hf => ?_) (fun hf => ?_)
  · refine a_aload_n hX dX12_soil_13 rfl 0 rfl rfl ?_
    refine gX12_2 hX F_X12_140 dX12_soil_14 rfl ?_
    refine a_nmI hf (fun x2 hf => ?_)
    refine a_istore_n (lv' := [(2, .int x2), (0, .ref (q 0)), (1, .int v1)]) hX dX12_soil_17 rfl (by decide) rfl rfl ?_
    refine a_aload_n hX dX12_soil_18 rfl 1 rfl rfl ?_
    refine a_iload_n hX dX12_soil_19 rfl 2 rfl rfl ?_
    refine pX12_2 hX F_X12_140 dX12_soil_20 rfl hf (fun u3 hf => ?_)
    refine a_iload_n hX dX12_soil_23 rfl 0 rfl rfl ?_
    exact a_iret hX hT hF (r_iS (wf := (wM V q)) hf) dX12_soil_24
  · refine a_bipush (v := (-2)) hX dX12_soil_10 (by decide) rfl ?_
    exact a_iret hX hT hF (r_iS (wf := (wM V q)) hf) dX12_soil_12
theorem ctX12_soil {V : Vx} {q : Nat → Nat} {u : St} {res : Int32 × St} (hE : ZOK (vZ V)) {v1 : Int32} (hf : fX12_soil u v1 = some res) : Ct V yX12_soil (.code yX12_soil cX12_soil 3 (some .int)) rmX12_soil 0 0 [.ref (q 0), .int v1] (wM V q u) (rEq (some (.int res.1)) (wM V q res.2)) :=
  Ct_of (by decide) (Nat.le_of_ble_eq_true rfl) rfl (fun X hX hT _ hF => wX12_soil ⟨hX, hT, hF⟩ hE hf)
def rmX12_openWays : Room := { frames := 1, cells := 0, slots := 0, locals := 22 }
def fX12_openWays_b65 (u : St) (k6 : Int32 → Int32 → Option (Int32)) (v1 : Int32) (v2 : Int32) (v3 : Int32) (v5 : Int32) (s0 : Int32) (s1 : Int32) : Option (Int32) := nmI (s1 + s0) (fun x6 => k6 x6 (v5 + 1))
theorem wX12_openWays_b65 {X : Cx} {V : Vx} {q : Nat → Nat} {u : St} {res : Int32} (h : Run X cX12_openWays 6 RX12 rmX12_openWays V (some .int) (rEq (some (.int res)) (wM V q u))) (hE : ZOK (vZ V)) {v1 : Int32} {v2 : Int32} {v3 : Int32} {v5 : Int32} {s0 : Int32} {s1 : Int32} {k6 : Int32 → Int32 → Option (Int32)} (hk6 : ∀ (v4 : Int32) (v5 : Int32), k6 v4 v5 = some res → At X 6 0 0 (wM V q u) 6 [(0, .ref (q 0)), (1, .int v1), (2, .int v2), (3, .int v3), (4, .int v4), (5, .int v5)] []) (hf : fX12_openWays_b65 u k6 v1 v2 v3 v5 s0 s1 = some res) : At X 6 0 0 (wM V q u) 65 [(0, .ref (q 0)), (1, .int v1), (2, .int v2), (3, .int v3), (5, .int v5)] [.int s0, .int s1] := by
  obtain ⟨hX, hT, hF⟩ := id h
  unfold fX12_openWays_b65 at hf
  refine a_iadd hX dX12_openWays_65 rfl ?_
  refine a_nmI hf (fun x6 hf => ?_)
  refine a_istore (lv' := [(4, .int x6), (0, .ref (q 0)), (1, .int v1), (2, .int v2), (3, .int v3), (5, .int v5)]) hX dX12_openWays_66 (by decide) rfl rfl ?_
  refine a_iinc (v := v5 + 1) (lv' := [(5, .int (v5 + 1)), (4, .int x6), (0, .ref (q 0)), (1, .int v1), (2, .int v2), (3, .int v3)]) hX dX12_openWays_68 5 rfl rfl (by decide) rfl rfl ?_
  refine a_goto (pc' := 6) hX dX12_openWays_71 rfl ?_
  refine a_lv (lv' := [(0, .ref (q 0)), (1, .int v1), (2, .int v2), (3, .int v3), (4, .int x6), (5, .int (v5 + 1))]) [2, 3, 4, 5, 1, 0] rfl ?_
  exact hk6 x6 (v5 + 1) hf
def fX12_openWays_b64 (u : St) (k6 : Int32 → Int32 → Option (Int32)) (v1 : Int32) (v2 : Int32) (v3 : Int32) (v5 : Int32) (s0 : Int32) : Option (Int32) := fX12_openWays_b65 u k6 v1 v2 v3 v5 0 s0
theorem wX12_openWays_b64 {X : Cx} {V : Vx} {q : Nat → Nat} {u : St} {res : Int32} (h : Run X cX12_openWays 6 RX12 rmX12_openWays V (some .int) (rEq (some (.int res)) (wM V q u))) (hE : ZOK (vZ V)) {v1 : Int32} {v2 : Int32} {v3 : Int32} {v5 : Int32} {s0 : Int32} {k6 : Int32 → Int32 → Option (Int32)} (hk6 : ∀ (v4 : Int32) (v5 : Int32), k6 v4 v5 = some res → At X 6 0 0 (wM V q u) 6 [(0, .ref (q 0)), (1, .int v1), (2, .int v2), (3, .int v3), (4, .int v4), (5, .int v5)] []) (hf : fX12_openWays_b64 u k6 v1 v2 v3 v5 s0 = some res) : At X 6 0 0 (wM V q u) 64 [(0, .ref (q 0)), (1, .int v1), (2, .int v2), (3, .int v3), (5, .int v5)] [.int s0] := by
  obtain ⟨hX, hT, hF⟩ := id h
  unfold fX12_openWays_b64 at hf
  refine a_iconst (v := 0) hX dX12_openWays_64 (by decide) rfl ?_
  exact wX12_openWays_b65 h hE hk6 hf
def fX12_openWays_l6b (u : St) (k6 : Int32 → Int32 → Option (Int32)) (v1 : Int32) (v2 : Int32) (v3 : Int32) (v4 : Int32) (v5 : Int32) : Option (Int32) := if gZ u 3 ≤ v5 then some v4 else (ldI (gA u 4) 20 v5 (fun x1 => if x1 = v1 then ldI (gA u 5) 20 v5 (fun x2 => if x2 = v2 then ldI (gA u 6) 20 v5 (fun x3 => ldI (gA u 7) 20 v5 (fun x4 => cl1 (fX12_in v3 x3 x4) (fun x5 => if x5 = 0 then fX12_openWays_b64 u k6 v1 v2 v3 v5 v4 else (fX12_openWays_b65 u k6 v1 v2 v3 v5 1 v4)))) else (fX12_openWays_b64 u k6 v1 v2 v3 v5 v4)) else (fX12_openWays_b64 u k6 v1 v2 v3 v5 v4)))
theorem wX12_openWays_l6b {X : Cx} {V : Vx} {q : Nat → Nat} {u : St} {res : Int32} (h : Run X cX12_openWays 6 RX12 rmX12_openWays V (some .int) (rEq (some (.int res)) (wM V q u))) (hE : ZOK (vZ V)) {v1 : Int32} {v2 : Int32} {v3 : Int32} {v4 : Int32} {v5 : Int32} {k6 : Int32 → Int32 → Option (Int32)} (hk6 : ∀ (v4 : Int32) (v5 : Int32), k6 v4 v5 = some res → At X 6 0 0 (wM V q u) 6 [(0, .ref (q 0)), (1, .int v1), (2, .int v2), (3, .int v3), (4, .int v4), (5, .int v5)] []) (hf : fX12_openWays_l6b u k6 v1 v2 v3 v4 v5 = some res) : At X 6 0 0 (wM V q u) 6 [(0, .ref (q 0)), (1, .int v1), (2, .int v2), (3, .int v3), (4, .int v4), (5, .int v5)] [] := by
  obtain ⟨hX, hT, hF⟩ := id h
  unfold fX12_openWays_l6b at hf
  refine a_iload hX dX12_openWays_6 5 rfl rfl ?_
  refine a_aload_n hX dX12_openWays_8 rfl 0 rfl rfl ?_
  refine gX12_3 hX F_X12_159 dX12_openWays_9 rfl ?_
  refine a_icmp_ge (tgt := 74) hX dX12_openWays_12 rfl rfl hf (fun hf => ?_) (fun hf => ?_)
  · refine a_iload hX dX12_openWays_74 4 rfl rfl ?_
    exact a_iret hX hT hF (r_i hf) dX12_openWays_76
  · refine a_iload hX dX12_openWays_15 4 rfl rfl ?_
    refine a_aload_n hX dX12_openWays_17 rfl 0 rfl rfl ?_
    refine gX12_4 hX F_X12_13 dX12_openWays_18 rfl ?_
    refine a_iload hX dX12_openWays_21 5 rfl rfl ?_
    refine lX12_4 hX dX12_openWays_23 rfl hf (fun x1 hf => ?_)
    refine a_iload_n hX dX12_openWays_24 rfl 1 rfl rfl ?_
    refine a_icmp_ne (tgt := 64) hX dX12_openWays_25 rfl rfl hf (fun hf => ?_) (fun hf => ?_)
    · refine a_lv (lv' := [(0, .ref (q 0)), (1, .int v1), (2, .int v2), (3, .int v3), (5, .int v5)]) [0, 1, 2, 3, 5] rfl ?_
      exact wX12_openWays_b64 h hE hk6 hf
    · refine a_aload_n hX dX12_openWays_28 rfl 0 rfl rfl ?_
      refine gX12_5 hX F_X12_17 dX12_openWays_29 rfl ?_
      refine a_iload hX dX12_openWays_32 5 rfl rfl ?_
      refine lX12_5 hX dX12_openWays_34 rfl hf (fun x2 hf => ?_)
      refine a_iload_n hX dX12_openWays_35 rfl 2 rfl rfl ?_
      refine a_icmp_ne (tgt := 64) hX dX12_openWays_36 rfl rfl hf (fun hf => ?_) (fun hf => ?_)
      · refine a_lv (lv' := [(0, .ref (q 0)), (1, .int v1), (2, .int v2), (3, .int v3), (5, .int v5)]) [0, 1, 2, 3, 5] rfl ?_
        exact wX12_openWays_b64 h hE hk6 hf
      · refine a_iload_n hX dX12_openWays_39 rfl 3 rfl rfl ?_
        refine a_aload_n hX dX12_openWays_40 rfl 0 rfl rfl ?_
        refine gX12_6 hX F_X12_20 dX12_openWays_41 rfl ?_
        refine a_iload hX dX12_openWays_44 5 rfl rfl ?_
        refine lX12_6 hX dX12_openWays_46 rfl hf (fun x3 hf => ?_)
        refine a_aload_n hX dX12_openWays_47 rfl 0 rfl rfl ?_
        refine gX12_7 hX F_X12_23 dX12_openWays_48 rfl ?_
        refine a_iload hX dX12_openWays_51 5 rfl rfl ?_
        refine lX12_7 hX dX12_openWays_53 rfl hf (fun x4 hf => ?_)
        obtain ⟨x5, hg5, hf⟩ := cl1_some hf
        refine a_cSpi (rest := [.int v4]) hX hE (ctX12_in hE hg5) K_X12_148 ⟨rfl, rfl, by decide, by decide⟩ ⟨Nat.zero_le _, Nat.zero_le _⟩ (Nat.le_of_ble_eq_true rfl) dX12_openWays_54 rfl rfl ?_
        refine a_if_eq (tgt := 64) hX dX12_openWays_57 rfl rfl hf (fun hf => ?_) (fun hf => ?_)
        · refine a_lv (lv' := [(0, .ref (q 0)), (1, .int v1), (2, .int v2), (3, .int v3), (5, .int v5)]) [0, 1, 2, 3, 5] rfl ?_
          exact wX12_openWays_b64 h hE hk6 hf
        · refine a_iconst (v := 1) hX dX12_openWays_60 (by decide) rfl ?_
          refine a_goto (pc' := 65) hX dX12_openWays_61 rfl ?_
          refine a_lv (lv' := [(0, .ref (q 0)), (1, .int v1), (2, .int v2), (3, .int v3), (5, .int v5)]) [0, 1, 2, 3, 5] rfl ?_
          exact wX12_openWays_b65 h hE hk6 hf
def fX12_openWays_l6 (u : St)  (v1 : Int32) (v2 : Int32) (v3 : Int32) : Nat → Int32 → Int32 → Option (Int32)
  | 0, _, _ => none
  | m + 1, v4, v5 => fX12_openWays_l6b u (fX12_openWays_l6 u  v1 v2 v3 m) v1 v2 v3 v4 v5
theorem wX12_openWays_l6 {X : Cx} {V : Vx} {q : Nat → Nat} {u : St} {res : Int32} (h : Run X cX12_openWays 6 RX12 rmX12_openWays V (some .int) (rEq (some (.int res)) (wM V q u))) (hE : ZOK (vZ V)) {v1 : Int32} {v2 : Int32} {v3 : Int32} : ∀ (m : Nat) (v4 : Int32) (v5 : Int32), fX12_openWays_l6 u  v1 v2 v3 m v4 v5 = some res → At X 6 0 0 (wM V q u) 6 [(0, .ref (q 0)), (1, .int v1), (2, .int v2), (3, .int v3), (4, .int v4), (5, .int v5)] [] := by
  intro m
  induction m with
  | zero => intro v4 v5 hf; cases hf
  | succ m ih => intro v4 v5 hf; exact wX12_openWays_l6b h hE ih hf
def fX12_openWays (u : St) (v1 : Int32) (v2 : Int32) (v3 : Int32) : Option (Int32) := fX12_openWays_l6 u v1 v2 v3 NF 0 0
theorem wX12_openWays {X : Cx} {V : Vx} {q : Nat → Nat} {u : St} {res : Int32} (h : Run X cX12_openWays 6 RX12 rmX12_openWays V (some .int) (rEq (some (.int res)) (wM V q u))) (hE : ZOK (vZ V)) {v1 : Int32} {v2 : Int32} {v3 : Int32} (hf : fX12_openWays u v1 v2 v3 = some res) : At X 6 0 0 (wM V q u) 0 [(0, .ref (q 0)), (1, .int v1), (2, .int v2), (3, .int v3)] [] := by
  obtain ⟨hX, hT, hF⟩ := id h
  unfold fX12_openWays at hf
  refine a_iconst (v := 0) hX dX12_openWays_0 (by decide) rfl ?_
  refine a_istore (lv' := [(4, .int 0), (0, .ref (q 0)), (1, .int v1), (2, .int v2), (3, .int v3)]) hX dX12_openWays_1 (by decide) rfl rfl ?_
  refine a_iconst (v := 0) hX dX12_openWays_3 (by decide) rfl ?_
  refine a_istore (lv' := [(5, .int 0), (4, .int 0), (0, .ref (q 0)), (1, .int v1), (2, .int v2), (3, .int v3)]) hX dX12_openWays_4 (by decide) rfl rfl ?_
  refine a_lv (lv' := [(0, .ref (q 0)), (1, .int v1), (2, .int v2), (3, .int v3), (4, .int 0), (5, .int 0)]) [2, 3, 4, 5, 1, 0] rfl ?_
  exact wX12_openWays_l6 h hE NF 0 0 hf
theorem ctX12_openWays {V : Vx} {q : Nat → Nat} {u : St} {res : Int32} (hE : ZOK (vZ V)) {v1 : Int32} {v2 : Int32} {v3 : Int32} (hf : fX12_openWays u v1 v2 v3 = some res) : Ct V yX12_openWays (.code yX12_openWays cX12_openWays 6 (some .int)) rmX12_openWays 0 0 [.ref (q 0), .int v1, .int v2, .int v3] (wM V q u) (rEq (some (.int res)) (wM V q u)) :=
  Ct_of (by decide) (Nat.le_of_ble_eq_true rfl) rfl (fun X hX hT _ hF => wX12_openWays ⟨hX, hT, hF⟩ hE hf)
def rmX12_isPaper : Room := { frames := 1, cells := 0, slots := 0, locals := 22 }
def fX12_isPaper (u : St) (v1 : Int32) : Option (Int32) := cl1 (fX12_in v1 0 ((gZ u 8) - 1)) (fun x1 => rtZ x1 x1)
theorem wX12_isPaper {X : Cx} {V : Vx} {q : Nat → Nat} {u : St} {res : Int32} (h : Run X cX12_isPaper 2 RX12 rmX12_isPaper V (some .boolean) (rEq (some (.int res)) (wM V q u))) (hE : ZOK (vZ V)) {v1 : Int32} (hf : fX12_isPaper u v1 = some res) : At X 2 0 0 (wM V q u) 0 [(0, .ref (q 0)), (1, .int v1)] [] := by
  obtain ⟨hX, hT, hF⟩ := id h
  unfold fX12_isPaper at hf
  refine a_iload_n hX dX12_isPaper_0 rfl 1 rfl rfl ?_
  refine a_iconst (v := 0) hX dX12_isPaper_1 (by decide) rfl ?_
  refine a_aload_n hX dX12_isPaper_2 rfl 0 rfl rfl ?_
  refine gX12_8 hX F_X12_162 dX12_isPaper_3 rfl ?_
  refine a_iconst (v := 1) hX dX12_isPaper_6 (by decide) rfl ?_
  refine a_isub hX dX12_isPaper_7 rfl ?_
  obtain ⟨x1, hg1, hf⟩ := cl1_some hf
  refine a_cSpi (rest := []) hX hE (ctX12_in hE hg1) K_X12_148 ⟨rfl, rfl, by decide, by decide⟩ ⟨Nat.zero_le _, Nat.zero_le _⟩ (Nat.le_of_ble_eq_true rfl) dX12_isPaper_8 rfl rfl ?_
  exact a_zret hX hT (r_z hf).1 hF (r_i (r_z hf).2) dX12_isPaper_11
theorem ctX12_isPaper {V : Vx} {q : Nat → Nat} {u : St} {res : Int32} (hE : ZOK (vZ V)) {v1 : Int32} (hf : fX12_isPaper u v1 = some res) : Ct V yX12_isPaper (.code yX12_isPaper cX12_isPaper 2 (some .boolean)) rmX12_isPaper 0 0 [.ref (q 0), .int v1] (wM V q u) (rEq (some (.int res)) (wM V q u)) :=
  Ct_of (by decide) (Nat.le_of_ble_eq_true rfl) rfl (fun X hX hT _ hF => wX12_isPaper ⟨hX, hT, hF⟩ hE hf)
def rmX12_paper : Room := { frames := 2, cells := 0, slots := 0, locals := 43 }
def fX12_paper (u : St) (v1 : Int32) (v2 : Int32) (v3 : Int32) (v4 : Int32) (v5 : Int32) : Option (Int32 × St) := cl1 (fX12_in v1 0 5) (fun x1 => if x1 = 0 then some ((-2), u) else (cl1 (fX12_isLand v2) (fun x2 => if x2 = 0 then some ((-2), u) else (cl1 (fX12_isLand v3) (fun x3 => if x3 = 0 then some ((-2), u) else (cl1 (fX12_isPeriod u v4) (fun x4 => if x4 = 0 then some ((-2), u) else (if v5 < 0 then some ((-2), u) else (if v5 >>> ((gZ u 8) &&& 31) = 0 then if gZ u 8 = 16 then some ((-4), u) else (stI u 9 16 (gZ u 8) v1 (fun u5 => stI u5 10 16 (gZ u5 8) v2 (fun u6 => stI u6 11 16 (gZ u6 8) v3 (fun u7 => stI u7 12 16 (gZ u7 8) v4 (fun u8 => stI u8 13 16 (gZ u8 8) v5 (fun u9 => stZ u9 14 16 (gZ u9 8) 0 (fun u10 => nmS (setZ u10 8 ((gZ u10 8) + 1)) (fun u11 => some ((gZ u11 8) - 1, u11))))))))) else (some ((-2), u)))))))))))
theorem wX12_paper {X : Cx} {V : Vx} {q : Nat → Nat} {res : Int32 × St} (h : Run X cX12_paper 6 RX12 rmX12_paper V (some .int) (rEq (some (.int res.1)) (wM V q res.2))) (hE : ZOK (vZ V)) {u : St} {v1 : Int32} {v2 : Int32} {v3 : Int32} {v4 : Int32} {v5 : Int32} (hf : fX12_paper u v1 v2 v3 v4 v5 = some res) : At X 6 0 0 (wM V q u) 0 [(0, .ref (q 0)), (1, .int v1), (2, .int v2), (3, .int v3), (4, .int v4), (5, .int v5)] [] := by
  obtain ⟨hX, hT, hF⟩ := id h
  unfold fX12_paper at hf
  refine a_iload_n hX dX12_paper_0 rfl 1 rfl rfl ?_
  refine a_iconst (v := 0) hX dX12_paper_1 (by decide) rfl ?_
  refine a_iconst (v := 5) hX dX12_paper_2 (by decide) rfl ?_
  obtain ⟨x1, hg1, hf⟩ := cl1_some hf
  refine a_cSpi (rest := []) hX hE (ctX12_in hE hg1) K_X12_148 ⟨rfl, rfl, by decide, by decide⟩ ⟨Nat.zero_le _, Nat.zero_le _⟩ (Nat.le_of_ble_eq_true rfl) dX12_paper_3 rfl rfl ?_
  refine a_if_eq (tgt := 47) hX dX12_paper_6 rfl rfl hf (fun hf => ?_) (fun hf => ?_)
  · refine a_bipush (v := (-2)) hX dX12_paper_47 (by decide) rfl ?_
    exact a_iret hX hT hF (r_iS (wf := (wM V q)) hf) dX12_paper_49
  · refine a_iload_n hX dX12_paper_9 rfl 2 rfl rfl ?_
    obtain ⟨x2, hg2, hf⟩ := cl1_some hf
    refine a_cSpi (rest := []) hX hE (ctX12_isLand hE hg2) K_X12_152 ⟨rfl, rfl, by decide, by decide⟩ ⟨Nat.zero_le _, Nat.zero_le _⟩ (Nat.le_of_ble_eq_true rfl) dX12_paper_10 rfl rfl ?_
    refine a_if_eq (tgt := 47) hX dX12_paper_13 rfl rfl hf (fun hf => ?_) (fun hf => ?_)
    · refine a_bipush (v := (-2)) hX dX12_paper_47 (by decide) rfl ?_
      exact a_iret hX hT hF (r_iS (wf := (wM V q)) hf) dX12_paper_49
    · refine a_iload_n hX dX12_paper_16 rfl 3 rfl rfl ?_
      obtain ⟨x3, hg3, hf⟩ := cl1_some hf
      refine a_cSpi (rest := []) hX hE (ctX12_isLand hE hg3) K_X12_152 ⟨rfl, rfl, by decide, by decide⟩ ⟨Nat.zero_le _, Nat.zero_le _⟩ (Nat.le_of_ble_eq_true rfl) dX12_paper_17 rfl rfl ?_
      refine a_if_eq (tgt := 47) hX dX12_paper_20 rfl rfl hf (fun hf => ?_) (fun hf => ?_)
      · refine a_bipush (v := (-2)) hX dX12_paper_47 (by decide) rfl ?_
        exact a_iret hX hT hF (r_iS (wf := (wM V q)) hf) dX12_paper_49
      · refine a_aload_n hX dX12_paper_23 rfl 0 rfl rfl ?_
        refine a_iload hX dX12_paper_24 4 rfl rfl ?_
        obtain ⟨x4, hg4, hf⟩ := cl1_some hf
        refine a_cVsi (q0 := 0) (rest := []) hX hE (ctX12_isPeriod (q := q) hE hg4) K_X12_156 ⟨rfl, rfl⟩ ⟨rfl, rfl, by decide, by decide⟩ ⟨Nat.zero_le _, Nat.zero_le _⟩ (Nat.le_of_ble_eq_true rfl) dX12_paper_26 rfl rfl ?_
        refine a_if_eq (tgt := 47) hX dX12_paper_29 rfl rfl hf (fun hf => ?_) (fun hf => ?_)
        · refine a_bipush (v := (-2)) hX dX12_paper_47 (by decide) rfl ?_
          exact a_iret hX hT hF (r_iS (wf := (wM V q)) hf) dX12_paper_49
        · refine a_iload hX dX12_paper_32 5 rfl rfl ?_
          refine a_if_lt (tgt := 47) hX dX12_paper_34 rfl rfl hf (fun hf => ?_) (fun hf => ?_)
          · refine a_bipush (v := (-2)) hX dX12_paper_47 (by decide) rfl ?_
            exact a_iret hX hT hF (r_iS (wf := (wM V q)) hf) dX12_paper_49
          · refine a_iload hX dX12_paper_37 5 rfl rfl ?_
            refine a_aload_n hX dX12_paper_39 rfl 0 rfl rfl ?_
            refine gX12_8 hX F_X12_162 dX12_paper_40 rfl ?_
            refine a_ishr hX dX12_paper_43 rfl ?_
            refine a_if_eq (tgt := 50) hX dX12_paper_44 rfl rfl hf (fun hf => ?_) (fun hf => ?_)
            · refine a_aload_n hX dX12_paper_50 rfl 0 rfl rfl ?_
              refine gX12_8 hX F_X12_162 dX12_paper_51 rfl ?_
              refine a_bipush (v := 16) hX dX12_paper_54 (by decide) rfl ?_
              refine a_icmp_ne (tgt := 62) hX dX12_paper_56 rfl rfl hf (fun hf => ?_) (fun hf => ?_)
              · refine a_aload_n hX dX12_paper_62 rfl 0 rfl rfl ?_
                refine gX12_9 hX F_X12_26 dX12_paper_63 rfl ?_
                refine a_aload_n hX dX12_paper_66 rfl 0 rfl rfl ?_
                refine gX12_8 hX F_X12_162 dX12_paper_67 rfl ?_
                refine a_iload_n hX dX12_paper_70 rfl 1 rfl rfl ?_
                refine sX12_9 hX dX12_paper_71 rfl hf (fun u5 hf => ?_)
                refine a_aload_n hX dX12_paper_72 rfl 0 rfl rfl ?_
                refine gX12_10 hX F_X12_29 dX12_paper_73 rfl ?_
                refine a_aload_n hX dX12_paper_76 rfl 0 rfl rfl ?_
                refine gX12_8 hX F_X12_162 dX12_paper_77 rfl ?_
                refine a_iload_n hX dX12_paper_80 rfl 2 rfl rfl ?_
                refine sX12_10 hX dX12_paper_81 rfl hf (fun u6 hf => ?_)
                refine a_aload_n hX dX12_paper_82 rfl 0 rfl rfl ?_
                refine gX12_11 hX F_X12_32 dX12_paper_83 rfl ?_
                refine a_aload_n hX dX12_paper_86 rfl 0 rfl rfl ?_
                refine gX12_8 hX F_X12_162 dX12_paper_87 rfl ?_
                refine a_iload_n hX dX12_paper_90 rfl 3 rfl rfl ?_
                refine sX12_11 hX dX12_paper_91 rfl hf (fun u7 hf => ?_)
                refine a_aload_n hX dX12_paper_92 rfl 0 rfl rfl ?_
                refine gX12_12 hX F_X12_35 dX12_paper_93 rfl ?_
                refine a_aload_n hX dX12_paper_96 rfl 0 rfl rfl ?_
                refine gX12_8 hX F_X12_162 dX12_paper_97 rfl ?_
                refine a_iload hX dX12_paper_100 4 rfl rfl ?_
                refine sX12_12 hX dX12_paper_102 rfl hf (fun u8 hf => ?_)
                refine a_aload_n hX dX12_paper_103 rfl 0 rfl rfl ?_
                refine gX12_13 hX F_X12_38 dX12_paper_104 rfl ?_
                refine a_aload_n hX dX12_paper_107 rfl 0 rfl rfl ?_
                refine gX12_8 hX F_X12_162 dX12_paper_108 rfl ?_
                refine a_iload hX dX12_paper_111 5 rfl rfl ?_
                refine sX12_13 hX dX12_paper_113 rfl hf (fun u9 hf => ?_)
                refine a_aload_n hX dX12_paper_114 rfl 0 rfl rfl ?_
                refine gX12_14 hX F_X12_41 dX12_paper_115 rfl ?_
                refine a_aload_n hX dX12_paper_118 rfl 0 rfl rfl ?_
                refine gX12_8 hX F_X12_162 dX12_paper_119 rfl ?_
                refine a_iconst (v := 0) hX dX12_paper_122 (by decide) rfl ?_
                refine sX12_14 hX dX12_paper_123 rfl hf (fun u10 hf => ?_)
                refine a_aload_n hX dX12_paper_124 rfl 0 rfl rfl ?_
                refine a_dup hX dX12_paper_125 rfl rfl ?_
                refine gX12_8 hX F_X12_162 dX12_paper_126 rfl ?_
                refine a_iconst (v := 1) hX dX12_paper_129 (by decide) rfl ?_
                refine a_iadd hX dX12_paper_130 rfl ?_
                refine pX12_8 hX F_X12_162 dX12_paper_131 rfl hf (fun u11 hf => ?_)
                refine a_aload_n hX dX12_paper_134 rfl 0 rfl rfl ?_
                refine gX12_8 hX F_X12_162 dX12_paper_135 rfl ?_
                refine a_iconst (v := 1) hX dX12_paper_138 (by decide) rfl ?_
                refine a_isub hX dX12_paper_139 rfl ?_
                exact a_iret hX hT hF (r_iS (wf := (wM V q)) hf) dX12_paper_140
              · refine a_bipush (v := (-4)) hX dX12_paper_59 (by decide) rfl ?_
                exact a_iret hX hT hF (r_iS (wf := (wM V q)) hf) dX12_paper_61
            · refine a_bipush (v := (-2)) hX dX12_paper_47 (by decide) rfl ?_
              exact a_iret hX hT hF (r_iS (wf := (wM V q)) hf) dX12_paper_49
theorem ctX12_paper {V : Vx} {q : Nat → Nat} {u : St} {res : Int32 × St} (hE : ZOK (vZ V)) {v1 : Int32} {v2 : Int32} {v3 : Int32} {v4 : Int32} {v5 : Int32} (hf : fX12_paper u v1 v2 v3 v4 v5 = some res) : Ct V yX12_paper (.code yX12_paper cX12_paper 6 (some .int)) rmX12_paper 0 0 [.ref (q 0), .int v1, .int v2, .int v3, .int v4, .int v5] (wM V q u) (rEq (some (.int res.1)) (wM V q res.2)) :=
  Ct_of (by decide) (Nat.le_of_ble_eq_true rfl) rfl (fun X hX hT _ hF => wX12_paper ⟨hX, hT, hF⟩ hE hf)
def rmX12_standing : Room := { frames := 0, cells := 0, slots := 0, locals := 0 }
def fX12_standing_b45 (u : St) (k4 : Int32 → Int32 → Option (Int32)) (v1 : Int32) (v2 : Int32) (v3 : Int32) : Option (Int32) := k4 v2 (v3 + 1)
theorem wX12_standing_b45 {X : Cx} {V : Vx} {q : Nat → Nat} {u : St} {res : Int32} (h : Run X cX12_standing 4 RX12 rmX12_standing V (some .int) (rEq (some (.int res)) (wM V q u))) (hE : ZOK (vZ V)) {v1 : Int32} {v2 : Int32} {v3 : Int32} {k4 : Int32 → Int32 → Option (Int32)} (hk4 : ∀ (v2 : Int32) (v3 : Int32), k4 v2 v3 = some res → At X 4 0 0 (wM V q u) 4 [(0, .ref (q 0)), (1, .int v1), (2, .int v2), (3, .int v3)] []) (hf : fX12_standing_b45 u k4 v1 v2 v3 = some res) : At X 4 0 0 (wM V q u) 45 [(0, .ref (q 0)), (1, .int v1), (2, .int v2), (3, .int v3)] [] := by
  obtain ⟨hX, hT, hF⟩ := id h
  unfold fX12_standing_b45 at hf
  refine a_iinc (v := v3 + 1) (lv' := [(3, .int (v3 + 1)), (0, .ref (q 0)), (1, .int v1), (2, .int v2)]) hX dX12_standing_45 3 rfl rfl (by decide) rfl rfl ?_
  refine a_goto (pc' := 4) hX dX12_standing_48 rfl ?_
  refine a_lv (lv' := [(0, .ref (q 0)), (1, .int v1), (2, .int v2), (3, .int (v3 + 1))]) [1, 2, 3, 0] rfl ?_
  exact hk4 v2 (v3 + 1) hf
def fX12_standing_l4b (u : St) (k4 : Int32 → Int32 → Option (Int32)) (v1 : Int32) (v2 : Int32) (v3 : Int32) : Option (Int32) := if gZ u 8 ≤ v3 then some v2 else (ldI (gA u 14) 16 v3 (fun x1 => if x1 = 0 then if v3 = v1 then fX12_standing_b45 u k4 v1 v2 v3 else (ldI (gA u 13) 16 v3 (fun x2 => if x2 &&& (v2 ^^^ (-1)) = 0 then nmI (v2 ||| ((1 : Int32) <<< (v3 &&& 31))) (fun x3 => fX12_standing_b45 u k4 v1 x3 v3) else (fX12_standing_b45 u k4 v1 v2 v3))) else (fX12_standing_b45 u k4 v1 v2 v3)))
theorem wX12_standing_l4b {X : Cx} {V : Vx} {q : Nat → Nat} {u : St} {res : Int32} (h : Run X cX12_standing 4 RX12 rmX12_standing V (some .int) (rEq (some (.int res)) (wM V q u))) (hE : ZOK (vZ V)) {v1 : Int32} {v2 : Int32} {v3 : Int32} {k4 : Int32 → Int32 → Option (Int32)} (hk4 : ∀ (v2 : Int32) (v3 : Int32), k4 v2 v3 = some res → At X 4 0 0 (wM V q u) 4 [(0, .ref (q 0)), (1, .int v1), (2, .int v2), (3, .int v3)] []) (hf : fX12_standing_l4b u k4 v1 v2 v3 = some res) : At X 4 0 0 (wM V q u) 4 [(0, .ref (q 0)), (1, .int v1), (2, .int v2), (3, .int v3)] [] := by
  obtain ⟨hX, hT, hF⟩ := id h
  unfold fX12_standing_l4b at hf
  refine a_iload_n hX dX12_standing_4 rfl 3 rfl rfl ?_
  refine a_aload_n hX dX12_standing_5 rfl 0 rfl rfl ?_
  refine gX12_8 hX F_X12_162 dX12_standing_6 rfl ?_
  refine a_icmp_ge (tgt := 51) hX dX12_standing_9 rfl rfl hf (fun hf => ?_) (fun hf => ?_)
  · refine a_iload_n hX dX12_standing_51 rfl 2 rfl rfl ?_
    exact a_iret hX hT hF (r_i hf) dX12_standing_52
  · refine a_aload_n hX dX12_standing_12 rfl 0 rfl rfl ?_
    refine gX12_14 hX F_X12_41 dX12_standing_13 rfl ?_
    refine a_iload_n hX dX12_standing_16 rfl 3 rfl rfl ?_
    refine lX12_14 hX dX12_standing_17 rfl hf (fun x1 hf => ?_)
    refine a_if_ne (tgt := 45) hX dX12_standing_18 rfl rfl hf (fun hf => ?_) (fun hf => ?_)
    · exact wX12_standing_b45 h hE hk4 hf
    · refine a_iload_n hX dX12_standing_21 rfl 3 rfl rfl ?_
      refine a_iload_n hX dX12_standing_22 rfl 1 rfl rfl ?_
      refine a_icmp_eq (tgt := 45) hX dX12_standing_23 rfl rfl hf (fun hf => ?_) (fun hf => ?_)
      · exact wX12_standing_b45 h hE hk4 hf
      · refine a_aload_n hX dX12_standing_26 rfl 0 rfl rfl ?_
        refine gX12_13 hX F_X12_38 dX12_standing_27 rfl ?_
        refine a_iload_n hX dX12_standing_30 rfl 3 rfl rfl ?_
        refine lX12_13 hX dX12_standing_31 rfl hf (fun x2 hf => ?_)
        refine a_iload_n hX dX12_standing_32 rfl 2 rfl rfl ?_
        refine a_iconst (v := (-1)) hX dX12_standing_33 (by decide) rfl ?_
        refine a_ixor hX dX12_standing_34 rfl ?_
        refine a_iand hX dX12_standing_35 rfl ?_
        refine a_if_ne (tgt := 45) hX dX12_standing_36 rfl rfl hf (fun hf => ?_) (fun hf => ?_)
        · exact wX12_standing_b45 h hE hk4 hf
        · refine a_iload_n hX dX12_standing_39 rfl 2 rfl rfl ?_
          refine a_iconst (v := 1) hX dX12_standing_40 (by decide) rfl ?_
          refine a_iload_n hX dX12_standing_41 rfl 3 rfl rfl ?_
          refine a_ishl hX dX12_standing_42 rfl ?_
          refine a_ior hX dX12_standing_43 rfl ?_
          refine a_nmI hf (fun x3 hf => ?_)
          refine a_istore_n (lv' := [(2, .int x3), (0, .ref (q 0)), (1, .int v1), (3, .int v3)]) hX dX12_standing_44 rfl (by decide) rfl rfl ?_
          refine a_lv (lv' := [(0, .ref (q 0)), (1, .int v1), (2, .int x3), (3, .int v3)]) [1, 2, 0, 3] rfl ?_
          exact wX12_standing_b45 h hE hk4 hf
def fX12_standing_l4 (u : St)  (v1 : Int32) : Nat → Int32 → Int32 → Option (Int32)
  | 0, _, _ => none
  | m + 1, v2, v3 => fX12_standing_l4b u (fX12_standing_l4 u  v1 m) v1 v2 v3
theorem wX12_standing_l4 {X : Cx} {V : Vx} {q : Nat → Nat} {u : St} {res : Int32} (h : Run X cX12_standing 4 RX12 rmX12_standing V (some .int) (rEq (some (.int res)) (wM V q u))) (hE : ZOK (vZ V)) {v1 : Int32} : ∀ (m : Nat) (v2 : Int32) (v3 : Int32), fX12_standing_l4 u  v1 m v2 v3 = some res → At X 4 0 0 (wM V q u) 4 [(0, .ref (q 0)), (1, .int v1), (2, .int v2), (3, .int v3)] [] := by
  intro m
  induction m with
  | zero => intro v2 v3 hf; cases hf
  | succ m ih => intro v2 v3 hf; exact wX12_standing_l4b h hE ih hf
def fX12_standing (u : St) (v1 : Int32) : Option (Int32) := fX12_standing_l4 u v1 NF 0 0
theorem wX12_standing {X : Cx} {V : Vx} {q : Nat → Nat} {u : St} {res : Int32} (h : Run X cX12_standing 4 RX12 rmX12_standing V (some .int) (rEq (some (.int res)) (wM V q u))) (hE : ZOK (vZ V)) {v1 : Int32} (hf : fX12_standing u v1 = some res) : At X 4 0 0 (wM V q u) 0 [(0, .ref (q 0)), (1, .int v1)] [] := by
  obtain ⟨hX, hT, hF⟩ := id h
  unfold fX12_standing at hf
  refine a_iconst (v := 0) hX dX12_standing_0 (by decide) rfl ?_
  refine a_istore_n (lv' := [(2, .int 0), (0, .ref (q 0)), (1, .int v1)]) hX dX12_standing_1 rfl (by decide) rfl rfl ?_
  refine a_iconst (v := 0) hX dX12_standing_2 (by decide) rfl ?_
  refine a_istore_n (lv' := [(3, .int 0), (2, .int 0), (0, .ref (q 0)), (1, .int v1)]) hX dX12_standing_3 rfl (by decide) rfl rfl ?_
  refine a_lv (lv' := [(0, .ref (q 0)), (1, .int v1), (2, .int 0), (3, .int 0)]) [2, 3, 1, 0] rfl ?_
  exact wX12_standing_l4 h hE NF 0 0 hf
theorem ctX12_standing {V : Vx} {q : Nat → Nat} {u : St} {res : Int32} (hE : ZOK (vZ V)) {v1 : Int32} (hf : fX12_standing u v1 = some res) : Ct V yX12_standing (.code yX12_standing cX12_standing 4 (some .int)) rmX12_standing 0 0 [.ref (q 0), .int v1] (wM V q u) (rEq (some (.int res)) (wM V q u)) :=
  Ct_of (by decide) (Nat.le_of_ble_eq_true rfl) rfl (fun X hX hT _ hF => wX12_standing ⟨hX, hT, hF⟩ hE hf)
def rmX12_paperTold : Room := { frames := 2, cells := 0, slots := 0, locals := 43 }
def fX12_paperTold (u : St) (v1 : Int32) (v2 : Int32) : Option (Int32) := cl1 (fX12_isPaper u v1) (fun x1 => if x1 = 0 then some (-2) else (if v2 = 0 then ldI (gA u 9) 16 v1 (fun x2 => some x2) else (if v2 = 1 then ldI (gA u 10) 16 v1 (fun x3 => some x3) else (if v2 = 2 then ldI (gA u 11) 16 v1 (fun x4 => some x4) else (if v2 = 3 then ldI (gA u 12) 16 v1 (fun x5 => some x5) else (if v2 = 4 then ldI (gA u 13) 16 v1 (fun x6 => some x6) else (if v2 = 5 then ldI (gA u 14) 16 v1 (fun x7 => if x7 = 0 then some 0 else (some 1)) else (if v2 = 6 then cl1 (fX12_standing u (-1)) (fun x8 => some ((x8 >>> (v1 &&& 31)) &&& 1)) else (some (-2))))))))))
theorem wX12_paperTold {X : Cx} {V : Vx} {q : Nat → Nat} {u : St} {res : Int32} (h : Run X cX12_paperTold 3 RX12 rmX12_paperTold V (some .int) (rEq (some (.int res)) (wM V q u))) (hE : ZOK (vZ V)) {v1 : Int32} {v2 : Int32} (hf : fX12_paperTold u v1 v2 = some res) : At X 3 0 0 (wM V q u) 0 [(0, .ref (q 0)), (1, .int v1), (2, .int v2)] [] := by
  obtain ⟨hX, hT, hF⟩ := id h
  unfold fX12_paperTold at hf
  refine a_aload_n hX dX12_paperTold_0 rfl 0 rfl rfl ?_
  refine a_iload_n hX dX12_paperTold_1 rfl 1 rfl rfl ?_
  obtain ⟨x1, hg1, hf⟩ := cl1_some hf
  refine a_cVsi (q0 := 0) (rest := []) hX hE (ctX12_isPaper (q := q) hE hg1) K_X12_165 ⟨rfl, rfl⟩ ⟨rfl, rfl, by decide, by decide⟩ ⟨Nat.zero_le _, Nat.zero_le _⟩ (Nat.le_of_ble_eq_true rfl) dX12_paperTold_2 rfl rfl ?_
  refine a_if_ne (tgt := 11) hX dX12_paperTold_5 rfl rfl hf (fun hf => ?_) (fun hf => ?_)
  · refine a_iload_n hX dX12_paperTold_11 rfl 2 rfl rfl ?_
    by_cases hs0 : v2 = 0
    · rw [if_pos hs0] at hf
      refine a_tsw (pc' := 56) hX dX12_paperTold_12 0 hs0 (by decide) (by decide) rfl rfl ?_
      refine a_aload_n hX dX12_paperTold_56 rfl 0 rfl rfl ?_
      refine gX12_9 hX F_X12_26 dX12_paperTold_57 rfl ?_
      refine a_iload_n hX dX12_paperTold_60 rfl 1 rfl rfl ?_
      refine lX12_9 hX dX12_paperTold_61 rfl hf (fun x2 hf => ?_)
      exact a_iret hX hT hF (r_i hf) dX12_paperTold_62
    · rw [if_neg hs0] at hf
      by_cases hs1 : v2 = 1
      · rw [if_pos hs1] at hf
        refine a_tsw (pc' := 63) hX dX12_paperTold_12 1 hs1 (by decide) (by decide) rfl rfl ?_
        refine a_aload_n hX dX12_paperTold_63 rfl 0 rfl rfl ?_
        refine gX12_10 hX F_X12_29 dX12_paperTold_64 rfl ?_
        refine a_iload_n hX dX12_paperTold_67 rfl 1 rfl rfl ?_
        refine lX12_10 hX dX12_paperTold_68 rfl hf (fun x3 hf => ?_)
        exact a_iret hX hT hF (r_i hf) dX12_paperTold_69
      · rw [if_neg hs1] at hf
        by_cases hs2 : v2 = 2
        · rw [if_pos hs2] at hf
          refine a_tsw (pc' := 70) hX dX12_paperTold_12 2 hs2 (by decide) (by decide) rfl rfl ?_
          refine a_aload_n hX dX12_paperTold_70 rfl 0 rfl rfl ?_
          refine gX12_11 hX F_X12_32 dX12_paperTold_71 rfl ?_
          refine a_iload_n hX dX12_paperTold_74 rfl 1 rfl rfl ?_
          refine lX12_11 hX dX12_paperTold_75 rfl hf (fun x4 hf => ?_)
          exact a_iret hX hT hF (r_i hf) dX12_paperTold_76
        · rw [if_neg hs2] at hf
          by_cases hs3 : v2 = 3
          · rw [if_pos hs3] at hf
            refine a_tsw (pc' := 77) hX dX12_paperTold_12 3 hs3 (by decide) (by decide) rfl rfl ?_
            refine a_aload_n hX dX12_paperTold_77 rfl 0 rfl rfl ?_
            refine gX12_12 hX F_X12_35 dX12_paperTold_78 rfl ?_
            refine a_iload_n hX dX12_paperTold_81 rfl 1 rfl rfl ?_
            refine lX12_12 hX dX12_paperTold_82 rfl hf (fun x5 hf => ?_)
            exact a_iret hX hT hF (r_i hf) dX12_paperTold_83
          · rw [if_neg hs3] at hf
            by_cases hs4 : v2 = 4
            · rw [if_pos hs4] at hf
              refine a_tsw (pc' := 84) hX dX12_paperTold_12 4 hs4 (by decide) (by decide) rfl rfl ?_
              refine a_aload_n hX dX12_paperTold_84 rfl 0 rfl rfl ?_
              refine gX12_13 hX F_X12_38 dX12_paperTold_85 rfl ?_
              refine a_iload_n hX dX12_paperTold_88 rfl 1 rfl rfl ?_
              refine lX12_13 hX dX12_paperTold_89 rfl hf (fun x6 hf => ?_)
              exact a_iret hX hT hF (r_i hf) dX12_paperTold_90
            · rw [if_neg hs4] at hf
              by_cases hs5 : v2 = 5
              · rw [if_pos hs5] at hf
                refine a_tsw (pc' := 91) hX dX12_paperTold_12 5 hs5 (by decide) (by decide) rfl rfl ?_
                refine a_aload_n hX dX12_paperTold_91 rfl 0 rfl rfl ?_
                refine gX12_14 hX F_X12_41 dX12_paperTold_92 rfl ?_
                refine a_iload_n hX dX12_paperTold_95 rfl 1 rfl rfl ?_
                refine lX12_14 hX dX12_paperTold_96 rfl hf (fun x7 hf => ?_)
                refine a_if_eq (tgt := 104) hX dX12_paperTold_97 rfl rfl hf (fun hf => ?_) (fun hf => ?_)
                · refine a_iconst (v := 0) hX dX12_paperTold_104 (by decide) rfl ?_
                  exact a_iret hX hT hF (r_i hf) dX12_paperTold_105
                · refine a_iconst (v := 1) hX dX12_paperTold_100 (by decide) rfl ?_
                  refine a_goto (pc' := 105) hX dX12_paperTold_101 rfl ?_
                  exact a_iret hX hT hF (r_i hf) dX12_paperTold_105
              · rw [if_neg hs5] at hf
                by_cases hs6 : v2 = 6
                · rw [if_pos hs6] at hf
                  refine a_tsw (pc' := 106) hX dX12_paperTold_12 6 hs6 (by decide) (by decide) rfl rfl ?_
                  refine a_aload_n hX dX12_paperTold_106 rfl 0 rfl rfl ?_
                  refine a_iconst (v := (-1)) hX dX12_paperTold_107 (by decide) rfl ?_
                  obtain ⟨x8, hg8, hf⟩ := cl1_some hf
                  refine a_cVsi (q0 := 0) (rest := []) hX hE (ctX12_standing (q := q) hE hg8) K_X12_168 ⟨rfl, rfl⟩ ⟨rfl, rfl, by decide, by decide⟩ ⟨Nat.zero_le _, Nat.zero_le _⟩ (Nat.le_of_ble_eq_true rfl) dX12_paperTold_108 rfl rfl ?_
                  refine a_iload_n hX dX12_paperTold_111 rfl 1 rfl rfl ?_
                  refine a_ishr hX dX12_paperTold_112 rfl ?_
                  refine a_iconst (v := 1) hX dX12_paperTold_113 (by decide) rfl ?_
                  refine a_iand hX dX12_paperTold_114 rfl ?_
                  exact a_iret hX hT hF (r_i hf) dX12_paperTold_115
                · rw [if_neg hs6] at hf
                  have hs0 : ¬ Int32.toInt v2 = 0 := ne_toInt hs0
                  have hs1 : ¬ Int32.toInt v2 = 1 := ne_toInt hs1
                  have hs2 : ¬ Int32.toInt v2 = 2 := ne_toInt hs2
                  have hs3 : ¬ Int32.toInt v2 = 3 := ne_toInt hs3
                  have hs4 : ¬ Int32.toInt v2 = 4 := ne_toInt hs4
                  have hs5 : ¬ Int32.toInt v2 = 5 := ne_toInt hs5
                  have hs6 : ¬ Int32.toInt v2 = 6 := ne_toInt hs6
                  refine a_tswO (pc' := 116) hX dX12_paperTold_12 (by omega) rfl ?_
                  refine a_bipush (v := (-2)) hX dX12_paperTold_116 (by decide) rfl ?_
                  exact a_iret hX hT hF (r_i hf) dX12_paperTold_118
  · refine a_bipush (v := (-2)) hX dX12_paperTold_8 (by decide) rfl ?_
    exact a_iret hX hT hF (r_i hf) dX12_paperTold_10
theorem ctX12_paperTold {V : Vx} {q : Nat → Nat} {u : St} {res : Int32} (hE : ZOK (vZ V)) {v1 : Int32} {v2 : Int32} (hf : fX12_paperTold u v1 v2 = some res) : Ct V yX12_paperTold (.code yX12_paperTold cX12_paperTold 3 (some .int)) rmX12_paperTold 0 0 [.ref (q 0), .int v1, .int v2] (wM V q u) (rEq (some (.int res)) (wM V q u)) :=
  Ct_of (by decide) (Nat.le_of_ble_eq_true rfl) rfl (fun X hX hT _ hF => wX12_paperTold ⟨hX, hT, hF⟩ hE hf)
def rmX12_lets : Room := { frames := 0, cells := 0, slots := 0, locals := 0 }
def fX12_lets_b47 (u : St)   : Option (Int32) := some 1
theorem wX12_lets_b47 {X : Cx} {V : Vx} {q : Nat → Nat} {u : St} {res : Int32} (h : Run X cX12_lets 7 RX12 rmX12_lets V (some .boolean) (rEq (some (.int res)) (wM V q u))) (hE : ZOK (vZ V))  (hf : fX12_lets_b47 u   = some res) : At X 7 0 0 (wM V q u) 47 [] [] := by
  obtain ⟨hX, hT, hF⟩ := id h
  unfold fX12_lets_b47 at hf
  refine a_iconst (v := 1) hX dX12_lets_47 (by decide) rfl ?_
  refine a_goto (pc' := 52) hX dX12_lets_48 rfl ?_
  exact a_zret hX hT (by decide) hF (r_i hf) dX12_lets_52
def fX12_lets_b126 (u : St)   : Option (Int32) := some 1
theorem wX12_lets_b126 {X : Cx} {V : Vx} {q : Nat → Nat} {u : St} {res : Int32} (h : Run X cX12_lets 7 RX12 rmX12_lets V (some .boolean) (rEq (some (.int res)) (wM V q u))) (hE : ZOK (vZ V))  (hf : fX12_lets_b126 u   = some res) : At X 7 0 0 (wM V q u) 126 [] [] := by
  obtain ⟨hX, hT, hF⟩ := id h
  unfold fX12_lets_b126 at hf
  refine a_iconst (v := 1) hX dX12_lets_126 (by decide) rfl ?_
  refine a_goto (pc' := 131) hX dX12_lets_127 rfl ?_
  exact a_zret hX hT (by decide) hF (r_i hf) dX12_lets_131
def fX12_lets_b150 (u : St)   : Option (Int32) := some 1
theorem wX12_lets_b150 {X : Cx} {V : Vx} {q : Nat → Nat} {u : St} {res : Int32} (h : Run X cX12_lets 7 RX12 rmX12_lets V (some .boolean) (rEq (some (.int res)) (wM V q u))) (hE : ZOK (vZ V))  (hf : fX12_lets_b150 u   = some res) : At X 7 0 0 (wM V q u) 150 [] [] := by
  obtain ⟨hX, hT, hF⟩ := id h
  unfold fX12_lets_b150 at hf
  refine a_iconst (v := 1) hX dX12_lets_150 (by decide) rfl ?_
  refine a_goto (pc' := 174) hX dX12_lets_151 rfl ?_
  exact a_zret hX hT (by decide) hF (r_i hf) dX12_lets_174
def fX12_lets_b169 (u : St)   : Option (Int32) := some 1
theorem wX12_lets_b169 {X : Cx} {V : Vx} {q : Nat → Nat} {u : St} {res : Int32} (h : Run X cX12_lets 7 RX12 rmX12_lets V (some .boolean) (rEq (some (.int res)) (wM V q u))) (hE : ZOK (vZ V))  (hf : fX12_lets_b169 u   = some res) : At X 7 0 0 (wM V q u) 169 [] [] := by
  obtain ⟨hX, hT, hF⟩ := id h
  unfold fX12_lets_b169 at hf
  refine a_iconst (v := 1) hX dX12_lets_169 (by decide) rfl ?_
  refine a_goto (pc' := 174) hX dX12_lets_170 rfl ?_
  exact a_zret hX hT (by decide) hF (r_i hf) dX12_lets_174
def fX12_lets_b186 (u : St)   : Option (Int32) := some 1
theorem wX12_lets_b186 {X : Cx} {V : Vx} {q : Nat → Nat} {u : St} {res : Int32} (h : Run X cX12_lets 7 RX12 rmX12_lets V (some .boolean) (rEq (some (.int res)) (wM V q u))) (hE : ZOK (vZ V))  (hf : fX12_lets_b186 u   = some res) : At X 7 0 0 (wM V q u) 186 [] [] := by
  obtain ⟨hX, hT, hF⟩ := id h
  unfold fX12_lets_b186 at hf
  refine a_iconst (v := 1) hX dX12_lets_186 (by decide) rfl ?_
  refine a_goto (pc' := 191) hX dX12_lets_187 rfl ?_
  exact a_zret hX hT (by decide) hF (r_i hf) dX12_lets_191
def fX12_lets_b223 (u : St)   : Option (Int32) := some 1
theorem wX12_lets_b223 {X : Cx} {V : Vx} {q : Nat → Nat} {u : St} {res : Int32} (h : Run X cX12_lets 7 RX12 rmX12_lets V (some .boolean) (rEq (some (.int res)) (wM V q u))) (hE : ZOK (vZ V))  (hf : fX12_lets_b223 u   = some res) : At X 7 0 0 (wM V q u) 223 [] [] := by
  obtain ⟨hX, hT, hF⟩ := id h
  unfold fX12_lets_b223 at hf
  refine a_iconst (v := 1) hX dX12_lets_223 (by decide) rfl ?_
  refine a_goto (pc' := 228) hX dX12_lets_224 rfl ?_
  exact a_zret hX hT (by decide) hF (r_i hf) dX12_lets_228
def fX12_lets (u : St) (v1 : Int32) (v2 : Int32) (v3 : Int32) : Option (Int32) := ldI (gA u 10) 16 v1 (fun x1 => ldI (gA u 11) 16 v1 (fun x2 => ldI (gA u 12) 16 v1 (fun x3 => nmI (v3 - x3) (fun x4 => ldI (gA u 9) 16 v1 (fun x5 => if x5 = 5 then if x4 = 0 then if v2 = x1 then some 0 else (fX12_lets_b47 u) else (fX12_lets_b47 u) else (if x4 = 0 then if v2 = x1 then some 1 else (some 0) else (ldI (gA u 9) 16 v1 (fun x6 => if x6 = 1 then if x4 = 1 then if v2 = x1 then fX12_lets_b126 u else (if v2 = x2 then fX12_lets_b126 u else (some 0)) else (fX12_lets_b126 u) else (if x6 = 2 then if 0 < x4 then fX12_lets_b186 u else (if v2 = x1 then some 0 else (fX12_lets_b186 u)) else (if x6 = 3 then if x4 = 1 then if v2 = x1 then fX12_lets_b150 u else (if v2 = x2 then fX12_lets_b150 u else (some 0)) else (if 0 < x4 then fX12_lets_b169 u else (if v2 = x2 then some 0 else (fX12_lets_b169 u))) else (if x6 = 4 then if 0 ≤ x4 then if 2 < x4 then fX12_lets_b223 u else (if v2 = x1 then fX12_lets_b223 u else (some 0)) else (if v2 = x1 then some 0 else (some 1)) else (some 1))))))))))))
theorem wX12_lets {X : Cx} {V : Vx} {q : Nat → Nat} {u : St} {res : Int32} (h : Run X cX12_lets 7 RX12 rmX12_lets V (some .boolean) (rEq (some (.int res)) (wM V q u))) (hE : ZOK (vZ V)) {v1 : Int32} {v2 : Int32} {v3 : Int32} (hf : fX12_lets u v1 v2 v3 = some res) : At X 7 0 0 (wM V q u) 0 [(0, .ref (q 0)), (1, .int v1), (2, .int v2), (3, .int v3)] [] := by
  obtain ⟨hX, hT, hF⟩ := id h
  unfold fX12_lets at hf
  refine a_aload_n hX dX12_lets_0 rfl 0 rfl rfl ?_
  refine gX12_10 hX F_X12_29 dX12_lets_1 rfl ?_
  refine a_iload_n hX dX12_lets_4 rfl 1 rfl rfl ?_
  refine lX12_10 hX dX12_lets_5 rfl hf (fun x1 hf => ?_)
  refine a_istore (lv' := [(4, .int x1), (0, .ref (q 0)), (1, .int v1), (2, .int v2), (3, .int v3)]) hX dX12_lets_6 (by decide) rfl rfl ?_
  refine a_aload_n hX dX12_lets_8 rfl 1 rfl rfl ?_
  refine gX12_11 hX F_X12_32 dX12_lets_9 rfl ?_
  refine a_iload_n hX dX12_lets_12 rfl 2 rfl rfl ?_
  refine lX12_11 hX dX12_lets_13 rfl hf (fun x2 hf => ?_)
  refine a_istore (lv' := [(5, .int x2), (4, .int x1), (0, .ref (q 0)), (1, .int v1), (2, .int v2), (3, .int v3)]) hX dX12_lets_14 (by decide) rfl rfl ?_
  refine a_iload_n hX dX12_lets_16 rfl 5 rfl rfl ?_
  refine a_aload_n hX dX12_lets_17 rfl 2 rfl rfl ?_
  refine gX12_12 hX F_X12_35 dX12_lets_18 rfl ?_
  refine a_iload_n hX dX12_lets_21 rfl 3 rfl rfl ?_
  refine lX12_12 hX dX12_lets_22 rfl hf (fun x3 hf => ?_)
  refine a_isub hX dX12_lets_23 rfl ?_
  refine a_nmI hf (fun x4 hf => ?_)
  refine a_istore (lv' := [(6, .int x4), (5, .int x2), (4, .int x1), (0, .ref (q 0)), (1, .int v1), (2, .int v2), (3, .int v3)]) hX dX12_lets_24 (by decide) rfl rfl ?_
  refine a_aload_n hX dX12_lets_26 rfl 3 rfl rfl ?_
  refine gX12_9 hX F_X12_26 dX12_lets_27 rfl ?_
  refine a_iload_n hX dX12_lets_30 rfl 4 rfl rfl ?_
  refine lX12_9 hX dX12_lets_31 rfl hf (fun x5 hf => ?_)
  refine a_iconst (v := 5) hX dX12_lets_32 (by decide) rfl ?_
  refine a_icmp_ne (tgt := 53) hX dX12_lets_33 rfl rfl hf (fun hf => ?_) (fun hf => ?_)
  · refine a_iload hX dX12_lets_53 0 rfl rfl ?_
    refine a_if_ne (tgt := 70) hX dX12_lets_55 rfl rfl hf (fun hf => ?_) (fun hf => ?_)
    · refine a_aload_n hX dX12_lets_70 rfl 3 rfl rfl ?_
      refine gX12_9 hX F_X12_26 dX12_lets_71 rfl ?_
      refine a_iload_n hX dX12_lets_74 rfl 4 rfl rfl ?_
      refine lX12_9 hX dX12_lets_75 rfl hf (fun x6 hf => ?_)
      by_cases hs0 : x6 = 1
      · rw [if_pos hs0] at hf
        refine a_tsw (pc' := 108) hX dX12_lets_76 1 hs0 (by decide) (by decide) rfl rfl ?_
        refine a_iload hX dX12_lets_108 0 rfl rfl ?_
        refine a_iconst (v := 1) hX dX12_lets_110 (by decide) rfl ?_
        refine a_icmp_ne (tgt := 126) hX dX12_lets_111 rfl rfl hf (fun hf => ?_) (fun hf => ?_)
        · refine a_lv (lv' := []) [] rfl ?_
          exact wX12_lets_b126 h hE hf
        · refine a_iload_n hX dX12_lets_114 rfl 5 rfl rfl ?_
          refine a_iload hX dX12_lets_115 2 rfl rfl ?_
          refine a_icmp_eq (tgt := 126) hX dX12_lets_117 rfl rfl hf (fun hf => ?_) (fun hf => ?_)
          · refine a_lv (lv' := []) [] rfl ?_
            exact wX12_lets_b126 h hE hf
          · refine a_iload_n hX dX12_lets_120 rfl 5 rfl rfl ?_
            refine a_iload hX dX12_lets_121 1 rfl rfl ?_
            refine a_icmp_ne (tgt := 130) hX dX12_lets_123 rfl rfl hf (fun hf => ?_) (fun hf => ?_)
            · refine a_iconst (v := 0) hX dX12_lets_130 (by decide) rfl ?_
              exact a_zret hX hT (by decide) hF (r_i hf) dX12_lets_131
            · refine a_lv (lv' := []) [] rfl ?_
              exact wX12_lets_b126 h hE hf
      · rw [if_neg hs0] at hf
        by_cases hs1 : x6 = 2
        · rw [if_pos hs1] at hf
          refine a_tsw (pc' := 175) hX dX12_lets_76 2 hs1 (by decide) (by decide) rfl rfl ?_
          refine a_iload hX dX12_lets_175 0 rfl rfl ?_
          refine a_if_gt (tgt := 186) hX dX12_lets_177 rfl rfl hf (fun hf => ?_) (fun hf => ?_)
          · refine a_lv (lv' := []) [] rfl ?_
            exact wX12_lets_b186 h hE hf
          · refine a_iload_n hX dX12_lets_180 rfl 5 rfl rfl ?_
            refine a_iload hX dX12_lets_181 2 rfl rfl ?_
            refine a_icmp_eq (tgt := 190) hX dX12_lets_183 rfl rfl hf (fun hf => ?_) (fun hf => ?_)
            · refine a_iconst (v := 0) hX dX12_lets_190 (by decide) rfl ?_
              exact a_zret hX hT (by decide) hF (r_i hf) dX12_lets_191
            · refine a_lv (lv' := []) [] rfl ?_
              exact wX12_lets_b186 h hE hf
        · rw [if_neg hs1] at hf
          by_cases hs2 : x6 = 3
          · rw [if_pos hs2] at hf
            refine a_tsw (pc' := 132) hX dX12_lets_76 3 hs2 (by decide) (by decide) rfl rfl ?_
            refine a_iload hX dX12_lets_132 0 rfl rfl ?_
            refine a_iconst (v := 1) hX dX12_lets_134 (by decide) rfl ?_
            refine a_icmp_ne (tgt := 158) hX dX12_lets_135 rfl rfl hf (fun hf => ?_) (fun hf => ?_)
            · refine a_iload hX dX12_lets_158 0 rfl rfl ?_
              refine a_if_gt (tgt := 169) hX dX12_lets_160 rfl rfl hf (fun hf => ?_) (fun hf => ?_)
              · refine a_lv (lv' := []) [] rfl ?_
                exact wX12_lets_b169 h hE hf
              · refine a_iload_n hX dX12_lets_163 rfl 5 rfl rfl ?_
                refine a_iload hX dX12_lets_164 1 rfl rfl ?_
                refine a_icmp_eq (tgt := 173) hX dX12_lets_166 rfl rfl hf (fun hf => ?_) (fun hf => ?_)
                · refine a_iconst (v := 0) hX dX12_lets_173 (by decide) rfl ?_
                  exact a_zret hX hT (by decide) hF (r_i hf) dX12_lets_174
                · refine a_lv (lv' := []) [] rfl ?_
                  exact wX12_lets_b169 h hE hf
            · refine a_iload_n hX dX12_lets_138 rfl 5 rfl rfl ?_
              refine a_iload hX dX12_lets_139 2 rfl rfl ?_
              refine a_icmp_eq (tgt := 150) hX dX12_lets_141 rfl rfl hf (fun hf => ?_) (fun hf => ?_)
              · refine a_lv (lv' := []) [] rfl ?_
                exact wX12_lets_b150 h hE hf
              · refine a_iload_n hX dX12_lets_144 rfl 5 rfl rfl ?_
                refine a_iload hX dX12_lets_145 1 rfl rfl ?_
                refine a_icmp_ne (tgt := 154) hX dX12_lets_147 rfl rfl hf (fun hf => ?_) (fun hf => ?_)
                · refine a_iconst (v := 0) hX dX12_lets_154 (by decide) rfl ?_
                  refine a_goto (pc' := 174) hX dX12_lets_155 rfl ?_
                  exact a_zret hX hT (by decide) hF (r_i hf) dX12_lets_174
                · refine a_lv (lv' := []) [] rfl ?_
                  exact wX12_lets_b150 h hE hf
          · rw [if_neg hs2] at hf
            by_cases hs3 : x6 = 4
            · rw [if_pos hs3] at hf
              refine a_tsw (pc' := 192) hX dX12_lets_76 4 hs3 (by decide) (by decide) rfl rfl ?_
              refine a_iload hX dX12_lets_192 0 rfl rfl ?_
              refine a_if_ge (tgt := 211) hX dX12_lets_194 rfl rfl hf (fun hf => ?_) (fun hf => ?_)
              · refine a_iload hX dX12_lets_211 0 rfl rfl ?_
                refine a_iconst (v := 2) hX dX12_lets_213 (by decide) rfl ?_
                refine a_icmp_gt (tgt := 223) hX dX12_lets_214 rfl rfl hf (fun hf => ?_) (fun hf => ?_)
                · refine a_lv (lv' := []) [] rfl ?_
                  exact wX12_lets_b223 h hE hf
                · refine a_iload_n hX dX12_lets_217 rfl 5 rfl rfl ?_
                  refine a_iload hX dX12_lets_218 2 rfl rfl ?_
                  refine a_icmp_ne (tgt := 227) hX dX12_lets_220 rfl rfl hf (fun hf => ?_) (fun hf => ?_)
                  · refine a_iconst (v := 0) hX dX12_lets_227 (by decide) rfl ?_
                    exact a_zret hX hT (by decide) hF (r_i hf) dX12_lets_228
                  · refine a_lv (lv' := []) [] rfl ?_
                    exact wX12_lets_b223 h hE hf
              · refine a_iload_n hX dX12_lets_197 rfl 5 rfl rfl ?_
                refine a_iload hX dX12_lets_198 2 rfl rfl ?_
                refine a_icmp_eq (tgt := 207) hX dX12_lets_200 rfl rfl hf (fun hf => ?_) (fun hf => ?_)
                · refine a_iconst (v := 0) hX dX12_lets_207 (by decide) rfl ?_
                  refine a_goto (pc' := 228) hX dX12_lets_208 rfl ?_
                  exact a_zret hX hT (by decide) hF (r_i hf) dX12_lets_228
                · refine a_iconst (v := 1) hX dX12_lets_203 (by decide) rfl ?_
                  refine a_goto (pc' := 228) hX dX12_lets_204 rfl ?_
                  exact a_zret hX hT (by decide) hF (r_i hf) dX12_lets_228
            · rw [if_neg hs3] at hf
              have hs0 : ¬ Int32.toInt x6 = 1 := ne_toInt hs0
              have hs1 : ¬ Int32.toInt x6 = 2 := ne_toInt hs1
              have hs2 : ¬ Int32.toInt x6 = 3 := ne_toInt hs2
              have hs3 : ¬ Int32.toInt x6 = 4 := ne_toInt hs3
              refine a_tswO (pc' := 229) hX dX12_lets_76 (by omega) rfl ?_
              refine a_iconst (v := 1) hX dX12_lets_229 (by decide) rfl ?_
              exact a_zret hX hT (by decide) hF (r_i hf) dX12_lets_230
    · refine a_iload_n hX dX12_lets_58 rfl 5 rfl rfl ?_
      refine a_iload hX dX12_lets_59 2 rfl rfl ?_
      refine a_icmp_ne (tgt := 68) hX dX12_lets_61 rfl rfl hf (fun hf => ?_) (fun hf => ?_)
      · refine a_iconst (v := 0) hX dX12_lets_68 (by decide) rfl ?_
        exact a_zret hX hT (by decide) hF (r_i hf) dX12_lets_69
      · refine a_iconst (v := 1) hX dX12_lets_64 (by decide) rfl ?_
        refine a_goto (pc' := 69) hX dX12_lets_65 rfl ?_
        exact a_zret hX hT (by decide) hF (r_i hf) dX12_lets_69
  · refine a_iload hX dX12_lets_36 0 rfl rfl ?_
    refine a_if_ne (tgt := 47) hX dX12_lets_38 rfl rfl hf (fun hf => ?_) (fun hf => ?_)
    · refine a_lv (lv' := []) [] rfl ?_
      exact wX12_lets_b47 h hE hf
    · refine a_iload_n hX dX12_lets_41 rfl 5 rfl rfl ?_
      refine a_iload hX dX12_lets_42 2 rfl rfl ?_
      refine a_icmp_eq (tgt := 51) hX dX12_lets_44 rfl rfl hf (fun hf => ?_) (fun hf => ?_)
      · refine a_iconst (v := 0) hX dX12_lets_51 (by decide) rfl ?_
        exact a_zret hX hT (by decide) hF (r_i hf) dX12_lets_52
      · refine a_lv (lv' := []) [] rfl ?_
        exact wX12_lets_b47 h hE hf
theorem ctX12_lets {V : Vx} {q : Nat → Nat} {u : St} {res : Int32} (hE : ZOK (vZ V)) {v1 : Int32} {v2 : Int32} {v3 : Int32} (hf : fX12_lets u v1 v2 v3 = some res) : Ct V yX12_lets (.code yX12_lets cX12_lets 7 (some .boolean)) rmX12_lets 0 0 [.ref (q 0), .int v1, .int v2, .int v3] (wM V q u) (rEq (some (.int res)) (wM V q u)) :=
  Ct_of (by decide) (Nat.le_of_ble_eq_true rfl) rfl (fun X hX hT _ hF => wX12_lets ⟨hX, hT, hF⟩ hE hf)
def rmX12_allows : Room := { frames := 3, cells := 0, slots := 0, locals := 65 }
def fX12_allows (u : St) (v1 : Int32) (v2 : Int32) (v3 : Int32) : Option (Int32) := cl1 (fX12_isPaper u v1) (fun x1 => if x1 = 0 then some (-2) else (cl1 (fX12_isPlace u v2 v3) (fun x2 => if x2 = 0 then some (-2) else (cl1 (fX12_lets u v1 v2 v3) (fun x3 => if x3 = 0 then some 0 else (some 1))))))
theorem wX12_allows {X : Cx} {V : Vx} {q : Nat → Nat} {u : St} {res : Int32} (h : Run X cX12_allows 4 RX12 rmX12_allows V (some .int) (rEq (some (.int res)) (wM V q u))) (hE : ZOK (vZ V)) {v1 : Int32} {v2 : Int32} {v3 : Int32} (hf : fX12_allows u v1 v2 v3 = some res) : At X 4 0 0 (wM V q u) 0 [(0, .ref (q 0)), (1, .int v1), (2, .int v2), (3, .int v3)] [] := by
  obtain ⟨hX, hT, hF⟩ := id h
  unfold fX12_allows at hf
  refine a_aload_n hX dX12_allows_0 rfl 0 rfl rfl ?_
  refine a_iload_n hX dX12_allows_1 rfl 1 rfl rfl ?_
  obtain ⟨x1, hg1, hf⟩ := cl1_some hf
  refine a_cVsi (q0 := 0) (rest := []) hX hE (ctX12_isPaper (q := q) hE hg1) K_X12_165 ⟨rfl, rfl⟩ ⟨rfl, rfl, by decide, by decide⟩ ⟨Nat.zero_le _, Nat.zero_le _⟩ (Nat.le_of_ble_eq_true rfl) dX12_allows_2 rfl rfl ?_
  refine a_if_eq (tgt := 35) hX dX12_allows_5 rfl rfl hf (fun hf => ?_) (fun hf => ?_)
  · refine a_bipush (v := (-2)) hX dX12_allows_35 (by decide) rfl ?_
    exact a_iret hX hT hF (r_i hf) dX12_allows_37
  · refine a_aload_n hX dX12_allows_8 rfl 0 rfl rfl ?_
    refine a_iload_n hX dX12_allows_9 rfl 2 rfl rfl ?_
    refine a_iload_n hX dX12_allows_10 rfl 3 rfl rfl ?_
    obtain ⟨x2, hg2, hf⟩ := cl1_some hf
    refine a_cVsi (q0 := 0) (rest := []) hX hE (ctX12_isPlace (q := q) hE hg2) K_X12_172 ⟨rfl, rfl⟩ ⟨rfl, rfl, by decide, by decide⟩ ⟨Nat.zero_le _, Nat.zero_le _⟩ (Nat.le_of_ble_eq_true rfl) dX12_allows_11 rfl rfl ?_
    refine a_if_eq (tgt := 35) hX dX12_allows_14 rfl rfl hf (fun hf => ?_) (fun hf => ?_)
    · refine a_bipush (v := (-2)) hX dX12_allows_35 (by decide) rfl ?_
      exact a_iret hX hT hF (r_i hf) dX12_allows_37
    · refine a_aload_n hX dX12_allows_17 rfl 0 rfl rfl ?_
      refine a_iload_n hX dX12_allows_18 rfl 1 rfl rfl ?_
      refine a_iload_n hX dX12_allows_19 rfl 2 rfl rfl ?_
      refine a_iload_n hX dX12_allows_20 rfl 3 rfl rfl ?_
      obtain ⟨x3, hg3, hf⟩ := cl1_some hf
      refine a_cVsi (q0 := 0) (rest := []) hX hE (ctX12_lets (q := q) hE hg3) K_X12_176 ⟨rfl, rfl⟩ ⟨rfl, rfl, by decide, by decide⟩ ⟨Nat.zero_le _, Nat.zero_le _⟩ (Nat.le_of_ble_eq_true rfl) dX12_allows_21 rfl rfl ?_
      refine a_if_eq (tgt := 31) hX dX12_allows_24 rfl rfl hf (fun hf => ?_) (fun hf => ?_)
      · refine a_iconst (v := 0) hX dX12_allows_31 (by decide) rfl ?_
        refine a_goto (pc' := 37) hX dX12_allows_32 rfl ?_
        exact a_iret hX hT hF (r_i hf) dX12_allows_37
      · refine a_iconst (v := 1) hX dX12_allows_27 (by decide) rfl ?_
        refine a_goto (pc' := 37) hX dX12_allows_28 rfl ?_
        exact a_iret hX hT hF (r_i hf) dX12_allows_37
theorem ctX12_allows {V : Vx} {q : Nat → Nat} {u : St} {res : Int32} (hE : ZOK (vZ V)) {v1 : Int32} {v2 : Int32} {v3 : Int32} (hf : fX12_allows u v1 v2 v3 = some res) : Ct V yX12_allows (.code yX12_allows cX12_allows 4 (some .int)) rmX12_allows 0 0 [.ref (q 0), .int v1, .int v2, .int v3] (wM V q u) (rEq (some (.int res)) (wM V q u)) :=
  Ct_of (by decide) (Nat.le_of_ble_eq_true rfl) rfl (fun X hX hT _ hF => wX12_allows ⟨hX, hT, hF⟩ hE hf)
def rmX12_bitsOf : Room := { frames := 0, cells := 0, slots := 0, locals := 0 }
def fX12_bitsOf_l4b  (k4 : Int32 → Int32 → Option (Int32)) (v1 : Int32) (v2 : Int32) : Option (Int32) := if v2 = 0 then some v1 else (nmI (v2 &&& (v2 - 1)) (fun x1 => k4 (v1 + 1) x1))
theorem wX12_bitsOf_l4b {X : Cx} {V : Vx} {res : Int32} (h : Run X cX12_bitsOf 3 RX12 rmX12_bitsOf V (some .int) (rEq (some (.int res)) [])) (hE : ZOK (vZ V)) {v1 : Int32} {v2 : Int32} {k4 : Int32 → Int32 → Option (Int32)} (hk4 : ∀ (v1 : Int32) (v2 : Int32), k4 v1 v2 = some res → At X 3 0 0 [] 4 [(1, .int v1), (2, .int v2)] []) (hf : fX12_bitsOf_l4b  k4 v1 v2 = some res) : At X 3 0 0 [] 4 [(1, .int v1), (2, .int v2)] [] := by
  obtain ⟨hX, hT, hF⟩ := id h
  unfold fX12_bitsOf_l4b at hf
  refine a_iload_n hX dX12_bitsOf_4 rfl 1 rfl rfl ?_
  refine a_if_eq (tgt := 20) hX dX12_bitsOf_5 rfl rfl hf (fun hf => ?_) (fun hf => ?_)
  · refine a_iload_n hX dX12_bitsOf_20 rfl 0 rfl rfl ?_
    exact a_iret hX hT hF (r_i hf) dX12_bitsOf_21
  · refine a_iinc (v := v1 + 1) (lv' := [(1, .int (v1 + 1)), (2, .int v2)]) hX dX12_bitsOf_8 0 rfl rfl (by decide) rfl rfl ?_
    refine a_iload_n hX dX12_bitsOf_11 rfl 1 rfl rfl ?_
    refine a_iload_n hX dX12_bitsOf_12 rfl 1 rfl rfl ?_
    refine a_iconst (v := 1) hX dX12_bitsOf_13 (by decide) rfl ?_
    refine a_isub hX dX12_bitsOf_14 rfl ?_
    refine a_iand hX dX12_bitsOf_15 rfl ?_
    refine a_nmI hf (fun x1 hf => ?_)
    refine a_istore_n (lv' := [(2, .int x1), (1, .int (v1 + 1))]) hX dX12_bitsOf_16 rfl (by decide) rfl rfl ?_
    refine a_goto (pc' := 4) hX dX12_bitsOf_17 rfl ?_
    refine a_lv (lv' := [(1, .int (v1 + 1)), (2, .int x1)]) [1, 0] rfl ?_
    exact hk4 (v1 + 1) x1 hf
def fX12_bitsOf_l4    : Nat → Int32 → Int32 → Option (Int32)
  | 0, _, _ => none
  | m + 1, v1, v2 => fX12_bitsOf_l4b  (fX12_bitsOf_l4    m) v1 v2
theorem wX12_bitsOf_l4 {X : Cx} {V : Vx} {res : Int32} (h : Run X cX12_bitsOf 3 RX12 rmX12_bitsOf V (some .int) (rEq (some (.int res)) [])) (hE : ZOK (vZ V))  : ∀ (m : Nat) (v1 : Int32) (v2 : Int32), fX12_bitsOf_l4    m v1 v2 = some res → At X 3 0 0 [] 4 [(1, .int v1), (2, .int v2)] [] := by
  intro m
  induction m with
  | zero => intro v1 v2 hf; cases hf
  | succ m ih => intro v1 v2 hf; exact wX12_bitsOf_l4b h hE ih hf
def fX12_bitsOf (v0 : Int32) : Option (Int32) := fX12_bitsOf_l4 NF 0 v0
theorem wX12_bitsOf {X : Cx} {V : Vx} {res : Int32} (h : Run X cX12_bitsOf 3 RX12 rmX12_bitsOf V (some .int) (rEq (some (.int res)) [])) (hE : ZOK (vZ V)) {v0 : Int32} (hf : fX12_bitsOf v0 = some res) : At X 3 0 0 [] 0 [(0, .int v0)] [] := by
  obtain ⟨hX, hT, hF⟩ := id h
  unfold fX12_bitsOf at hf
  refine a_iconst (v := 0) hX dX12_bitsOf_0 (by decide) rfl ?_
  refine a_istore_n (lv' := [(1, .int 0), (0, .int v0)]) hX dX12_bitsOf_1 rfl (by decide) rfl rfl ?_
  refine a_iload_n hX dX12_bitsOf_2 rfl 1 rfl rfl ?_
  refine a_istore_n (lv' := [(2, .int v0), (1, .int 0), (0, .int v0)]) hX dX12_bitsOf_3 rfl (by decide) rfl rfl ?_
  refine a_lv (lv' := [(1, .int 0), (2, .int v0)]) [1, 0] rfl ?_
  exact wX12_bitsOf_l4 h hE NF 0 v0 hf
theorem ctX12_bitsOf {V : Vx} {res : Int32} (hE : ZOK (vZ V)) {v0 : Int32} (hf : fX12_bitsOf v0 = some res) : Ct V yX12_bitsOf (.code yX12_bitsOf cX12_bitsOf 3 (some .int)) rmX12_bitsOf 0 0 [.int v0] [] (rEq (some (.int res)) []) :=
  Ct_of (by decide) (Nat.le_of_ble_eq_true rfl) rfl (fun X hX hT _ hF => wX12_bitsOf ⟨hX, hT, hF⟩ hE hf)
def rmX12_forge : Room := { frames := 2, cells := 0, slots := 0, locals := 43 }
def fX12_forge_b35   (u : St) (s0 : Int32) (s1 : Int32) : Option (Int32 × St) := stZ u 14 16 s1 s0 (fun u3 => cl1 (fX12_standing u3 (-1)) (fun x4 => cl1 (fX12_bitsOf x4) (fun x5 => some (x5, u3))))
theorem wX12_forge_b35 {X : Cx} {V : Vx} {q : Nat → Nat} {res : Int32 × St} (h : Run X cX12_forge 3 RX12 rmX12_forge V (some .int) (rEq (some (.int res.1)) (wM V q res.2))) (hE : ZOK (vZ V)) {u : St} {s0 : Int32} {s1 : Int32} (hf : fX12_forge_b35   u s0 s1 = some res) : At X 3 0 0 (wM V q u) 35 [(0, .ref (q 0))] [.int s0, .int s1, .ref (q 15)] := by
  obtain ⟨hX, hT, hF⟩ := id h
  unfold fX12_forge_b35 at hf
  refine sX12_14 hX dX12_forge_35 rfl hf (fun u3 hf => ?_)
  refine a_aload_n hX dX12_forge_36 rfl 0 rfl rfl ?_
  refine a_iconst (v := (-1)) hX dX12_forge_37 (by decide) rfl ?_
  obtain ⟨x4, hg4, hf⟩ := cl1_some hf
  refine a_cVsi (q0 := 0) (rest := []) hX hE (ctX12_standing (q := q) hE hg4) K_X12_168 ⟨rfl, rfl⟩ ⟨rfl, rfl, by decide, by decide⟩ ⟨Nat.zero_le _, Nat.zero_le _⟩ (Nat.le_of_ble_eq_true rfl) dX12_forge_38 rfl rfl ?_
  obtain ⟨x5, hg5, hf⟩ := cl1_some hf
  refine a_cSpi (rest := []) hX hE (ctX12_bitsOf hE hg5) K_X12_179 ⟨rfl, rfl, by decide, by decide⟩ ⟨Nat.zero_le _, Nat.zero_le _⟩ (Nat.le_of_ble_eq_true rfl) dX12_forge_41 rfl rfl ?_
  exact a_iret hX hT hF (r_iS (wf := (wM V q)) hf) dX12_forge_44
def fX12_forge (u : St) (v1 : Int32) (v2 : Int32) : Option (Int32 × St) := cl1 (fX12_isPaper u v1) (fun x1 => if x1 = 0 then some ((-2), u) else (cl1 (fX12_in v2 0 1) (fun x2 => if x2 = 0 then some ((-2), u) else (if v2 = 1 then fX12_forge_b35 u 1 v1 else (fX12_forge_b35 u 0 v1)))))
theorem wX12_forge {X : Cx} {V : Vx} {q : Nat → Nat} {res : Int32 × St} (h : Run X cX12_forge 3 RX12 rmX12_forge V (some .int) (rEq (some (.int res.1)) (wM V q res.2))) (hE : ZOK (vZ V)) {u : St} {v1 : Int32} {v2 : Int32} (hf : fX12_forge u v1 v2 = some res) : At X 3 0 0 (wM V q u) 0 [(0, .ref (q 0)), (1, .int v1), (2, .int v2)] [] := by
  obtain ⟨hX, hT, hF⟩ := id h
  unfold fX12_forge at hf
  refine a_aload_n hX dX12_forge_0 rfl 0 rfl rfl ?_
  refine a_iload_n hX dX12_forge_1 rfl 1 rfl rfl ?_
  obtain ⟨x1, hg1, hf⟩ := cl1_some hf
  refine a_cVsi (q0 := 0) (rest := []) hX hE (ctX12_isPaper (q := q) hE hg1) K_X12_165 ⟨rfl, rfl⟩ ⟨rfl, rfl, by decide, by decide⟩ ⟨Nat.zero_le _, Nat.zero_le _⟩ (Nat.le_of_ble_eq_true rfl) dX12_forge_2 rfl rfl ?_
  refine a_if_eq (tgt := 17) hX dX12_forge_5 rfl rfl hf (fun hf => ?_) (fun hf => ?_)
  · refine a_bipush (v := (-2)) hX dX12_forge_17 (by decide) rfl ?_
    exact a_iret hX hT hF (r_iS (wf := (wM V q)) hf) dX12_forge_19
  · refine a_iload_n hX dX12_forge_8 rfl 2 rfl rfl ?_
    refine a_iconst (v := 0) hX dX12_forge_9 (by decide) rfl ?_
    refine a_iconst (v := 1) hX dX12_forge_10 (by decide) rfl ?_
    obtain ⟨x2, hg2, hf⟩ := cl1_some hf
    refine a_cSpi (rest := []) hX hE (ctX12_in hE hg2) K_X12_148 ⟨rfl, rfl, by decide, by decide⟩ ⟨Nat.zero_le _, Nat.zero_le _⟩ (Nat.le_of_ble_eq_true rfl) dX12_forge_11 rfl rfl ?_
    refine a_if_ne (tgt := 20) hX dX12_forge_14 rfl rfl hf (fun hf => ?_) (fun hf => ?_)
    · refine a_aload_n hX dX12_forge_20 rfl 0 rfl rfl ?_
      refine gX12_14 hX F_X12_41 dX12_forge_21 rfl ?_
      refine a_iload_n hX dX12_forge_24 rfl 1 rfl rfl ?_
      refine a_iload_n hX dX12_forge_25 rfl 2 rfl rfl ?_
      refine a_iconst (v := 1) hX dX12_forge_26 (by decide) rfl ?_
      refine a_icmp_ne (tgt := 34) hX dX12_forge_27 rfl rfl hf (fun hf => ?_) (fun hf => ?_)
      · refine a_iconst (v := 0) hX dX12_forge_34 (by decide) rfl ?_
        refine a_lv (lv' := [(0, .ref (q 0))]) [0] rfl ?_
        exact wX12_forge_b35 h hE hf
      · refine a_iconst (v := 1) hX dX12_forge_30 (by decide) rfl ?_
        refine a_goto (pc' := 35) hX dX12_forge_31 rfl ?_
        refine a_lv (lv' := [(0, .ref (q 0))]) [0] rfl ?_
        exact wX12_forge_b35 h hE hf
    · refine a_bipush (v := (-2)) hX dX12_forge_17 (by decide) rfl ?_
      exact a_iret hX hT hF (r_iS (wf := (wM V q)) hf) dX12_forge_19
theorem ctX12_forge {V : Vx} {q : Nat → Nat} {u : St} {res : Int32 × St} (hE : ZOK (vZ V)) {v1 : Int32} {v2 : Int32} (hf : fX12_forge u v1 v2 = some res) : Ct V yX12_forge (.code yX12_forge cX12_forge 3 (some .int)) rmX12_forge 0 0 [.ref (q 0), .int v1, .int v2] (wM V q u) (rEq (some (.int res.1)) (wM V q res.2)) :=
  Ct_of (by decide) (Nat.le_of_ble_eq_true rfl) rfl (fun X hX hT _ hF => wX12_forge ⟨hX, hT, hF⟩ hE hf)
def rmX12_fall : Room := { frames := 2, cells := 0, slots := 0, locals := 43 }
def fX12_fall (u : St) (v1 : Int32) : Option (Int32) := cl1 (fX12_isPaper u v1) (fun x1 => if x1 = 0 then some (-2) else (cl1 (fX12_standing u (-1)) (fun x2 => cl1 (fX12_standing u v1) (fun x3 => some (x2 &&& (x3 ^^^ (-1)))))))
theorem wX12_fall {X : Cx} {V : Vx} {q : Nat → Nat} {u : St} {res : Int32} (h : Run X cX12_fall 2 RX12 rmX12_fall V (some .int) (rEq (some (.int res)) (wM V q u))) (hE : ZOK (vZ V)) {v1 : Int32} (hf : fX12_fall u v1 = some res) : At X 2 0 0 (wM V q u) 0 [(0, .ref (q 0)), (1, .int v1)] [] := by
  obtain ⟨hX, hT, hF⟩ := id h
  unfold fX12_fall at hf
  refine a_aload_n hX dX12_fall_0 rfl 0 rfl rfl ?_
  refine a_iload_n hX dX12_fall_1 rfl 1 rfl rfl ?_
  obtain ⟨x1, hg1, hf⟩ := cl1_some hf
  refine a_cVsi (q0 := 0) (rest := []) hX hE (ctX12_isPaper (q := q) hE hg1) K_X12_165 ⟨rfl, rfl⟩ ⟨rfl, rfl, by decide, by decide⟩ ⟨Nat.zero_le _, Nat.zero_le _⟩ (Nat.le_of_ble_eq_true rfl) dX12_fall_2 rfl rfl ?_
  refine a_if_eq (tgt := 24) hX dX12_fall_5 rfl rfl hf (fun hf => ?_) (fun hf => ?_)
  · refine a_bipush (v := (-2)) hX dX12_fall_24 (by decide) rfl ?_
    exact a_iret hX hT hF (r_i hf) dX12_fall_26
  · refine a_aload_n hX dX12_fall_8 rfl 0 rfl rfl ?_
    refine a_iconst (v := (-1)) hX dX12_fall_9 (by decide) rfl ?_
    obtain ⟨x2, hg2, hf⟩ := cl1_some hf
    refine a_cVsi (q0 := 0) (rest := []) hX hE (ctX12_standing (q := q) hE hg2) K_X12_168 ⟨rfl, rfl⟩ ⟨rfl, rfl, by decide, by decide⟩ ⟨Nat.zero_le _, Nat.zero_le _⟩ (Nat.le_of_ble_eq_true rfl) dX12_fall_10 rfl rfl ?_
    refine a_aload_n hX dX12_fall_13 rfl 0 rfl rfl ?_
    refine a_iload_n hX dX12_fall_14 rfl 1 rfl rfl ?_
    obtain ⟨x3, hg3, hf⟩ := cl1_some hf
    refine a_cVsi (q0 := 0) (rest := [.int x2]) hX hE (ctX12_standing (q := q) hE hg3) K_X12_168 ⟨rfl, rfl⟩ ⟨rfl, rfl, by decide, by decide⟩ ⟨Nat.zero_le _, Nat.zero_le _⟩ (Nat.le_of_ble_eq_true rfl) dX12_fall_15 rfl rfl ?_
    refine a_iconst (v := (-1)) hX dX12_fall_18 (by decide) rfl ?_
    refine a_ixor hX dX12_fall_19 rfl ?_
    refine a_iand hX dX12_fall_20 rfl ?_
    refine a_goto (pc' := 26) hX dX12_fall_21 rfl ?_
    exact a_iret hX hT hF (r_i hf) dX12_fall_26
theorem ctX12_fall {V : Vx} {q : Nat → Nat} {u : St} {res : Int32} (hE : ZOK (vZ V)) {v1 : Int32} (hf : fX12_fall u v1 = some res) : Ct V yX12_fall (.code yX12_fall cX12_fall 2 (some .int)) rmX12_fall 0 0 [.ref (q 0), .int v1] (wM V q u) (rEq (some (.int res)) (wM V q u)) :=
  Ct_of (by decide) (Nat.le_of_ble_eq_true rfl) rfl (fun X hX hT _ hF => wX12_fall ⟨hX, hT, hF⟩ hE hf)
def rmX12_layOut : Room := { frames := 2, cells := 0, slots := 0, locals := 47 }
def fX12_layOut_b88  (k8 : St → Int32 → Option (St)) (k18 : St → Int32 → Option (St)) (k49 : Int32 → Int32 → Option (St)) (u : St) (v1 : Int32) (v2 : Int32) (v3 : Int32) (v5 : Int32) (s0 : Int32) : Option (St) := k49 s0 (v5 + 1)
theorem wX12_layOut_b88 {X : Cx} {V : Vx} {q : Nat → Nat} {res : St} (h : Run X cX12_layOut 6 RX12 rmX12_layOut V none (rEq none (wM V q res))) (hE : ZOK (vZ V)) {u : St} {v1 : Int32} {v2 : Int32} {v3 : Int32} {v5 : Int32} {s0 : Int32} {k8 : St → Int32 → Option (St)} (hk8 : ∀ (u : St) (v2 : Int32), k8 u v2 = some res → At X 6 0 0 (wM V q u) 8 [(0, .ref (q 0)), (1, .int v1), (2, .int v2)] []) {k18 : St → Int32 → Option (St)} (hk18 : ∀ (u : St) (v3 : Int32), k18 u v3 = some res → At X 6 0 0 (wM V q u) 18 [(0, .ref (q 0)), (1, .int v1), (2, .int v2), (3, .int v3)] []) {k49 : Int32 → Int32 → Option (St)} (hk49 : ∀ (v4 : Int32) (v5 : Int32), k49 v4 v5 = some res → At X 6 0 0 (wM V q u) 49 [(0, .ref (q 0)), (1, .int v1), (2, .int v2), (3, .int v3), (4, .int v4), (5, .int v5)] []) (hf : fX12_layOut_b88  k8 k18 k49 u v1 v2 v3 v5 s0 = some res) : At X 6 0 0 (wM V q u) 88 [(0, .ref (q 0)), (1, .int v1), (2, .int v2), (3, .int v3), (5, .int v5)] [.int s0] := by
  obtain ⟨hX, hT, hF⟩ := id h
  unfold fX12_layOut_b88 at hf
  refine a_istore (lv' := [(4, .int s0), (0, .ref (q 0)), (1, .int v1), (2, .int v2), (3, .int v3), (5, .int v5)]) hX dX12_layOut_88 (by decide) rfl rfl ?_
  refine a_iinc (v := v5 + 1) (lv' := [(5, .int (v5 + 1)), (4, .int s0), (0, .ref (q 0)), (1, .int v1), (2, .int v2), (3, .int v3)]) hX dX12_layOut_90 5 rfl rfl (by decide) rfl rfl ?_
  refine a_goto (pc' := 49) hX dX12_layOut_93 rfl ?_
  refine a_lv (lv' := [(0, .ref (q 0)), (1, .int v1), (2, .int v2), (3, .int v3), (4, .int s0), (5, .int (v5 + 1))]) [2, 3, 4, 5, 1, 0] rfl ?_
  exact hk49 s0 (v5 + 1) hf
def fX12_layOut_b83  (k8 : St → Int32 → Option (St)) (k18 : St → Int32 → Option (St)) (k49 : Int32 → Int32 → Option (St)) (u : St) (v1 : Int32) (v2 : Int32) (v3 : Int32) (v5 : Int32) : Option (St) := fX12_layOut_b88 k8 k18 k49 u v1 v2 v3 v5 1
theorem wX12_layOut_b83 {X : Cx} {V : Vx} {q : Nat → Nat} {res : St} (h : Run X cX12_layOut 6 RX12 rmX12_layOut V none (rEq none (wM V q res))) (hE : ZOK (vZ V)) {u : St} {v1 : Int32} {v2 : Int32} {v3 : Int32} {v5 : Int32} {k8 : St → Int32 → Option (St)} (hk8 : ∀ (u : St) (v2 : Int32), k8 u v2 = some res → At X 6 0 0 (wM V q u) 8 [(0, .ref (q 0)), (1, .int v1), (2, .int v2)] []) {k18 : St → Int32 → Option (St)} (hk18 : ∀ (u : St) (v3 : Int32), k18 u v3 = some res → At X 6 0 0 (wM V q u) 18 [(0, .ref (q 0)), (1, .int v1), (2, .int v2), (3, .int v3)] []) {k49 : Int32 → Int32 → Option (St)} (hk49 : ∀ (v4 : Int32) (v5 : Int32), k49 v4 v5 = some res → At X 6 0 0 (wM V q u) 49 [(0, .ref (q 0)), (1, .int v1), (2, .int v2), (3, .int v3), (4, .int v4), (5, .int v5)] []) (hf : fX12_layOut_b83  k8 k18 k49 u v1 v2 v3 v5 = some res) : At X 6 0 0 (wM V q u) 83 [(0, .ref (q 0)), (1, .int v1), (2, .int v2), (3, .int v3), (5, .int v5)] [] := by
  obtain ⟨hX, hT, hF⟩ := id h
  unfold fX12_layOut_b83 at hf
  refine a_iconst (v := 1) hX dX12_layOut_83 (by decide) rfl ?_
  refine a_goto (pc' := 88) hX dX12_layOut_84 rfl ?_
  exact wX12_layOut_b88 h hE hk8 hk18 hk49 hf
def fX12_layOut_b87  (k8 : St → Int32 → Option (St)) (k18 : St → Int32 → Option (St)) (k49 : Int32 → Int32 → Option (St)) (u : St) (v1 : Int32) (v2 : Int32) (v3 : Int32) (v5 : Int32) : Option (St) := fX12_layOut_b88 k8 k18 k49 u v1 v2 v3 v5 0
theorem wX12_layOut_b87 {X : Cx} {V : Vx} {q : Nat → Nat} {res : St} (h : Run X cX12_layOut 6 RX12 rmX12_layOut V none (rEq none (wM V q res))) (hE : ZOK (vZ V)) {u : St} {v1 : Int32} {v2 : Int32} {v3 : Int32} {v5 : Int32} {k8 : St → Int32 → Option (St)} (hk8 : ∀ (u : St) (v2 : Int32), k8 u v2 = some res → At X 6 0 0 (wM V q u) 8 [(0, .ref (q 0)), (1, .int v1), (2, .int v2)] []) {k18 : St → Int32 → Option (St)} (hk18 : ∀ (u : St) (v3 : Int32), k18 u v3 = some res → At X 6 0 0 (wM V q u) 18 [(0, .ref (q 0)), (1, .int v1), (2, .int v2), (3, .int v3)] []) {k49 : Int32 → Int32 → Option (St)} (hk49 : ∀ (v4 : Int32) (v5 : Int32), k49 v4 v5 = some res → At X 6 0 0 (wM V q u) 49 [(0, .ref (q 0)), (1, .int v1), (2, .int v2), (3, .int v3), (4, .int v4), (5, .int v5)] []) (hf : fX12_layOut_b87  k8 k18 k49 u v1 v2 v3 v5 = some res) : At X 6 0 0 (wM V q u) 87 [(0, .ref (q 0)), (1, .int v1), (2, .int v2), (3, .int v3), (5, .int v5)] [] := by
  obtain ⟨hX, hT, hF⟩ := id h
  unfold fX12_layOut_b87 at hf
  refine a_iconst (v := 0) hX dX12_layOut_87 (by decide) rfl ?_
  exact wX12_layOut_b88 h hE hk8 hk18 hk49 hf
def fX12_layOut_l49b  (k8 : St → Int32 → Option (St)) (k18 : St → Int32 → Option (St)) (k49 : Int32 → Int32 → Option (St)) (u : St) (v1 : Int32) (v2 : Int32) (v3 : Int32) (v4 : Int32) (v5 : Int32) : Option (St) := if gZ u 8 ≤ v5 then stZ u 15 60 ((5 * v2) + v3) v4 (fun u2 => k18 u2 (v3 + 1)) else (if v4 = 0 then fX12_layOut_b87 k8 k18 k49 u v1 v2 v3 v5 else (if (v1 >>> (v5 &&& 31)) &&& 1 = 0 then fX12_layOut_b83 k8 k18 k49 u v1 v2 v3 v5 else (cl1 (fX12_lets u v5 v3 v2) (fun x3 => if x3 = 0 then fX12_layOut_b87 k8 k18 k49 u v1 v2 v3 v5 else (fX12_layOut_b83 k8 k18 k49 u v1 v2 v3 v5)))))
theorem wX12_layOut_l49b {X : Cx} {V : Vx} {q : Nat → Nat} {res : St} (h : Run X cX12_layOut 6 RX12 rmX12_layOut V none (rEq none (wM V q res))) (hE : ZOK (vZ V)) {u : St} {v1 : Int32} {v2 : Int32} {v3 : Int32} {v4 : Int32} {v5 : Int32} {k8 : St → Int32 → Option (St)} (hk8 : ∀ (u : St) (v2 : Int32), k8 u v2 = some res → At X 6 0 0 (wM V q u) 8 [(0, .ref (q 0)), (1, .int v1), (2, .int v2)] []) {k18 : St → Int32 → Option (St)} (hk18 : ∀ (u : St) (v3 : Int32), k18 u v3 = some res → At X 6 0 0 (wM V q u) 18 [(0, .ref (q 0)), (1, .int v1), (2, .int v2), (3, .int v3)] []) {k49 : Int32 → Int32 → Option (St)} (hk49 : ∀ (v4 : Int32) (v5 : Int32), k49 v4 v5 = some res → At X 6 0 0 (wM V q u) 49 [(0, .ref (q 0)), (1, .int v1), (2, .int v2), (3, .int v3), (4, .int v4), (5, .int v5)] []) (hf : fX12_layOut_l49b  k8 k18 k49 u v1 v2 v3 v4 v5 = some res) : At X 6 0 0 (wM V q u) 49 [(0, .ref (q 0)), (1, .int v1), (2, .int v2), (3, .int v3), (4, .int v4), (5, .int v5)] [] := by
  obtain ⟨hX, hT, hF⟩ := id h
  unfold fX12_layOut_l49b at hf
  refine a_iload hX dX12_layOut_49 5 rfl rfl ?_
  refine a_aload_n hX dX12_layOut_51 rfl 0 rfl rfl ?_
  refine gX12_8 hX F_X12_162 dX12_layOut_52 rfl ?_
  refine a_icmp_ge (tgt := 96) hX dX12_layOut_55 rfl rfl hf (fun hf => ?_) (fun hf => ?_)
  · refine a_aload_n hX dX12_layOut_96 rfl 0 rfl rfl ?_
    refine gX12_15 hX F_X12_45 dX12_layOut_97 rfl ?_
    refine a_iconst (v := 5) hX dX12_layOut_100 (by decide) rfl ?_
    refine a_iload_n hX dX12_layOut_101 rfl 2 rfl rfl ?_
    refine a_imul hX dX12_layOut_102 rfl ?_
    refine a_iload_n hX dX12_layOut_103 rfl 3 rfl rfl ?_
    refine a_iadd hX dX12_layOut_104 rfl ?_
    refine a_iload hX dX12_layOut_105 4 rfl rfl ?_
    refine sX12_15 hX dX12_layOut_107 rfl hf (fun u2 hf => ?_)
    refine a_iinc (v := v3 + 1) (lv' := [(3, .int (v3 + 1)), (0, .ref (q 0)), (1, .int v1), (2, .int v2), (4, .int v4), (5, .int v5)]) hX dX12_layOut_108 3 rfl rfl (by decide) rfl rfl ?_
    refine a_goto (pc' := 18) hX dX12_layOut_111 rfl ?_
    refine a_lv (lv' := [(0, .ref (q 0)), (1, .int v1), (2, .int v2), (3, .int (v3 + 1))]) [1, 2, 3, 0] rfl ?_
    exact hk18 u2 (v3 + 1) hf
  · refine a_iload hX dX12_layOut_58 4 rfl rfl ?_
    refine a_if_eq (tgt := 87) hX dX12_layOut_60 rfl rfl hf (fun hf => ?_) (fun hf => ?_)
    · refine a_lv (lv' := [(0, .ref (q 0)), (1, .int v1), (2, .int v2), (3, .int v3), (5, .int v5)]) [0, 1, 2, 3, 5] rfl ?_
      exact wX12_layOut_b87 h hE hk8 hk18 hk49 hf
    · refine a_iload_n hX dX12_layOut_63 rfl 1 rfl rfl ?_
      refine a_iload hX dX12_layOut_64 5 rfl rfl ?_
      refine a_ishr hX dX12_layOut_66 rfl ?_
      refine a_iconst (v := 1) hX dX12_layOut_67 (by decide) rfl ?_
      refine a_iand hX dX12_layOut_68 rfl ?_
      refine a_if_eq (tgt := 83) hX dX12_layOut_69 rfl rfl hf (fun hf => ?_) (fun hf => ?_)
      · refine a_lv (lv' := [(0, .ref (q 0)), (1, .int v1), (2, .int v2), (3, .int v3), (5, .int v5)]) [0, 1, 2, 3, 5] rfl ?_
        exact wX12_layOut_b83 h hE hk8 hk18 hk49 hf
      · refine a_aload_n hX dX12_layOut_72 rfl 0 rfl rfl ?_
        refine a_iload hX dX12_layOut_73 5 rfl rfl ?_
        refine a_iload_n hX dX12_layOut_75 rfl 3 rfl rfl ?_
        refine a_iload_n hX dX12_layOut_76 rfl 2 rfl rfl ?_
        obtain ⟨x3, hg3, hf⟩ := cl1_some hf
        refine a_cVsi (q0 := 0) (rest := []) hX hE (ctX12_lets (q := q) hE hg3) K_X12_176 ⟨rfl, rfl⟩ ⟨rfl, rfl, by decide, by decide⟩ ⟨Nat.zero_le _, Nat.zero_le _⟩ (Nat.le_of_ble_eq_true rfl) dX12_layOut_77 rfl rfl ?_
        refine a_if_eq (tgt := 87) hX dX12_layOut_80 rfl rfl hf (fun hf => ?_) (fun hf => ?_)
        · refine a_lv (lv' := [(0, .ref (q 0)), (1, .int v1), (2, .int v2), (3, .int v3), (5, .int v5)]) [0, 1, 2, 3, 5] rfl ?_
          exact wX12_layOut_b87 h hE hk8 hk18 hk49 hf
        · refine a_lv (lv' := [(0, .ref (q 0)), (1, .int v1), (2, .int v2), (3, .int v3), (5, .int v5)]) [0, 1, 2, 3, 5] rfl ?_
          exact wX12_layOut_b83 h hE hk8 hk18 hk49 hf
def fX12_layOut_l49  (k8 : St → Int32 → Option (St)) (k18 : St → Int32 → Option (St)) (u : St) (v1 : Int32) (v2 : Int32) (v3 : Int32) : Nat → Int32 → Int32 → Option (St)
  | 0, _, _ => none
  | m + 1, v4, v5 => fX12_layOut_l49b  k8 k18 (fX12_layOut_l49  k8 k18 u v1 v2 v3 m) u v1 v2 v3 v4 v5
theorem wX12_layOut_l49 {X : Cx} {V : Vx} {q : Nat → Nat} {res : St} (h : Run X cX12_layOut 6 RX12 rmX12_layOut V none (rEq none (wM V q res))) (hE : ZOK (vZ V)) {u : St} {v1 : Int32} {v2 : Int32} {v3 : Int32} {k8 : St → Int32 → Option (St)} (hk8 : ∀ (u : St) (v2 : Int32), k8 u v2 = some res → At X 6 0 0 (wM V q u) 8 [(0, .ref (q 0)), (1, .int v1), (2, .int v2)] []) {k18 : St → Int32 → Option (St)} (hk18 : ∀ (u : St) (v3 : Int32), k18 u v3 = some res → At X 6 0 0 (wM V q u) 18 [(0, .ref (q 0)), (1, .int v1), (2, .int v2), (3, .int v3)] []) : ∀ (m : Nat) (v4 : Int32) (v5 : Int32), fX12_layOut_l49  k8 k18 u v1 v2 v3 m v4 v5 = some res → At X 6 0 0 (wM V q u) 49 [(0, .ref (q 0)), (1, .int v1), (2, .int v2), (3, .int v3), (4, .int v4), (5, .int v5)] [] := by
  intro m
  induction m with
  | zero => intro v4 v5 hf; cases hf
  | succ m ih => intro v4 v5 hf; exact wX12_layOut_l49b h hE hk8 hk18 ih hf
def fX12_layOut_b44  (k8 : St → Int32 → Option (St)) (k18 : St → Int32 → Option (St)) (u : St) (v1 : Int32) (v2 : Int32) (v3 : Int32) (s0 : Int32) : Option (St) := fX12_layOut_l49 k8 k18 u v1 v2 v3 NF s0 0
theorem wX12_layOut_b44 {X : Cx} {V : Vx} {q : Nat → Nat} {res : St} (h : Run X cX12_layOut 6 RX12 rmX12_layOut V none (rEq none (wM V q res))) (hE : ZOK (vZ V)) {u : St} {v1 : Int32} {v2 : Int32} {v3 : Int32} {s0 : Int32} {k8 : St → Int32 → Option (St)} (hk8 : ∀ (u : St) (v2 : Int32), k8 u v2 = some res → At X 6 0 0 (wM V q u) 8 [(0, .ref (q 0)), (1, .int v1), (2, .int v2)] []) {k18 : St → Int32 → Option (St)} (hk18 : ∀ (u : St) (v3 : Int32), k18 u v3 = some res → At X 6 0 0 (wM V q u) 18 [(0, .ref (q 0)), (1, .int v1), (2, .int v2), (3, .int v3)] []) (hf : fX12_layOut_b44  k8 k18 u v1 v2 v3 s0 = some res) : At X 6 0 0 (wM V q u) 44 [(0, .ref (q 0)), (1, .int v1), (2, .int v2), (3, .int v3)] [.int s0] := by
  obtain ⟨hX, hT, hF⟩ := id h
  unfold fX12_layOut_b44 at hf
  refine a_istore (lv' := [(4, .int s0), (0, .ref (q 0)), (1, .int v1), (2, .int v2), (3, .int v3)]) hX dX12_layOut_44 (by decide) rfl rfl ?_
  refine a_iconst (v := 0) hX dX12_layOut_46 (by decide) rfl ?_
  refine a_istore (lv' := [(5, .int 0), (4, .int s0), (0, .ref (q 0)), (1, .int v1), (2, .int v2), (3, .int v3)]) hX dX12_layOut_47 (by decide) rfl rfl ?_
  refine a_lv (lv' := [(0, .ref (q 0)), (1, .int v1), (2, .int v2), (3, .int v3), (4, .int s0), (5, .int 0)]) [2, 3, 4, 5, 1, 0] rfl ?_
  exact wX12_layOut_l49 h hE hk8 hk18 NF s0 0 hf
def fX12_layOut_b39  (k8 : St → Int32 → Option (St)) (k18 : St → Int32 → Option (St)) (u : St) (v1 : Int32) (v2 : Int32) (v3 : Int32) : Option (St) := fX12_layOut_b44 k8 k18 u v1 v2 v3 1
theorem wX12_layOut_b39 {X : Cx} {V : Vx} {q : Nat → Nat} {res : St} (h : Run X cX12_layOut 6 RX12 rmX12_layOut V none (rEq none (wM V q res))) (hE : ZOK (vZ V)) {u : St} {v1 : Int32} {v2 : Int32} {v3 : Int32} {k8 : St → Int32 → Option (St)} (hk8 : ∀ (u : St) (v2 : Int32), k8 u v2 = some res → At X 6 0 0 (wM V q u) 8 [(0, .ref (q 0)), (1, .int v1), (2, .int v2)] []) {k18 : St → Int32 → Option (St)} (hk18 : ∀ (u : St) (v3 : Int32), k18 u v3 = some res → At X 6 0 0 (wM V q u) 18 [(0, .ref (q 0)), (1, .int v1), (2, .int v2), (3, .int v3)] []) (hf : fX12_layOut_b39  k8 k18 u v1 v2 v3 = some res) : At X 6 0 0 (wM V q u) 39 [(0, .ref (q 0)), (1, .int v1), (2, .int v2), (3, .int v3)] [] := by
  obtain ⟨hX, hT, hF⟩ := id h
  unfold fX12_layOut_b39 at hf
  refine a_iconst (v := 1) hX dX12_layOut_39 (by decide) rfl ?_
  refine a_goto (pc' := 44) hX dX12_layOut_40 rfl ?_
  exact wX12_layOut_b44 h hE hk8 hk18 hf
def fX12_layOut_l18b  (k8 : St → Int32 → Option (St)) (k18 : St → Int32 → Option (St)) (u : St) (v1 : Int32) (v2 : Int32) (v3 : Int32) : Option (St) := if 5 ≤ v3 then k8 u (v2 + 1) else (if 0 < v2 then fX12_layOut_b39 k8 k18 u v1 v2 v3 else (if ((gZ u 2) >>> (v3 &&& 31)) &&& 1 = 1 then fX12_layOut_b39 k8 k18 u v1 v2 v3 else (fX12_layOut_b44 k8 k18 u v1 v2 v3 0)))
theorem wX12_layOut_l18b {X : Cx} {V : Vx} {q : Nat → Nat} {res : St} (h : Run X cX12_layOut 6 RX12 rmX12_layOut V none (rEq none (wM V q res))) (hE : ZOK (vZ V)) {u : St} {v1 : Int32} {v2 : Int32} {v3 : Int32} {k8 : St → Int32 → Option (St)} (hk8 : ∀ (u : St) (v2 : Int32), k8 u v2 = some res → At X 6 0 0 (wM V q u) 8 [(0, .ref (q 0)), (1, .int v1), (2, .int v2)] []) {k18 : St → Int32 → Option (St)} (hk18 : ∀ (u : St) (v3 : Int32), k18 u v3 = some res → At X 6 0 0 (wM V q u) 18 [(0, .ref (q 0)), (1, .int v1), (2, .int v2), (3, .int v3)] []) (hf : fX12_layOut_l18b  k8 k18 u v1 v2 v3 = some res) : At X 6 0 0 (wM V q u) 18 [(0, .ref (q 0)), (1, .int v1), (2, .int v2), (3, .int v3)] [] := by
  obtain ⟨hX, hT, hF⟩ := id h
  unfold fX12_layOut_l18b at hf
  refine a_iload_n hX dX12_layOut_18 rfl 3 rfl rfl ?_
  refine a_iconst (v := 5) hX dX12_layOut_19 (by decide) rfl ?_
  refine a_icmp_ge (tgt := 114) hX dX12_layOut_20 rfl rfl hf (fun hf => ?_) (fun hf => ?_)
  · refine a_iinc (v := v2 + 1) (lv' := [(2, .int (v2 + 1)), (0, .ref (q 0)), (1, .int v1), (3, .int v3)]) hX dX12_layOut_114 2 rfl rfl (by decide) rfl rfl ?_
    refine a_goto (pc' := 8) hX dX12_layOut_117 rfl ?_
    refine a_lv (lv' := [(0, .ref (q 0)), (1, .int v1), (2, .int (v2 + 1))]) [1, 2, 0] rfl ?_
    exact hk8 u (v2 + 1) hf
  · refine a_iload_n hX dX12_layOut_23 rfl 2 rfl rfl ?_
    refine a_if_gt (tgt := 39) hX dX12_layOut_24 rfl rfl hf (fun hf => ?_) (fun hf => ?_)
    · exact wX12_layOut_b39 h hE hk8 hk18 hf
    · refine a_aload_n hX dX12_layOut_27 rfl 0 rfl rfl ?_
      refine gX12_2 hX F_X12_140 dX12_layOut_28 rfl ?_
      refine a_iload_n hX dX12_layOut_31 rfl 3 rfl rfl ?_
      refine a_ishr hX dX12_layOut_32 rfl ?_
      refine a_iconst (v := 1) hX dX12_layOut_33 (by decide) rfl ?_
      refine a_iand hX dX12_layOut_34 rfl ?_
      refine a_iconst (v := 1) hX dX12_layOut_35 (by decide) rfl ?_
      refine a_icmp_ne (tgt := 43) hX dX12_layOut_36 rfl rfl hf (fun hf => ?_) (fun hf => ?_)
      · refine a_iconst (v := 0) hX dX12_layOut_43 (by decide) rfl ?_
        exact wX12_layOut_b44 h hE hk8 hk18 hf
      · exact wX12_layOut_b39 h hE hk8 hk18 hf
def fX12_layOut_l18  (k8 : St → Int32 → Option (St)) (v1 : Int32) (v2 : Int32) : Nat → St → Int32 → Option (St)
  | 0, _, _ => none
  | m + 1, u, v3 => fX12_layOut_l18b  k8 (fX12_layOut_l18  k8 v1 v2 m) u v1 v2 v3
theorem wX12_layOut_l18 {X : Cx} {V : Vx} {q : Nat → Nat} {res : St} (h : Run X cX12_layOut 6 RX12 rmX12_layOut V none (rEq none (wM V q res))) (hE : ZOK (vZ V)) {v1 : Int32} {v2 : Int32} {k8 : St → Int32 → Option (St)} (hk8 : ∀ (u : St) (v2 : Int32), k8 u v2 = some res → At X 6 0 0 (wM V q u) 8 [(0, .ref (q 0)), (1, .int v1), (2, .int v2)] []) : ∀ (m : Nat) (u : St) (v3 : Int32), fX12_layOut_l18  k8 v1 v2 m u v3 = some res → At X 6 0 0 (wM V q u) 18 [(0, .ref (q 0)), (1, .int v1), (2, .int v2), (3, .int v3)] [] := by
  intro m
  induction m with
  | zero => intro u v3 hf; cases hf
  | succ m ih => intro u v3 hf; exact wX12_layOut_l18b h hE hk8 ih hf
def fX12_layOut_b185  (k122 : St → Int32 → Option (St)) (k134 : St → Int32 → Option (St)) (k142 : St → Int32 → Option (St)) (u : St) (v2 : Int32) (v3 : Int32) (v4 : Int32) (s0 : Int32) (s1 : Int32) : Option (St) := stZ u 16 300 s1 s0 (fun u5 => k142 u5 (v4 + 1))
theorem wX12_layOut_b185 {X : Cx} {V : Vx} {q : Nat → Nat} {res : St} (h : Run X cX12_layOut 6 RX12 rmX12_layOut V none (rEq none (wM V q res))) (hE : ZOK (vZ V)) {u : St} {v2 : Int32} {v3 : Int32} {v4 : Int32} {s0 : Int32} {s1 : Int32} {k122 : St → Int32 → Option (St)} (hk122 : ∀ (u : St) (v2 : Int32), k122 u v2 = some res → At X 6 0 0 (wM V q u) 122 [(0, .ref (q 0)), (2, .int v2)] []) {k134 : St → Int32 → Option (St)} (hk134 : ∀ (u : St) (v3 : Int32), k134 u v3 = some res → At X 6 0 0 (wM V q u) 134 [(0, .ref (q 0)), (2, .int v2), (3, .int v3)] []) {k142 : St → Int32 → Option (St)} (hk142 : ∀ (u : St) (v4 : Int32), k142 u v4 = some res → At X 6 0 0 (wM V q u) 142 [(0, .ref (q 0)), (2, .int v2), (3, .int v3), (4, .int v4)] []) (hf : fX12_layOut_b185  k122 k134 k142 u v2 v3 v4 s0 s1 = some res) : At X 6 0 0 (wM V q u) 185 [(0, .ref (q 0)), (2, .int v2), (3, .int v3), (4, .int v4)] [.int s0, .int s1, .ref (q 17)] := by
  obtain ⟨hX, hT, hF⟩ := id h
  unfold fX12_layOut_b185 at hf
  refine sX12_16 hX dX12_layOut_185 rfl hf (fun u5 hf => ?_)
  refine a_iinc (v := v4 + 1) (lv' := [(4, .int (v4 + 1)), (0, .ref (q 0)), (2, .int v2), (3, .int v3)]) hX dX12_layOut_186 3 rfl rfl (by decide) rfl rfl ?_
  refine a_goto (pc' := 142) hX dX12_layOut_189 rfl ?_
  refine a_lv (lv' := [(0, .ref (q 0)), (2, .int v2), (3, .int v3), (4, .int (v4 + 1))]) [1, 2, 3, 0] rfl ?_
  exact hk142 u5 (v4 + 1) hf
def fX12_layOut_b180  (k122 : St → Int32 → Option (St)) (k134 : St → Int32 → Option (St)) (k142 : St → Int32 → Option (St)) (u : St) (v2 : Int32) (v3 : Int32) (v4 : Int32) (s0 : Int32) : Option (St) := fX12_layOut_b185 k122 k134 k142 u v2 v3 v4 1 s0
theorem wX12_layOut_b180 {X : Cx} {V : Vx} {q : Nat → Nat} {res : St} (h : Run X cX12_layOut 6 RX12 rmX12_layOut V none (rEq none (wM V q res))) (hE : ZOK (vZ V)) {u : St} {v2 : Int32} {v3 : Int32} {v4 : Int32} {s0 : Int32} {k122 : St → Int32 → Option (St)} (hk122 : ∀ (u : St) (v2 : Int32), k122 u v2 = some res → At X 6 0 0 (wM V q u) 122 [(0, .ref (q 0)), (2, .int v2)] []) {k134 : St → Int32 → Option (St)} (hk134 : ∀ (u : St) (v3 : Int32), k134 u v3 = some res → At X 6 0 0 (wM V q u) 134 [(0, .ref (q 0)), (2, .int v2), (3, .int v3)] []) {k142 : St → Int32 → Option (St)} (hk142 : ∀ (u : St) (v4 : Int32), k142 u v4 = some res → At X 6 0 0 (wM V q u) 142 [(0, .ref (q 0)), (2, .int v2), (3, .int v3), (4, .int v4)] []) (hf : fX12_layOut_b180  k122 k134 k142 u v2 v3 v4 s0 = some res) : At X 6 0 0 (wM V q u) 180 [(0, .ref (q 0)), (2, .int v2), (3, .int v3), (4, .int v4)] [.int s0, .ref (q 17)] := by
  obtain ⟨hX, hT, hF⟩ := id h
  unfold fX12_layOut_b180 at hf
  refine a_iconst (v := 1) hX dX12_layOut_180 (by decide) rfl ?_
  refine a_goto (pc' := 185) hX dX12_layOut_181 rfl ?_
  exact wX12_layOut_b185 h hE hk122 hk134 hk142 hf
def fX12_layOut_l142b  (k122 : St → Int32 → Option (St)) (k134 : St → Int32 → Option (St)) (k142 : St → Int32 → Option (St)) (u : St) (v2 : Int32) (v3 : Int32) (v4 : Int32) : Option (St) := if 5 ≤ v4 then k134 u (v3 + 1) else (if v3 = v4 then fX12_layOut_b180 k122 k134 k142 u v2 v3 v4 (((25 * v2) + (5 * v3)) + v4) else (cl1 (fX12_openWays u v3 v4 v2) (fun x4 => if x4 ≤ 0 then fX12_layOut_b185 k122 k134 k142 u v2 v3 v4 0 (((25 * v2) + (5 * v3)) + v4) else (fX12_layOut_b180 k122 k134 k142 u v2 v3 v4 (((25 * v2) + (5 * v3)) + v4)))))
theorem wX12_layOut_l142b {X : Cx} {V : Vx} {q : Nat → Nat} {res : St} (h : Run X cX12_layOut 6 RX12 rmX12_layOut V none (rEq none (wM V q res))) (hE : ZOK (vZ V)) {u : St} {v2 : Int32} {v3 : Int32} {v4 : Int32} {k122 : St → Int32 → Option (St)} (hk122 : ∀ (u : St) (v2 : Int32), k122 u v2 = some res → At X 6 0 0 (wM V q u) 122 [(0, .ref (q 0)), (2, .int v2)] []) {k134 : St → Int32 → Option (St)} (hk134 : ∀ (u : St) (v3 : Int32), k134 u v3 = some res → At X 6 0 0 (wM V q u) 134 [(0, .ref (q 0)), (2, .int v2), (3, .int v3)] []) {k142 : St → Int32 → Option (St)} (hk142 : ∀ (u : St) (v4 : Int32), k142 u v4 = some res → At X 6 0 0 (wM V q u) 142 [(0, .ref (q 0)), (2, .int v2), (3, .int v3), (4, .int v4)] []) (hf : fX12_layOut_l142b  k122 k134 k142 u v2 v3 v4 = some res) : At X 6 0 0 (wM V q u) 142 [(0, .ref (q 0)), (2, .int v2), (3, .int v3), (4, .int v4)] [] := by
  obtain ⟨hX, hT, hF⟩ := id h
  unfold fX12_layOut_l142b at hf
  refine a_iload hX dX12_layOut_142 3 rfl rfl ?_
  refine a_iconst (v := 5) hX dX12_layOut_144 (by decide) rfl ?_
  refine a_icmp_ge (tgt := 192) hX dX12_layOut_145 rfl rfl hf (fun hf => ?_) (fun hf => ?_)
  · refine a_iinc (v := v3 + 1) (lv' := [(3, .int (v3 + 1)), (0, .ref (q 0)), (2, .int v2), (4, .int v4)]) hX dX12_layOut_192 2 rfl rfl (by decide) rfl rfl ?_
    refine a_goto (pc' := 134) hX dX12_layOut_195 rfl ?_
    refine a_lv (lv' := [(0, .ref (q 0)), (2, .int v2), (3, .int (v3 + 1))]) [1, 2, 0] rfl ?_
    exact hk134 u (v3 + 1) hf
  · refine a_aload_n hX dX12_layOut_148 rfl 0 rfl rfl ?_
    refine gX12_16 hX F_X12_48 dX12_layOut_149 rfl ?_
    refine a_bipush (v := 25) hX dX12_layOut_152 (by decide) rfl ?_
    refine a_iload_n hX dX12_layOut_154 rfl 1 rfl rfl ?_
    refine a_imul hX dX12_layOut_155 rfl ?_
    refine a_iconst (v := 5) hX dX12_layOut_156 (by decide) rfl ?_
    refine a_iload_n hX dX12_layOut_157 rfl 2 rfl rfl ?_
    refine a_imul hX dX12_layOut_158 rfl ?_
    refine a_iadd hX dX12_layOut_159 rfl ?_
    refine a_iload hX dX12_layOut_160 3 rfl rfl ?_
    refine a_iadd hX dX12_layOut_162 rfl ?_
    refine a_iload_n hX dX12_layOut_163 rfl 2 rfl rfl ?_
    refine a_iload hX dX12_layOut_164 3 rfl rfl ?_
    refine a_icmp_eq (tgt := 180) hX dX12_layOut_166 rfl rfl hf (fun hf => ?_) (fun hf => ?_)
    · exact wX12_layOut_b180 h hE hk122 hk134 hk142 hf
    · refine a_aload_n hX dX12_layOut_169 rfl 0 rfl rfl ?_
      refine a_iload_n hX dX12_layOut_170 rfl 2 rfl rfl ?_
      refine a_iload hX dX12_layOut_171 3 rfl rfl ?_
      refine a_iload_n hX dX12_layOut_173 rfl 1 rfl rfl ?_
      obtain ⟨x4, hg4, hf⟩ := cl1_some hf
      refine a_cVsi (q0 := 0) (rest := [.int (((25 * v2) + (5 * v3)) + v4), .ref (q 17)]) hX hE (ctX12_openWays (q := q) hE hg4) K_X12_182 ⟨rfl, rfl⟩ ⟨rfl, rfl, by decide, by decide⟩ ⟨Nat.zero_le _, Nat.zero_le _⟩ (Nat.le_of_ble_eq_true rfl) dX12_layOut_174 rfl rfl ?_
      refine a_if_le (tgt := 184) hX dX12_layOut_177 rfl rfl hf (fun hf => ?_) (fun hf => ?_)
      · refine a_iconst (v := 0) hX dX12_layOut_184 (by decide) rfl ?_
        exact wX12_layOut_b185 h hE hk122 hk134 hk142 hf
      · exact wX12_layOut_b180 h hE hk122 hk134 hk142 hf
def fX12_layOut_l142  (k122 : St → Int32 → Option (St)) (k134 : St → Int32 → Option (St)) (v2 : Int32) (v3 : Int32) : Nat → St → Int32 → Option (St)
  | 0, _, _ => none
  | m + 1, u, v4 => fX12_layOut_l142b  k122 k134 (fX12_layOut_l142  k122 k134 v2 v3 m) u v2 v3 v4
theorem wX12_layOut_l142 {X : Cx} {V : Vx} {q : Nat → Nat} {res : St} (h : Run X cX12_layOut 6 RX12 rmX12_layOut V none (rEq none (wM V q res))) (hE : ZOK (vZ V)) {v2 : Int32} {v3 : Int32} {k122 : St → Int32 → Option (St)} (hk122 : ∀ (u : St) (v2 : Int32), k122 u v2 = some res → At X 6 0 0 (wM V q u) 122 [(0, .ref (q 0)), (2, .int v2)] []) {k134 : St → Int32 → Option (St)} (hk134 : ∀ (u : St) (v3 : Int32), k134 u v3 = some res → At X 6 0 0 (wM V q u) 134 [(0, .ref (q 0)), (2, .int v2), (3, .int v3)] []) : ∀ (m : Nat) (u : St) (v4 : Int32), fX12_layOut_l142  k122 k134 v2 v3 m u v4 = some res → At X 6 0 0 (wM V q u) 142 [(0, .ref (q 0)), (2, .int v2), (3, .int v3), (4, .int v4)] [] := by
  intro m
  induction m with
  | zero => intro u v4 hf; cases hf
  | succ m ih => intro u v4 hf; exact wX12_layOut_l142b h hE hk122 hk134 ih hf
def fX12_layOut_l134b  (k122 : St → Int32 → Option (St)) (k134 : St → Int32 → Option (St)) (u : St) (v2 : Int32) (v3 : Int32) : Option (St) := if 5 ≤ v3 then k122 u (v2 + 1) else (fX12_layOut_l142 k122 k134 v2 v3 NF u 0)
theorem wX12_layOut_l134b {X : Cx} {V : Vx} {q : Nat → Nat} {res : St} (h : Run X cX12_layOut 6 RX12 rmX12_layOut V none (rEq none (wM V q res))) (hE : ZOK (vZ V)) {u : St} {v2 : Int32} {v3 : Int32} {k122 : St → Int32 → Option (St)} (hk122 : ∀ (u : St) (v2 : Int32), k122 u v2 = some res → At X 6 0 0 (wM V q u) 122 [(0, .ref (q 0)), (2, .int v2)] []) {k134 : St → Int32 → Option (St)} (hk134 : ∀ (u : St) (v3 : Int32), k134 u v3 = some res → At X 6 0 0 (wM V q u) 134 [(0, .ref (q 0)), (2, .int v2), (3, .int v3)] []) (hf : fX12_layOut_l134b  k122 k134 u v2 v3 = some res) : At X 6 0 0 (wM V q u) 134 [(0, .ref (q 0)), (2, .int v2), (3, .int v3)] [] := by
  obtain ⟨hX, hT, hF⟩ := id h
  unfold fX12_layOut_l134b at hf
  refine a_iload_n hX dX12_layOut_134 rfl 2 rfl rfl ?_
  refine a_iconst (v := 5) hX dX12_layOut_135 (by decide) rfl ?_
  refine a_icmp_ge (tgt := 198) hX dX12_layOut_136 rfl rfl hf (fun hf => ?_) (fun hf => ?_)
  · refine a_iinc (v := v2 + 1) (lv' := [(2, .int (v2 + 1)), (0, .ref (q 0)), (3, .int v3)]) hX dX12_layOut_198 1 rfl rfl (by decide) rfl rfl ?_
    refine a_goto (pc' := 122) hX dX12_layOut_201 rfl ?_
    refine a_lv (lv' := [(0, .ref (q 0)), (2, .int (v2 + 1))]) [1, 0] rfl ?_
    exact hk122 u (v2 + 1) hf
  · refine a_iconst (v := 0) hX dX12_layOut_139 (by decide) rfl ?_
    refine a_istore (lv' := [(4, .int 0), (0, .ref (q 0)), (2, .int v2), (3, .int v3)]) hX dX12_layOut_140 (by decide) rfl rfl ?_
    refine a_lv (lv' := [(0, .ref (q 0)), (2, .int v2), (3, .int v3), (4, .int 0)]) [1, 2, 3, 0] rfl ?_
    exact wX12_layOut_l142 h hE hk122 hk134 NF u 0 hf
def fX12_layOut_l134  (k122 : St → Int32 → Option (St)) (v2 : Int32) : Nat → St → Int32 → Option (St)
  | 0, _, _ => none
  | m + 1, u, v3 => fX12_layOut_l134b  k122 (fX12_layOut_l134  k122 v2 m) u v2 v3
theorem wX12_layOut_l134 {X : Cx} {V : Vx} {q : Nat → Nat} {res : St} (h : Run X cX12_layOut 6 RX12 rmX12_layOut V none (rEq none (wM V q res))) (hE : ZOK (vZ V)) {v2 : Int32} {k122 : St → Int32 → Option (St)} (hk122 : ∀ (u : St) (v2 : Int32), k122 u v2 = some res → At X 6 0 0 (wM V q u) 122 [(0, .ref (q 0)), (2, .int v2)] []) : ∀ (m : Nat) (u : St) (v3 : Int32), fX12_layOut_l134  k122 v2 m u v3 = some res → At X 6 0 0 (wM V q u) 134 [(0, .ref (q 0)), (2, .int v2), (3, .int v3)] [] := by
  intro m
  induction m with
  | zero => intro u v3 hf; cases hf
  | succ m ih => intro u v3 hf; exact wX12_layOut_l134b h hE hk122 ih hf
def fX12_layOut_l122b  (k122 : St → Int32 → Option (St)) (u : St) (v2 : Int32) : Option (St) := if (gZ u 1) - 1 ≤ v2 then some u else (fX12_layOut_l134 k122 v2 NF u 0)
theorem wX12_layOut_l122b {X : Cx} {V : Vx} {q : Nat → Nat} {res : St} (h : Run X cX12_layOut 6 RX12 rmX12_layOut V none (rEq none (wM V q res))) (hE : ZOK (vZ V)) {u : St} {v2 : Int32} {k122 : St → Int32 → Option (St)} (hk122 : ∀ (u : St) (v2 : Int32), k122 u v2 = some res → At X 6 0 0 (wM V q u) 122 [(0, .ref (q 0)), (2, .int v2)] []) (hf : fX12_layOut_l122b  k122 u v2 = some res) : At X 6 0 0 (wM V q u) 122 [(0, .ref (q 0)), (2, .int v2)] [] := by
  obtain ⟨hX, hT, hF⟩ := id h
  unfold fX12_layOut_l122b at hf
  refine a_iload_n hX dX12_layOut_122 rfl 1 rfl rfl ?_
  refine a_aload_n hX dX12_layOut_123 rfl 0 rfl rfl ?_
  refine gX12_1 hX F_X12_124 dX12_layOut_124 rfl ?_
  refine a_iconst (v := 1) hX dX12_layOut_127 (by decide) rfl ?_
  refine a_isub hX dX12_layOut_128 rfl ?_
  refine a_icmp_ge (tgt := 204) hX dX12_layOut_129 rfl rfl hf (fun hf => ?_) (fun hf => ?_)
  · exact a_ret hX hT hF (r_vS (wf := (wM V q)) hf) dX12_layOut_204
  · refine a_iconst (v := 0) hX dX12_layOut_132 (by decide) rfl ?_
    refine a_istore_n (lv' := [(3, .int 0), (0, .ref (q 0)), (2, .int v2)]) hX dX12_layOut_133 rfl (by decide) rfl rfl ?_
    refine a_lv (lv' := [(0, .ref (q 0)), (2, .int v2), (3, .int 0)]) [1, 2, 0] rfl ?_
    exact wX12_layOut_l134 h hE hk122 NF u 0 hf
def fX12_layOut_l122    : Nat → St → Int32 → Option (St)
  | 0, _, _ => none
  | m + 1, u, v2 => fX12_layOut_l122b  (fX12_layOut_l122    m) u v2
theorem wX12_layOut_l122 {X : Cx} {V : Vx} {q : Nat → Nat} {res : St} (h : Run X cX12_layOut 6 RX12 rmX12_layOut V none (rEq none (wM V q res))) (hE : ZOK (vZ V))  : ∀ (m : Nat) (u : St) (v2 : Int32), fX12_layOut_l122    m u v2 = some res → At X 6 0 0 (wM V q u) 122 [(0, .ref (q 0)), (2, .int v2)] [] := by
  intro m
  induction m with
  | zero => intro u v2 hf; cases hf
  | succ m ih => intro u v2 hf; exact wX12_layOut_l122b h hE ih hf
def fX12_layOut_l8b  (k8 : St → Int32 → Option (St)) (u : St) (v1 : Int32) (v2 : Int32) : Option (St) := if gZ u 1 ≤ v2 then fX12_layOut_l122 NF u 0 else (fX12_layOut_l18 k8 v1 v2 NF u 0)
theorem wX12_layOut_l8b {X : Cx} {V : Vx} {q : Nat → Nat} {res : St} (h : Run X cX12_layOut 6 RX12 rmX12_layOut V none (rEq none (wM V q res))) (hE : ZOK (vZ V)) {u : St} {v1 : Int32} {v2 : Int32} {k8 : St → Int32 → Option (St)} (hk8 : ∀ (u : St) (v2 : Int32), k8 u v2 = some res → At X 6 0 0 (wM V q u) 8 [(0, .ref (q 0)), (1, .int v1), (2, .int v2)] []) (hf : fX12_layOut_l8b  k8 u v1 v2 = some res) : At X 6 0 0 (wM V q u) 8 [(0, .ref (q 0)), (1, .int v1), (2, .int v2)] [] := by
  obtain ⟨hX, hT, hF⟩ := id h
  unfold fX12_layOut_l8b at hf
  refine a_iload_n hX dX12_layOut_8 rfl 2 rfl rfl ?_
  refine a_aload_n hX dX12_layOut_9 rfl 0 rfl rfl ?_
  refine gX12_1 hX F_X12_124 dX12_layOut_10 rfl ?_
  refine a_icmp_ge (tgt := 120) hX dX12_layOut_13 rfl rfl hf (fun hf => ?_) (fun hf => ?_)
  · refine a_iconst (v := 0) hX dX12_layOut_120 (by decide) rfl ?_
    refine a_istore_n (lv' := [(2, .int 0), (0, .ref (q 0)), (1, .int v1)]) hX dX12_layOut_121 rfl (by decide) rfl rfl ?_
    refine a_lv (lv' := [(0, .ref (q 0)), (2, .int 0)]) [1, 0] rfl ?_
    exact wX12_layOut_l122 h hE NF u 0 hf
  · refine a_iconst (v := 0) hX dX12_layOut_16 (by decide) rfl ?_
    refine a_istore_n (lv' := [(3, .int 0), (0, .ref (q 0)), (1, .int v1), (2, .int v2)]) hX dX12_layOut_17 rfl (by decide) rfl rfl ?_
    refine a_lv (lv' := [(0, .ref (q 0)), (1, .int v1), (2, .int v2), (3, .int 0)]) [1, 2, 3, 0] rfl ?_
    exact wX12_layOut_l18 h hE hk8 NF u 0 hf
def fX12_layOut_l8   (v1 : Int32) : Nat → St → Int32 → Option (St)
  | 0, _, _ => none
  | m + 1, u, v2 => fX12_layOut_l8b  (fX12_layOut_l8   v1 m) u v1 v2
theorem wX12_layOut_l8 {X : Cx} {V : Vx} {q : Nat → Nat} {res : St} (h : Run X cX12_layOut 6 RX12 rmX12_layOut V none (rEq none (wM V q res))) (hE : ZOK (vZ V)) {v1 : Int32} : ∀ (m : Nat) (u : St) (v2 : Int32), fX12_layOut_l8   v1 m u v2 = some res → At X 6 0 0 (wM V q u) 8 [(0, .ref (q 0)), (1, .int v1), (2, .int v2)] [] := by
  intro m
  induction m with
  | zero => intro u v2 hf; cases hf
  | succ m ih => intro u v2 hf; exact wX12_layOut_l8b h hE ih hf
def fX12_layOut (u : St) : Option (St) := cl1 (fX12_standing u (-1)) (fun x1 => fX12_layOut_l8 x1 NF u 0)
theorem wX12_layOut {X : Cx} {V : Vx} {q : Nat → Nat} {res : St} (h : Run X cX12_layOut 6 RX12 rmX12_layOut V none (rEq none (wM V q res))) (hE : ZOK (vZ V)) {u : St} (hf : fX12_layOut u = some res) : At X 6 0 0 (wM V q u) 0 [(0, .ref (q 0))] [] := by
  obtain ⟨hX, hT, hF⟩ := id h
  unfold fX12_layOut at hf
  refine a_aload_n hX dX12_layOut_0 rfl 0 rfl rfl ?_
  refine a_iconst (v := (-1)) hX dX12_layOut_1 (by decide) rfl ?_
  obtain ⟨x1, hg1, hf⟩ := cl1_some hf
  refine a_cVsi (q0 := 0) (rest := []) hX hE (ctX12_standing (q := q) hE hg1) K_X12_168 ⟨rfl, rfl⟩ ⟨rfl, rfl, by decide, by decide⟩ ⟨Nat.zero_le _, Nat.zero_le _⟩ (Nat.le_of_ble_eq_true rfl) dX12_layOut_2 rfl rfl ?_
  refine a_istore_n (lv' := [(1, .int x1), (0, .ref (q 0))]) hX dX12_layOut_5 rfl (by decide) rfl rfl ?_
  refine a_iconst (v := 0) hX dX12_layOut_6 (by decide) rfl ?_
  refine a_istore_n (lv' := [(2, .int 0), (1, .int x1), (0, .ref (q 0))]) hX dX12_layOut_7 rfl (by decide) rfl rfl ?_
  refine a_lv (lv' := [(0, .ref (q 0)), (1, .int x1), (2, .int 0)]) [2, 1, 0] rfl ?_
  exact wX12_layOut_l8 h hE NF u 0 hf
theorem ctX12_layOut {V : Vx} {q : Nat → Nat} {u : St} {res : St} (hE : ZOK (vZ V))  (hf : fX12_layOut u = some res) : Ct V yX12_layOut (.code yX12_layOut cX12_layOut 6 none) rmX12_layOut 0 0 [.ref (q 0)] (wM V q u) (rEq none (wM V q res)) :=
  Ct_of (by decide) (Nat.le_of_ble_eq_true rfl) rfl (fun X hX hT _ hF => wX12_layOut ⟨hX, hT, hF⟩ hE hf)
def rmX12_counted : Room := { frames := 0, cells := 0, slots := 0, locals := 0 }
def fX12_counted_b28  (k4 : St → Int32 → Option (Int64 × St)) (u : St) (v1 : Int64) (v3 : Int32) (s0 : Int64) (s1 : Int32) : Option (Int64 × St) := stL u 17 60 s1 s0 (fun u2 => k4 u2 (v3 + 1))
theorem wX12_counted_b28 {X : Cx} {V : Vx} {q : Nat → Nat} {res : Int64 × St} (h : Run X cX12_counted 8 RX12 rmX12_counted V (some .long) (rEq (some (.long res.1)) (wM V q res.2))) (hE : ZOK (vZ V)) {u : St} {v1 : Int64} {v3 : Int32} {s0 : Int64} {s1 : Int32} {k4 : St → Int32 → Option (Int64 × St)} (hk4 : ∀ (u : St) (v3 : Int32), k4 u v3 = some res → At X 8 0 0 (wM V q u) 4 [(0, .ref (q 0)), (1, .long v1), (3, .int v3)] []) (hf : fX12_counted_b28  k4 u v1 v3 s0 s1 = some res) : At X 8 0 0 (wM V q u) 28 [(0, .ref (q 0)), (1, .long v1), (3, .int v3)] [.long s0, .int s1, .ref (q 18)] := by
  obtain ⟨hX, hT, hF⟩ := id h
  unfold fX12_counted_b28 at hf
  refine sX12_17 hX dX12_counted_28 rfl hf (fun u2 hf => ?_)
  refine a_iinc (v := v3 + 1) (lv' := [(3, .int (v3 + 1)), (0, .ref (q 0)), (1, .long v1)]) hX dX12_counted_29 2 rfl rfl (by decide) rfl rfl ?_
  refine a_goto (pc' := 4) hX dX12_counted_32 rfl ?_
  refine a_lv (lv' := [(0, .ref (q 0)), (1, .long v1), (3, .int (v3 + 1))]) [1, 2, 0] rfl ?_
  exact hk4 u2 (v3 + 1) hf
def fX12_counted_b107  (k37 : St → Int32 → Option (Int64 × St)) (k48 : St → Int32 → Option (Int64 × St)) (k60 : Int64 → Int32 → Option (Int64 × St)) (u : St) (v1 : Int64) (v3 : Int32) (v4 : Int32) (v7 : Int32) (s0 : Int64) (s1 : Int64) : Option (Int64 × St) := nmL (s1 + s0) (fun x7 => k60 x7 (v7 + 1))
theorem wX12_counted_b107 {X : Cx} {V : Vx} {q : Nat → Nat} {res : Int64 × St} (h : Run X cX12_counted 8 RX12 rmX12_counted V (some .long) (rEq (some (.long res.1)) (wM V q res.2))) (hE : ZOK (vZ V)) {u : St} {v1 : Int64} {v3 : Int32} {v4 : Int32} {v7 : Int32} {s0 : Int64} {s1 : Int64} {k37 : St → Int32 → Option (Int64 × St)} (hk37 : ∀ (u : St) (v3 : Int32), k37 u v3 = some res → At X 8 0 0 (wM V q u) 37 [(0, .ref (q 0)), (1, .long v1), (3, .int v3)] []) {k48 : St → Int32 → Option (Int64 × St)} (hk48 : ∀ (u : St) (v4 : Int32), k48 u v4 = some res → At X 8 0 0 (wM V q u) 48 [(0, .ref (q 0)), (1, .long v1), (3, .int v3), (4, .int v4)] []) {k60 : Int64 → Int32 → Option (Int64 × St)} (hk60 : ∀ (v5 : Int64) (v7 : Int32), k60 v5 v7 = some res → At X 8 0 0 (wM V q u) 60 [(0, .ref (q 0)), (1, .long v1), (3, .int v3), (4, .int v4), (5, .long v5), (7, .int v7)] []) (hf : fX12_counted_b107  k37 k48 k60 u v1 v3 v4 v7 s0 s1 = some res) : At X 8 0 0 (wM V q u) 107 [(0, .ref (q 0)), (1, .long v1), (3, .int v3), (4, .int v4), (7, .int v7)] [.long s0, .long s1] := by
  obtain ⟨hX, hT, hF⟩ := id h
  unfold fX12_counted_b107 at hf
  refine a_ladd hX dX12_counted_107 rfl ?_
  refine a_nmL hf (fun x7 hf => ?_)
  refine a_lstore (lv' := [(5, .long x7), (0, .ref (q 0)), (1, .long v1), (3, .int v3), (4, .int v4), (7, .int v7)]) hX dX12_counted_108 (by decide) rfl rfl ?_
  refine a_iinc (v := v7 + 1) (lv' := [(7, .int (v7 + 1)), (5, .long x7), (0, .ref (q 0)), (1, .long v1), (3, .int v3), (4, .int v4)]) hX dX12_counted_110 5 rfl rfl (by decide) rfl rfl ?_
  refine a_goto (pc' := 60) hX dX12_counted_113 rfl ?_
  refine a_lv (lv' := [(0, .ref (q 0)), (1, .long v1), (3, .int v3), (4, .int v4), (5, .long x7), (7, .int (v7 + 1))]) [2, 3, 4, 5, 1, 0] rfl ?_
  exact hk60 x7 (v7 + 1) hf
def fX12_counted_b146  (k37 : St → Int32 → Option (Int64 × St)) (k48 : St → Int32 → Option (Int64 × St)) (u : St) (v1 : Int64) (v3 : Int32) (v4 : Int32) (s0 : Int64) (s1 : Int32) : Option (Int64 × St) := stL u 17 60 s1 s0 (fun u8 => k48 u8 (v4 + 1))
theorem wX12_counted_b146 {X : Cx} {V : Vx} {q : Nat → Nat} {res : Int64 × St} (h : Run X cX12_counted 8 RX12 rmX12_counted V (some .long) (rEq (some (.long res.1)) (wM V q res.2))) (hE : ZOK (vZ V)) {u : St} {v1 : Int64} {v3 : Int32} {v4 : Int32} {s0 : Int64} {s1 : Int32} {k37 : St → Int32 → Option (Int64 × St)} (hk37 : ∀ (u : St) (v3 : Int32), k37 u v3 = some res → At X 8 0 0 (wM V q u) 37 [(0, .ref (q 0)), (1, .long v1), (3, .int v3)] []) {k48 : St → Int32 → Option (Int64 × St)} (hk48 : ∀ (u : St) (v4 : Int32), k48 u v4 = some res → At X 8 0 0 (wM V q u) 48 [(0, .ref (q 0)), (1, .long v1), (3, .int v3), (4, .int v4)] []) (hf : fX12_counted_b146  k37 k48 u v1 v3 v4 s0 s1 = some res) : At X 8 0 0 (wM V q u) 146 [(0, .ref (q 0)), (1, .long v1), (3, .int v3), (4, .int v4)] [.long s0, .int s1, .ref (q 18)] := by
  obtain ⟨hX, hT, hF⟩ := id h
  unfold fX12_counted_b146 at hf
  refine sX12_17 hX dX12_counted_146 rfl hf (fun u8 hf => ?_)
  refine a_iinc (v := v4 + 1) (lv' := [(4, .int (v4 + 1)), (0, .ref (q 0)), (1, .long v1), (3, .int v3)]) hX dX12_counted_147 3 rfl rfl (by decide) rfl rfl ?_
  refine a_goto (pc' := 48) hX dX12_counted_150 rfl ?_
  refine a_lv (lv' := [(0, .ref (q 0)), (1, .long v1), (3, .int v3), (4, .int (v4 + 1))]) [1, 2, 3, 0] rfl ?_
  exact hk48 u8 (v4 + 1) hf
def fX12_counted_l60b  (k37 : St → Int32 → Option (Int64 × St)) (k48 : St → Int32 → Option (Int64 × St)) (k60 : Int64 → Int32 → Option (Int64 × St)) (u : St) (v1 : Int64) (v3 : Int32) (v4 : Int32) (v5 : Int64) (v7 : Int32) : Option (Int64 × St) := if 5 ≤ v7 then ldI (gA u 15) 60 ((5 * v3) + v4) (fun x4 => if x4 = 0 then fX12_counted_b146 k37 k48 u v1 v3 v4 0 ((5 * v3) + v4) else (fX12_counted_b146 k37 k48 u v1 v3 v4 v5 ((5 * v3) + v4))) else (ldI (gA u 16) 300 (((25 * (v3 - 1)) + (5 * v7)) + v4) (fun x5 => if x5 = 0 then fX12_counted_b107 k37 k48 k60 u v1 v3 v4 v7 0 v5 else (ldL (gB u 17) 60 ((5 * (v3 - 1)) + v7) (fun x6 => fX12_counted_b107 k37 k48 k60 u v1 v3 v4 v7 x6 v5))))
theorem wX12_counted_l60b {X : Cx} {V : Vx} {q : Nat → Nat} {res : Int64 × St} (h : Run X cX12_counted 8 RX12 rmX12_counted V (some .long) (rEq (some (.long res.1)) (wM V q res.2))) (hE : ZOK (vZ V)) {u : St} {v1 : Int64} {v3 : Int32} {v4 : Int32} {v5 : Int64} {v7 : Int32} {k37 : St → Int32 → Option (Int64 × St)} (hk37 : ∀ (u : St) (v3 : Int32), k37 u v3 = some res → At X 8 0 0 (wM V q u) 37 [(0, .ref (q 0)), (1, .long v1), (3, .int v3)] []) {k48 : St → Int32 → Option (Int64 × St)} (hk48 : ∀ (u : St) (v4 : Int32), k48 u v4 = some res → At X 8 0 0 (wM V q u) 48 [(0, .ref (q 0)), (1, .long v1), (3, .int v3), (4, .int v4)] []) {k60 : Int64 → Int32 → Option (Int64 × St)} (hk60 : ∀ (v5 : Int64) (v7 : Int32), k60 v5 v7 = some res → At X 8 0 0 (wM V q u) 60 [(0, .ref (q 0)), (1, .long v1), (3, .int v3), (4, .int v4), (5, .long v5), (7, .int v7)] []) (hf : fX12_counted_l60b  k37 k48 k60 u v1 v3 v4 v5 v7 = some res) : At X 8 0 0 (wM V q u) 60 [(0, .ref (q 0)), (1, .long v1), (3, .int v3), (4, .int v4), (5, .long v5), (7, .int v7)] [] := by
  obtain ⟨hX, hT, hF⟩ := id h
  unfold fX12_counted_l60b at hf
  refine a_iload hX dX12_counted_60 5 rfl rfl ?_
  refine a_iconst (v := 5) hX dX12_counted_62 (by decide) rfl ?_
  refine a_icmp_ge (tgt := 116) hX dX12_counted_63 rfl rfl hf (fun hf => ?_) (fun hf => ?_)
  · refine a_aload_n hX dX12_counted_116 rfl 0 rfl rfl ?_
    refine gX12_17 hX F_X12_51 dX12_counted_117 rfl ?_
    refine a_iconst (v := 5) hX dX12_counted_120 (by decide) rfl ?_
    refine a_iload_n hX dX12_counted_121 rfl 2 rfl rfl ?_
    refine a_imul hX dX12_counted_122 rfl ?_
    refine a_iload hX dX12_counted_123 3 rfl rfl ?_
    refine a_iadd hX dX12_counted_125 rfl ?_
    refine a_aload_n hX dX12_counted_126 rfl 0 rfl rfl ?_
    refine gX12_15 hX F_X12_45 dX12_counted_127 rfl ?_
    refine a_iconst (v := 5) hX dX12_counted_130 (by decide) rfl ?_
    refine a_iload_n hX dX12_counted_131 rfl 2 rfl rfl ?_
    refine a_imul hX dX12_counted_132 rfl ?_
    refine a_iload hX dX12_counted_133 3 rfl rfl ?_
    refine a_iadd hX dX12_counted_135 rfl ?_
    refine lX12_15 hX dX12_counted_136 rfl hf (fun x4 hf => ?_)
    refine a_if_eq (tgt := 145) hX dX12_counted_137 rfl rfl hf (fun hf => ?_) (fun hf => ?_)
    · refine a_lconst (v := 0) hX dX12_counted_145 (by decide) rfl ?_
      refine a_lv (lv' := [(0, .ref (q 0)), (1, .long v1), (3, .int v3), (4, .int v4)]) [0, 1, 2, 3] rfl ?_
      exact wX12_counted_b146 h hE hk37 hk48 hf
    · refine a_lload hX dX12_counted_140 4 rfl rfl ?_
      refine a_goto (pc' := 146) hX dX12_counted_142 rfl ?_
      refine a_lv (lv' := [(0, .ref (q 0)), (1, .long v1), (3, .int v3), (4, .int v4)]) [0, 1, 2, 3] rfl ?_
      exact wX12_counted_b146 h hE hk37 hk48 hf
  · refine a_lload hX dX12_counted_66 4 rfl rfl ?_
    refine a_aload_n hX dX12_counted_68 rfl 0 rfl rfl ?_
    refine gX12_16 hX F_X12_48 dX12_counted_69 rfl ?_
    refine a_bipush (v := 25) hX dX12_counted_72 (by decide) rfl ?_
    refine a_iload_n hX dX12_counted_74 rfl 2 rfl rfl ?_
    refine a_iconst (v := 1) hX dX12_counted_75 (by decide) rfl ?_
    refine a_isub hX dX12_counted_76 rfl ?_
    refine a_imul hX dX12_counted_77 rfl ?_
    refine a_iconst (v := 5) hX dX12_counted_78 (by decide) rfl ?_
    refine a_iload hX dX12_counted_79 5 rfl rfl ?_
    refine a_imul hX dX12_counted_81 rfl ?_
    refine a_iadd hX dX12_counted_82 rfl ?_
    refine a_iload hX dX12_counted_83 3 rfl rfl ?_
    refine a_iadd hX dX12_counted_85 rfl ?_
    refine lX12_16 hX dX12_counted_86 rfl hf (fun x5 hf => ?_)
    refine a_if_eq (tgt := 106) hX dX12_counted_87 rfl rfl hf (fun hf => ?_) (fun hf => ?_)
    · refine a_lconst (v := 0) hX dX12_counted_106 (by decide) rfl ?_
      refine a_lv (lv' := [(0, .ref (q 0)), (1, .long v1), (3, .int v3), (4, .int v4), (7, .int v7)]) [0, 1, 2, 3, 5] rfl ?_
      exact wX12_counted_b107 h hE hk37 hk48 hk60 hf
    · refine a_aload_n hX dX12_counted_90 rfl 0 rfl rfl ?_
      refine gX12_17 hX F_X12_51 dX12_counted_91 rfl ?_
      refine a_iconst (v := 5) hX dX12_counted_94 (by decide) rfl ?_
      refine a_iload_n hX dX12_counted_95 rfl 2 rfl rfl ?_
      refine a_iconst (v := 1) hX dX12_counted_96 (by decide) rfl ?_
      refine a_isub hX dX12_counted_97 rfl ?_
      refine a_imul hX dX12_counted_98 rfl ?_
      refine a_iload hX dX12_counted_99 5 rfl rfl ?_
      refine a_iadd hX dX12_counted_101 rfl ?_
      refine lX12_17 hX dX12_counted_102 rfl hf (fun x6 hf => ?_)
      refine a_goto (pc' := 107) hX dX12_counted_103 rfl ?_
      refine a_lv (lv' := [(0, .ref (q 0)), (1, .long v1), (3, .int v3), (4, .int v4), (7, .int v7)]) [0, 1, 2, 3, 5] rfl ?_
      exact wX12_counted_b107 h hE hk37 hk48 hk60 hf
def fX12_counted_l60  (k37 : St → Int32 → Option (Int64 × St)) (k48 : St → Int32 → Option (Int64 × St)) (u : St) (v1 : Int64) (v3 : Int32) (v4 : Int32) : Nat → Int64 → Int32 → Option (Int64 × St)
  | 0, _, _ => none
  | m + 1, v5, v7 => fX12_counted_l60b  k37 k48 (fX12_counted_l60  k37 k48 u v1 v3 v4 m) u v1 v3 v4 v5 v7
theorem wX12_counted_l60 {X : Cx} {V : Vx} {q : Nat → Nat} {res : Int64 × St} (h : Run X cX12_counted 8 RX12 rmX12_counted V (some .long) (rEq (some (.long res.1)) (wM V q res.2))) (hE : ZOK (vZ V)) {u : St} {v1 : Int64} {v3 : Int32} {v4 : Int32} {k37 : St → Int32 → Option (Int64 × St)} (hk37 : ∀ (u : St) (v3 : Int32), k37 u v3 = some res → At X 8 0 0 (wM V q u) 37 [(0, .ref (q 0)), (1, .long v1), (3, .int v3)] []) {k48 : St → Int32 → Option (Int64 × St)} (hk48 : ∀ (u : St) (v4 : Int32), k48 u v4 = some res → At X 8 0 0 (wM V q u) 48 [(0, .ref (q 0)), (1, .long v1), (3, .int v3), (4, .int v4)] []) : ∀ (m : Nat) (v5 : Int64) (v7 : Int32), fX12_counted_l60  k37 k48 u v1 v3 v4 m v5 v7 = some res → At X 8 0 0 (wM V q u) 60 [(0, .ref (q 0)), (1, .long v1), (3, .int v3), (4, .int v4), (5, .long v5), (7, .int v7)] [] := by
  intro m
  induction m with
  | zero => intro v5 v7 hf; cases hf
  | succ m ih => intro v5 v7 hf; exact wX12_counted_l60b h hE hk37 hk48 ih hf
def fX12_counted_l48b  (k37 : St → Int32 → Option (Int64 × St)) (k48 : St → Int32 → Option (Int64 × St)) (u : St) (v1 : Int64) (v3 : Int32) (v4 : Int32) : Option (Int64 × St) := if 5 ≤ v4 then k37 u (v3 + 1) else (fX12_counted_l60 k37 k48 u v1 v3 v4 NF 0 0)
theorem wX12_counted_l48b {X : Cx} {V : Vx} {q : Nat → Nat} {res : Int64 × St} (h : Run X cX12_counted 8 RX12 rmX12_counted V (some .long) (rEq (some (.long res.1)) (wM V q res.2))) (hE : ZOK (vZ V)) {u : St} {v1 : Int64} {v3 : Int32} {v4 : Int32} {k37 : St → Int32 → Option (Int64 × St)} (hk37 : ∀ (u : St) (v3 : Int32), k37 u v3 = some res → At X 8 0 0 (wM V q u) 37 [(0, .ref (q 0)), (1, .long v1), (3, .int v3)] []) {k48 : St → Int32 → Option (Int64 × St)} (hk48 : ∀ (u : St) (v4 : Int32), k48 u v4 = some res → At X 8 0 0 (wM V q u) 48 [(0, .ref (q 0)), (1, .long v1), (3, .int v3), (4, .int v4)] []) (hf : fX12_counted_l48b  k37 k48 u v1 v3 v4 = some res) : At X 8 0 0 (wM V q u) 48 [(0, .ref (q 0)), (1, .long v1), (3, .int v3), (4, .int v4)] [] := by
  obtain ⟨hX, hT, hF⟩ := id h
  unfold fX12_counted_l48b at hf
  refine a_iload hX dX12_counted_48 3 rfl rfl ?_
  refine a_iconst (v := 5) hX dX12_counted_50 (by decide) rfl ?_
  refine a_icmp_ge (tgt := 153) hX dX12_counted_51 rfl rfl hf (fun hf => ?_) (fun hf => ?_)
  · refine a_iinc (v := v3 + 1) (lv' := [(3, .int (v3 + 1)), (0, .ref (q 0)), (1, .long v1), (4, .int v4)]) hX dX12_counted_153 2 rfl rfl (by decide) rfl rfl ?_
    refine a_goto (pc' := 37) hX dX12_counted_156 rfl ?_
    refine a_lv (lv' := [(0, .ref (q 0)), (1, .long v1), (3, .int (v3 + 1))]) [1, 2, 0] rfl ?_
    exact hk37 u (v3 + 1) hf
  · refine a_lconst (v := 0) hX dX12_counted_54 (by decide) rfl ?_
    refine a_lstore (lv' := [(5, .long 0), (0, .ref (q 0)), (1, .long v1), (3, .int v3), (4, .int v4)]) hX dX12_counted_55 (by decide) rfl rfl ?_
    refine a_iconst (v := 0) hX dX12_counted_57 (by decide) rfl ?_
    refine a_istore (lv' := [(7, .int 0), (5, .long 0), (0, .ref (q 0)), (1, .long v1), (3, .int v3), (4, .int v4)]) hX dX12_counted_58 (by decide) rfl rfl ?_
    refine a_lv (lv' := [(0, .ref (q 0)), (1, .long v1), (3, .int v3), (4, .int v4), (5, .long 0), (7, .int 0)]) [2, 3, 4, 5, 1, 0] rfl ?_
    exact wX12_counted_l60 h hE hk37 hk48 NF 0 0 hf
def fX12_counted_l48  (k37 : St → Int32 → Option (Int64 × St)) (v1 : Int64) (v3 : Int32) : Nat → St → Int32 → Option (Int64 × St)
  | 0, _, _ => none
  | m + 1, u, v4 => fX12_counted_l48b  k37 (fX12_counted_l48  k37 v1 v3 m) u v1 v3 v4
theorem wX12_counted_l48 {X : Cx} {V : Vx} {q : Nat → Nat} {res : Int64 × St} (h : Run X cX12_counted 8 RX12 rmX12_counted V (some .long) (rEq (some (.long res.1)) (wM V q res.2))) (hE : ZOK (vZ V)) {v1 : Int64} {v3 : Int32} {k37 : St → Int32 → Option (Int64 × St)} (hk37 : ∀ (u : St) (v3 : Int32), k37 u v3 = some res → At X 8 0 0 (wM V q u) 37 [(0, .ref (q 0)), (1, .long v1), (3, .int v3)] []) : ∀ (m : Nat) (u : St) (v4 : Int32), fX12_counted_l48  k37 v1 v3 m u v4 = some res → At X 8 0 0 (wM V q u) 48 [(0, .ref (q 0)), (1, .long v1), (3, .int v3), (4, .int v4)] [] := by
  intro m
  induction m with
  | zero => intro u v4 hf; cases hf
  | succ m ih => intro u v4 hf; exact wX12_counted_l48b h hE hk37 ih hf
def fX12_counted_b254  (k166 : St → Int32 → Option (Int64 × St)) (k173 : St → Int32 → Option (Int64 × St)) (k199 : Int64 → Int32 → Option (Int64 × St)) (u : St) (v1 : Int64) (v3 : Int32) (v4 : Int32) (v7 : Int32) (s0 : Int64) (s1 : Int64) : Option (Int64 × St) := nmL (s1 + s0) (fun x11 => k199 x11 (v7 + 1))
theorem wX12_counted_b254 {X : Cx} {V : Vx} {q : Nat → Nat} {res : Int64 × St} (h : Run X cX12_counted 8 RX12 rmX12_counted V (some .long) (rEq (some (.long res.1)) (wM V q res.2))) (hE : ZOK (vZ V)) {u : St} {v1 : Int64} {v3 : Int32} {v4 : Int32} {v7 : Int32} {s0 : Int64} {s1 : Int64} {k166 : St → Int32 → Option (Int64 × St)} (hk166 : ∀ (u : St) (v3 : Int32), k166 u v3 = some res → At X 8 0 0 (wM V q u) 166 [(0, .ref (q 0)), (1, .long v1), (3, .int v3)] []) {k173 : St → Int32 → Option (Int64 × St)} (hk173 : ∀ (u : St) (v4 : Int32), k173 u v4 = some res → At X 8 0 0 (wM V q u) 173 [(0, .ref (q 0)), (1, .long v1), (3, .int v3), (4, .int v4)] []) {k199 : Int64 → Int32 → Option (Int64 × St)} (hk199 : ∀ (v5 : Int64) (v7 : Int32), k199 v5 v7 = some res → At X 8 0 0 (wM V q u) 199 [(0, .ref (q 0)), (1, .long v1), (3, .int v3), (4, .int v4), (5, .long v5), (7, .int v7)] []) (hf : fX12_counted_b254  k166 k173 k199 u v1 v3 v4 v7 s0 s1 = some res) : At X 8 0 0 (wM V q u) 254 [(0, .ref (q 0)), (1, .long v1), (3, .int v3), (4, .int v4), (7, .int v7)] [.long s0, .long s1] := by
  obtain ⟨hX, hT, hF⟩ := id h
  unfold fX12_counted_b254 at hf
  refine a_ladd hX dX12_counted_254 rfl ?_
  refine a_nmL hf (fun x11 hf => ?_)
  refine a_lstore (lv' := [(5, .long x11), (0, .ref (q 0)), (1, .long v1), (3, .int v3), (4, .int v4), (7, .int v7)]) hX dX12_counted_255 (by decide) rfl rfl ?_
  refine a_iinc (v := v7 + 1) (lv' := [(7, .int (v7 + 1)), (5, .long x11), (0, .ref (q 0)), (1, .long v1), (3, .int v3), (4, .int v4)]) hX dX12_counted_257 5 rfl rfl (by decide) rfl rfl ?_
  refine a_goto (pc' := 199) hX dX12_counted_260 rfl ?_
  refine a_lv (lv' := [(0, .ref (q 0)), (1, .long v1), (3, .int v3), (4, .int v4), (5, .long x11), (7, .int (v7 + 1))]) [2, 3, 4, 5, 1, 0] rfl ?_
  exact hk199 x11 (v7 + 1) hf
def fX12_counted_b293  (k166 : St → Int32 → Option (Int64 × St)) (k173 : St → Int32 → Option (Int64 × St)) (u : St) (v1 : Int64) (v3 : Int32) (v4 : Int32) (s0 : Int64) (s1 : Int32) : Option (Int64 × St) := stL u 18 60 s1 s0 (fun u13 => k173 u13 (v4 + 1))
theorem wX12_counted_b293 {X : Cx} {V : Vx} {q : Nat → Nat} {res : Int64 × St} (h : Run X cX12_counted 8 RX12 rmX12_counted V (some .long) (rEq (some (.long res.1)) (wM V q res.2))) (hE : ZOK (vZ V)) {u : St} {v1 : Int64} {v3 : Int32} {v4 : Int32} {s0 : Int64} {s1 : Int32} {k166 : St → Int32 → Option (Int64 × St)} (hk166 : ∀ (u : St) (v3 : Int32), k166 u v3 = some res → At X 8 0 0 (wM V q u) 166 [(0, .ref (q 0)), (1, .long v1), (3, .int v3)] []) {k173 : St → Int32 → Option (Int64 × St)} (hk173 : ∀ (u : St) (v4 : Int32), k173 u v4 = some res → At X 8 0 0 (wM V q u) 173 [(0, .ref (q 0)), (1, .long v1), (3, .int v3), (4, .int v4)] []) (hf : fX12_counted_b293  k166 k173 u v1 v3 v4 s0 s1 = some res) : At X 8 0 0 (wM V q u) 293 [(0, .ref (q 0)), (1, .long v1), (3, .int v3), (4, .int v4)] [.long s0, .int s1, .ref (q 19)] := by
  obtain ⟨hX, hT, hF⟩ := id h
  unfold fX12_counted_b293 at hf
  refine sX12_18 hX dX12_counted_293 rfl hf (fun u13 hf => ?_)
  refine a_iinc (v := v4 + 1) (lv' := [(4, .int (v4 + 1)), (0, .ref (q 0)), (1, .long v1), (3, .int v3)]) hX dX12_counted_294 3 rfl rfl (by decide) rfl rfl ?_
  refine a_goto (pc' := 173) hX dX12_counted_297 rfl ?_
  refine a_lv (lv' := [(0, .ref (q 0)), (1, .long v1), (3, .int v3), (4, .int (v4 + 1))]) [1, 2, 3, 0] rfl ?_
  exact hk173 u13 (v4 + 1) hf
def fX12_counted_b263  (k166 : St → Int32 → Option (Int64 × St)) (k173 : St → Int32 → Option (Int64 × St)) (u : St) (v1 : Int64) (v3 : Int32) (v4 : Int32) (v5 : Int64) : Option (Int64 × St) := ldI (gA u 15) 60 ((5 * v3) + v4) (fun x12 => if x12 = 0 then fX12_counted_b293 k166 k173 u v1 v3 v4 0 ((5 * v3) + v4) else (fX12_counted_b293 k166 k173 u v1 v3 v4 v5 ((5 * v3) + v4)))
theorem wX12_counted_b263 {X : Cx} {V : Vx} {q : Nat → Nat} {res : Int64 × St} (h : Run X cX12_counted 8 RX12 rmX12_counted V (some .long) (rEq (some (.long res.1)) (wM V q res.2))) (hE : ZOK (vZ V)) {u : St} {v1 : Int64} {v3 : Int32} {v4 : Int32} {v5 : Int64} {k166 : St → Int32 → Option (Int64 × St)} (hk166 : ∀ (u : St) (v3 : Int32), k166 u v3 = some res → At X 8 0 0 (wM V q u) 166 [(0, .ref (q 0)), (1, .long v1), (3, .int v3)] []) {k173 : St → Int32 → Option (Int64 × St)} (hk173 : ∀ (u : St) (v4 : Int32), k173 u v4 = some res → At X 8 0 0 (wM V q u) 173 [(0, .ref (q 0)), (1, .long v1), (3, .int v3), (4, .int v4)] []) (hf : fX12_counted_b263  k166 k173 u v1 v3 v4 v5 = some res) : At X 8 0 0 (wM V q u) 263 [(0, .ref (q 0)), (1, .long v1), (3, .int v3), (4, .int v4), (5, .long v5)] [] := by
  obtain ⟨hX, hT, hF⟩ := id h
  unfold fX12_counted_b263 at hf
  refine a_aload_n hX dX12_counted_263 rfl 0 rfl rfl ?_
  refine gX12_18 hX F_X12_55 dX12_counted_264 rfl ?_
  refine a_iconst (v := 5) hX dX12_counted_267 (by decide) rfl ?_
  refine a_iload_n hX dX12_counted_268 rfl 2 rfl rfl ?_
  refine a_imul hX dX12_counted_269 rfl ?_
  refine a_iload hX dX12_counted_270 3 rfl rfl ?_
  refine a_iadd hX dX12_counted_272 rfl ?_
  refine a_aload_n hX dX12_counted_273 rfl 0 rfl rfl ?_
  refine gX12_15 hX F_X12_45 dX12_counted_274 rfl ?_
  refine a_iconst (v := 5) hX dX12_counted_277 (by decide) rfl ?_
  refine a_iload_n hX dX12_counted_278 rfl 2 rfl rfl ?_
  refine a_imul hX dX12_counted_279 rfl ?_
  refine a_iload hX dX12_counted_280 3 rfl rfl ?_
  refine a_iadd hX dX12_counted_282 rfl ?_
  refine lX12_15 hX dX12_counted_283 rfl hf (fun x12 hf => ?_)
  refine a_if_eq (tgt := 292) hX dX12_counted_284 rfl rfl hf (fun hf => ?_) (fun hf => ?_)
  · refine a_lconst (v := 0) hX dX12_counted_292 (by decide) rfl ?_
    refine a_lv (lv' := [(0, .ref (q 0)), (1, .long v1), (3, .int v3), (4, .int v4)]) [0, 1, 2, 3] rfl ?_
    exact wX12_counted_b293 h hE hk166 hk173 hf
  · refine a_lload hX dX12_counted_287 4 rfl rfl ?_
    refine a_goto (pc' := 293) hX dX12_counted_289 rfl ?_
    refine a_lv (lv' := [(0, .ref (q 0)), (1, .long v1), (3, .int v3), (4, .int v4)]) [0, 1, 2, 3] rfl ?_
    exact wX12_counted_b293 h hE hk166 hk173 hf
def fX12_counted_l199b  (k166 : St → Int32 → Option (Int64 × St)) (k173 : St → Int32 → Option (Int64 × St)) (k199 : Int64 → Int32 → Option (Int64 × St)) (u : St) (v1 : Int64) (v3 : Int32) (v4 : Int32) (v5 : Int64) (v7 : Int32) : Option (Int64 × St) := if 5 ≤ v7 then fX12_counted_b263 k166 k173 u v1 v3 v4 v5 else (if (gZ u 1) - 1 ≤ v3 then fX12_counted_b263 k166 k173 u v1 v3 v4 v5 else (ldI (gA u 16) 300 (((25 * v3) + (5 * v4)) + v7) (fun x9 => if x9 = 0 then fX12_counted_b254 k166 k173 k199 u v1 v3 v4 v7 0 v5 else (ldL (gB u 18) 60 ((5 * (v3 + 1)) + v7) (fun x10 => fX12_counted_b254 k166 k173 k199 u v1 v3 v4 v7 x10 v5)))))
theorem wX12_counted_l199b {X : Cx} {V : Vx} {q : Nat → Nat} {res : Int64 × St} (h : Run X cX12_counted 8 RX12 rmX12_counted V (some .long) (rEq (some (.long res.1)) (wM V q res.2))) (hE : ZOK (vZ V)) {u : St} {v1 : Int64} {v3 : Int32} {v4 : Int32} {v5 : Int64} {v7 : Int32} {k166 : St → Int32 → Option (Int64 × St)} (hk166 : ∀ (u : St) (v3 : Int32), k166 u v3 = some res → At X 8 0 0 (wM V q u) 166 [(0, .ref (q 0)), (1, .long v1), (3, .int v3)] []) {k173 : St → Int32 → Option (Int64 × St)} (hk173 : ∀ (u : St) (v4 : Int32), k173 u v4 = some res → At X 8 0 0 (wM V q u) 173 [(0, .ref (q 0)), (1, .long v1), (3, .int v3), (4, .int v4)] []) {k199 : Int64 → Int32 → Option (Int64 × St)} (hk199 : ∀ (v5 : Int64) (v7 : Int32), k199 v5 v7 = some res → At X 8 0 0 (wM V q u) 199 [(0, .ref (q 0)), (1, .long v1), (3, .int v3), (4, .int v4), (5, .long v5), (7, .int v7)] []) (hf : fX12_counted_l199b  k166 k173 k199 u v1 v3 v4 v5 v7 = some res) : At X 8 0 0 (wM V q u) 199 [(0, .ref (q 0)), (1, .long v1), (3, .int v3), (4, .int v4), (5, .long v5), (7, .int v7)] [] := by
  obtain ⟨hX, hT, hF⟩ := id h
  unfold fX12_counted_l199b at hf
  refine a_iload hX dX12_counted_199 5 rfl rfl ?_
  refine a_iconst (v := 5) hX dX12_counted_201 (by decide) rfl ?_
  refine a_icmp_ge (tgt := 263) hX dX12_counted_202 rfl rfl hf (fun hf => ?_) (fun hf => ?_)
  · refine a_lv (lv' := [(0, .ref (q 0)), (1, .long v1), (3, .int v3), (4, .int v4), (5, .long v5)]) [0, 1, 2, 3, 4] rfl ?_
    exact wX12_counted_b263 h hE hk166 hk173 hf
  · refine a_iload_n hX dX12_counted_205 rfl 2 rfl rfl ?_
    refine a_aload_n hX dX12_counted_206 rfl 0 rfl rfl ?_
    refine gX12_1 hX F_X12_124 dX12_counted_207 rfl ?_
    refine a_iconst (v := 1) hX dX12_counted_210 (by decide) rfl ?_
    refine a_isub hX dX12_counted_211 rfl ?_
    refine a_icmp_ge (tgt := 263) hX dX12_counted_212 rfl rfl hf (fun hf => ?_) (fun hf => ?_)
    · refine a_lv (lv' := [(0, .ref (q 0)), (1, .long v1), (3, .int v3), (4, .int v4), (5, .long v5)]) [0, 1, 2, 3, 4] rfl ?_
      exact wX12_counted_b263 h hE hk166 hk173 hf
    · refine a_lload hX dX12_counted_215 4 rfl rfl ?_
      refine a_aload_n hX dX12_counted_217 rfl 0 rfl rfl ?_
      refine gX12_16 hX F_X12_48 dX12_counted_218 rfl ?_
      refine a_bipush (v := 25) hX dX12_counted_221 (by decide) rfl ?_
      refine a_iload_n hX dX12_counted_223 rfl 2 rfl rfl ?_
      refine a_imul hX dX12_counted_224 rfl ?_
      refine a_iconst (v := 5) hX dX12_counted_225 (by decide) rfl ?_
      refine a_iload hX dX12_counted_226 3 rfl rfl ?_
      refine a_imul hX dX12_counted_228 rfl ?_
      refine a_iadd hX dX12_counted_229 rfl ?_
      refine a_iload hX dX12_counted_230 5 rfl rfl ?_
      refine a_iadd hX dX12_counted_232 rfl ?_
      refine lX12_16 hX dX12_counted_233 rfl hf (fun x9 hf => ?_)
      refine a_if_eq (tgt := 253) hX dX12_counted_234 rfl rfl hf (fun hf => ?_) (fun hf => ?_)
      · refine a_lconst (v := 0) hX dX12_counted_253 (by decide) rfl ?_
        refine a_lv (lv' := [(0, .ref (q 0)), (1, .long v1), (3, .int v3), (4, .int v4), (7, .int v7)]) [0, 1, 2, 3, 5] rfl ?_
        exact wX12_counted_b254 h hE hk166 hk173 hk199 hf
      · refine a_aload_n hX dX12_counted_237 rfl 0 rfl rfl ?_
        refine gX12_18 hX F_X12_55 dX12_counted_238 rfl ?_
        refine a_iconst (v := 5) hX dX12_counted_241 (by decide) rfl ?_
        refine a_iload_n hX dX12_counted_242 rfl 2 rfl rfl ?_
        refine a_iconst (v := 1) hX dX12_counted_243 (by decide) rfl ?_
        refine a_iadd hX dX12_counted_244 rfl ?_
        refine a_imul hX dX12_counted_245 rfl ?_
        refine a_iload hX dX12_counted_246 5 rfl rfl ?_
        refine a_iadd hX dX12_counted_248 rfl ?_
        refine lX12_18 hX dX12_counted_249 rfl hf (fun x10 hf => ?_)
        refine a_goto (pc' := 254) hX dX12_counted_250 rfl ?_
        refine a_lv (lv' := [(0, .ref (q 0)), (1, .long v1), (3, .int v3), (4, .int v4), (7, .int v7)]) [0, 1, 2, 3, 5] rfl ?_
        exact wX12_counted_b254 h hE hk166 hk173 hk199 hf
def fX12_counted_l199  (k166 : St → Int32 → Option (Int64 × St)) (k173 : St → Int32 → Option (Int64 × St)) (u : St) (v1 : Int64) (v3 : Int32) (v4 : Int32) : Nat → Int64 → Int32 → Option (Int64 × St)
  | 0, _, _ => none
  | m + 1, v5, v7 => fX12_counted_l199b  k166 k173 (fX12_counted_l199  k166 k173 u v1 v3 v4 m) u v1 v3 v4 v5 v7
theorem wX12_counted_l199 {X : Cx} {V : Vx} {q : Nat → Nat} {res : Int64 × St} (h : Run X cX12_counted 8 RX12 rmX12_counted V (some .long) (rEq (some (.long res.1)) (wM V q res.2))) (hE : ZOK (vZ V)) {u : St} {v1 : Int64} {v3 : Int32} {v4 : Int32} {k166 : St → Int32 → Option (Int64 × St)} (hk166 : ∀ (u : St) (v3 : Int32), k166 u v3 = some res → At X 8 0 0 (wM V q u) 166 [(0, .ref (q 0)), (1, .long v1), (3, .int v3)] []) {k173 : St → Int32 → Option (Int64 × St)} (hk173 : ∀ (u : St) (v4 : Int32), k173 u v4 = some res → At X 8 0 0 (wM V q u) 173 [(0, .ref (q 0)), (1, .long v1), (3, .int v3), (4, .int v4)] []) : ∀ (m : Nat) (v5 : Int64) (v7 : Int32), fX12_counted_l199  k166 k173 u v1 v3 v4 m v5 v7 = some res → At X 8 0 0 (wM V q u) 199 [(0, .ref (q 0)), (1, .long v1), (3, .int v3), (4, .int v4), (5, .long v5), (7, .int v7)] [] := by
  intro m
  induction m with
  | zero => intro v5 v7 hf; cases hf
  | succ m ih => intro v5 v7 hf; exact wX12_counted_l199b h hE hk166 hk173 ih hf
def fX12_counted_b194  (k166 : St → Int32 → Option (Int64 × St)) (k173 : St → Int32 → Option (Int64 × St)) (u : St) (v1 : Int64) (v3 : Int32) (v4 : Int32) (s0 : Int64) : Option (Int64 × St) := fX12_counted_l199 k166 k173 u v1 v3 v4 NF s0 0
theorem wX12_counted_b194 {X : Cx} {V : Vx} {q : Nat → Nat} {res : Int64 × St} (h : Run X cX12_counted 8 RX12 rmX12_counted V (some .long) (rEq (some (.long res.1)) (wM V q res.2))) (hE : ZOK (vZ V)) {u : St} {v1 : Int64} {v3 : Int32} {v4 : Int32} {s0 : Int64} {k166 : St → Int32 → Option (Int64 × St)} (hk166 : ∀ (u : St) (v3 : Int32), k166 u v3 = some res → At X 8 0 0 (wM V q u) 166 [(0, .ref (q 0)), (1, .long v1), (3, .int v3)] []) {k173 : St → Int32 → Option (Int64 × St)} (hk173 : ∀ (u : St) (v4 : Int32), k173 u v4 = some res → At X 8 0 0 (wM V q u) 173 [(0, .ref (q 0)), (1, .long v1), (3, .int v3), (4, .int v4)] []) (hf : fX12_counted_b194  k166 k173 u v1 v3 v4 s0 = some res) : At X 8 0 0 (wM V q u) 194 [(0, .ref (q 0)), (1, .long v1), (3, .int v3), (4, .int v4)] [.long s0] := by
  obtain ⟨hX, hT, hF⟩ := id h
  unfold fX12_counted_b194 at hf
  refine a_lstore (lv' := [(5, .long s0), (0, .ref (q 0)), (1, .long v1), (3, .int v3), (4, .int v4)]) hX dX12_counted_194 (by decide) rfl rfl ?_
  refine a_iconst (v := 0) hX dX12_counted_196 (by decide) rfl ?_
  refine a_istore (lv' := [(7, .int 0), (5, .long s0), (0, .ref (q 0)), (1, .long v1), (3, .int v3), (4, .int v4)]) hX dX12_counted_197 (by decide) rfl rfl ?_
  refine a_lv (lv' := [(0, .ref (q 0)), (1, .long v1), (3, .int v3), (4, .int v4), (5, .long s0), (7, .int 0)]) [2, 3, 4, 5, 1, 0] rfl ?_
  exact wX12_counted_l199 h hE hk166 hk173 NF s0 0 hf
def fX12_counted_l173b  (k166 : St → Int32 → Option (Int64 × St)) (k173 : St → Int32 → Option (Int64 × St)) (u : St) (v1 : Int64) (v3 : Int32) (v4 : Int32) : Option (Int64 × St) := if 5 ≤ v4 then k166 u (v3 + (-1)) else (if v3 = (gZ u 1) - 1 then fX12_counted_b194 k166 k173 u v1 v3 v4 1 else (fX12_counted_b194 k166 k173 u v1 v3 v4 0))
theorem wX12_counted_l173b {X : Cx} {V : Vx} {q : Nat → Nat} {res : Int64 × St} (h : Run X cX12_counted 8 RX12 rmX12_counted V (some .long) (rEq (some (.long res.1)) (wM V q res.2))) (hE : ZOK (vZ V)) {u : St} {v1 : Int64} {v3 : Int32} {v4 : Int32} {k166 : St → Int32 → Option (Int64 × St)} (hk166 : ∀ (u : St) (v3 : Int32), k166 u v3 = some res → At X 8 0 0 (wM V q u) 166 [(0, .ref (q 0)), (1, .long v1), (3, .int v3)] []) {k173 : St → Int32 → Option (Int64 × St)} (hk173 : ∀ (u : St) (v4 : Int32), k173 u v4 = some res → At X 8 0 0 (wM V q u) 173 [(0, .ref (q 0)), (1, .long v1), (3, .int v3), (4, .int v4)] []) (hf : fX12_counted_l173b  k166 k173 u v1 v3 v4 = some res) : At X 8 0 0 (wM V q u) 173 [(0, .ref (q 0)), (1, .long v1), (3, .int v3), (4, .int v4)] [] := by
  obtain ⟨hX, hT, hF⟩ := id h
  unfold fX12_counted_l173b at hf
  refine a_iload hX dX12_counted_173 3 rfl rfl ?_
  refine a_iconst (v := 5) hX dX12_counted_175 (by decide) rfl ?_
  refine a_icmp_ge (tgt := 300) hX dX12_counted_176 rfl rfl hf (fun hf => ?_) (fun hf => ?_)
  · refine a_iinc (v := v3 + (-1)) (lv' := [(3, .int (v3 + (-1))), (0, .ref (q 0)), (1, .long v1), (4, .int v4)]) hX dX12_counted_300 2 rfl rfl (by decide) rfl rfl ?_
    refine a_goto (pc' := 166) hX dX12_counted_303 rfl ?_
    refine a_lv (lv' := [(0, .ref (q 0)), (1, .long v1), (3, .int (v3 + (-1)))]) [1, 2, 0] rfl ?_
    exact hk166 u (v3 + (-1)) hf
  · refine a_iload_n hX dX12_counted_179 rfl 2 rfl rfl ?_
    refine a_aload_n hX dX12_counted_180 rfl 0 rfl rfl ?_
    refine gX12_1 hX F_X12_124 dX12_counted_181 rfl ?_
    refine a_iconst (v := 1) hX dX12_counted_184 (by decide) rfl ?_
    refine a_isub hX dX12_counted_185 rfl ?_
    refine a_icmp_ne (tgt := 193) hX dX12_counted_186 rfl rfl hf (fun hf => ?_) (fun hf => ?_)
    · refine a_lconst (v := 0) hX dX12_counted_193 (by decide) rfl ?_
      exact wX12_counted_b194 h hE hk166 hk173 hf
    · refine a_lconst (v := 1) hX dX12_counted_189 (by decide) rfl ?_
      refine a_goto (pc' := 194) hX dX12_counted_190 rfl ?_
      exact wX12_counted_b194 h hE hk166 hk173 hf
def fX12_counted_l173  (k166 : St → Int32 → Option (Int64 × St)) (v1 : Int64) (v3 : Int32) : Nat → St → Int32 → Option (Int64 × St)
  | 0, _, _ => none
  | m + 1, u, v4 => fX12_counted_l173b  k166 (fX12_counted_l173  k166 v1 v3 m) u v1 v3 v4
theorem wX12_counted_l173 {X : Cx} {V : Vx} {q : Nat → Nat} {res : Int64 × St} (h : Run X cX12_counted 8 RX12 rmX12_counted V (some .long) (rEq (some (.long res.1)) (wM V q res.2))) (hE : ZOK (vZ V)) {v1 : Int64} {v3 : Int32} {k166 : St → Int32 → Option (Int64 × St)} (hk166 : ∀ (u : St) (v3 : Int32), k166 u v3 = some res → At X 8 0 0 (wM V q u) 166 [(0, .ref (q 0)), (1, .long v1), (3, .int v3)] []) : ∀ (m : Nat) (u : St) (v4 : Int32), fX12_counted_l173  k166 v1 v3 m u v4 = some res → At X 8 0 0 (wM V q u) 173 [(0, .ref (q 0)), (1, .long v1), (3, .int v3), (4, .int v4)] [] := by
  intro m
  induction m with
  | zero => intro u v4 hf; cases hf
  | succ m ih => intro u v4 hf; exact wX12_counted_l173b h hE hk166 ih hf
def fX12_counted_l308b  (k308 : Int64 → Int32 → Option (Int64 × St)) (u : St) (v1 : Int64) (v3 : Int32) : Option (Int64 × St) := if 5 ≤ v3 then some (v1, u) else (ldL (gB u 18) 60 v3 (fun x14 => nmL (v1 + x14) (fun x15 => k308 x15 (v3 + 1))))
theorem wX12_counted_l308b {X : Cx} {V : Vx} {q : Nat → Nat} {res : Int64 × St} (h : Run X cX12_counted 8 RX12 rmX12_counted V (some .long) (rEq (some (.long res.1)) (wM V q res.2))) (hE : ZOK (vZ V)) {u : St} {v1 : Int64} {v3 : Int32} {k308 : Int64 → Int32 → Option (Int64 × St)} (hk308 : ∀ (v1 : Int64) (v3 : Int32), k308 v1 v3 = some res → At X 8 0 0 (wM V q u) 308 [(0, .ref (q 0)), (1, .long v1), (3, .int v3)] []) (hf : fX12_counted_l308b  k308 u v1 v3 = some res) : At X 8 0 0 (wM V q u) 308 [(0, .ref (q 0)), (1, .long v1), (3, .int v3)] [] := by
  obtain ⟨hX, hT, hF⟩ := id h
  unfold fX12_counted_l308b at hf
  refine a_iload_n hX dX12_counted_308 rfl 2 rfl rfl ?_
  refine a_iconst (v := 5) hX dX12_counted_309 (by decide) rfl ?_
  refine a_icmp_ge (tgt := 328) hX dX12_counted_310 rfl rfl hf (fun hf => ?_) (fun hf => ?_)
  · refine a_lload_n hX dX12_counted_328 rfl 1 rfl rfl ?_
    exact a_lret hX hT hF (r_lS (wf := (wM V q)) hf) dX12_counted_329
  · refine a_lload_n hX dX12_counted_313 rfl 1 rfl rfl ?_
    refine a_aload_n hX dX12_counted_314 rfl 0 rfl rfl ?_
    refine gX12_18 hX F_X12_55 dX12_counted_315 rfl ?_
    refine a_iload_n hX dX12_counted_318 rfl 2 rfl rfl ?_
    refine lX12_18 hX dX12_counted_319 rfl hf (fun x14 hf => ?_)
    refine a_ladd hX dX12_counted_320 rfl ?_
    refine a_nmL hf (fun x15 hf => ?_)
    refine a_lstore_n (lv' := [(1, .long x15), (0, .ref (q 0)), (3, .int v3)]) hX dX12_counted_321 rfl (by decide) rfl rfl ?_
    refine a_iinc (v := v3 + 1) (lv' := [(3, .int (v3 + 1)), (1, .long x15), (0, .ref (q 0))]) hX dX12_counted_322 2 rfl rfl (by decide) rfl rfl ?_
    refine a_goto (pc' := 308) hX dX12_counted_325 rfl ?_
    refine a_lv (lv' := [(0, .ref (q 0)), (1, .long x15), (3, .int (v3 + 1))]) [2, 1, 0] rfl ?_
    exact hk308 x15 (v3 + 1) hf
def fX12_counted_l308   (u : St) : Nat → Int64 → Int32 → Option (Int64 × St)
  | 0, _, _ => none
  | m + 1, v1, v3 => fX12_counted_l308b  (fX12_counted_l308   u m) u v1 v3
theorem wX12_counted_l308 {X : Cx} {V : Vx} {q : Nat → Nat} {res : Int64 × St} (h : Run X cX12_counted 8 RX12 rmX12_counted V (some .long) (rEq (some (.long res.1)) (wM V q res.2))) (hE : ZOK (vZ V)) {u : St} : ∀ (m : Nat) (v1 : Int64) (v3 : Int32), fX12_counted_l308   u m v1 v3 = some res → At X 8 0 0 (wM V q u) 308 [(0, .ref (q 0)), (1, .long v1), (3, .int v3)] [] := by
  intro m
  induction m with
  | zero => intro v1 v3 hf; cases hf
  | succ m ih => intro v1 v3 hf; exact wX12_counted_l308b h hE ih hf
def fX12_counted_l166b  (k166 : St → Int32 → Option (Int64 × St)) (u : St) (v1 : Int64) (v3 : Int32) : Option (Int64 × St) := if v3 < 0 then fX12_counted_l308 u NF v1 0 else (fX12_counted_l173 k166 v1 v3 NF u 0)
theorem wX12_counted_l166b {X : Cx} {V : Vx} {q : Nat → Nat} {res : Int64 × St} (h : Run X cX12_counted 8 RX12 rmX12_counted V (some .long) (rEq (some (.long res.1)) (wM V q res.2))) (hE : ZOK (vZ V)) {u : St} {v1 : Int64} {v3 : Int32} {k166 : St → Int32 → Option (Int64 × St)} (hk166 : ∀ (u : St) (v3 : Int32), k166 u v3 = some res → At X 8 0 0 (wM V q u) 166 [(0, .ref (q 0)), (1, .long v1), (3, .int v3)] []) (hf : fX12_counted_l166b  k166 u v1 v3 = some res) : At X 8 0 0 (wM V q u) 166 [(0, .ref (q 0)), (1, .long v1), (3, .int v3)] [] := by
  obtain ⟨hX, hT, hF⟩ := id h
  unfold fX12_counted_l166b at hf
  refine a_iload_n hX dX12_counted_166 rfl 2 rfl rfl ?_
  refine a_if_lt (tgt := 306) hX dX12_counted_167 rfl rfl hf (fun hf => ?_) (fun hf => ?_)
  · refine a_iconst (v := 0) hX dX12_counted_306 (by decide) rfl ?_
    refine a_istore_n (lv' := [(3, .int 0), (0, .ref (q 0)), (1, .long v1)]) hX dX12_counted_307 rfl (by decide) rfl rfl ?_
    refine a_lv (lv' := [(0, .ref (q 0)), (1, .long v1), (3, .int 0)]) [1, 2, 0] rfl ?_
    exact wX12_counted_l308 h hE NF v1 0 hf
  · refine a_iconst (v := 0) hX dX12_counted_170 (by decide) rfl ?_
    refine a_istore (lv' := [(4, .int 0), (0, .ref (q 0)), (1, .long v1), (3, .int v3)]) hX dX12_counted_171 (by decide) rfl rfl ?_
    refine a_lv (lv' := [(0, .ref (q 0)), (1, .long v1), (3, .int v3), (4, .int 0)]) [1, 2, 3, 0] rfl ?_
    exact wX12_counted_l173 h hE hk166 NF u 0 hf
def fX12_counted_l166   (v1 : Int64) : Nat → St → Int32 → Option (Int64 × St)
  | 0, _, _ => none
  | m + 1, u, v3 => fX12_counted_l166b  (fX12_counted_l166   v1 m) u v1 v3
theorem wX12_counted_l166 {X : Cx} {V : Vx} {q : Nat → Nat} {res : Int64 × St} (h : Run X cX12_counted 8 RX12 rmX12_counted V (some .long) (rEq (some (.long res.1)) (wM V q res.2))) (hE : ZOK (vZ V)) {v1 : Int64} : ∀ (m : Nat) (u : St) (v3 : Int32), fX12_counted_l166   v1 m u v3 = some res → At X 8 0 0 (wM V q u) 166 [(0, .ref (q 0)), (1, .long v1), (3, .int v3)] [] := by
  intro m
  induction m with
  | zero => intro u v3 hf; cases hf
  | succ m ih => intro u v3 hf; exact wX12_counted_l166b h hE ih hf
def fX12_counted_l37b  (k37 : St → Int32 → Option (Int64 × St)) (u : St) (v1 : Int64) (v3 : Int32) : Option (Int64 × St) := if gZ u 1 ≤ v3 then nmI ((gZ u 1) - 1) (fun x3 => fX12_counted_l166 v1 NF u x3) else (fX12_counted_l48 k37 v1 v3 NF u 0)
theorem wX12_counted_l37b {X : Cx} {V : Vx} {q : Nat → Nat} {res : Int64 × St} (h : Run X cX12_counted 8 RX12 rmX12_counted V (some .long) (rEq (some (.long res.1)) (wM V q res.2))) (hE : ZOK (vZ V)) {u : St} {v1 : Int64} {v3 : Int32} {k37 : St → Int32 → Option (Int64 × St)} (hk37 : ∀ (u : St) (v3 : Int32), k37 u v3 = some res → At X 8 0 0 (wM V q u) 37 [(0, .ref (q 0)), (1, .long v1), (3, .int v3)] []) (hf : fX12_counted_l37b  k37 u v1 v3 = some res) : At X 8 0 0 (wM V q u) 37 [(0, .ref (q 0)), (1, .long v1), (3, .int v3)] [] := by
  obtain ⟨hX, hT, hF⟩ := id h
  unfold fX12_counted_l37b at hf
  refine a_iload_n hX dX12_counted_37 rfl 2 rfl rfl ?_
  refine a_aload_n hX dX12_counted_38 rfl 0 rfl rfl ?_
  refine gX12_1 hX F_X12_124 dX12_counted_39 rfl ?_
  refine a_icmp_ge (tgt := 159) hX dX12_counted_42 rfl rfl hf (fun hf => ?_) (fun hf => ?_)
  · refine a_aload_n hX dX12_counted_159 rfl 0 rfl rfl ?_
    refine gX12_1 hX F_X12_124 dX12_counted_160 rfl ?_
    refine a_iconst (v := 1) hX dX12_counted_163 (by decide) rfl ?_
    refine a_isub hX dX12_counted_164 rfl ?_
    refine a_nmI hf (fun x3 hf => ?_)
    refine a_istore_n (lv' := [(3, .int x3), (0, .ref (q 0)), (1, .long v1)]) hX dX12_counted_165 rfl (by decide) rfl rfl ?_
    refine a_lv (lv' := [(0, .ref (q 0)), (1, .long v1), (3, .int x3)]) [1, 2, 0] rfl ?_
    exact wX12_counted_l166 h hE NF u x3 hf
  · refine a_iconst (v := 0) hX dX12_counted_45 (by decide) rfl ?_
    refine a_istore (lv' := [(4, .int 0), (0, .ref (q 0)), (1, .long v1), (3, .int v3)]) hX dX12_counted_46 (by decide) rfl rfl ?_
    refine a_lv (lv' := [(0, .ref (q 0)), (1, .long v1), (3, .int v3), (4, .int 0)]) [1, 2, 3, 0] rfl ?_
    exact wX12_counted_l48 h hE hk37 NF u 0 hf
def fX12_counted_l37   (v1 : Int64) : Nat → St → Int32 → Option (Int64 × St)
  | 0, _, _ => none
  | m + 1, u, v3 => fX12_counted_l37b  (fX12_counted_l37   v1 m) u v1 v3
theorem wX12_counted_l37 {X : Cx} {V : Vx} {q : Nat → Nat} {res : Int64 × St} (h : Run X cX12_counted 8 RX12 rmX12_counted V (some .long) (rEq (some (.long res.1)) (wM V q res.2))) (hE : ZOK (vZ V)) {v1 : Int64} : ∀ (m : Nat) (u : St) (v3 : Int32), fX12_counted_l37   v1 m u v3 = some res → At X 8 0 0 (wM V q u) 37 [(0, .ref (q 0)), (1, .long v1), (3, .int v3)] [] := by
  intro m
  induction m with
  | zero => intro u v3 hf; cases hf
  | succ m ih => intro u v3 hf; exact wX12_counted_l37b h hE ih hf
def fX12_counted_l4b  (k4 : St → Int32 → Option (Int64 × St)) (u : St) (v1 : Int64) (v3 : Int32) : Option (Int64 × St) := if 5 ≤ v3 then fX12_counted_l37 v1 NF u 1 else (ldI (gA u 15) 60 v3 (fun x1 => if x1 = 0 then fX12_counted_b28 k4 u v1 v3 0 v3 else (fX12_counted_b28 k4 u v1 v3 1 v3)))
theorem wX12_counted_l4b {X : Cx} {V : Vx} {q : Nat → Nat} {res : Int64 × St} (h : Run X cX12_counted 8 RX12 rmX12_counted V (some .long) (rEq (some (.long res.1)) (wM V q res.2))) (hE : ZOK (vZ V)) {u : St} {v1 : Int64} {v3 : Int32} {k4 : St → Int32 → Option (Int64 × St)} (hk4 : ∀ (u : St) (v3 : Int32), k4 u v3 = some res → At X 8 0 0 (wM V q u) 4 [(0, .ref (q 0)), (1, .long v1), (3, .int v3)] []) (hf : fX12_counted_l4b  k4 u v1 v3 = some res) : At X 8 0 0 (wM V q u) 4 [(0, .ref (q 0)), (1, .long v1), (3, .int v3)] [] := by
  obtain ⟨hX, hT, hF⟩ := id h
  unfold fX12_counted_l4b at hf
  refine a_iload_n hX dX12_counted_4 rfl 2 rfl rfl ?_
  refine a_iconst (v := 5) hX dX12_counted_5 (by decide) rfl ?_
  refine a_icmp_ge (tgt := 35) hX dX12_counted_6 rfl rfl hf (fun hf => ?_) (fun hf => ?_)
  · refine a_iconst (v := 1) hX dX12_counted_35 (by decide) rfl ?_
    refine a_istore_n (lv' := [(3, .int 1), (0, .ref (q 0)), (1, .long v1)]) hX dX12_counted_36 rfl (by decide) rfl rfl ?_
    refine a_lv (lv' := [(0, .ref (q 0)), (1, .long v1), (3, .int 1)]) [1, 2, 0] rfl ?_
    exact wX12_counted_l37 h hE NF u 1 hf
  · refine a_aload_n hX dX12_counted_9 rfl 0 rfl rfl ?_
    refine gX12_17 hX F_X12_51 dX12_counted_10 rfl ?_
    refine a_iload_n hX dX12_counted_13 rfl 2 rfl rfl ?_
    refine a_aload_n hX dX12_counted_14 rfl 0 rfl rfl ?_
    refine gX12_15 hX F_X12_45 dX12_counted_15 rfl ?_
    refine a_iload_n hX dX12_counted_18 rfl 2 rfl rfl ?_
    refine lX12_15 hX dX12_counted_19 rfl hf (fun x1 hf => ?_)
    refine a_if_eq (tgt := 27) hX dX12_counted_20 rfl rfl hf (fun hf => ?_) (fun hf => ?_)
    · refine a_lconst (v := 0) hX dX12_counted_27 (by decide) rfl ?_
      exact wX12_counted_b28 h hE hk4 hf
    · refine a_lconst (v := 1) hX dX12_counted_23 (by decide) rfl ?_
      refine a_goto (pc' := 28) hX dX12_counted_24 rfl ?_
      exact wX12_counted_b28 h hE hk4 hf
def fX12_counted_l4   (v1 : Int64) : Nat → St → Int32 → Option (Int64 × St)
  | 0, _, _ => none
  | m + 1, u, v3 => fX12_counted_l4b  (fX12_counted_l4   v1 m) u v1 v3
theorem wX12_counted_l4 {X : Cx} {V : Vx} {q : Nat → Nat} {res : Int64 × St} (h : Run X cX12_counted 8 RX12 rmX12_counted V (some .long) (rEq (some (.long res.1)) (wM V q res.2))) (hE : ZOK (vZ V)) {v1 : Int64} : ∀ (m : Nat) (u : St) (v3 : Int32), fX12_counted_l4   v1 m u v3 = some res → At X 8 0 0 (wM V q u) 4 [(0, .ref (q 0)), (1, .long v1), (3, .int v3)] [] := by
  intro m
  induction m with
  | zero => intro u v3 hf; cases hf
  | succ m ih => intro u v3 hf; exact wX12_counted_l4b h hE ih hf
def fX12_counted (u : St) : Option (Int64 × St) := fX12_counted_l4 0 NF u 0
theorem wX12_counted {X : Cx} {V : Vx} {q : Nat → Nat} {res : Int64 × St} (h : Run X cX12_counted 8 RX12 rmX12_counted V (some .long) (rEq (some (.long res.1)) (wM V q res.2))) (hE : ZOK (vZ V)) {u : St} (hf : fX12_counted u = some res) : At X 8 0 0 (wM V q u) 0 [(0, .ref (q 0))] [] := by
  obtain ⟨hX, hT, hF⟩ := id h
  unfold fX12_counted at hf
  refine a_lconst (v := 0) hX dX12_counted_0 (by decide) rfl ?_
  refine a_lstore_n (lv' := [(1, .long 0), (0, .ref (q 0))]) hX dX12_counted_1 rfl (by decide) rfl rfl ?_
  refine a_iconst (v := 0) hX dX12_counted_2 (by decide) rfl ?_
  refine a_istore_n (lv' := [(3, .int 0), (1, .long 0), (0, .ref (q 0))]) hX dX12_counted_3 rfl (by decide) rfl rfl ?_
  refine a_lv (lv' := [(0, .ref (q 0)), (1, .long 0), (3, .int 0)]) [2, 1, 0] rfl ?_
  exact wX12_counted_l4 h hE NF u 0 hf
theorem ctX12_counted {V : Vx} {q : Nat → Nat} {u : St} {res : Int64 × St} (hE : ZOK (vZ V))  (hf : fX12_counted u = some res) : Ct V yX12_counted (.code yX12_counted cX12_counted 8 (some .long)) rmX12_counted 0 0 [.ref (q 0)] (wM V q u) (rEq (some (.long res.1)) (wM V q res.2)) :=
  Ct_of (by decide) (Nat.le_of_ble_eq_true rfl) rfl (fun X hX hT _ hF => wX12_counted ⟨hX, hT, hF⟩ hE hf)
def rmX12_all : Room := { frames := 3, cells := 0, slots := 0, locals := 72 }
def fX12_all (u : St) : Option (Int64 × St) := cl1 (fX12_layOut u) (fun u2 => cl2 (fX12_counted u2) (fun x3 u4 => some (x3, u4)))
theorem wX12_all {X : Cx} {V : Vx} {q : Nat → Nat} {res : Int64 × St} (h : Run X cX12_all 1 RX12 rmX12_all V (some .long) (rEq (some (.long res.1)) (wM V q res.2))) (hE : ZOK (vZ V)) {u : St} (hf : fX12_all u = some res) : At X 1 0 0 (wM V q u) 0 [(0, .ref (q 0))] [] := by
  obtain ⟨hX, hT, hF⟩ := id h
  unfold fX12_all at hf
  refine a_aload_n hX dX12_all_0 rfl 0 rfl rfl ?_
  obtain ⟨u2, hg1, hf⟩ := cl1_some hf
  refine a_cVsv (q0 := 0) (rest := []) hX hE (ctX12_layOut (q := q) hE hg1) K_X12_186 ⟨rfl, rfl⟩ ⟨rfl, rfl, by decide, by decide⟩ ⟨Nat.zero_le _, Nat.zero_le _⟩ (Nat.le_of_ble_eq_true rfl) dX12_all_1 rfl rfl ?_
  refine a_aload_n hX dX12_all_4 rfl 0 rfl rfl ?_
  obtain ⟨x3, u4, hg3, hf⟩ := cl2_some hf
  refine a_cVsl (q0 := 0) (rest := []) hX hE (ctX12_counted (q := q) hE hg3) K_X12_189 ⟨rfl, rfl⟩ ⟨rfl, rfl, by decide, by decide⟩ ⟨Nat.zero_le _, Nat.zero_le _⟩ (Nat.le_of_ble_eq_true rfl) dX12_all_5 rfl rfl ?_
  exact a_lret hX hT hF (r_lS (wf := (wM V q)) hf) dX12_all_8
theorem ctX12_all {V : Vx} {q : Nat → Nat} {u : St} {res : Int64 × St} (hE : ZOK (vZ V))  (hf : fX12_all u = some res) : Ct V yX12_all (.code yX12_all cX12_all 1 (some .long)) rmX12_all 0 0 [.ref (q 0)] (wM V q u) (rEq (some (.long res.1)) (wM V q res.2)) :=
  Ct_of (by decide) (Nat.le_of_ble_eq_true rfl) rfl (fun X hX hT _ hF => wX12_all ⟨hX, hT, hF⟩ hE hf)
def rmX12_through : Room := { frames := 0, cells := 0, slots := 0, locals := 0 }
def fX12_through (u : St) (v1 : Int32) (v2 : Int32) : Option (Int64) := ldL (gB u 17) 60 ((5 * v2) + v1) (fun x1 => ldL (gB u 18) 60 ((5 * v2) + v1) (fun x2 => some (x1 * x2)))
theorem wX12_through {X : Cx} {V : Vx} {q : Nat → Nat} {u : St} {res : Int64} (h : Run X cX12_through 3 RX12 rmX12_through V (some .long) (rEq (some (.long res)) (wM V q u))) (hE : ZOK (vZ V)) {v1 : Int32} {v2 : Int32} (hf : fX12_through u v1 v2 = some res) : At X 3 0 0 (wM V q u) 0 [(0, .ref (q 0)), (1, .int v1), (2, .int v2)] [] := by
  obtain ⟨hX, hT, hF⟩ := id h
  unfold fX12_through at hf
  refine a_aload_n hX dX12_through_0 rfl 0 rfl rfl ?_
  refine gX12_17 hX F_X12_51 dX12_through_1 rfl ?_
  refine a_iconst (v := 5) hX dX12_through_4 (by decide) rfl ?_
  refine a_iload_n hX dX12_through_5 rfl 2 rfl rfl ?_
  refine a_imul hX dX12_through_6 rfl ?_
  refine a_iload_n hX dX12_through_7 rfl 1 rfl rfl ?_
  refine a_iadd hX dX12_through_8 rfl ?_
  refine lX12_17 hX dX12_through_9 rfl hf (fun x1 hf => ?_)
  refine a_aload_n hX dX12_through_10 rfl 0 rfl rfl ?_
  refine gX12_18 hX F_X12_55 dX12_through_11 rfl ?_
  refine a_iconst (v := 5) hX dX12_through_14 (by decide) rfl ?_
  refine a_iload_n hX dX12_through_15 rfl 2 rfl rfl ?_
  refine a_imul hX dX12_through_16 rfl ?_
  refine a_iload_n hX dX12_through_17 rfl 1 rfl rfl ?_
  refine a_iadd hX dX12_through_18 rfl ?_
  refine lX12_18 hX dX12_through_19 rfl hf (fun x2 hf => ?_)
  refine a_lmul hX dX12_through_20 rfl ?_
  exact a_lret hX hT hF (r_l hf) dX12_through_21
theorem ctX12_through {V : Vx} {q : Nat → Nat} {u : St} {res : Int64} (hE : ZOK (vZ V)) {v1 : Int32} {v2 : Int32} (hf : fX12_through u v1 v2 = some res) : Ct V yX12_through (.code yX12_through cX12_through 3 (some .long)) rmX12_through 0 0 [.ref (q 0), .int v1, .int v2] (wM V q u) (rEq (some (.long res)) (wM V q u)) :=
  Ct_of (by decide) (Nat.le_of_ble_eq_true rfl) rfl (fun X hX hT _ hF => wX12_through ⟨hX, hT, hF⟩ hE hf)
def rmX12_histories : Room := { frames := 4, cells := 0, slots := 0, locals := 92 }
def fX12_histories (u : St) : Option (Int64 × St) := cl2 (fX12_all u) (fun x1 u2 => some (x1, u2))
theorem wX12_histories {X : Cx} {V : Vx} {q : Nat → Nat} {res : Int64 × St} (h : Run X cX12_histories 1 RX12 rmX12_histories V (some .long) (rEq (some (.long res.1)) (wM V q res.2))) (hE : ZOK (vZ V)) {u : St} (hf : fX12_histories u = some res) : At X 1 0 0 (wM V q u) 0 [(0, .ref (q 0))] [] := by
  obtain ⟨hX, hT, hF⟩ := id h
  unfold fX12_histories at hf
  refine a_aload_n hX dX12_histories_0 rfl 0 rfl rfl ?_
  obtain ⟨x1, u2, hg1, hf⟩ := cl2_some hf
  refine a_cVsl (q0 := 0) (rest := []) hX hE (ctX12_all (q := q) hE hg1) K_X12_193 ⟨rfl, rfl⟩ ⟨rfl, rfl, by decide, by decide⟩ ⟨Nat.zero_le _, Nat.zero_le _⟩ (Nat.le_of_ble_eq_true rfl) dX12_histories_1 rfl rfl ?_
  exact a_lret hX hT hF (r_lS (wf := (wM V q)) hf) dX12_histories_4
theorem ctX12_histories {V : Vx} {q : Nat → Nat} {u : St} {res : Int64 × St} (hE : ZOK (vZ V))  (hf : fX12_histories u = some res) : Ct V yX12_histories (.code yX12_histories cX12_histories 1 (some .long)) rmX12_histories 0 0 [.ref (q 0)] (wM V q u) (rEq (some (.long res.1)) (wM V q res.2)) :=
  Ct_of (by decide) (Nat.le_of_ble_eq_true rfl) rfl (fun X hX hT _ hF => wX12_histories ⟨hX, hT, hF⟩ hE hf)
def rmX12_at : Room := { frames := 4, cells := 0, slots := 0, locals := 92 }
def fX12_at (u : St) (v1 : Int32) (v2 : Int32) : Option (Int64 × St) := cl1 (fX12_isPlace u v1 v2) (fun x1 => if x1 = 0 then some ((-4611686018427387904), u) else (cl2 (fX12_all u) (fun x2 u3 => cl1 (fX12_through u3 v1 v2) (fun x4 => some (x4, u3)))))
theorem wX12_at {X : Cx} {V : Vx} {q : Nat → Nat} {res : Int64 × St} (h : Run X cX12_at 5 RX12 rmX12_at V (some .long) (rEq (some (.long res.1)) (wM V q res.2))) (hE : ZOK (vZ V)) {u : St} {v1 : Int32} {v2 : Int32} (hf : fX12_at u v1 v2 = some res) : At X 5 0 0 (wM V q u) 0 [(0, .ref (q 0)), (1, .int v1), (2, .int v2)] [] := by
  obtain ⟨hX, hT, hF⟩ := id h
  unfold fX12_at at hf
  refine a_aload_n hX dX12_at_0 rfl 0 rfl rfl ?_
  refine a_iload_n hX dX12_at_1 rfl 1 rfl rfl ?_
  refine a_iload_n hX dX12_at_2 rfl 2 rfl rfl ?_
  obtain ⟨x1, hg1, hf⟩ := cl1_some hf
  refine a_cVsi (q0 := 0) (rest := []) hX hE (ctX12_isPlace (q := q) hE hg1) K_X12_172 ⟨rfl, rfl⟩ ⟨rfl, rfl, by decide, by decide⟩ ⟨Nat.zero_le _, Nat.zero_le _⟩ (Nat.le_of_ble_eq_true rfl) dX12_at_3 rfl rfl ?_
  refine a_if_ne (tgt := 13) hX dX12_at_6 rfl rfl hf (fun hf => ?_) (fun hf => ?_)
  · refine a_aload_n hX dX12_at_13 rfl 0 rfl rfl ?_
    obtain ⟨x2, u3, hg2, hf⟩ := cl2_some hf
    refine a_cVsl (q0 := 0) (rest := []) hX hE (ctX12_all (q := q) hE hg2) K_X12_193 ⟨rfl, rfl⟩ ⟨rfl, rfl, by decide, by decide⟩ ⟨Nat.zero_le _, Nat.zero_le _⟩ (Nat.le_of_ble_eq_true rfl) dX12_at_14 rfl rfl ?_
    refine a_lstore_n (lv' := [(3, .long x2), (0, .ref (q 0)), (1, .int v1), (2, .int v2)]) hX dX12_at_17 rfl (by decide) rfl rfl ?_
    refine a_aload_n hX dX12_at_18 rfl 1 rfl rfl ?_
    refine a_iload_n hX dX12_at_19 rfl 2 rfl rfl ?_
    refine a_iload_n hX dX12_at_20 rfl 3 rfl rfl ?_
    obtain ⟨x4, hg4, hf⟩ := cl1_some hf
    refine a_cVsl (q0 := 0) (rest := []) hX hE (ctX12_through (q := q) hE hg4) K_X12_198 ⟨rfl, rfl⟩ ⟨rfl, rfl, by decide, by decide⟩ ⟨Nat.zero_le _, Nat.zero_le _⟩ (Nat.le_of_ble_eq_true rfl) dX12_at_21 rfl rfl ?_
    exact a_lret hX hT hF (r_lS (wf := (wM V q)) hf) dX12_at_24
  · refine a_ldc2 hX dX12_at_9 N_X12_196 rfl ?_
    exact a_lret hX hT hF (r_lS (wf := (wM V q)) hf) dX12_at_12
theorem ctX12_at {V : Vx} {q : Nat → Nat} {u : St} {res : Int64 × St} (hE : ZOK (vZ V)) {v1 : Int32} {v2 : Int32} (hf : fX12_at u v1 v2 = some res) : Ct V yX12_at (.code yX12_at cX12_at 5 (some .long)) rmX12_at 0 0 [.ref (q 0), .int v1, .int v2] (wM V q u) (rEq (some (.long res.1)) (wM V q res.2)) :=
  Ct_of (by decide) (Nat.le_of_ble_eq_true rfl) rfl (fun X hX hT _ hF => wX12_at ⟨hX, hT, hF⟩ hE hf)
def rmX12_spread : Room := { frames := 0, cells := 0, slots := 0, locals := 0 }
def fX12_spread_b123  (k53 : St → Int32 → Option (St)) (k64 : St → Int32 → Option (St)) (k76 : Int64 → Int32 → Option (St)) (u : St) (v3 : Int32) (v4 : Int32) (v7 : Int32) (s0 : Int64) (s1 : Int64) : Option (St) := nmL (s1 + s0) (fun x8 => k76 x8 (v7 + 1))
theorem wX12_spread_b123 {X : Cx} {V : Vx} {q : Nat → Nat} {res : St} (h : Run X cX12_spread 8 RX12 rmX12_spread V none (rEq none (wM V q res))) (hE : ZOK (vZ V)) {u : St} {v3 : Int32} {v4 : Int32} {v7 : Int32} {s0 : Int64} {s1 : Int64} {k53 : St → Int32 → Option (St)} (hk53 : ∀ (u : St) (v3 : Int32), k53 u v3 = some res → At X 8 0 0 (wM V q u) 53 [(0, .ref (q 0)), (3, .int v3)] []) {k64 : St → Int32 → Option (St)} (hk64 : ∀ (u : St) (v4 : Int32), k64 u v4 = some res → At X 8 0 0 (wM V q u) 64 [(0, .ref (q 0)), (3, .int v3), (4, .int v4)] []) {k76 : Int64 → Int32 → Option (St)} (hk76 : ∀ (v5 : Int64) (v7 : Int32), k76 v5 v7 = some res → At X 8 0 0 (wM V q u) 76 [(0, .ref (q 0)), (3, .int v3), (4, .int v4), (5, .long v5), (7, .int v7)] []) (hf : fX12_spread_b123  k53 k64 k76 u v3 v4 v7 s0 s1 = some res) : At X 8 0 0 (wM V q u) 123 [(0, .ref (q 0)), (3, .int v3), (4, .int v4), (7, .int v7)] [.long s0, .long s1] := by
  obtain ⟨hX, hT, hF⟩ := id h
  unfold fX12_spread_b123 at hf
  refine a_ladd hX dX12_spread_123 rfl ?_
  refine a_nmL hf (fun x8 hf => ?_)
  refine a_lstore (lv' := [(5, .long x8), (0, .ref (q 0)), (3, .int v3), (4, .int v4), (7, .int v7)]) hX dX12_spread_124 (by decide) rfl rfl ?_
  refine a_iinc (v := v7 + 1) (lv' := [(7, .int (v7 + 1)), (5, .long x8), (0, .ref (q 0)), (3, .int v3), (4, .int v4)]) hX dX12_spread_126 4 rfl rfl (by decide) rfl rfl ?_
  refine a_goto (pc' := 76) hX dX12_spread_129 rfl ?_
  refine a_lv (lv' := [(0, .ref (q 0)), (3, .int v3), (4, .int v4), (5, .long x8), (7, .int (v7 + 1))]) [2, 3, 4, 1, 0] rfl ?_
  exact hk76 x8 (v7 + 1) hf
def fX12_spread_b162  (k53 : St → Int32 → Option (St)) (k64 : St → Int32 → Option (St)) (u : St) (v3 : Int32) (v4 : Int32) (s0 : Int64) (s1 : Int32) : Option (St) := stL u 19 60 s1 s0 (fun u9 => k64 u9 (v4 + 1))
theorem wX12_spread_b162 {X : Cx} {V : Vx} {q : Nat → Nat} {res : St} (h : Run X cX12_spread 8 RX12 rmX12_spread V none (rEq none (wM V q res))) (hE : ZOK (vZ V)) {u : St} {v3 : Int32} {v4 : Int32} {s0 : Int64} {s1 : Int32} {k53 : St → Int32 → Option (St)} (hk53 : ∀ (u : St) (v3 : Int32), k53 u v3 = some res → At X 8 0 0 (wM V q u) 53 [(0, .ref (q 0)), (3, .int v3)] []) {k64 : St → Int32 → Option (St)} (hk64 : ∀ (u : St) (v4 : Int32), k64 u v4 = some res → At X 8 0 0 (wM V q u) 64 [(0, .ref (q 0)), (3, .int v3), (4, .int v4)] []) (hf : fX12_spread_b162  k53 k64 u v3 v4 s0 s1 = some res) : At X 8 0 0 (wM V q u) 162 [(0, .ref (q 0)), (3, .int v3), (4, .int v4)] [.long s0, .int s1, .ref (q 20)] := by
  obtain ⟨hX, hT, hF⟩ := id h
  unfold fX12_spread_b162 at hf
  refine sX12_19 hX dX12_spread_162 rfl hf (fun u9 hf => ?_)
  refine a_iinc (v := v4 + 1) (lv' := [(4, .int (v4 + 1)), (0, .ref (q 0)), (3, .int v3)]) hX dX12_spread_163 2 rfl rfl (by decide) rfl rfl ?_
  refine a_goto (pc' := 64) hX dX12_spread_166 rfl ?_
  refine a_lv (lv' := [(0, .ref (q 0)), (3, .int v3), (4, .int (v4 + 1))]) [1, 2, 0] rfl ?_
  exact hk64 u9 (v4 + 1) hf
def fX12_spread_l76b  (k53 : St → Int32 → Option (St)) (k64 : St → Int32 → Option (St)) (k76 : Int64 → Int32 → Option (St)) (u : St) (v3 : Int32) (v4 : Int32) (v5 : Int64) (v7 : Int32) : Option (St) := if 5 ≤ v7 then ldI (gA u 15) 60 ((5 * v3) + v4) (fun x5 => if x5 = 0 then fX12_spread_b162 k53 k64 u v3 v4 0 ((5 * v3) + v4) else (fX12_spread_b162 k53 k64 u v3 v4 v5 ((5 * v3) + v4))) else (ldI (gA u 16) 300 (((25 * (v3 - 1)) + (5 * v7)) + v4) (fun x6 => if x6 = 0 then fX12_spread_b123 k53 k64 k76 u v3 v4 v7 0 v5 else (ldL (gB u 19) 60 ((5 * (v3 - 1)) + v7) (fun x7 => fX12_spread_b123 k53 k64 k76 u v3 v4 v7 x7 v5))))
theorem wX12_spread_l76b {X : Cx} {V : Vx} {q : Nat → Nat} {res : St} (h : Run X cX12_spread 8 RX12 rmX12_spread V none (rEq none (wM V q res))) (hE : ZOK (vZ V)) {u : St} {v3 : Int32} {v4 : Int32} {v5 : Int64} {v7 : Int32} {k53 : St → Int32 → Option (St)} (hk53 : ∀ (u : St) (v3 : Int32), k53 u v3 = some res → At X 8 0 0 (wM V q u) 53 [(0, .ref (q 0)), (3, .int v3)] []) {k64 : St → Int32 → Option (St)} (hk64 : ∀ (u : St) (v4 : Int32), k64 u v4 = some res → At X 8 0 0 (wM V q u) 64 [(0, .ref (q 0)), (3, .int v3), (4, .int v4)] []) {k76 : Int64 → Int32 → Option (St)} (hk76 : ∀ (v5 : Int64) (v7 : Int32), k76 v5 v7 = some res → At X 8 0 0 (wM V q u) 76 [(0, .ref (q 0)), (3, .int v3), (4, .int v4), (5, .long v5), (7, .int v7)] []) (hf : fX12_spread_l76b  k53 k64 k76 u v3 v4 v5 v7 = some res) : At X 8 0 0 (wM V q u) 76 [(0, .ref (q 0)), (3, .int v3), (4, .int v4), (5, .long v5), (7, .int v7)] [] := by
  obtain ⟨hX, hT, hF⟩ := id h
  unfold fX12_spread_l76b at hf
  refine a_iload hX dX12_spread_76 4 rfl rfl ?_
  refine a_iconst (v := 5) hX dX12_spread_78 (by decide) rfl ?_
  refine a_icmp_ge (tgt := 132) hX dX12_spread_79 rfl rfl hf (fun hf => ?_) (fun hf => ?_)
  · refine a_aload_n hX dX12_spread_132 rfl 0 rfl rfl ?_
    refine gX12_19 hX F_X12_58 dX12_spread_133 rfl ?_
    refine a_iconst (v := 5) hX dX12_spread_136 (by decide) rfl ?_
    refine a_iload_n hX dX12_spread_137 rfl 1 rfl rfl ?_
    refine a_imul hX dX12_spread_138 rfl ?_
    refine a_iload hX dX12_spread_139 2 rfl rfl ?_
    refine a_iadd hX dX12_spread_141 rfl ?_
    refine a_aload_n hX dX12_spread_142 rfl 0 rfl rfl ?_
    refine gX12_15 hX F_X12_45 dX12_spread_143 rfl ?_
    refine a_iconst (v := 5) hX dX12_spread_146 (by decide) rfl ?_
    refine a_iload_n hX dX12_spread_147 rfl 1 rfl rfl ?_
    refine a_imul hX dX12_spread_148 rfl ?_
    refine a_iload hX dX12_spread_149 2 rfl rfl ?_
    refine a_iadd hX dX12_spread_151 rfl ?_
    refine lX12_15 hX dX12_spread_152 rfl hf (fun x5 hf => ?_)
    refine a_if_eq (tgt := 161) hX dX12_spread_153 rfl rfl hf (fun hf => ?_) (fun hf => ?_)
    · refine a_lconst (v := 0) hX dX12_spread_161 (by decide) rfl ?_
      refine a_lv (lv' := [(0, .ref (q 0)), (3, .int v3), (4, .int v4)]) [0, 1, 2] rfl ?_
      exact wX12_spread_b162 h hE hk53 hk64 hf
    · refine a_lload hX dX12_spread_156 3 rfl rfl ?_
      refine a_goto (pc' := 162) hX dX12_spread_158 rfl ?_
      refine a_lv (lv' := [(0, .ref (q 0)), (3, .int v3), (4, .int v4)]) [0, 1, 2] rfl ?_
      exact wX12_spread_b162 h hE hk53 hk64 hf
  · refine a_lload hX dX12_spread_82 3 rfl rfl ?_
    refine a_aload_n hX dX12_spread_84 rfl 0 rfl rfl ?_
    refine gX12_16 hX F_X12_48 dX12_spread_85 rfl ?_
    refine a_bipush (v := 25) hX dX12_spread_88 (by decide) rfl ?_
    refine a_iload_n hX dX12_spread_90 rfl 1 rfl rfl ?_
    refine a_iconst (v := 1) hX dX12_spread_91 (by decide) rfl ?_
    refine a_isub hX dX12_spread_92 rfl ?_
    refine a_imul hX dX12_spread_93 rfl ?_
    refine a_iconst (v := 5) hX dX12_spread_94 (by decide) rfl ?_
    refine a_iload hX dX12_spread_95 4 rfl rfl ?_
    refine a_imul hX dX12_spread_97 rfl ?_
    refine a_iadd hX dX12_spread_98 rfl ?_
    refine a_iload hX dX12_spread_99 2 rfl rfl ?_
    refine a_iadd hX dX12_spread_101 rfl ?_
    refine lX12_16 hX dX12_spread_102 rfl hf (fun x6 hf => ?_)
    refine a_if_eq (tgt := 122) hX dX12_spread_103 rfl rfl hf (fun hf => ?_) (fun hf => ?_)
    · refine a_lconst (v := 0) hX dX12_spread_122 (by decide) rfl ?_
      refine a_lv (lv' := [(0, .ref (q 0)), (3, .int v3), (4, .int v4), (7, .int v7)]) [0, 1, 2, 4] rfl ?_
      exact wX12_spread_b123 h hE hk53 hk64 hk76 hf
    · refine a_aload_n hX dX12_spread_106 rfl 0 rfl rfl ?_
      refine gX12_19 hX F_X12_58 dX12_spread_107 rfl ?_
      refine a_iconst (v := 5) hX dX12_spread_110 (by decide) rfl ?_
      refine a_iload_n hX dX12_spread_111 rfl 1 rfl rfl ?_
      refine a_iconst (v := 1) hX dX12_spread_112 (by decide) rfl ?_
      refine a_isub hX dX12_spread_113 rfl ?_
      refine a_imul hX dX12_spread_114 rfl ?_
      refine a_iload hX dX12_spread_115 4 rfl rfl ?_
      refine a_iadd hX dX12_spread_117 rfl ?_
      refine lX12_19 hX dX12_spread_118 rfl hf (fun x7 hf => ?_)
      refine a_goto (pc' := 123) hX dX12_spread_119 rfl ?_
      refine a_lv (lv' := [(0, .ref (q 0)), (3, .int v3), (4, .int v4), (7, .int v7)]) [0, 1, 2, 4] rfl ?_
      exact wX12_spread_b123 h hE hk53 hk64 hk76 hf
def fX12_spread_l76  (k53 : St → Int32 → Option (St)) (k64 : St → Int32 → Option (St)) (u : St) (v3 : Int32) (v4 : Int32) : Nat → Int64 → Int32 → Option (St)
  | 0, _, _ => none
  | m + 1, v5, v7 => fX12_spread_l76b  k53 k64 (fX12_spread_l76  k53 k64 u v3 v4 m) u v3 v4 v5 v7
theorem wX12_spread_l76 {X : Cx} {V : Vx} {q : Nat → Nat} {res : St} (h : Run X cX12_spread 8 RX12 rmX12_spread V none (rEq none (wM V q res))) (hE : ZOK (vZ V)) {u : St} {v3 : Int32} {v4 : Int32} {k53 : St → Int32 → Option (St)} (hk53 : ∀ (u : St) (v3 : Int32), k53 u v3 = some res → At X 8 0 0 (wM V q u) 53 [(0, .ref (q 0)), (3, .int v3)] []) {k64 : St → Int32 → Option (St)} (hk64 : ∀ (u : St) (v4 : Int32), k64 u v4 = some res → At X 8 0 0 (wM V q u) 64 [(0, .ref (q 0)), (3, .int v3), (4, .int v4)] []) : ∀ (m : Nat) (v5 : Int64) (v7 : Int32), fX12_spread_l76  k53 k64 u v3 v4 m v5 v7 = some res → At X 8 0 0 (wM V q u) 76 [(0, .ref (q 0)), (3, .int v3), (4, .int v4), (5, .long v5), (7, .int v7)] [] := by
  intro m
  induction m with
  | zero => intro v5 v7 hf; cases hf
  | succ m ih => intro v5 v7 hf; exact wX12_spread_l76b h hE hk53 hk64 ih hf
def fX12_spread_l64b  (k53 : St → Int32 → Option (St)) (k64 : St → Int32 → Option (St)) (u : St) (v3 : Int32) (v4 : Int32) : Option (St) := if 5 ≤ v4 then k53 u (v3 + 1) else (fX12_spread_l76 k53 k64 u v3 v4 NF 0 0)
theorem wX12_spread_l64b {X : Cx} {V : Vx} {q : Nat → Nat} {res : St} (h : Run X cX12_spread 8 RX12 rmX12_spread V none (rEq none (wM V q res))) (hE : ZOK (vZ V)) {u : St} {v3 : Int32} {v4 : Int32} {k53 : St → Int32 → Option (St)} (hk53 : ∀ (u : St) (v3 : Int32), k53 u v3 = some res → At X 8 0 0 (wM V q u) 53 [(0, .ref (q 0)), (3, .int v3)] []) {k64 : St → Int32 → Option (St)} (hk64 : ∀ (u : St) (v4 : Int32), k64 u v4 = some res → At X 8 0 0 (wM V q u) 64 [(0, .ref (q 0)), (3, .int v3), (4, .int v4)] []) (hf : fX12_spread_l64b  k53 k64 u v3 v4 = some res) : At X 8 0 0 (wM V q u) 64 [(0, .ref (q 0)), (3, .int v3), (4, .int v4)] [] := by
  obtain ⟨hX, hT, hF⟩ := id h
  unfold fX12_spread_l64b at hf
  refine a_iload hX dX12_spread_64 2 rfl rfl ?_
  refine a_iconst (v := 5) hX dX12_spread_66 (by decide) rfl ?_
  refine a_icmp_ge (tgt := 169) hX dX12_spread_67 rfl rfl hf (fun hf => ?_) (fun hf => ?_)
  · refine a_iinc (v := v3 + 1) (lv' := [(3, .int (v3 + 1)), (0, .ref (q 0)), (4, .int v4)]) hX dX12_spread_169 1 rfl rfl (by decide) rfl rfl ?_
    refine a_goto (pc' := 53) hX dX12_spread_172 rfl ?_
    refine a_lv (lv' := [(0, .ref (q 0)), (3, .int (v3 + 1))]) [1, 0] rfl ?_
    exact hk53 u (v3 + 1) hf
  · refine a_lconst (v := 0) hX dX12_spread_70 (by decide) rfl ?_
    refine a_lstore (lv' := [(5, .long 0), (0, .ref (q 0)), (3, .int v3), (4, .int v4)]) hX dX12_spread_71 (by decide) rfl rfl ?_
    refine a_iconst (v := 0) hX dX12_spread_73 (by decide) rfl ?_
    refine a_istore (lv' := [(7, .int 0), (5, .long 0), (0, .ref (q 0)), (3, .int v3), (4, .int v4)]) hX dX12_spread_74 (by decide) rfl rfl ?_
    refine a_lv (lv' := [(0, .ref (q 0)), (3, .int v3), (4, .int v4), (5, .long 0), (7, .int 0)]) [2, 3, 4, 1, 0] rfl ?_
    exact wX12_spread_l76 h hE hk53 hk64 NF 0 0 hf
def fX12_spread_l64  (k53 : St → Int32 → Option (St)) (v3 : Int32) : Nat → St → Int32 → Option (St)
  | 0, _, _ => none
  | m + 1, u, v4 => fX12_spread_l64b  k53 (fX12_spread_l64  k53 v3 m) u v3 v4
theorem wX12_spread_l64 {X : Cx} {V : Vx} {q : Nat → Nat} {res : St} (h : Run X cX12_spread 8 RX12 rmX12_spread V none (rEq none (wM V q res))) (hE : ZOK (vZ V)) {v3 : Int32} {k53 : St → Int32 → Option (St)} (hk53 : ∀ (u : St) (v3 : Int32), k53 u v3 = some res → At X 8 0 0 (wM V q u) 53 [(0, .ref (q 0)), (3, .int v3)] []) : ∀ (m : Nat) (u : St) (v4 : Int32), fX12_spread_l64  k53 v3 m u v4 = some res → At X 8 0 0 (wM V q u) 64 [(0, .ref (q 0)), (3, .int v3), (4, .int v4)] [] := by
  intro m
  induction m with
  | zero => intro u v4 hf; cases hf
  | succ m ih => intro u v4 hf; exact wX12_spread_l64b h hE hk53 ih hf
def fX12_spread_l53b  (k53 : St → Int32 → Option (St)) (u : St) (v3 : Int32) : Option (St) := if gZ u 1 ≤ v3 then some u else (fX12_spread_l64 k53 v3 NF u 0)
theorem wX12_spread_l53b {X : Cx} {V : Vx} {q : Nat → Nat} {res : St} (h : Run X cX12_spread 8 RX12 rmX12_spread V none (rEq none (wM V q res))) (hE : ZOK (vZ V)) {u : St} {v3 : Int32} {k53 : St → Int32 → Option (St)} (hk53 : ∀ (u : St) (v3 : Int32), k53 u v3 = some res → At X 8 0 0 (wM V q u) 53 [(0, .ref (q 0)), (3, .int v3)] []) (hf : fX12_spread_l53b  k53 u v3 = some res) : At X 8 0 0 (wM V q u) 53 [(0, .ref (q 0)), (3, .int v3)] [] := by
  obtain ⟨hX, hT, hF⟩ := id h
  unfold fX12_spread_l53b at hf
  refine a_iload_n hX dX12_spread_53 rfl 1 rfl rfl ?_
  refine a_aload_n hX dX12_spread_54 rfl 0 rfl rfl ?_
  refine gX12_1 hX F_X12_124 dX12_spread_55 rfl ?_
  refine a_icmp_ge (tgt := 175) hX dX12_spread_58 rfl rfl hf (fun hf => ?_) (fun hf => ?_)
  · exact a_ret hX hT hF (r_vS (wf := (wM V q)) hf) dX12_spread_175
  · refine a_iconst (v := 0) hX dX12_spread_61 (by decide) rfl ?_
    refine a_istore (lv' := [(4, .int 0), (0, .ref (q 0)), (3, .int v3)]) hX dX12_spread_62 (by decide) rfl rfl ?_
    refine a_lv (lv' := [(0, .ref (q 0)), (3, .int v3), (4, .int 0)]) [1, 2, 0] rfl ?_
    exact wX12_spread_l64 h hE hk53 NF u 0 hf
def fX12_spread_l53    : Nat → St → Int32 → Option (St)
  | 0, _, _ => none
  | m + 1, u, v3 => fX12_spread_l53b  (fX12_spread_l53    m) u v3
theorem wX12_spread_l53 {X : Cx} {V : Vx} {q : Nat → Nat} {res : St} (h : Run X cX12_spread 8 RX12 rmX12_spread V none (rEq none (wM V q res))) (hE : ZOK (vZ V))  : ∀ (m : Nat) (u : St) (v3 : Int32), fX12_spread_l53    m u v3 = some res → At X 8 0 0 (wM V q u) 53 [(0, .ref (q 0)), (3, .int v3)] [] := by
  intro m
  induction m with
  | zero => intro u v3 hf; cases hf
  | succ m ih => intro u v3 hf; exact wX12_spread_l53b h hE ih hf
def fX12_spread_b48   (u : St) (v2 : Int32) (s0 : Int64) (s1 : Int32) : Option (St) := stL u 19 60 s1 s0 (fun u3 => nmI (v2 + 1) (fun x4 => fX12_spread_l53 NF u3 x4))
theorem wX12_spread_b48 {X : Cx} {V : Vx} {q : Nat → Nat} {res : St} (h : Run X cX12_spread 8 RX12 rmX12_spread V none (rEq none (wM V q res))) (hE : ZOK (vZ V)) {u : St} {v2 : Int32} {s0 : Int64} {s1 : Int32} (hf : fX12_spread_b48   u v2 s0 s1 = some res) : At X 8 0 0 (wM V q u) 48 [(0, .ref (q 0)), (2, .int v2)] [.long s0, .int s1, .ref (q 20)] := by
  obtain ⟨hX, hT, hF⟩ := id h
  unfold fX12_spread_b48 at hf
  refine sX12_19 hX dX12_spread_48 rfl hf (fun u3 hf => ?_)
  refine a_iload_n hX dX12_spread_49 rfl 1 rfl rfl ?_
  refine a_iconst (v := 1) hX dX12_spread_50 (by decide) rfl ?_
  refine a_iadd hX dX12_spread_51 rfl ?_
  refine a_nmI hf (fun x4 hf => ?_)
  refine a_istore_n (lv' := [(3, .int x4), (0, .ref (q 0)), (2, .int v2)]) hX dX12_spread_52 rfl (by decide) rfl rfl ?_
  refine a_lv (lv' := [(0, .ref (q 0)), (3, .int x4)]) [1, 0] rfl ?_
  exact wX12_spread_l53 h hE NF u3 x4 hf
def fX12_spread_l2b  (k2 : St → Int32 → Option (St)) (u : St) (v1 : Int32) (v2 : Int32) (v3 : Int32) : Option (St) := if 60 ≤ v3 then ldI (gA u 15) 60 ((5 * v2) + v1) (fun x1 => if x1 = 0 then fX12_spread_b48 u v2 0 ((5 * v2) + v1) else (fX12_spread_b48 u v2 1 ((5 * v2) + v1))) else (stL u 19 60 v3 0 (fun u2 => k2 u2 (v3 + 1)))
theorem wX12_spread_l2b {X : Cx} {V : Vx} {q : Nat → Nat} {res : St} (h : Run X cX12_spread 8 RX12 rmX12_spread V none (rEq none (wM V q res))) (hE : ZOK (vZ V)) {u : St} {v1 : Int32} {v2 : Int32} {v3 : Int32} {k2 : St → Int32 → Option (St)} (hk2 : ∀ (u : St) (v3 : Int32), k2 u v3 = some res → At X 8 0 0 (wM V q u) 2 [(0, .ref (q 0)), (1, .int v1), (2, .int v2), (3, .int v3)] []) (hf : fX12_spread_l2b  k2 u v1 v2 v3 = some res) : At X 8 0 0 (wM V q u) 2 [(0, .ref (q 0)), (1, .int v1), (2, .int v2), (3, .int v3)] [] := by
  obtain ⟨hX, hT, hF⟩ := id h
  unfold fX12_spread_l2b at hf
  refine a_iload_n hX dX12_spread_2 rfl 3 rfl rfl ?_
  refine a_bipush (v := 60) hX dX12_spread_3 (by decide) rfl ?_
  refine a_icmp_ge (tgt := 21) hX dX12_spread_5 rfl rfl hf (fun hf => ?_) (fun hf => ?_)
  · refine a_aload_n hX dX12_spread_21 rfl 0 rfl rfl ?_
    refine gX12_19 hX F_X12_58 dX12_spread_22 rfl ?_
    refine a_iconst (v := 5) hX dX12_spread_25 (by decide) rfl ?_
    refine a_iload_n hX dX12_spread_26 rfl 2 rfl rfl ?_
    refine a_imul hX dX12_spread_27 rfl ?_
    refine a_iload_n hX dX12_spread_28 rfl 1 rfl rfl ?_
    refine a_iadd hX dX12_spread_29 rfl ?_
    refine a_aload_n hX dX12_spread_30 rfl 0 rfl rfl ?_
    refine gX12_15 hX F_X12_45 dX12_spread_31 rfl ?_
    refine a_iconst (v := 5) hX dX12_spread_34 (by decide) rfl ?_
    refine a_iload_n hX dX12_spread_35 rfl 2 rfl rfl ?_
    refine a_imul hX dX12_spread_36 rfl ?_
    refine a_iload_n hX dX12_spread_37 rfl 1 rfl rfl ?_
    refine a_iadd hX dX12_spread_38 rfl ?_
    refine lX12_15 hX dX12_spread_39 rfl hf (fun x1 hf => ?_)
    refine a_if_eq (tgt := 47) hX dX12_spread_40 rfl rfl hf (fun hf => ?_) (fun hf => ?_)
    · refine a_lconst (v := 0) hX dX12_spread_47 (by decide) rfl ?_
      refine a_lv (lv' := [(0, .ref (q 0)), (2, .int v2)]) [0, 2] rfl ?_
      exact wX12_spread_b48 h hE hf
    · refine a_lconst (v := 1) hX dX12_spread_43 (by decide) rfl ?_
      refine a_goto (pc' := 48) hX dX12_spread_44 rfl ?_
      refine a_lv (lv' := [(0, .ref (q 0)), (2, .int v2)]) [0, 2] rfl ?_
      exact wX12_spread_b48 h hE hf
  · refine a_aload_n hX dX12_spread_8 rfl 0 rfl rfl ?_
    refine gX12_19 hX F_X12_58 dX12_spread_9 rfl ?_
    refine a_iload_n hX dX12_spread_12 rfl 3 rfl rfl ?_
    refine a_lconst (v := 0) hX dX12_spread_13 (by decide) rfl ?_
    refine sX12_19 hX dX12_spread_14 rfl hf (fun u2 hf => ?_)
    refine a_iinc (v := v3 + 1) (lv' := [(3, .int (v3 + 1)), (0, .ref (q 0)), (1, .int v1), (2, .int v2)]) hX dX12_spread_15 3 rfl rfl (by decide) rfl rfl ?_
    refine a_goto (pc' := 2) hX dX12_spread_18 rfl ?_
    refine a_lv (lv' := [(0, .ref (q 0)), (1, .int v1), (2, .int v2), (3, .int (v3 + 1))]) [1, 2, 3, 0] rfl ?_
    exact hk2 u2 (v3 + 1) hf
def fX12_spread_l2   (v1 : Int32) (v2 : Int32) : Nat → St → Int32 → Option (St)
  | 0, _, _ => none
  | m + 1, u, v3 => fX12_spread_l2b  (fX12_spread_l2   v1 v2 m) u v1 v2 v3
theorem wX12_spread_l2 {X : Cx} {V : Vx} {q : Nat → Nat} {res : St} (h : Run X cX12_spread 8 RX12 rmX12_spread V none (rEq none (wM V q res))) (hE : ZOK (vZ V)) {v1 : Int32} {v2 : Int32} : ∀ (m : Nat) (u : St) (v3 : Int32), fX12_spread_l2   v1 v2 m u v3 = some res → At X 8 0 0 (wM V q u) 2 [(0, .ref (q 0)), (1, .int v1), (2, .int v2), (3, .int v3)] [] := by
  intro m
  induction m with
  | zero => intro u v3 hf; cases hf
  | succ m ih => intro u v3 hf; exact wX12_spread_l2b h hE ih hf
def fX12_spread (u : St) (v1 : Int32) (v2 : Int32) : Option (St) := fX12_spread_l2 v1 v2 NF u 0
theorem wX12_spread {X : Cx} {V : Vx} {q : Nat → Nat} {res : St} (h : Run X cX12_spread 8 RX12 rmX12_spread V none (rEq none (wM V q res))) (hE : ZOK (vZ V)) {u : St} {v1 : Int32} {v2 : Int32} (hf : fX12_spread u v1 v2 = some res) : At X 8 0 0 (wM V q u) 0 [(0, .ref (q 0)), (1, .int v1), (2, .int v2)] [] := by
  obtain ⟨hX, hT, hF⟩ := id h
  unfold fX12_spread at hf
  refine a_iconst (v := 0) hX dX12_spread_0 (by decide) rfl ?_
  refine a_istore_n (lv' := [(3, .int 0), (0, .ref (q 0)), (1, .int v1), (2, .int v2)]) hX dX12_spread_1 rfl (by decide) rfl rfl ?_
  refine a_lv (lv' := [(0, .ref (q 0)), (1, .int v1), (2, .int v2), (3, .int 0)]) [1, 2, 3, 0] rfl ?_
  exact wX12_spread_l2 h hE NF u 0 hf
theorem ctX12_spread {V : Vx} {q : Nat → Nat} {u : St} {res : St} (hE : ZOK (vZ V)) {v1 : Int32} {v2 : Int32} (hf : fX12_spread u v1 v2 = some res) : Ct V yX12_spread (.code yX12_spread cX12_spread 8 none) rmX12_spread 0 0 [.ref (q 0), .int v1, .int v2] (wM V q u) (rEq none (wM V q res)) :=
  Ct_of (by decide) (Nat.le_of_ble_eq_true rfl) rfl (fun X hX hT _ hF => wX12_spread ⟨hX, hT, hF⟩ hE hf)
def rmX12_pairUp : Room := { frames := 1, cells := 0, slots := 0, locals := 27 }
def fX12_pairUp_l28b  (k2 : St → Int32 → Option (St)) (k28 : St → Int32 → Option (St)) (u : St) (v1 : Int32) (v2 : Int32) : Option (St) := if 5 * (gZ u 1) ≤ v2 then k2 u (v1 + 1) else (ldL (gB u 17) 60 v1 (fun x4 => ldL (gB u 19) 60 v2 (fun x5 => ldL (gB u 18) 60 v2 (fun x6 => nmL ((x4 * x5) * x6) (fun x7 => stL u 20 3600 ((60 * v1) + v2) x7 (fun u8 => stL u8 20 3600 ((60 * v2) + v1) x7 (fun u9 => k28 u9 (v2 + 1))))))))
theorem wX12_pairUp_l28b {X : Cx} {V : Vx} {q : Nat → Nat} {res : St} (h : Run X cX12_pairUp 5 RX12 rmX12_pairUp V none (rEq none (wM V q res))) (hE : ZOK (vZ V)) {u : St} {v1 : Int32} {v2 : Int32} {k2 : St → Int32 → Option (St)} (hk2 : ∀ (u : St) (v1 : Int32), k2 u v1 = some res → At X 5 0 0 (wM V q u) 2 [(0, .ref (q 0)), (1, .int v1)] []) {k28 : St → Int32 → Option (St)} (hk28 : ∀ (u : St) (v2 : Int32), k28 u v2 = some res → At X 5 0 0 (wM V q u) 28 [(0, .ref (q 0)), (1, .int v1), (2, .int v2)] []) (hf : fX12_pairUp_l28b  k2 k28 u v1 v2 = some res) : At X 5 0 0 (wM V q u) 28 [(0, .ref (q 0)), (1, .int v1), (2, .int v2)] [] := by
  obtain ⟨hX, hT, hF⟩ := id h
  unfold fX12_pairUp_l28b at hf
  refine a_iload_n hX dX12_pairUp_28 rfl 2 rfl rfl ?_
  refine a_iconst (v := 5) hX dX12_pairUp_29 (by decide) rfl ?_
  refine a_aload_n hX dX12_pairUp_30 rfl 0 rfl rfl ?_
  refine gX12_1 hX F_X12_124 dX12_pairUp_31 rfl ?_
  refine a_imul hX dX12_pairUp_34 rfl ?_
  refine a_icmp_ge (tgt := 89) hX dX12_pairUp_35 rfl rfl hf (fun hf => ?_) (fun hf => ?_)
  · refine a_iinc (v := v1 + 1) (lv' := [(1, .int (v1 + 1)), (0, .ref (q 0)), (2, .int v2)]) hX dX12_pairUp_89 1 rfl rfl (by decide) rfl rfl ?_
    refine a_goto (pc' := 2) hX dX12_pairUp_92 rfl ?_
    refine a_lv (lv' := [(0, .ref (q 0)), (1, .int (v1 + 1))]) [1, 0] rfl ?_
    exact hk2 u (v1 + 1) hf
  · refine a_aload_n hX dX12_pairUp_38 rfl 0 rfl rfl ?_
    refine gX12_17 hX F_X12_51 dX12_pairUp_39 rfl ?_
    refine a_iload_n hX dX12_pairUp_42 rfl 1 rfl rfl ?_
    refine lX12_17 hX dX12_pairUp_43 rfl hf (fun x4 hf => ?_)
    refine a_aload_n hX dX12_pairUp_44 rfl 0 rfl rfl ?_
    refine gX12_19 hX F_X12_58 dX12_pairUp_45 rfl ?_
    refine a_iload_n hX dX12_pairUp_48 rfl 2 rfl rfl ?_
    refine lX12_19 hX dX12_pairUp_49 rfl hf (fun x5 hf => ?_)
    refine a_lmul hX dX12_pairUp_50 rfl ?_
    refine a_aload_n hX dX12_pairUp_51 rfl 0 rfl rfl ?_
    refine gX12_18 hX F_X12_55 dX12_pairUp_52 rfl ?_
    refine a_iload_n hX dX12_pairUp_55 rfl 2 rfl rfl ?_
    refine lX12_18 hX dX12_pairUp_56 rfl hf (fun x6 hf => ?_)
    refine a_lmul hX dX12_pairUp_57 rfl ?_
    refine a_nmL hf (fun x7 hf => ?_)
    refine a_lstore_n (lv' := [(3, .long x7), (0, .ref (q 0)), (1, .int v1), (2, .int v2)]) hX dX12_pairUp_58 rfl (by decide) rfl rfl ?_
    refine a_aload_n hX dX12_pairUp_59 rfl 1 rfl rfl ?_
    refine gX12_20 hX F_X12_61 dX12_pairUp_60 rfl ?_
    refine a_bipush (v := 60) hX dX12_pairUp_63 (by decide) rfl ?_
    refine a_iload_n hX dX12_pairUp_65 rfl 2 rfl rfl ?_
    refine a_imul hX dX12_pairUp_66 rfl ?_
    refine a_iload_n hX dX12_pairUp_67 rfl 3 rfl rfl ?_
    refine a_iadd hX dX12_pairUp_68 rfl ?_
    refine a_lload_n hX dX12_pairUp_69 rfl 0 rfl rfl ?_
    refine sX12_20 hX dX12_pairUp_70 rfl hf (fun u8 hf => ?_)
    refine a_aload_n hX dX12_pairUp_71 rfl 1 rfl rfl ?_
    refine gX12_20 hX F_X12_61 dX12_pairUp_72 rfl ?_
    refine a_bipush (v := 60) hX dX12_pairUp_75 (by decide) rfl ?_
    refine a_iload_n hX dX12_pairUp_77 rfl 3 rfl rfl ?_
    refine a_imul hX dX12_pairUp_78 rfl ?_
    refine a_iload_n hX dX12_pairUp_79 rfl 2 rfl rfl ?_
    refine a_iadd hX dX12_pairUp_80 rfl ?_
    refine a_lload_n hX dX12_pairUp_81 rfl 0 rfl rfl ?_
    refine sX12_20 hX dX12_pairUp_82 rfl hf (fun u9 hf => ?_)
    refine a_iinc (v := v2 + 1) (lv' := [(2, .int (v2 + 1)), (3, .long x7), (0, .ref (q 0)), (1, .int v1)]) hX dX12_pairUp_83 3 rfl rfl (by decide) rfl rfl ?_
    refine a_goto (pc' := 28) hX dX12_pairUp_86 rfl ?_
    refine a_lv (lv' := [(0, .ref (q 0)), (1, .int v1), (2, .int (v2 + 1))]) [2, 3, 0] rfl ?_
    exact hk28 u9 (v2 + 1) hf
def fX12_pairUp_l28  (k2 : St → Int32 → Option (St)) (v1 : Int32) : Nat → St → Int32 → Option (St)
  | 0, _, _ => none
  | m + 1, u, v2 => fX12_pairUp_l28b  k2 (fX12_pairUp_l28  k2 v1 m) u v1 v2
theorem wX12_pairUp_l28 {X : Cx} {V : Vx} {q : Nat → Nat} {res : St} (h : Run X cX12_pairUp 5 RX12 rmX12_pairUp V none (rEq none (wM V q res))) (hE : ZOK (vZ V)) {v1 : Int32} {k2 : St → Int32 → Option (St)} (hk2 : ∀ (u : St) (v1 : Int32), k2 u v1 = some res → At X 5 0 0 (wM V q u) 2 [(0, .ref (q 0)), (1, .int v1)] []) : ∀ (m : Nat) (u : St) (v2 : Int32), fX12_pairUp_l28  k2 v1 m u v2 = some res → At X 5 0 0 (wM V q u) 28 [(0, .ref (q 0)), (1, .int v1), (2, .int v2)] [] := by
  intro m
  induction m with
  | zero => intro u v2 hf; cases hf
  | succ m ih => intro u v2 hf; exact wX12_pairUp_l28b h hE hk2 ih hf
def fX12_pairUp_l2b  (k2 : St → Int32 → Option (St)) (u : St) (v1 : Int32) : Option (St) := if 5 * (gZ u 1) ≤ v1 then some u else (cl1 (fX12_spread u (v1 - v1 / 5 * 5) (v1 / 5)) (fun u2 => nmI (v1 - (v1 - v1 / 5 * 5)) (fun x3 => fX12_pairUp_l28 k2 v1 NF u2 x3)))
theorem wX12_pairUp_l2b {X : Cx} {V : Vx} {q : Nat → Nat} {res : St} (h : Run X cX12_pairUp 5 RX12 rmX12_pairUp V none (rEq none (wM V q res))) (hE : ZOK (vZ V)) {u : St} {v1 : Int32} {k2 : St → Int32 → Option (St)} (hk2 : ∀ (u : St) (v1 : Int32), k2 u v1 = some res → At X 5 0 0 (wM V q u) 2 [(0, .ref (q 0)), (1, .int v1)] []) (hf : fX12_pairUp_l2b  k2 u v1 = some res) : At X 5 0 0 (wM V q u) 2 [(0, .ref (q 0)), (1, .int v1)] [] := by
  obtain ⟨hX, hT, hF⟩ := id h
  unfold fX12_pairUp_l2b at hf
  refine a_iload_n hX dX12_pairUp_2 rfl 1 rfl rfl ?_
  refine a_iconst (v := 5) hX dX12_pairUp_3 (by decide) rfl ?_
  refine a_aload_n hX dX12_pairUp_4 rfl 0 rfl rfl ?_
  refine gX12_1 hX F_X12_124 dX12_pairUp_5 rfl ?_
  refine a_imul hX dX12_pairUp_8 rfl ?_
  refine a_icmp_ge (tgt := 95) hX dX12_pairUp_9 rfl rfl hf (fun hf => ?_) (fun hf => ?_)
  · exact a_ret hX hT hF (r_vS (wf := (wM V q)) hf) dX12_pairUp_95
  · refine a_aload_n hX dX12_pairUp_12 rfl 0 rfl rfl ?_
    refine a_iload_n hX dX12_pairUp_13 rfl 1 rfl rfl ?_
    refine a_iconst (v := 5) hX dX12_pairUp_14 (by decide) rfl ?_
    refine a_irem hX dX12_pairUp_15 (by decide) rfl ?_
    refine a_iload_n hX dX12_pairUp_16 rfl 1 rfl rfl ?_
    refine a_iconst (v := 5) hX dX12_pairUp_17 (by decide) rfl ?_
    refine a_idiv hX dX12_pairUp_18 (by decide) rfl ?_
    obtain ⟨u2, hg1, hf⟩ := cl1_some hf
    refine a_cVsv (q0 := 0) (rest := []) hX hE (ctX12_spread (q := q) hE hg1) K_X12_202 ⟨rfl, rfl⟩ ⟨rfl, rfl, by decide, by decide⟩ ⟨Nat.zero_le _, Nat.zero_le _⟩ (Nat.le_of_ble_eq_true rfl) dX12_pairUp_19 rfl rfl ?_
    refine a_iload_n hX dX12_pairUp_22 rfl 1 rfl rfl ?_
    refine a_iload_n hX dX12_pairUp_23 rfl 1 rfl rfl ?_
    refine a_iconst (v := 5) hX dX12_pairUp_24 (by decide) rfl ?_
    refine a_irem hX dX12_pairUp_25 (by decide) rfl ?_
    refine a_isub hX dX12_pairUp_26 rfl ?_
    refine a_nmI hf (fun x3 hf => ?_)
    refine a_istore_n (lv' := [(2, .int x3), (0, .ref (q 0)), (1, .int v1)]) hX dX12_pairUp_27 rfl (by decide) rfl rfl ?_
    refine a_lv (lv' := [(0, .ref (q 0)), (1, .int v1), (2, .int x3)]) [1, 2, 0] rfl ?_
    exact wX12_pairUp_l28 h hE hk2 NF u2 x3 hf
def fX12_pairUp_l2    : Nat → St → Int32 → Option (St)
  | 0, _, _ => none
  | m + 1, u, v1 => fX12_pairUp_l2b  (fX12_pairUp_l2    m) u v1
theorem wX12_pairUp_l2 {X : Cx} {V : Vx} {q : Nat → Nat} {res : St} (h : Run X cX12_pairUp 5 RX12 rmX12_pairUp V none (rEq none (wM V q res))) (hE : ZOK (vZ V))  : ∀ (m : Nat) (u : St) (v1 : Int32), fX12_pairUp_l2    m u v1 = some res → At X 5 0 0 (wM V q u) 2 [(0, .ref (q 0)), (1, .int v1)] [] := by
  intro m
  induction m with
  | zero => intro u v1 hf; cases hf
  | succ m ih => intro u v1 hf; exact wX12_pairUp_l2b h hE ih hf
def fX12_pairUp (u : St) : Option (St) := fX12_pairUp_l2 NF u 0
theorem wX12_pairUp {X : Cx} {V : Vx} {q : Nat → Nat} {res : St} (h : Run X cX12_pairUp 5 RX12 rmX12_pairUp V none (rEq none (wM V q res))) (hE : ZOK (vZ V)) {u : St} (hf : fX12_pairUp u = some res) : At X 5 0 0 (wM V q u) 0 [(0, .ref (q 0))] [] := by
  obtain ⟨hX, hT, hF⟩ := id h
  unfold fX12_pairUp at hf
  refine a_iconst (v := 0) hX dX12_pairUp_0 (by decide) rfl ?_
  refine a_istore_n (lv' := [(1, .int 0), (0, .ref (q 0))]) hX dX12_pairUp_1 rfl (by decide) rfl rfl ?_
  refine a_lv (lv' := [(0, .ref (q 0)), (1, .int 0)]) [1, 0] rfl ?_
  exact wX12_pairUp_l2 h hE NF u 0 hf
theorem ctX12_pairUp {V : Vx} {q : Nat → Nat} {u : St} {res : St} (hE : ZOK (vZ V))  (hf : fX12_pairUp u = some res) : Ct V yX12_pairUp (.code yX12_pairUp cX12_pairUp 5 none) rmX12_pairUp 0 0 [.ref (q 0)] (wM V q u) (rEq none (wM V q res)) :=
  Ct_of (by decide) (Nat.le_of_ble_eq_true rfl) rfl (fun X hX hT _ hF => wX12_pairUp ⟨hX, hT, hF⟩ hE hf)
def rmX12_both : Room := { frames := 4, cells := 0, slots := 0, locals := 92 }
def fX12_both_b82   (u : St) (v8 : Int32) (s0 : Int32) : Option (Int64 × St) := cl1 (fX12_spread u (v8 - v8 / 5 * 5) (v8 / 5)) (fun u6 => ldL (gB u6 17) 60 v8 (fun x7 => ldL (gB u6 19) 60 s0 (fun x8 => ldL (gB u6 18) 60 s0 (fun x9 => some ((x7 * x8) * x9, u6)))))
theorem wX12_both_b82 {X : Cx} {V : Vx} {q : Nat → Nat} {res : Int64 × St} (h : Run X cX12_both 10 RX12 rmX12_both V (some .long) (rEq (some (.long res.1)) (wM V q res.2))) (hE : ZOK (vZ V)) {u : St} {v8 : Int32} {s0 : Int32} (hf : fX12_both_b82   u v8 s0 = some res) : At X 10 0 0 (wM V q u) 82 [(0, .ref (q 0)), (8, .int v8)] [.int s0] := by
  obtain ⟨hX, hT, hF⟩ := id h
  unfold fX12_both_b82 at hf
  refine a_istore (lv' := [(9, .int s0), (0, .ref (q 0)), (8, .int v8)]) hX dX12_both_82 (by decide) rfl rfl ?_
  refine a_aload_n hX dX12_both_84 rfl 1 rfl rfl ?_
  refine a_iload hX dX12_both_85 2 rfl rfl ?_
  refine a_iconst (v := 5) hX dX12_both_87 (by decide) rfl ?_
  refine a_irem hX dX12_both_88 (by decide) rfl ?_
  refine a_iload hX dX12_both_89 2 rfl rfl ?_
  refine a_iconst (v := 5) hX dX12_both_91 (by decide) rfl ?_
  refine a_idiv hX dX12_both_92 (by decide) rfl ?_
  obtain ⟨u6, hg5, hf⟩ := cl1_some hf
  refine a_cVsv (q0 := 0) (rest := []) hX hE (ctX12_spread (q := q) hE hg5) K_X12_202 ⟨rfl, rfl⟩ ⟨rfl, rfl, by decide, by decide⟩ ⟨Nat.zero_le _, Nat.zero_le _⟩ (Nat.le_of_ble_eq_true rfl) dX12_both_93 rfl rfl ?_
  refine a_aload_n hX dX12_both_96 rfl 1 rfl rfl ?_
  refine gX12_17 hX F_X12_51 dX12_both_97 rfl ?_
  refine a_iload hX dX12_both_100 2 rfl rfl ?_
  refine lX12_17 hX dX12_both_102 rfl hf (fun x7 hf => ?_)
  refine a_aload_n hX dX12_both_103 rfl 1 rfl rfl ?_
  refine gX12_19 hX F_X12_58 dX12_both_104 rfl ?_
  refine a_iload hX dX12_both_107 0 rfl rfl ?_
  refine lX12_19 hX dX12_both_109 rfl hf (fun x8 hf => ?_)
  refine a_lmul hX dX12_both_110 rfl ?_
  refine a_aload_n hX dX12_both_111 rfl 1 rfl rfl ?_
  refine gX12_18 hX F_X12_55 dX12_both_112 rfl ?_
  refine a_iload hX dX12_both_115 0 rfl rfl ?_
  refine lX12_18 hX dX12_both_117 rfl hf (fun x9 hf => ?_)
  refine a_lmul hX dX12_both_118 rfl ?_
  exact a_lret hX hT hF (r_lS (wf := (wM V q)) hf) dX12_both_119
def fX12_both_b61   (u : St) (v1 : Int32) (v2 : Int32) (v3 : Int32) (v4 : Int32) (v7 : Int32) (s0 : Int32) : Option (Int64 × St) := if v7 = 0 then fX12_both_b82 u s0 ((5 * v2) + v1) else (fX12_both_b82 u s0 ((5 * v4) + v3))
theorem wX12_both_b61 {X : Cx} {V : Vx} {q : Nat → Nat} {res : Int64 × St} (h : Run X cX12_both 10 RX12 rmX12_both V (some .long) (rEq (some (.long res.1)) (wM V q res.2))) (hE : ZOK (vZ V)) {u : St} {v1 : Int32} {v2 : Int32} {v3 : Int32} {v4 : Int32} {v7 : Int32} {s0 : Int32} (hf : fX12_both_b61   u v1 v2 v3 v4 v7 s0 = some res) : At X 10 0 0 (wM V q u) 61 [(0, .ref (q 0)), (1, .int v1), (2, .int v2), (3, .int v3), (4, .int v4), (7, .int v7)] [.int s0] := by
  obtain ⟨hX, hT, hF⟩ := id h
  unfold fX12_both_b61 at hf
  refine a_istore (lv' := [(8, .int s0), (0, .ref (q 0)), (1, .int v1), (2, .int v2), (3, .int v3), (4, .int v4), (7, .int v7)]) hX dX12_both_61 (by decide) rfl rfl ?_
  refine a_iload hX dX12_both_63 6 rfl rfl ?_
  refine a_if_eq (tgt := 77) hX dX12_both_65 rfl rfl hf (fun hf => ?_) (fun hf => ?_)
  · refine a_iconst (v := 5) hX dX12_both_77 (by decide) rfl ?_
    refine a_iload_n hX dX12_both_78 rfl 3 rfl rfl ?_
    refine a_imul hX dX12_both_79 rfl ?_
    refine a_iload_n hX dX12_both_80 rfl 2 rfl rfl ?_
    refine a_iadd hX dX12_both_81 rfl ?_
    refine a_lv (lv' := [(0, .ref (q 0)), (8, .int s0)]) [1, 0] rfl ?_
    exact wX12_both_b82 h hE hf
  · refine a_iconst (v := 5) hX dX12_both_68 (by decide) rfl ?_
    refine a_iload hX dX12_both_69 5 rfl rfl ?_
    refine a_imul hX dX12_both_71 rfl ?_
    refine a_iload_n hX dX12_both_72 rfl 4 rfl rfl ?_
    refine a_iadd hX dX12_both_73 rfl ?_
    refine a_goto (pc' := 82) hX dX12_both_74 rfl ?_
    refine a_lv (lv' := [(0, .ref (q 0)), (8, .int s0)]) [1, 0] rfl ?_
    exact wX12_both_b82 h hE hf
def fX12_both_b40   (u : St) (v1 : Int32) (v2 : Int32) (v3 : Int32) (v4 : Int32) (s0 : Int32) : Option (Int64 × St) := if s0 = 0 then fX12_both_b61 u v1 v2 v3 v4 s0 ((5 * v4) + v3) else (fX12_both_b61 u v1 v2 v3 v4 s0 ((5 * v2) + v1))
theorem wX12_both_b40 {X : Cx} {V : Vx} {q : Nat → Nat} {res : Int64 × St} (h : Run X cX12_both 10 RX12 rmX12_both V (some .long) (rEq (some (.long res.1)) (wM V q res.2))) (hE : ZOK (vZ V)) {u : St} {v1 : Int32} {v2 : Int32} {v3 : Int32} {v4 : Int32} {s0 : Int32} (hf : fX12_both_b40   u v1 v2 v3 v4 s0 = some res) : At X 10 0 0 (wM V q u) 40 [(0, .ref (q 0)), (1, .int v1), (2, .int v2), (3, .int v3), (4, .int v4)] [.int s0] := by
  obtain ⟨hX, hT, hF⟩ := id h
  unfold fX12_both_b40 at hf
  refine a_istore (lv' := [(7, .int s0), (0, .ref (q 0)), (1, .int v1), (2, .int v2), (3, .int v3), (4, .int v4)]) hX dX12_both_40 (by decide) rfl rfl ?_
  refine a_iload hX dX12_both_42 0 rfl rfl ?_
  refine a_if_eq (tgt := 55) hX dX12_both_44 rfl rfl hf (fun hf => ?_) (fun hf => ?_)
  · refine a_iconst (v := 5) hX dX12_both_55 (by decide) rfl ?_
    refine a_iload hX dX12_both_56 5 rfl rfl ?_
    refine a_imul hX dX12_both_58 rfl ?_
    refine a_iload_n hX dX12_both_59 rfl 4 rfl rfl ?_
    refine a_iadd hX dX12_both_60 rfl ?_
    refine a_lv (lv' := [(0, .ref (q 0)), (1, .int v1), (2, .int v2), (3, .int v3), (4, .int v4), (7, .int s0)]) [1, 2, 3, 4, 5, 0] rfl ?_
    exact wX12_both_b61 h hE hf
  · refine a_iconst (v := 5) hX dX12_both_47 (by decide) rfl ?_
    refine a_iload_n hX dX12_both_48 rfl 3 rfl rfl ?_
    refine a_imul hX dX12_both_49 rfl ?_
    refine a_iload_n hX dX12_both_50 rfl 2 rfl rfl ?_
    refine a_iadd hX dX12_both_51 rfl ?_
    refine a_goto (pc' := 61) hX dX12_both_52 rfl ?_
    refine a_lv (lv' := [(0, .ref (q 0)), (1, .int v1), (2, .int v2), (3, .int v3), (4, .int v4), (7, .int s0)]) [1, 2, 3, 4, 5, 0] rfl ?_
    exact wX12_both_b61 h hE hf
def fX12_both (u : St) (v1 : Int32) (v2 : Int32) (v3 : Int32) (v4 : Int32) : Option (Int64 × St) := cl1 (fX12_isPlace u v1 v2) (fun x1 => if x1 = 0 then some ((-4611686018427387904), u) else (cl1 (fX12_isPlace u v3 v4) (fun x2 => if x2 = 0 then some ((-4611686018427387904), u) else (cl2 (fX12_all u) (fun x3 u4 => if v4 < v2 then fX12_both_b40 u4 v1 v2 v3 v4 0 else (fX12_both_b40 u4 v1 v2 v3 v4 1))))))
theorem wX12_both {X : Cx} {V : Vx} {q : Nat → Nat} {res : Int64 × St} (h : Run X cX12_both 10 RX12 rmX12_both V (some .long) (rEq (some (.long res.1)) (wM V q res.2))) (hE : ZOK (vZ V)) {u : St} {v1 : Int32} {v2 : Int32} {v3 : Int32} {v4 : Int32} (hf : fX12_both u v1 v2 v3 v4 = some res) : At X 10 0 0 (wM V q u) 0 [(0, .ref (q 0)), (1, .int v1), (2, .int v2), (3, .int v3), (4, .int v4)] [] := by
  obtain ⟨hX, hT, hF⟩ := id h
  unfold fX12_both at hf
  refine a_aload_n hX dX12_both_0 rfl 0 rfl rfl ?_
  refine a_iload_n hX dX12_both_1 rfl 1 rfl rfl ?_
  refine a_iload_n hX dX12_both_2 rfl 2 rfl rfl ?_
  obtain ⟨x1, hg1, hf⟩ := cl1_some hf
  refine a_cVsi (q0 := 0) (rest := []) hX hE (ctX12_isPlace (q := q) hE hg1) K_X12_172 ⟨rfl, rfl⟩ ⟨rfl, rfl, by decide, by decide⟩ ⟨Nat.zero_le _, Nat.zero_le _⟩ (Nat.le_of_ble_eq_true rfl) dX12_both_3 rfl rfl ?_
  refine a_if_eq (tgt := 19) hX dX12_both_6 rfl rfl hf (fun hf => ?_) (fun hf => ?_)
  · refine a_ldc2 hX dX12_both_19 N_X12_196 rfl ?_
    exact a_lret hX hT hF (r_lS (wf := (wM V q)) hf) dX12_both_22
  · refine a_aload_n hX dX12_both_9 rfl 0 rfl rfl ?_
    refine a_iload_n hX dX12_both_10 rfl 3 rfl rfl ?_
    refine a_iload hX dX12_both_11 4 rfl rfl ?_
    obtain ⟨x2, hg2, hf⟩ := cl1_some hf
    refine a_cVsi (q0 := 0) (rest := []) hX hE (ctX12_isPlace (q := q) hE hg2) K_X12_172 ⟨rfl, rfl⟩ ⟨rfl, rfl, by decide, by decide⟩ ⟨Nat.zero_le _, Nat.zero_le _⟩ (Nat.le_of_ble_eq_true rfl) dX12_both_13 rfl rfl ?_
    refine a_if_ne (tgt := 23) hX dX12_both_16 rfl rfl hf (fun hf => ?_) (fun hf => ?_)
    · refine a_aload_n hX dX12_both_23 rfl 0 rfl rfl ?_
      obtain ⟨x3, u4, hg3, hf⟩ := cl2_some hf
      refine a_cVsl (q0 := 0) (rest := []) hX hE (ctX12_all (q := q) hE hg3) K_X12_193 ⟨rfl, rfl⟩ ⟨rfl, rfl, by decide, by decide⟩ ⟨Nat.zero_le _, Nat.zero_le _⟩ (Nat.le_of_ble_eq_true rfl) dX12_both_24 rfl rfl ?_
      refine a_lstore (lv' := [(5, .long x3), (0, .ref (q 0)), (1, .int v1), (2, .int v2), (3, .int v3), (4, .int v4)]) hX dX12_both_27 (by decide) rfl rfl ?_
      refine a_iload_n hX dX12_both_29 rfl 3 rfl rfl ?_
      refine a_iload hX dX12_both_30 5 rfl rfl ?_
      refine a_icmp_gt (tgt := 39) hX dX12_both_32 rfl rfl hf (fun hf => ?_) (fun hf => ?_)
      · refine a_iconst (v := 0) hX dX12_both_39 (by decide) rfl ?_
        refine a_lv (lv' := [(0, .ref (q 0)), (1, .int v1), (2, .int v2), (3, .int v3), (4, .int v4)]) [1, 2, 3, 4, 5] rfl ?_
        exact wX12_both_b40 h hE hf
      · refine a_iconst (v := 1) hX dX12_both_35 (by decide) rfl ?_
        refine a_goto (pc' := 40) hX dX12_both_36 rfl ?_
        refine a_lv (lv' := [(0, .ref (q 0)), (1, .int v1), (2, .int v2), (3, .int v3), (4, .int v4)]) [1, 2, 3, 4, 5] rfl ?_
        exact wX12_both_b40 h hE hf
    · refine a_ldc2 hX dX12_both_19 N_X12_196 rfl ?_
      exact a_lret hX hT hF (r_lS (wf := (wM V q)) hf) dX12_both_22
theorem ctX12_both {V : Vx} {q : Nat → Nat} {u : St} {res : Int64 × St} (hE : ZOK (vZ V)) {v1 : Int32} {v2 : Int32} {v3 : Int32} {v4 : Int32} (hf : fX12_both u v1 v2 v3 v4 = some res) : Ct V yX12_both (.code yX12_both cX12_both 10 (some .long)) rmX12_both 0 0 [.ref (q 0), .int v1, .int v2, .int v3, .int v4] (wM V q u) (rEq (some (.long res.1)) (wM V q res.2)) :=
  Ct_of (by decide) (Nat.le_of_ble_eq_true rfl) rfl (fun X hX hT _ hF => wX12_both ⟨hX, hT, hF⟩ hE hf)
def rmX12_history : Room := { frames := 4, cells := 0, slots := 0, locals := 92 }
def fX12_history_b146  (k43 : Int64 → Int32 → Int32 → Option (Int32 × St)) (k56 : Int64 → Int32 → Option (Int32 × St)) (u : St) (v2 : Int32) (v5 : Int32) (v6 : Int32) (v7 : Int32) (s0 : Int64) (s1 : Int64) : Option (Int32 × St) := nmL (s1 - s0) (fun x10 => k56 x10 (v5 + 1))
theorem wX12_history_b146 {X : Cx} {V : Vx} {q : Nat → Nat} {res : Int32 × St} (h : Run X cX12_history 8 RX12 rmX12_history V (some .int) (rEq (some (.int res.1)) (wM V q res.2))) (hE : ZOK (vZ V)) {u : St} {v2 : Int32} {v5 : Int32} {v6 : Int32} {v7 : Int32} {s0 : Int64} {s1 : Int64} {k43 : Int64 → Int32 → Int32 → Option (Int32 × St)} (hk43 : ∀ (v3 : Int64) (v5 : Int32) (v6 : Int32), k43 v3 v5 v6 = some res → At X 8 0 0 (wM V q u) 43 [(0, .ref (q 0)), (2, .int v2), (3, .long v3), (5, .int v5), (6, .int v6)] []) {k56 : Int64 → Int32 → Option (Int32 × St)} (hk56 : ∀ (v3 : Int64) (v5 : Int32), k56 v3 v5 = some res → At X 8 0 0 (wM V q u) 56 [(0, .ref (q 0)), (2, .int v2), (3, .long v3), (5, .int v5), (6, .int v6), (7, .int v7)] []) (hf : fX12_history_b146  k43 k56 u v2 v5 v6 v7 s0 s1 = some res) : At X 8 0 0 (wM V q u) 146 [(0, .ref (q 0)), (2, .int v2), (5, .int v5), (6, .int v6), (7, .int v7)] [.long s0, .long s1] := by
  obtain ⟨hX, hT, hF⟩ := id h
  unfold fX12_history_b146 at hf
  refine a_lsub hX dX12_history_146 rfl ?_
  refine a_nmL hf (fun x10 hf => ?_)
  refine a_lstore_n (lv' := [(3, .long x10), (0, .ref (q 0)), (2, .int v2), (5, .int v5), (6, .int v6), (7, .int v7)]) hX dX12_history_147 rfl (by decide) rfl rfl ?_
  refine a_iinc (v := v5 + 1) (lv' := [(5, .int (v5 + 1)), (3, .long x10), (0, .ref (q 0)), (2, .int v2), (6, .int v6), (7, .int v7)]) hX dX12_history_148 3 rfl rfl (by decide) rfl rfl ?_
  refine a_goto (pc' := 56) hX dX12_history_151 rfl ?_
  refine a_lv (lv' := [(0, .ref (q 0)), (2, .int v2), (3, .long x10), (5, .int (v5 + 1)), (6, .int v6), (7, .int v7)]) [2, 3, 1, 0, 4, 5] rfl ?_
  exact hk56 x10 (v5 + 1) hf
def fX12_history_b134  (k43 : Int64 → Int32 → Int32 → Option (Int32 × St)) (k56 : Int64 → Int32 → Option (Int32 × St)) (u : St) (v2 : Int32) (v5 : Int32) (v6 : Int32) (v7 : Int32) (s0 : Int64) : Option (Int32 × St) := ldL (gB u 18) 60 ((5 * v6) + v5) (fun x9 => fX12_history_b146 k43 k56 u v2 v5 v6 v7 x9 s0)
theorem wX12_history_b134 {X : Cx} {V : Vx} {q : Nat → Nat} {res : Int32 × St} (h : Run X cX12_history 8 RX12 rmX12_history V (some .int) (rEq (some (.int res.1)) (wM V q res.2))) (hE : ZOK (vZ V)) {u : St} {v2 : Int32} {v5 : Int32} {v6 : Int32} {v7 : Int32} {s0 : Int64} {k43 : Int64 → Int32 → Int32 → Option (Int32 × St)} (hk43 : ∀ (v3 : Int64) (v5 : Int32) (v6 : Int32), k43 v3 v5 v6 = some res → At X 8 0 0 (wM V q u) 43 [(0, .ref (q 0)), (2, .int v2), (3, .long v3), (5, .int v5), (6, .int v6)] []) {k56 : Int64 → Int32 → Option (Int32 × St)} (hk56 : ∀ (v3 : Int64) (v5 : Int32), k56 v3 v5 = some res → At X 8 0 0 (wM V q u) 56 [(0, .ref (q 0)), (2, .int v2), (3, .long v3), (5, .int v5), (6, .int v6), (7, .int v7)] []) (hf : fX12_history_b134  k43 k56 u v2 v5 v6 v7 s0 = some res) : At X 8 0 0 (wM V q u) 134 [(0, .ref (q 0)), (2, .int v2), (5, .int v5), (6, .int v6), (7, .int v7)] [.long s0] := by
  obtain ⟨hX, hT, hF⟩ := id h
  unfold fX12_history_b134 at hf
  refine a_aload_n hX dX12_history_134 rfl 0 rfl rfl ?_
  refine gX12_18 hX F_X12_55 dX12_history_135 rfl ?_
  refine a_iconst (v := 5) hX dX12_history_138 (by decide) rfl ?_
  refine a_iload hX dX12_history_139 3 rfl rfl ?_
  refine a_imul hX dX12_history_141 rfl ?_
  refine a_iload hX dX12_history_142 2 rfl rfl ?_
  refine a_iadd hX dX12_history_144 rfl ?_
  refine lX12_18 hX dX12_history_145 rfl hf (fun x9 hf => ?_)
  exact wX12_history_b146 h hE hk43 hk56 hf
def fX12_history_b101  (k43 : Int64 → Int32 → Int32 → Option (Int32 × St)) (k56 : Int64 → Int32 → Option (Int32 × St)) (u : St) (v2 : Int32) (v3 : Int64) (v5 : Int32) (v6 : Int32) (v7 : Int32) : Option (Int32 × St) := if v6 ≤ 0 then fX12_history_b134 k43 k56 u v2 v5 v6 v7 v3 else (ldI (gA u 16) 300 (((25 * (v6 - 1)) + (5 * v7)) + v5) (fun x8 => if x8 = 0 then fX12_history_b146 k43 k56 u v2 v5 v6 v7 0 v3 else (fX12_history_b134 k43 k56 u v2 v5 v6 v7 v3)))
theorem wX12_history_b101 {X : Cx} {V : Vx} {q : Nat → Nat} {res : Int32 × St} (h : Run X cX12_history 8 RX12 rmX12_history V (some .int) (rEq (some (.int res.1)) (wM V q res.2))) (hE : ZOK (vZ V)) {u : St} {v2 : Int32} {v3 : Int64} {v5 : Int32} {v6 : Int32} {v7 : Int32} {k43 : Int64 → Int32 → Int32 → Option (Int32 × St)} (hk43 : ∀ (v3 : Int64) (v5 : Int32) (v6 : Int32), k43 v3 v5 v6 = some res → At X 8 0 0 (wM V q u) 43 [(0, .ref (q 0)), (2, .int v2), (3, .long v3), (5, .int v5), (6, .int v6)] []) {k56 : Int64 → Int32 → Option (Int32 × St)} (hk56 : ∀ (v3 : Int64) (v5 : Int32), k56 v3 v5 = some res → At X 8 0 0 (wM V q u) 56 [(0, .ref (q 0)), (2, .int v2), (3, .long v3), (5, .int v5), (6, .int v6), (7, .int v7)] []) (hf : fX12_history_b101  k43 k56 u v2 v3 v5 v6 v7 = some res) : At X 8 0 0 (wM V q u) 101 [(0, .ref (q 0)), (2, .int v2), (3, .long v3), (5, .int v5), (6, .int v6), (7, .int v7)] [] := by
  obtain ⟨hX, hT, hF⟩ := id h
  unfold fX12_history_b101 at hf
  refine a_lload_n hX dX12_history_101 rfl 2 rfl rfl ?_
  refine a_iload hX dX12_history_102 4 rfl rfl ?_
  refine a_if_le (tgt := 134) hX dX12_history_104 rfl rfl hf (fun hf => ?_) (fun hf => ?_)
  · refine a_lv (lv' := [(0, .ref (q 0)), (2, .int v2), (5, .int v5), (6, .int v6), (7, .int v7)]) [0, 1, 3, 4, 5] rfl ?_
    exact wX12_history_b134 h hE hk43 hk56 hf
  · refine a_aload_n hX dX12_history_107 rfl 0 rfl rfl ?_
    refine gX12_16 hX F_X12_48 dX12_history_108 rfl ?_
    refine a_bipush (v := 25) hX dX12_history_111 (by decide) rfl ?_
    refine a_iload hX dX12_history_113 4 rfl rfl ?_
    refine a_iconst (v := 1) hX dX12_history_115 (by decide) rfl ?_
    refine a_isub hX dX12_history_116 rfl ?_
    refine a_imul hX dX12_history_117 rfl ?_
    refine a_iconst (v := 5) hX dX12_history_118 (by decide) rfl ?_
    refine a_iload hX dX12_history_119 5 rfl rfl ?_
    refine a_imul hX dX12_history_121 rfl ?_
    refine a_iadd hX dX12_history_122 rfl ?_
    refine a_iload hX dX12_history_123 3 rfl rfl ?_
    refine a_iadd hX dX12_history_125 rfl ?_
    refine lX12_16 hX dX12_history_126 rfl hf (fun x8 hf => ?_)
    refine a_if_ne (tgt := 134) hX dX12_history_127 rfl rfl hf (fun hf => ?_) (fun hf => ?_)
    · refine a_lv (lv' := [(0, .ref (q 0)), (2, .int v2), (5, .int v5), (6, .int v6), (7, .int v7)]) [0, 1, 3, 4, 5] rfl ?_
      exact wX12_history_b134 h hE hk43 hk56 hf
    · refine a_lconst (v := 0) hX dX12_history_130 (by decide) rfl ?_
      refine a_goto (pc' := 146) hX dX12_history_131 rfl ?_
      refine a_lv (lv' := [(0, .ref (q 0)), (2, .int v2), (5, .int v5), (6, .int v6), (7, .int v7)]) [0, 1, 3, 4, 5] rfl ?_
      exact wX12_history_b146 h hE hk43 hk56 hf
def fX12_history_b84  (k43 : Int64 → Int32 → Int32 → Option (Int32 × St)) (k56 : Int64 → Int32 → Option (Int32 × St)) (u : St) (v2 : Int32) (v3 : Int64) (v5 : Int32) (v6 : Int32) (v7 : Int32) : Option (Int32 × St) := ldL (gB u 18) 60 ((5 * v6) + v5) (fun x7 => if v3 < x7 then k43 v3 v5 (v6 + 1) else (fX12_history_b101 k43 k56 u v2 v3 v5 v6 v7))
theorem wX12_history_b84 {X : Cx} {V : Vx} {q : Nat → Nat} {res : Int32 × St} (h : Run X cX12_history 8 RX12 rmX12_history V (some .int) (rEq (some (.int res.1)) (wM V q res.2))) (hE : ZOK (vZ V)) {u : St} {v2 : Int32} {v3 : Int64} {v5 : Int32} {v6 : Int32} {v7 : Int32} {k43 : Int64 → Int32 → Int32 → Option (Int32 × St)} (hk43 : ∀ (v3 : Int64) (v5 : Int32) (v6 : Int32), k43 v3 v5 v6 = some res → At X 8 0 0 (wM V q u) 43 [(0, .ref (q 0)), (2, .int v2), (3, .long v3), (5, .int v5), (6, .int v6)] []) {k56 : Int64 → Int32 → Option (Int32 × St)} (hk56 : ∀ (v3 : Int64) (v5 : Int32), k56 v3 v5 = some res → At X 8 0 0 (wM V q u) 56 [(0, .ref (q 0)), (2, .int v2), (3, .long v3), (5, .int v5), (6, .int v6), (7, .int v7)] []) (hf : fX12_history_b84  k43 k56 u v2 v3 v5 v6 v7 = some res) : At X 8 0 0 (wM V q u) 84 [(0, .ref (q 0)), (2, .int v2), (3, .long v3), (5, .int v5), (6, .int v6), (7, .int v7)] [] := by
  obtain ⟨hX, hT, hF⟩ := id h
  unfold fX12_history_b84 at hf
  refine a_lload_n hX dX12_history_84 rfl 2 rfl rfl ?_
  refine a_aload_n hX dX12_history_85 rfl 0 rfl rfl ?_
  refine gX12_18 hX F_X12_55 dX12_history_86 rfl ?_
  refine a_iconst (v := 5) hX dX12_history_89 (by decide) rfl ?_
  refine a_iload hX dX12_history_90 4 rfl rfl ?_
  refine a_imul hX dX12_history_92 rfl ?_
  refine a_iload hX dX12_history_93 3 rfl rfl ?_
  refine a_iadd hX dX12_history_95 rfl ?_
  refine lX12_18 hX dX12_history_96 rfl hf (fun x7 hf => ?_)
  refine a_lcmp_lt (tgt := 154) hX dX12_history_97 rfl dX12_history_98 rfl rfl hf (fun hf => ?_) (fun hf => ?_)
  · refine a_iinc (v := v6 + 1) (lv' := [(6, .int (v6 + 1)), (0, .ref (q 0)), (2, .int v2), (3, .long v3), (5, .int v5), (7, .int v7)]) hX dX12_history_154 4 rfl rfl (by decide) rfl rfl ?_
    refine a_goto (pc' := 43) hX dX12_history_157 rfl ?_
    refine a_lv (lv' := [(0, .ref (q 0)), (2, .int v2), (3, .long v3), (5, .int v5), (6, .int (v6 + 1))]) [1, 2, 3, 4, 0] rfl ?_
    exact hk43 v3 v5 (v6 + 1) hf
  · exact wX12_history_b101 h hE hk43 hk56 hf
def fX12_history_l56b  (k43 : Int64 → Int32 → Int32 → Option (Int32 × St)) (k56 : Int64 → Int32 → Option (Int32 × St)) (u : St) (v2 : Int32) (v3 : Int64) (v5 : Int32) (v6 : Int32) (v7 : Int32) : Option (Int32 × St) := if v6 ≤ 0 then fX12_history_b84 k43 k56 u v2 v3 v5 v6 v7 else (ldI (gA u 16) 300 (((25 * (v6 - 1)) + (5 * v7)) + v5) (fun x6 => if x6 = 0 then fX12_history_b101 k43 k56 u v2 v3 v5 v6 v7 else (fX12_history_b84 k43 k56 u v2 v3 v5 v6 v7)))
theorem wX12_history_l56b {X : Cx} {V : Vx} {q : Nat → Nat} {res : Int32 × St} (h : Run X cX12_history 8 RX12 rmX12_history V (some .int) (rEq (some (.int res.1)) (wM V q res.2))) (hE : ZOK (vZ V)) {u : St} {v2 : Int32} {v3 : Int64} {v5 : Int32} {v6 : Int32} {v7 : Int32} {k43 : Int64 → Int32 → Int32 → Option (Int32 × St)} (hk43 : ∀ (v3 : Int64) (v5 : Int32) (v6 : Int32), k43 v3 v5 v6 = some res → At X 8 0 0 (wM V q u) 43 [(0, .ref (q 0)), (2, .int v2), (3, .long v3), (5, .int v5), (6, .int v6)] []) {k56 : Int64 → Int32 → Option (Int32 × St)} (hk56 : ∀ (v3 : Int64) (v5 : Int32), k56 v3 v5 = some res → At X 8 0 0 (wM V q u) 56 [(0, .ref (q 0)), (2, .int v2), (3, .long v3), (5, .int v5), (6, .int v6), (7, .int v7)] []) (hf : fX12_history_l56b  k43 k56 u v2 v3 v5 v6 v7 = some res) : At X 8 0 0 (wM V q u) 56 [(0, .ref (q 0)), (2, .int v2), (3, .long v3), (5, .int v5), (6, .int v6), (7, .int v7)] [] := by
  obtain ⟨hX, hT, hF⟩ := id h
  unfold fX12_history_l56b at hf
  refine a_iload hX dX12_history_56 4 rfl rfl ?_
  refine a_if_le (tgt := 84) hX dX12_history_58 rfl rfl hf (fun hf => ?_) (fun hf => ?_)
  · exact wX12_history_b84 h hE hk43 hk56 hf
  · refine a_aload_n hX dX12_history_61 rfl 0 rfl rfl ?_
    refine gX12_16 hX F_X12_48 dX12_history_62 rfl ?_
    refine a_bipush (v := 25) hX dX12_history_65 (by decide) rfl ?_
    refine a_iload hX dX12_history_67 4 rfl rfl ?_
    refine a_iconst (v := 1) hX dX12_history_69 (by decide) rfl ?_
    refine a_isub hX dX12_history_70 rfl ?_
    refine a_imul hX dX12_history_71 rfl ?_
    refine a_iconst (v := 5) hX dX12_history_72 (by decide) rfl ?_
    refine a_iload hX dX12_history_73 5 rfl rfl ?_
    refine a_imul hX dX12_history_75 rfl ?_
    refine a_iadd hX dX12_history_76 rfl ?_
    refine a_iload hX dX12_history_77 3 rfl rfl ?_
    refine a_iadd hX dX12_history_79 rfl ?_
    refine lX12_16 hX dX12_history_80 rfl hf (fun x6 hf => ?_)
    refine a_if_eq (tgt := 101) hX dX12_history_81 rfl rfl hf (fun hf => ?_) (fun hf => ?_)
    · exact wX12_history_b101 h hE hk43 hk56 hf
    · exact wX12_history_b84 h hE hk43 hk56 hf
def fX12_history_l56  (k43 : Int64 → Int32 → Int32 → Option (Int32 × St)) (u : St) (v2 : Int32) (v6 : Int32) (v7 : Int32) : Nat → Int64 → Int32 → Option (Int32 × St)
  | 0, _, _ => none
  | m + 1, v3, v5 => fX12_history_l56b  k43 (fX12_history_l56  k43 u v2 v6 v7 m) u v2 v3 v5 v6 v7
theorem wX12_history_l56 {X : Cx} {V : Vx} {q : Nat → Nat} {res : Int32 × St} (h : Run X cX12_history 8 RX12 rmX12_history V (some .int) (rEq (some (.int res.1)) (wM V q res.2))) (hE : ZOK (vZ V)) {u : St} {v2 : Int32} {v6 : Int32} {v7 : Int32} {k43 : Int64 → Int32 → Int32 → Option (Int32 × St)} (hk43 : ∀ (v3 : Int64) (v5 : Int32) (v6 : Int32), k43 v3 v5 v6 = some res → At X 8 0 0 (wM V q u) 43 [(0, .ref (q 0)), (2, .int v2), (3, .long v3), (5, .int v5), (6, .int v6)] []) : ∀ (m : Nat) (v3 : Int64) (v5 : Int32), fX12_history_l56  k43 u v2 v6 v7 m v3 v5 = some res → At X 8 0 0 (wM V q u) 56 [(0, .ref (q 0)), (2, .int v2), (3, .long v3), (5, .int v5), (6, .int v6), (7, .int v7)] [] := by
  intro m
  induction m with
  | zero => intro v3 v5 hf; cases hf
  | succ m ih => intro v3 v5 hf; exact wX12_history_l56b h hE hk43 ih hf
def fX12_history_l43b  (k43 : Int64 → Int32 → Int32 → Option (Int32 × St)) (u : St) (v2 : Int32) (v3 : Int64) (v5 : Int32) (v6 : Int32) : Option (Int32 × St) := if v2 < v6 then some (v5, u) else (fX12_history_l56 k43 u v2 v6 v5 NF v3 0)
theorem wX12_history_l43b {X : Cx} {V : Vx} {q : Nat → Nat} {res : Int32 × St} (h : Run X cX12_history 8 RX12 rmX12_history V (some .int) (rEq (some (.int res.1)) (wM V q res.2))) (hE : ZOK (vZ V)) {u : St} {v2 : Int32} {v3 : Int64} {v5 : Int32} {v6 : Int32} {k43 : Int64 → Int32 → Int32 → Option (Int32 × St)} (hk43 : ∀ (v3 : Int64) (v5 : Int32) (v6 : Int32), k43 v3 v5 v6 = some res → At X 8 0 0 (wM V q u) 43 [(0, .ref (q 0)), (2, .int v2), (3, .long v3), (5, .int v5), (6, .int v6)] []) (hf : fX12_history_l43b  k43 u v2 v3 v5 v6 = some res) : At X 8 0 0 (wM V q u) 43 [(0, .ref (q 0)), (2, .int v2), (3, .long v3), (5, .int v5), (6, .int v6)] [] := by
  obtain ⟨hX, hT, hF⟩ := id h
  unfold fX12_history_l43b at hf
  refine a_iload hX dX12_history_43 4 rfl rfl ?_
  refine a_iload_n hX dX12_history_45 rfl 1 rfl rfl ?_
  refine a_icmp_gt (tgt := 160) hX dX12_history_46 rfl rfl hf (fun hf => ?_) (fun hf => ?_)
  · refine a_iload hX dX12_history_160 3 rfl rfl ?_
    exact a_iret hX hT hF (r_iS (wf := (wM V q)) hf) dX12_history_162
  · refine a_iload hX dX12_history_49 3 rfl rfl ?_
    refine a_istore (lv' := [(7, .int v5), (0, .ref (q 0)), (2, .int v2), (3, .long v3), (5, .int v5), (6, .int v6)]) hX dX12_history_51 (by decide) rfl rfl ?_
    refine a_iconst (v := 0) hX dX12_history_53 (by decide) rfl ?_
    refine a_istore (lv' := [(5, .int 0), (7, .int v5), (0, .ref (q 0)), (2, .int v2), (3, .long v3), (6, .int v6)]) hX dX12_history_54 (by decide) rfl rfl ?_
    refine a_lv (lv' := [(0, .ref (q 0)), (2, .int v2), (3, .long v3), (5, .int 0), (6, .int v6), (7, .int v5)]) [2, 3, 4, 0, 5, 1] rfl ?_
    exact wX12_history_l56 h hE hk43 NF v3 0 hf
def fX12_history_l43   (u : St) (v2 : Int32) : Nat → Int64 → Int32 → Int32 → Option (Int32 × St)
  | 0, _, _, _ => none
  | m + 1, v3, v5, v6 => fX12_history_l43b  (fX12_history_l43   u v2 m) u v2 v3 v5 v6
theorem wX12_history_l43 {X : Cx} {V : Vx} {q : Nat → Nat} {res : Int32 × St} (h : Run X cX12_history 8 RX12 rmX12_history V (some .int) (rEq (some (.int res.1)) (wM V q res.2))) (hE : ZOK (vZ V)) {u : St} {v2 : Int32} : ∀ (m : Nat) (v3 : Int64) (v5 : Int32) (v6 : Int32), fX12_history_l43   u v2 m v3 v5 v6 = some res → At X 8 0 0 (wM V q u) 43 [(0, .ref (q 0)), (2, .int v2), (3, .long v3), (5, .int v5), (6, .int v6)] [] := by
  intro m
  induction m with
  | zero => intro v3 v5 v6 hf; cases hf
  | succ m ih => intro v3 v5 v6 hf; exact wX12_history_l43b h hE ih hf
def fX12_history (u : St) (v1 : Int32) (v2 : Int32) : Option (Int32 × St) := cl1 (fX12_in v1 0 9999) (fun x1 => if x1 = 0 then some ((-2), u) else (cl1 (fX12_isPeriod u v2) (fun x2 => if x2 = 0 then some ((-2), u) else (cl2 (fX12_all u) (fun x3 u4 => if Int32.toInt64 v1 < x3 then nmL (Int32.toInt64 v1) (fun x5 => fX12_history_l43 u4 v2 NF x5 0 0) else (some ((-1), u4)))))))
theorem wX12_history {X : Cx} {V : Vx} {q : Nat → Nat} {res : Int32 × St} (h : Run X cX12_history 8 RX12 rmX12_history V (some .int) (rEq (some (.int res.1)) (wM V q res.2))) (hE : ZOK (vZ V)) {u : St} {v1 : Int32} {v2 : Int32} (hf : fX12_history u v1 v2 = some res) : At X 8 0 0 (wM V q u) 0 [(0, .ref (q 0)), (1, .int v1), (2, .int v2)] [] := by
  obtain ⟨hX, hT, hF⟩ := id h
  unfold fX12_history at hf
  refine a_iload_n hX dX12_history_0 rfl 1 rfl rfl ?_
  refine a_iconst (v := 0) hX dX12_history_1 (by decide) rfl ?_
  refine a_sipush (v := 9999) hX dX12_history_2 (by decide) rfl ?_
  obtain ⟨x1, hg1, hf⟩ := cl1_some hf
  refine a_cSpi (rest := []) hX hE (ctX12_in hE hg1) K_X12_148 ⟨rfl, rfl, by decide, by decide⟩ ⟨Nat.zero_le _, Nat.zero_le _⟩ (Nat.le_of_ble_eq_true rfl) dX12_history_5 rfl rfl ?_
  refine a_if_eq (tgt := 19) hX dX12_history_8 rfl rfl hf (fun hf => ?_) (fun hf => ?_)
  · refine a_bipush (v := (-2)) hX dX12_history_19 (by decide) rfl ?_
    exact a_iret hX hT hF (r_iS (wf := (wM V q)) hf) dX12_history_21
  · refine a_aload_n hX dX12_history_11 rfl 0 rfl rfl ?_
    refine a_iload_n hX dX12_history_12 rfl 2 rfl rfl ?_
    obtain ⟨x2, hg2, hf⟩ := cl1_some hf
    refine a_cVsi (q0 := 0) (rest := []) hX hE (ctX12_isPeriod (q := q) hE hg2) K_X12_156 ⟨rfl, rfl⟩ ⟨rfl, rfl, by decide, by decide⟩ ⟨Nat.zero_le _, Nat.zero_le _⟩ (Nat.le_of_ble_eq_true rfl) dX12_history_13 rfl rfl ?_
    refine a_if_ne (tgt := 22) hX dX12_history_16 rfl rfl hf (fun hf => ?_) (fun hf => ?_)
    · refine a_iload_n hX dX12_history_22 rfl 1 rfl rfl ?_
      refine a_i2l hX dX12_history_23 rfl ?_
      refine a_aload_n hX dX12_history_24 rfl 0 rfl rfl ?_
      obtain ⟨x3, u4, hg3, hf⟩ := cl2_some hf
      refine a_cVsl (q0 := 0) (rest := [.long (Int32.toInt64 v1)]) hX hE (ctX12_all (q := q) hE hg3) K_X12_193 ⟨rfl, rfl⟩ ⟨rfl, rfl, by decide, by decide⟩ ⟨Nat.zero_le _, Nat.zero_le _⟩ (Nat.le_of_ble_eq_true rfl) dX12_history_25 rfl rfl ?_
      refine a_lcmp_lt (tgt := 34) hX dX12_history_28 rfl dX12_history_29 rfl rfl hf (fun hf => ?_) (fun hf => ?_)
      · refine a_iload_n hX dX12_history_34 rfl 1 rfl rfl ?_
        refine a_i2l hX dX12_history_35 rfl ?_
        refine a_nmL hf (fun x5 hf => ?_)
        refine a_lstore_n (lv' := [(3, .long x5), (0, .ref (q 0)), (1, .int v1), (2, .int v2)]) hX dX12_history_36 rfl (by decide) rfl rfl ?_
        refine a_iconst (v := 0) hX dX12_history_37 (by decide) rfl ?_
        refine a_istore (lv' := [(5, .int 0), (3, .long x5), (0, .ref (q 0)), (1, .int v1), (2, .int v2)]) hX dX12_history_38 (by decide) rfl rfl ?_
        refine a_iconst (v := 0) hX dX12_history_40 (by decide) rfl ?_
        refine a_istore (lv' := [(6, .int 0), (5, .int 0), (3, .long x5), (0, .ref (q 0)), (1, .int v1), (2, .int v2)]) hX dX12_history_41 (by decide) rfl rfl ?_
        refine a_lv (lv' := [(0, .ref (q 0)), (2, .int v2), (3, .long x5), (5, .int 0), (6, .int 0)]) [3, 5, 2, 1, 0] rfl ?_
        exact wX12_history_l43 h hE NF x5 0 0 hf
      · refine a_iconst (v := (-1)) hX dX12_history_32 (by decide) rfl ?_
        exact a_iret hX hT hF (r_iS (wf := (wM V q)) hf) dX12_history_33
    · refine a_bipush (v := (-2)) hX dX12_history_19 (by decide) rfl ?_
      exact a_iret hX hT hF (r_iS (wf := (wM V q)) hf) dX12_history_21
theorem ctX12_history {V : Vx} {q : Nat → Nat} {u : St} {res : Int32 × St} (hE : ZOK (vZ V)) {v1 : Int32} {v2 : Int32} (hf : fX12_history u v1 v2 = some res) : Ct V yX12_history (.code yX12_history cX12_history 8 (some .int)) rmX12_history 0 0 [.ref (q 0), .int v1, .int v2] (wM V q u) (rEq (some (.int res.1)) (wM V q res.2)) :=
  Ct_of (by decide) (Nat.le_of_ble_eq_true rfl) rfl (fun X hX hT _ hF => wX12_history ⟨hX, hT, hF⟩ hE hf)
