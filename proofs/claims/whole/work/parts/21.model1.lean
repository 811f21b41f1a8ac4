def rmX12_feed : Room := { frames := 1, cells := 0, slots := 0, locals := 22 }
def fX12_feed_l31b  (k31 : St → Int32 → Option (Int32 × St)) (u : St) (v1 : Int32) (v2 : Int64) (v4 : Int32) : Option (Int32 × St) := if v1 ≤ v4 then some (gZ u 25, u) else (stI u 24 160 (gZ u 25) (Int64.toInt32 ((v2 >>> (Int32.toInt64 (8 * v4) &&& 63)) &&& 255)) (fun u2 => nmS (setZ u2 25 ((gZ u2 25) + 1)) (fun u3 => k31 u3 (v4 + 1))))
theorem wX12_feed_l31b {X : Cx} {V : Vx} {q : Nat → Nat} {res : Int32 × St} (h : Run X cX12_feed 5 RX12 rmX12_feed V (some .int) (rEq (some (.int res.1)) (wM V q res.2))) (hE : ZOK (vZ V)) {u : St} {v1 : Int32} {v2 : Int64} {v4 : Int32} {k31 : St → Int32 → Option (Int32 × St)} (hk31 : ∀ (u : St) (v4 : Int32), k31 u v4 = some res → At X 5 0 0 (wM V q u) 31 [(0, .ref (q 0)), (1, .int v1), (2, .long v2), (4, .int v4)] []) (hf : fX12_feed_l31b  k31 u v1 v2 v4 = some res) : At X 5 0 0 (wM V q u) 31 [(0, .ref (q 0)), (1, .int v1), (2, .long v2), (4, .int v4)] [] := by
  obtain ⟨hX, hT, hF⟩ := id h
  unfold fX12_feed_l31b at hf
  refine a_iload hX dX12_feed_31 3 rfl rfl ?_
  refine a_iload_n hX dX12_feed_33 rfl 1 rfl rfl ?_
  refine a_icmp_ge (tgt := 74) hX dX12_feed_34 rfl rfl hf (fun hf => ?_) (fun hf => ?_)
  · refine a_aload_n hX dX12_feed_74 rfl 0 rfl rfl ?_
    refine gX12_25 hX F_X12_206 dX12_feed_75 rfl ?_
    exact a_iret hX hT hF (r_iS (wf := (wM V q)) hf) dX12_feed_78
  · refine a_aload_n hX dX12_feed_37 rfl 0 rfl rfl ?_
    refine gX12_24 hX F_X12_70 dX12_feed_38 rfl ?_
    refine a_aload_n hX dX12_feed_41 rfl 0 rfl rfl ?_
    refine gX12_25 hX F_X12_206 dX12_feed_42 rfl ?_
    refine a_lload_n hX dX12_feed_45 rfl 2 rfl rfl ?_
    refine a_bipush (v := 8) hX dX12_feed_46 (by decide) rfl ?_
    refine a_iload hX dX12_feed_48 3 rfl rfl ?_
    refine a_imul hX dX12_feed_50 rfl ?_
    refine a_lshr hX dX12_feed_51 rfl ?_
    refine a_ldc2 hX dX12_feed_52 N_X12_146 rfl ?_
    refine a_land hX dX12_feed_55 rfl ?_
    refine a_l2i hX dX12_feed_56 rfl ?_
    refine sX12_24 hX dX12_feed_57 rfl hf (fun u2 hf => ?_)
    refine a_aload_n hX dX12_feed_58 rfl 0 rfl rfl ?_
    refine a_dup hX dX12_feed_59 rfl rfl ?_
    refine gX12_25 hX F_X12_206 dX12_feed_60 rfl ?_
    refine a_iconst (v := 1) hX dX12_feed_63 (by decide) rfl ?_
    refine a_iadd hX dX12_feed_64 rfl ?_
    refine pX12_25 hX F_X12_206 dX12_feed_65 rfl hf (fun u3 hf => ?_)
    refine a_iinc (v := v4 + 1) (lv' := [(4, .int (v4 + 1)), (0, .ref (q 0)), (1, .int v1), (2, .long v2)]) hX dX12_feed_68 3 rfl rfl (by decide) rfl rfl ?_
    refine a_goto (pc' := 31) hX dX12_feed_71 rfl ?_
    refine a_lv (lv' := [(0, .ref (q 0)), (1, .int v1), (2, .long v2), (4, .int (v4 + 1))]) [1, 2, 3, 0] rfl ?_
    exact hk31 u3 (v4 + 1) hf
def fX12_feed_l31   (v1 : Int32) (v2 : Int64) : Nat → St → Int32 → Option (Int32 × St)
  | 0, _, _ => none
  | m + 1, u, v4 => fX12_feed_l31b  (fX12_feed_l31   v1 v2 m) u v1 v2 v4
theorem wX12_feed_l31 {X : Cx} {V : Vx} {q : Nat → Nat} {res : Int32 × St} (h : Run X cX12_feed 5 RX12 rmX12_feed V (some .int) (rEq (some (.int res.1)) (wM V q res.2))) (hE : ZOK (vZ V)) {v1 : Int32} {v2 : Int64} : ∀ (m : Nat) (u : St) (v4 : Int32), fX12_feed_l31   v1 v2 m u v4 = some res → At X 5 0 0 (wM V q u) 31 [(0, .ref (q 0)), (1, .int v1), (2, .long v2), (4, .int v4)] [] := by
  intro m
  induction m with
  | zero => intro u v4 hf; cases hf
  | succ m ih => intro u v4 hf; exact wX12_feed_l31b h hE ih hf
def fX12_feed (u : St) (v1 : Int32) (v2 : Int64) : Option (Int32 × St) := cl1 (fX12_in v1 1 8) (fun x1 => if x1 = 0 then some ((-2), u) else (if (gZ u 25) + v1 ≤ 160 then fX12_feed_l31 v1 v2 NF u 0 else (some ((-4), u))))
theorem wX12_feed {X : Cx} {V : Vx} {q : Nat → Nat} {res : Int32 × St} (h : Run X cX12_feed 5 RX12 rmX12_feed V (some .int) (rEq (some (.int res.1)) (wM V q res.2))) (hE : ZOK (vZ V)) {u : St} {v1 : Int32} {v2 : Int64} (hf : fX12_feed u v1 v2 = some res) : At X 5 0 0 (wM V q u) 0 [(0, .ref (q 0)), (1, .int v1), (2, .long v2)] [] := by
  obtain ⟨hX, hT, hF⟩ := id h
  unfold fX12_feed at hf
  refine a_iload_n hX dX12_feed_0 rfl 1 rfl rfl ?_
  refine a_iconst (v := 1) hX dX12_feed_1 (by decide) rfl ?_
  refine a_bipush (v := 8) hX dX12_feed_2 (by decide) rfl ?_
  obtain ⟨x1, hg1, hf⟩ := cl1_some hf
  refine a_cSpi (rest := []) hX hE (ctX12_in hE hg1) K_X12_148 ⟨rfl, rfl, by decide, by decide⟩ ⟨Nat.zero_le _, Nat.zero_le _⟩ (Nat.le_of_ble_eq_true rfl) dX12_feed_4 rfl rfl ?_
  refine a_if_ne (tgt := 13) hX dX12_feed_7 rfl rfl hf (fun hf => ?_) (fun hf => ?_)
  · refine a_aload_n hX dX12_feed_13 rfl 0 rfl rfl ?_
    refine gX12_25 hX F_X12_206 dX12_feed_14 rfl ?_
    refine a_iload_n hX dX12_feed_17 rfl 1 rfl rfl ?_
    refine a_iadd hX dX12_feed_18 rfl ?_
    refine a_sipush (v := 160) hX dX12_feed_19 (by decide) rfl ?_
    refine a_icmp_le (tgt := 28) hX dX12_feed_22 rfl rfl hf (fun hf => ?_) (fun hf => ?_)
    · refine a_iconst (v := 0) hX dX12_feed_28 (by decide) rfl ?_
      refine a_istore (lv' := [(4, .int 0), (0, .ref (q 0)), (1, .int v1), (2, .long v2)]) hX dX12_feed_29 (by decide) rfl rfl ?_
      refine a_lv (lv' := [(0, .ref (q 0)), (1, .int v1), (2, .long v2), (4, .int 0)]) [1, 2, 3, 0] rfl ?_
      exact wX12_feed_l31 h hE NF u 0 hf
    · refine a_bipush (v := (-4)) hX dX12_feed_25 (by decide) rfl ?_
      exact a_iret hX hT hF (r_iS (wf := (wM V q)) hf) dX12_feed_27
  · refine a_bipush (v := (-2)) hX dX12_feed_10 (by decide) rfl ?_
    exact a_iret hX hT hF (r_iS (wf := (wM V q)) hf) dX12_feed_12
theorem ctX12_feed {V : Vx} {q : Nat → Nat} {u : St} {res : Int32 × St} (hE : ZOK (vZ V)) {v1 : Int32} {v2 : Int64} (hf : fX12_feed u v1 v2 = some res) : Ct V yX12_feed (.code yX12_feed cX12_feed 5 (some .int)) rmX12_feed 0 0 [.ref (q 0), .int v1, .long v2] (wM V q u) (rEq (some (.int res.1)) (wM V q res.2)) :=
  Ct_of (by decide) (Nat.le_of_ble_eq_true rfl) rfl (fun X hX hT _ hF => wX12_feed ⟨hX, hT, hF⟩ hE hf)
def rmX12_byteAt : Room := { frames := 0, cells := 0, slots := 0, locals := 0 }
def fX12_byteAt (u : St) (v1 : Int32) : Option (Int32) := if gZ u 27 ≤ v1 then some (-1) else (ldI (gA u 21) 960 ((gZ u 26) + v1) (fun x1 => some x1))
theorem wX12_byteAt {X : Cx} {V : Vx} {q : Nat → Nat} {u : St} {res : Int32} (h : Run X cX12_byteAt 2 RX12 rmX12_byteAt V (some .int) (rEq (some (.int res)) (wM V q u))) (hE : ZOK (vZ V)) {v1 : Int32} (hf : fX12_byteAt u v1 = some res) : At X 2 0 0 (wM V q u) 0 [(0, .ref (q 0)), (1, .int v1)] [] := by
  obtain ⟨hX, hT, hF⟩ := id h
  unfold fX12_byteAt at hf
  refine a_iload_n hX dX12_byteAt_0 rfl 1 rfl rfl ?_
  refine a_aload_n hX dX12_byteAt_1 rfl 0 rfl rfl ?_
  refine gX12_27 hX F_X12_209 dX12_byteAt_2 rfl ?_
  refine a_icmp_ge (tgt := 22) hX dX12_byteAt_5 rfl rfl hf (fun hf => ?_) (fun hf => ?_)
  · refine a_iconst (v := (-1)) hX dX12_byteAt_22 (by decide) rfl ?_
    exact a_iret hX hT hF (r_i hf) dX12_byteAt_23
  · refine a_aload_n hX dX12_byteAt_8 rfl 0 rfl rfl ?_
    refine gX12_21 hX F_X12_64 dX12_byteAt_9 rfl ?_
    refine a_aload_n hX dX12_byteAt_12 rfl 0 rfl rfl ?_
    refine gX12_26 hX F_X12_212 dX12_byteAt_13 rfl ?_
    refine a_iload_n hX dX12_byteAt_16 rfl 1 rfl rfl ?_
    refine a_iadd hX dX12_byteAt_17 rfl ?_
    refine lX12_21 hX dX12_byteAt_18 rfl hf (fun x1 hf => ?_)
    refine a_goto (pc' := 23) hX dX12_byteAt_19 rfl ?_
    exact a_iret hX hT hF (r_i hf) dX12_byteAt_23
theorem ctX12_byteAt {V : Vx} {q : Nat → Nat} {u : St} {res : Int32} (hE : ZOK (vZ V)) {v1 : Int32} (hf : fX12_byteAt u v1 = some res) : Ct V yX12_byteAt (.code yX12_byteAt cX12_byteAt 2 (some .int)) rmX12_byteAt 0 0 [.ref (q 0), .int v1] (wM V q u) (rEq (some (.int res)) (wM V q u)) :=
  Ct_of (by decide) (Nat.le_of_ble_eq_true rfl) rfl (fun X hX hT _ hF => wX12_byteAt ⟨hX, hT, hF⟩ hE hf)
def rmX12_next : Room := { frames := 1, cells := 0, slots := 0, locals := 22 }
def fX12_next_b26  (k0 : St → Option (St)) (u : St) : Option (St) := nmS (setZ u 31 ((gZ u 31) + 1)) (fun u14 => k0 u14)
theorem wX12_next_b26 {X : Cx} {V : Vx} {q : Nat → Nat} {res : St} (h : Run X cX12_next 3 RX12 rmX12_next V none (rEq none (wM V q res))) (hE : ZOK (vZ V)) {u : St} {k0 : St → Option (St)} (hk0 : ∀ (u : St), k0 u = some res → At X 3 0 0 (wM V q u) 0 [(0, .ref (q 0))] []) (hf : fX12_next_b26  k0 u = some res) : At X 3 0 0 (wM V q u) 26 [(0, .ref (q 0))] [] := by
  obtain ⟨hX, hT, hF⟩ := id h
  unfold fX12_next_b26 at hf
  refine a_aload_n hX dX12_next_26 rfl 0 rfl rfl ?_
  refine a_dup hX dX12_next_27 rfl rfl ?_
  refine gX12_31 hX F_X12_215 dX12_next_28 rfl ?_
  refine a_iconst (v := 1) hX dX12_next_31 (by decide) rfl ?_
  refine a_iadd hX dX12_next_32 rfl ?_
  refine pX12_31 hX F_X12_215 dX12_next_33 rfl hf (fun u14 hf => ?_)
  refine a_goto (pc' := 0) hX dX12_next_36 rfl ?_
  exact hk0 u14 hf
def fX12_next_b157  (k104 : St → Int32 → Option (St)) (u : St) (v2 : Int32) (s0 : Int64) : Option (St) := nmS (setY u 30 s0) (fun u18 => nmS (setZ u18 31 ((gZ u18 31) + 1)) (fun u19 => k104 u19 (v2 + 1)))
theorem wX12_next_b157 {X : Cx} {V : Vx} {q : Nat → Nat} {res : St} (h : Run X cX12_next 3 RX12 rmX12_next V none (rEq none (wM V q res))) (hE : ZOK (vZ V)) {u : St} {v2 : Int32} {s0 : Int64} {k104 : St → Int32 → Option (St)} (hk104 : ∀ (u : St) (v2 : Int32), k104 u v2 = some res → At X 3 0 0 (wM V q u) 104 [(0, .ref (q 0)), (2, .int v2)] []) (hf : fX12_next_b157  k104 u v2 s0 = some res) : At X 3 0 0 (wM V q u) 157 [(0, .ref (q 0)), (2, .int v2)] [.long s0, .ref (q 0)] := by
  obtain ⟨hX, hT, hF⟩ := id h
  unfold fX12_next_b157 at hf
  refine pX12_30 hX F_X12_227 dX12_next_157 rfl hf (fun u18 hf => ?_)
  refine a_iinc (v := v2 + 1) (lv' := [(2, .int (v2 + 1)), (0, .ref (q 0))]) hX dX12_next_160 1 rfl rfl (by decide) rfl rfl ?_
  refine a_aload_n hX dX12_next_163 rfl 1 rfl rfl ?_
  refine a_dup hX dX12_next_164 rfl rfl ?_
  refine gX12_31 hX F_X12_215 dX12_next_165 rfl ?_
  refine a_iconst (v := 1) hX dX12_next_168 (by decide) rfl ?_
  refine a_iadd hX dX12_next_169 rfl ?_
  refine pX12_31 hX F_X12_215 dX12_next_170 rfl hf (fun u19 hf => ?_)
  refine a_goto (pc' := 104) hX dX12_next_173 rfl ?_
  refine a_lv (lv' := [(0, .ref (q 0)), (2, .int (v2 + 1))]) [1, 0] rfl ?_
  exact hk104 u19 (v2 + 1) hf
def fX12_next_l104b  (k104 : St → Int32 → Option (St)) (u : St) (v2 : Int32) : Option (St) := cl1 (fX12_byteAt u (gZ u 31)) (fun x15 => cl1 (fX12_in x15 97 122) (fun x16 => if x16 = 0 then some u else (if 8 ≤ v2 then fX12_next_b157 k104 u v2 (-1) else (cl1 (fX12_byteAt u (gZ u 31)) (fun x17 => fX12_next_b157 k104 u v2 (((27 * (gY u 30)) + (Int32.toInt64 x17)) - 96))))))
theorem wX12_next_l104b {X : Cx} {V : Vx} {q : Nat → Nat} {res : St} (h : Run X cX12_next 3 RX12 rmX12_next V none (rEq none (wM V q res))) (hE : ZOK (vZ V)) {u : St} {v2 : Int32} {k104 : St → Int32 → Option (St)} (hk104 : ∀ (u : St) (v2 : Int32), k104 u v2 = some res → At X 3 0 0 (wM V q u) 104 [(0, .ref (q 0)), (2, .int v2)] []) (hf : fX12_next_l104b  k104 u v2 = some res) : At X 3 0 0 (wM V q u) 104 [(0, .ref (q 0)), (2, .int v2)] [] := by
  obtain ⟨hX, hT, hF⟩ := id h
  unfold fX12_next_l104b at hf
  refine a_aload_n hX dX12_next_104 rfl 0 rfl rfl ?_
  refine a_aload_n hX dX12_next_105 rfl 0 rfl rfl ?_
  refine gX12_31 hX F_X12_215 dX12_next_106 rfl ?_
  obtain ⟨x15, hg15, hf⟩ := cl1_some hf
  refine a_cVsi (q0 := 0) (rest := []) hX hE (ctX12_byteAt (q := q) hE hg15) K_X12_218 ⟨rfl, rfl⟩ ⟨rfl, rfl, by decide, by decide⟩ ⟨Nat.zero_le _, Nat.zero_le _⟩ (Nat.le_of_ble_eq_true rfl) dX12_next_109 rfl rfl ?_
  refine a_bipush (v := 97) hX dX12_next_112 (by decide) rfl ?_
  refine a_bipush (v := 122) hX dX12_next_114 (by decide) rfl ?_
  obtain ⟨x16, hg16, hf⟩ := cl1_some hf
  refine a_cSpi (rest := []) hX hE (ctX12_in hE hg16) K_X12_148 ⟨rfl, rfl, by decide, by decide⟩ ⟨Nat.zero_le _, Nat.zero_le _⟩ (Nat.le_of_ble_eq_true rfl) dX12_next_116 rfl rfl ?_
  refine a_if_eq (tgt := 176) hX dX12_next_119 rfl rfl hf (fun hf => ?_) (fun hf => ?_)
  · refine a_goto (pc' := 360) hX dX12_next_176 rfl ?_
    exact a_ret hX hT hF (r_vS (wf := (wM V q)) hf) dX12_next_360
  · refine a_aload_n hX dX12_next_122 rfl 0 rfl rfl ?_
    refine a_iload_n hX dX12_next_123 rfl 1 rfl rfl ?_
    refine a_bipush (v := 8) hX dX12_next_124 (by decide) rfl ?_
    refine a_icmp_ge (tgt := 154) hX dX12_next_126 rfl rfl hf (fun hf => ?_) (fun hf => ?_)
    · refine a_ldc2 hX dX12_next_154 N_X12_235 rfl ?_
      exact wX12_next_b157 h hE hk104 hf
    · refine a_ldc2 hX dX12_next_129 N_X12_231 rfl ?_
      refine a_aload_n hX dX12_next_132 rfl 0 rfl rfl ?_
      refine gX12_30 hX F_X12_227 dX12_next_133 rfl ?_
      refine a_lmul hX dX12_next_136 rfl ?_
      refine a_aload_n hX dX12_next_137 rfl 0 rfl rfl ?_
      refine a_aload_n hX dX12_next_138 rfl 0 rfl rfl ?_
      refine gX12_31 hX F_X12_215 dX12_next_139 rfl ?_
      obtain ⟨x17, hg17, hf⟩ := cl1_some hf
      refine a_cVsi (q0 := 0) (rest := [.long (27 * (gY u 30)), .ref (q 0)]) hX hE (ctX12_byteAt (q := q) hE hg17) K_X12_218 ⟨rfl, rfl⟩ ⟨rfl, rfl, by decide, by decide⟩ ⟨Nat.zero_le _, Nat.zero_le _⟩ (Nat.le_of_ble_eq_true rfl) dX12_next_142 rfl rfl ?_
      refine a_i2l hX dX12_next_145 rfl ?_
      refine a_ladd hX dX12_next_146 rfl ?_
      refine a_ldc2 hX dX12_next_147 N_X12_233 rfl ?_
      refine a_lsub hX dX12_next_150 rfl ?_
      refine a_goto (pc' := 157) hX dX12_next_151 rfl ?_
      exact wX12_next_b157 h hE hk104 hf
def fX12_next_l104    : Nat → St → Int32 → Option (St)
  | 0, _, _ => none
  | m + 1, u, v2 => fX12_next_l104b  (fX12_next_l104    m) u v2
theorem wX12_next_l104 {X : Cx} {V : Vx} {q : Nat → Nat} {res : St} (h : Run X cX12_next 3 RX12 rmX12_next V none (rEq none (wM V q res))) (hE : ZOK (vZ V))  : ∀ (m : Nat) (u : St) (v2 : Int32), fX12_next_l104    m u v2 = some res → At X 3 0 0 (wM V q u) 104 [(0, .ref (q 0)), (2, .int v2)] [] := by
  intro m
  induction m with
  | zero => intro u v2 hf; cases hf
  | succ m ih => intro u v2 hf; exact wX12_next_l104b h hE ih hf
def fX12_next_b255  (k202 : St → Int32 → Option (St)) (u : St) (v2 : Int32) (s0 : Int64) : Option (St) := nmS (setY u 30 s0) (fun u23 => nmS (setZ u23 31 ((gZ u23 31) + 1)) (fun u24 => k202 u24 (v2 + 1)))
theorem wX12_next_b255 {X : Cx} {V : Vx} {q : Nat → Nat} {res : St} (h : Run X cX12_next 3 RX12 rmX12_next V none (rEq none (wM V q res))) (hE : ZOK (vZ V)) {u : St} {v2 : Int32} {s0 : Int64} {k202 : St → Int32 → Option (St)} (hk202 : ∀ (u : St) (v2 : Int32), k202 u v2 = some res → At X 3 0 0 (wM V q u) 202 [(0, .ref (q 0)), (2, .int v2)] []) (hf : fX12_next_b255  k202 u v2 s0 = some res) : At X 3 0 0 (wM V q u) 255 [(0, .ref (q 0)), (2, .int v2)] [.long s0, .ref (q 0)] := by
  obtain ⟨hX, hT, hF⟩ := id h
  unfold fX12_next_b255 at hf
  refine pX12_30 hX F_X12_227 dX12_next_255 rfl hf (fun u23 hf => ?_)
  refine a_iinc (v := v2 + 1) (lv' := [(2, .int (v2 + 1)), (0, .ref (q 0))]) hX dX12_next_258 1 rfl rfl (by decide) rfl rfl ?_
  refine a_aload_n hX dX12_next_261 rfl 1 rfl rfl ?_
  refine a_dup hX dX12_next_262 rfl rfl ?_
  refine gX12_31 hX F_X12_215 dX12_next_263 rfl ?_
  refine a_iconst (v := 1) hX dX12_next_266 (by decide) rfl ?_
  refine a_iadd hX dX12_next_267 rfl ?_
  refine pX12_31 hX F_X12_215 dX12_next_268 rfl hf (fun u24 hf => ?_)
  refine a_goto (pc' := 202) hX dX12_next_271 rfl ?_
  refine a_lv (lv' := [(0, .ref (q 0)), (2, .int (v2 + 1))]) [1, 0] rfl ?_
  exact hk202 u24 (v2 + 1) hf
def fX12_next_b285   (u : St) (s0 : Int32) : Option (St) := nmS (setZ u 28 s0) (fun u25 => some u25)
theorem wX12_next_b285 {X : Cx} {V : Vx} {q : Nat → Nat} {res : St} (h : Run X cX12_next 3 RX12 rmX12_next V none (rEq none (wM V q res))) (hE : ZOK (vZ V)) {u : St} {s0 : Int32} (hf : fX12_next_b285   u s0 = some res) : At X 3 0 0 (wM V q u) 285 [] [.int s0, .ref (q 0)] := by
  obtain ⟨hX, hT, hF⟩ := id h
  unfold fX12_next_b285 at hf
  refine pX12_28 hX F_X12_224 dX12_next_285 rfl hf (fun u25 hf => ?_)
  refine a_goto (pc' := 360) hX dX12_next_288 rfl ?_
  exact a_ret hX hT hF (r_vS (wf := (wM V q)) hf) dX12_next_360
def fX12_next_l202b  (k202 : St → Int32 → Option (St)) (u : St) (v2 : Int32) : Option (St) := cl1 (fX12_byteAt u (gZ u 31)) (fun x20 => cl1 (fX12_in x20 48 57) (fun x21 => if x21 = 0 then if v2 ≤ 4 then fX12_next_b285 u 2 else (fX12_next_b285 u 4) else (if 4 ≤ v2 then fX12_next_b255 k202 u v2 (gY u 30) else (cl1 (fX12_byteAt u (gZ u 31)) (fun x22 => fX12_next_b255 k202 u v2 (((10 * (gY u 30)) + (Int32.toInt64 x22)) - 48))))))
theorem wX12_next_l202b {X : Cx} {V : Vx} {q : Nat → Nat} {res : St} (h : Run X cX12_next 3 RX12 rmX12_next V none (rEq none (wM V q res))) (hE : ZOK (vZ V)) {u : St} {v2 : Int32} {k202 : St → Int32 → Option (St)} (hk202 : ∀ (u : St) (v2 : Int32), k202 u v2 = some res → At X 3 0 0 (wM V q u) 202 [(0, .ref (q 0)), (2, .int v2)] []) (hf : fX12_next_l202b  k202 u v2 = some res) : At X 3 0 0 (wM V q u) 202 [(0, .ref (q 0)), (2, .int v2)] [] := by
  obtain ⟨hX, hT, hF⟩ := id h
  unfold fX12_next_l202b at hf
  refine a_aload_n hX dX12_next_202 rfl 0 rfl rfl ?_
  refine a_aload_n hX dX12_next_203 rfl 0 rfl rfl ?_
  refine gX12_31 hX F_X12_215 dX12_next_204 rfl ?_
  obtain ⟨x20, hg20, hf⟩ := cl1_some hf
  refine a_cVsi (q0 := 0) (rest := []) hX hE (ctX12_byteAt (q := q) hE hg20) K_X12_218 ⟨rfl, rfl⟩ ⟨rfl, rfl, by decide, by decide⟩ ⟨Nat.zero_le _, Nat.zero_le _⟩ (Nat.le_of_ble_eq_true rfl) dX12_next_207 rfl rfl ?_
  refine a_bipush (v := 48) hX dX12_next_210 (by decide) rfl ?_
  refine a_bipush (v := 57) hX dX12_next_212 (by decide) rfl ?_
  obtain ⟨x21, hg21, hf⟩ := cl1_some hf
  refine a_cSpi (rest := []) hX hE (ctX12_in hE hg21) K_X12_148 ⟨rfl, rfl, by decide, by decide⟩ ⟨Nat.zero_le _, Nat.zero_le _⟩ (Nat.le_of_ble_eq_true rfl) dX12_next_214 rfl rfl ?_
  refine a_if_eq (tgt := 274) hX dX12_next_217 rfl rfl hf (fun hf => ?_) (fun hf => ?_)
  · refine a_aload_n hX dX12_next_274 rfl 0 rfl rfl ?_
    refine a_iload_n hX dX12_next_275 rfl 1 rfl rfl ?_
    refine a_iconst (v := 4) hX dX12_next_276 (by decide) rfl ?_
    refine a_icmp_le (tgt := 284) hX dX12_next_277 rfl rfl hf (fun hf => ?_) (fun hf => ?_)
    · refine a_iconst (v := 2) hX dX12_next_284 (by decide) rfl ?_
      refine a_lv (lv' := []) [] rfl ?_
      exact wX12_next_b285 h hE hf
    · refine a_iconst (v := 4) hX dX12_next_280 (by decide) rfl ?_
      refine a_goto (pc' := 285) hX dX12_next_281 rfl ?_
      refine a_lv (lv' := []) [] rfl ?_
      exact wX12_next_b285 h hE hf
  · refine a_aload_n hX dX12_next_220 rfl 0 rfl rfl ?_
    refine a_iload_n hX dX12_next_221 rfl 1 rfl rfl ?_
    refine a_iconst (v := 4) hX dX12_next_222 (by decide) rfl ?_
    refine a_icmp_ge (tgt := 251) hX dX12_next_223 rfl rfl hf (fun hf => ?_) (fun hf => ?_)
    · refine a_aload_n hX dX12_next_251 rfl 0 rfl rfl ?_
      refine gX12_30 hX F_X12_227 dX12_next_252 rfl ?_
      exact wX12_next_b255 h hE hk202 hf
    · refine a_ldc2 hX dX12_next_226 N_X12_237 rfl ?_
      refine a_aload_n hX dX12_next_229 rfl 0 rfl rfl ?_
      refine gX12_30 hX F_X12_227 dX12_next_230 rfl ?_
      refine a_lmul hX dX12_next_233 rfl ?_
      refine a_aload_n hX dX12_next_234 rfl 0 rfl rfl ?_
      refine a_aload_n hX dX12_next_235 rfl 0 rfl rfl ?_
      refine gX12_31 hX F_X12_215 dX12_next_236 rfl ?_
      obtain ⟨x22, hg22, hf⟩ := cl1_some hf
      refine a_cVsi (q0 := 0) (rest := [.long (10 * (gY u 30)), .ref (q 0)]) hX hE (ctX12_byteAt (q := q) hE hg22) K_X12_218 ⟨rfl, rfl⟩ ⟨rfl, rfl, by decide, by decide⟩ ⟨Nat.zero_le _, Nat.zero_le _⟩ (Nat.le_of_ble_eq_true rfl) dX12_next_239 rfl rfl ?_
      refine a_i2l hX dX12_next_242 rfl ?_
      refine a_ladd hX dX12_next_243 rfl ?_
      refine a_ldc2 hX dX12_next_244 N_X12_239 rfl ?_
      refine a_lsub hX dX12_next_247 rfl ?_
      refine a_goto (pc' := 255) hX dX12_next_248 rfl ?_
      exact wX12_next_b255 h hE hk202 hf
def fX12_next_l202    : Nat → St → Int32 → Option (St)
  | 0, _, _ => none
  | m + 1, u, v2 => fX12_next_l202b  (fX12_next_l202    m) u v2
theorem wX12_next_l202 {X : Cx} {V : Vx} {q : Nat → Nat} {res : St} (h : Run X cX12_next 3 RX12 rmX12_next V none (rEq none (wM V q res))) (hE : ZOK (vZ V))  : ∀ (m : Nat) (u : St) (v2 : Int32), fX12_next_l202    m u v2 = some res → At X 3 0 0 (wM V q u) 202 [(0, .ref (q 0)), (2, .int v2)] [] := by
  intro m
  induction m with
  | zero => intro u v2 hf; cases hf
  | succ m ih => intro u v2 hf; exact wX12_next_l202b h hE ih hf
def fX12_next_b339   (u : St) (v1 : Int32) : Option (St) := nmS (setZ u 28 3) (fun u26 => nmS (setY u26 30 (Int32.toInt64 v1)) (fun u27 => nmS (setZ u27 31 ((gZ u27 31) + 1)) (fun u28 => some u28)))
theorem wX12_next_b339 {X : Cx} {V : Vx} {q : Nat → Nat} {res : St} (h : Run X cX12_next 3 RX12 rmX12_next V none (rEq none (wM V q res))) (hE : ZOK (vZ V)) {u : St} {v1 : Int32} (hf : fX12_next_b339   u v1 = some res) : At X 3 0 0 (wM V q u) 339 [(0, .ref (q 0)), (1, .int v1)] [] := by
  obtain ⟨hX, hT, hF⟩ := id h
  unfold fX12_next_b339 at hf
  refine a_aload_n hX dX12_next_339 rfl 0 rfl rfl ?_
  refine a_iconst (v := 3) hX dX12_next_340 (by decide) rfl ?_
  refine pX12_28 hX F_X12_224 dX12_next_341 rfl hf (fun u26 hf => ?_)
  refine a_aload_n hX dX12_next_344 rfl 0 rfl rfl ?_
  refine a_iload_n hX dX12_next_345 rfl 1 rfl rfl ?_
  refine a_i2l hX dX12_next_346 rfl ?_
  refine pX12_30 hX F_X12_227 dX12_next_347 rfl hf (fun u27 hf => ?_)
  refine a_aload_n hX dX12_next_350 rfl 0 rfl rfl ?_
  refine a_dup hX dX12_next_351 rfl rfl ?_
  refine gX12_31 hX F_X12_215 dX12_next_352 rfl ?_
  refine a_iconst (v := 1) hX dX12_next_355 (by decide) rfl ?_
  refine a_iadd hX dX12_next_356 rfl ?_
  refine pX12_31 hX F_X12_215 dX12_next_357 rfl hf (fun u28 hf => ?_)
  exact a_ret hX hT hF (r_vS (wf := (wM V q)) hf) dX12_next_360
def fX12_next_l0b  (k0 : St → Option (St)) (u : St) : Option (St) := cl1 (fX12_byteAt u (gZ u 31)) (fun x1 => if x1 = 32 then fX12_next_b26 k0 u else (cl1 (fX12_byteAt u (gZ u 31)) (fun x2 => if x2 = 10 then fX12_next_b26 k0 u else (nmS (setZ u 29 (gZ u 31)) (fun u3 => cl1 (fX12_byteAt u3 (gZ u3 31)) (fun x4 => nmS (setZ u3 28 4) (fun u5 => if 0 ≤ x4 then cl1 (fX12_in x4 97 122) (fun x6 => if x6 = 0 then cl1 (fX12_in x4 48 57) (fun x7 => if x7 = 0 then if x4 = 40 then fX12_next_b339 u5 x4 else (if x4 = 41 then fX12_next_b339 u5 x4 else (if x4 = 59 then fX12_next_b339 u5 x4 else (if x4 = 43 then fX12_next_b339 u5 x4 else (if x4 = 45 then fX12_next_b339 u5 x4 else (if x4 = 42 then fX12_next_b339 u5 x4 else (if x4 = 60 then fX12_next_b339 u5 x4 else (if x4 = 61 then fX12_next_b339 u5 x4 else (some u5)))))))) else (nmS (setZ u5 28 2) (fun u8 => nmS (setY u8 30 0) (fun u9 => fX12_next_l202 NF u9 0)))) else (nmS (setZ u5 28 1) (fun u10 => nmS (setY u10 30 0) (fun u11 => fX12_next_l104 NF u11 0)))) else (nmS (setZ u5 28 0) (fun u12 => nmS (setZ u12 29 (gZ u12 27)) (fun u13 => some u13))))))))))
theorem wX12_next_l0b {X : Cx} {V : Vx} {q : Nat → Nat} {res : St} (h : Run X cX12_next 3 RX12 rmX12_next V none (rEq none (wM V q res))) (hE : ZOK (vZ V)) {u : St} {k0 : St → Option (St)} (hk0 : ∀ (u : St), k0 u = some res → At X 3 0 0 (wM V q u) 0 [(0, .ref (q 0))] []) (hf : fX12_next_l0b  k0 u = some res) : At X 3 0 0 (wM V q u) 0 [(0, .ref (q 0))] [] := by
  obtain ⟨hX, hT, hF⟩ := id h
  unfold fX12_next_l0b at hf
  refine a_aload_n hX dX12_next_0 rfl 0 rfl rfl ?_
  refine a_aload_n hX dX12_next_1 rfl 0 rfl rfl ?_
  refine gX12_31 hX F_X12_215 dX12_next_2 rfl ?_
  obtain ⟨x1, hg1, hf⟩ := cl1_some hf
  refine a_cVsi (q0 := 0) (rest := []) hX hE (ctX12_byteAt (q := q) hE hg1) K_X12_218 ⟨rfl, rfl⟩ ⟨rfl, rfl, by decide, by decide⟩ ⟨Nat.zero_le _, Nat.zero_le _⟩ (Nat.le_of_ble_eq_true rfl) dX12_next_5 rfl rfl ?_
  refine a_bipush (v := 32) hX dX12_next_8 (by decide) rfl ?_
  refine a_icmp_eq (tgt := 26) hX dX12_next_10 rfl rfl hf (fun hf => ?_) (fun hf => ?_)
  · exact wX12_next_b26 h hE hk0 hf
  · refine a_aload_n hX dX12_next_13 rfl 0 rfl rfl ?_
    refine a_aload_n hX dX12_next_14 rfl 0 rfl rfl ?_
    refine gX12_31 hX F_X12_215 dX12_next_15 rfl ?_
    obtain ⟨x2, hg2, hf⟩ := cl1_some hf
    refine a_cVsi (q0 := 0) (rest := []) hX hE (ctX12_byteAt (q := q) hE hg2) K_X12_218 ⟨rfl, rfl⟩ ⟨rfl, rfl, by decide, by decide⟩ ⟨Nat.zero_le _, Nat.zero_le _⟩ (Nat.le_of_ble_eq_true rfl) dX12_next_18 rfl rfl ?_
    refine a_bipush (v := 10) hX dX12_next_21 (by decide) rfl ?_
    refine a_icmp_ne (tgt := 39) hX dX12_next_23 rfl rfl hf (fun hf => ?_) (fun hf => ?_)
    · refine a_aload_n hX dX12_next_39 rfl 0 rfl rfl ?_
      refine a_aload_n hX dX12_next_40 rfl 0 rfl rfl ?_
      refine gX12_31 hX F_X12_215 dX12_next_41 rfl ?_
      refine pX12_29 hX F_X12_221 dX12_next_44 rfl hf (fun u3 hf => ?_)
      refine a_aload_n hX dX12_next_47 rfl 0 rfl rfl ?_
      refine a_aload_n hX dX12_next_48 rfl 0 rfl rfl ?_
      refine gX12_31 hX F_X12_215 dX12_next_49 rfl ?_
      obtain ⟨x4, hg4, hf⟩ := cl1_some hf
      refine a_cVsi (q0 := 0) (rest := []) hX hE (ctX12_byteAt (q := q) hE hg4) K_X12_218 ⟨rfl, rfl⟩ ⟨rfl, rfl, by decide, by decide⟩ ⟨Nat.zero_le _, Nat.zero_le _⟩ (Nat.le_of_ble_eq_true rfl) dX12_next_52 rfl rfl ?_
      refine a_istore_n (lv' := [(1, .int x4), (0, .ref (q 0))]) hX dX12_next_55 rfl (by decide) rfl rfl ?_
      refine a_aload_n hX dX12_next_56 rfl 1 rfl rfl ?_
      refine a_iconst (v := 4) hX dX12_next_57 (by decide) rfl ?_
      refine pX12_28 hX F_X12_224 dX12_next_58 rfl hf (fun u5 hf => ?_)
      refine a_iload_n hX dX12_next_61 rfl 0 rfl rfl ?_
      refine a_if_ge (tgt := 81) hX dX12_next_62 rfl rfl hf (fun hf => ?_) (fun hf => ?_)
      · refine a_iload_n hX dX12_next_81 rfl 0 rfl rfl ?_
        refine a_bipush (v := 97) hX dX12_next_82 (by decide) rfl ?_
        refine a_bipush (v := 122) hX dX12_next_84 (by decide) rfl ?_
        obtain ⟨x6, hg6, hf⟩ := cl1_some hf
        refine a_cSpi (rest := []) hX hE (ctX12_in hE hg6) K_X12_148 ⟨rfl, rfl, by decide, by decide⟩ ⟨Nat.zero_le _, Nat.zero_le _⟩ (Nat.le_of_ble_eq_true rfl) dX12_next_86 rfl rfl ?_
        refine a_if_eq (tgt := 179) hX dX12_next_89 rfl rfl hf (fun hf => ?_) (fun hf => ?_)
        · refine a_iload_n hX dX12_next_179 rfl 0 rfl rfl ?_
          refine a_bipush (v := 48) hX dX12_next_180 (by decide) rfl ?_
          refine a_bipush (v := 57) hX dX12_next_182 (by decide) rfl ?_
          obtain ⟨x7, hg7, hf⟩ := cl1_some hf
          refine a_cSpi (rest := []) hX hE (ctX12_in hE hg7) K_X12_148 ⟨rfl, rfl, by decide, by decide⟩ ⟨Nat.zero_le _, Nat.zero_le _⟩ (Nat.le_of_ble_eq_true rfl) dX12_next_184 rfl rfl ?_
          refine a_if_eq (tgt := 291) hX dX12_next_187 rfl rfl hf (fun hf => ?_) (fun hf => ?_)
          · refine a_iload_n hX dX12_next_291 rfl 0 rfl rfl ?_
            refine a_bipush (v := 40) hX dX12_next_292 (by decide) rfl ?_
            refine a_icmp_eq (tgt := 339) hX dX12_next_294 rfl rfl hf (fun hf => ?_) (fun hf => ?_)
            · refine a_lv (lv' := [(0, .ref (q 0)), (1, .int x4)]) [1, 0] rfl ?_
              exact wX12_next_b339 h hE hf
            · refine a_iload_n hX dX12_next_297 rfl 0 rfl rfl ?_
              refine a_bipush (v := 41) hX dX12_next_298 (by decide) rfl ?_
              refine a_icmp_eq (tgt := 339) hX dX12_next_300 rfl rfl hf (fun hf => ?_) (fun hf => ?_)
              · refine a_lv (lv' := [(0, .ref (q 0)), (1, .int x4)]) [1, 0] rfl ?_
                exact wX12_next_b339 h hE hf
              · refine a_iload_n hX dX12_next_303 rfl 0 rfl rfl ?_
                refine a_bipush (v := 59) hX dX12_next_304 (by decide) rfl ?_
                refine a_icmp_eq (tgt := 339) hX dX12_next_306 rfl rfl hf (fun hf => ?_) (fun hf => ?_)
                · refine a_lv (lv' := [(0, .ref (q 0)), (1, .int x4)]) [1, 0] rfl ?_
                  exact wX12_next_b339 h hE hf
                · refine a_iload_n hX dX12_next_309 rfl 0 rfl rfl ?_
                  refine a_bipush (v := 43) hX dX12_next_310 (by decide) rfl ?_
                  refine a_icmp_eq (tgt := 339) hX dX12_next_312 rfl rfl hf (fun hf => ?_) (fun hf => ?_)
                  · refine a_lv (lv' := [(0, .ref (q 0)), (1, .int x4)]) [1, 0] rfl ?_
                    exact wX12_next_b339 h hE hf
                  · refine a_iload_n hX dX12_next_315 rfl 0 rfl rfl ?_
                    refine a_bipush (v := 45) hX dX12_next_316 (by decide) rfl ?_
                    refine a_icmp_eq (tgt := 339) hX dX12_next_318 rfl rfl hf (fun hf => ?_) (fun hf => ?_)
                    · refine a_lv (lv' := [(0, .ref (q 0)), (1, .int x4)]) [1, 0] rfl ?_
                      exact wX12_next_b339 h hE hf
                    · refine a_iload_n hX dX12_next_321 rfl 0 rfl rfl ?_
                      refine a_bipush (v := 42) hX dX12_next_322 (by decide) rfl ?_
                      refine a_icmp_eq (tgt := 339) hX dX12_next_324 rfl rfl hf (fun hf => ?_) (fun hf => ?_)
                      · refine a_lv (lv' := [(0, .ref (q 0)), (1, .int x4)]) [1, 0] rfl ?_
                        exact wX12_next_b339 h hE hf
                      · refine a_iload_n hX dX12_next_327 rfl 0 rfl rfl ?_
                        refine a_bipush (v := 60) hX dX12_next_328 (by decide) rfl ?_
                        refine a_icmp_eq (tgt := 339) hX dX12_next_330 rfl rfl hf (fun hf => ?_) (fun hf => ?_)
                        · refine a_lv (lv' := [(0, .ref (q 0)), (1, .int x4)]) [1, 0] rfl ?_
                          exact wX12_next_b339 h hE hf
                        · refine a_iload_n hX dX12_next_333 rfl 0 rfl rfl ?_
                          refine a_bipush (v := 61) hX dX12_next_334 (by decide) rfl ?_
                          refine a_icmp_ne (tgt := 360) hX dX12_next_336 rfl rfl hf (fun hf => ?_) (fun hf => ?_)
                          · exact a_ret hX hT hF (r_vS (wf := (wM V q)) hf) dX12_next_360
                          · refine a_lv (lv' := [(0, .ref (q 0)), (1, .int x4)]) [1, 0] rfl ?_
                            exact wX12_next_b339 h hE hf
          · refine a_aload_n hX dX12_next_190 rfl 1 rfl rfl ?_
            refine a_iconst (v := 2) hX dX12_next_191 (by decide) rfl ?_
            refine pX12_28 hX F_X12_224 dX12_next_192 rfl hf (fun u8 hf => ?_)
            refine a_aload_n hX dX12_next_195 rfl 1 rfl rfl ?_
            refine a_lconst (v := 0) hX dX12_next_196 (by decide) rfl ?_
            refine pX12_30 hX F_X12_227 dX12_next_197 rfl hf (fun u9 hf => ?_)
            refine a_iconst (v := 0) hX dX12_next_200 (by decide) rfl ?_
            refine a_istore_n (lv' := [(2, .int 0), (1, .int x4), (0, .ref (q 0))]) hX dX12_next_201 rfl (by decide) rfl rfl ?_
            refine a_lv (lv' := [(0, .ref (q 0)), (2, .int 0)]) [2, 0] rfl ?_
            exact wX12_next_l202 h hE NF u9 0 hf
        · refine a_aload_n hX dX12_next_92 rfl 1 rfl rfl ?_
          refine a_iconst (v := 1) hX dX12_next_93 (by decide) rfl ?_
          refine pX12_28 hX F_X12_224 dX12_next_94 rfl hf (fun u10 hf => ?_)
          refine a_aload_n hX dX12_next_97 rfl 1 rfl rfl ?_
          refine a_lconst (v := 0) hX dX12_next_98 (by decide) rfl ?_
          refine pX12_30 hX F_X12_227 dX12_next_99 rfl hf (fun u11 hf => ?_)
          refine a_iconst (v := 0) hX dX12_next_102 (by decide) rfl ?_
          refine a_istore_n (lv' := [(2, .int 0), (1, .int x4), (0, .ref (q 0))]) hX dX12_next_103 rfl (by decide) rfl rfl ?_
          refine a_lv (lv' := [(0, .ref (q 0)), (2, .int 0)]) [2, 0] rfl ?_
          exact wX12_next_l104 h hE NF u11 0 hf
      · refine a_aload_n hX dX12_next_65 rfl 1 rfl rfl ?_
        refine a_iconst (v := 0) hX dX12_next_66 (by decide) rfl ?_
        refine pX12_28 hX F_X12_224 dX12_next_67 rfl hf (fun u12 hf => ?_)
        refine a_aload_n hX dX12_next_70 rfl 1 rfl rfl ?_
        refine a_aload_n hX dX12_next_71 rfl 1 rfl rfl ?_
        refine gX12_27 hX F_X12_209 dX12_next_72 rfl ?_
        refine pX12_29 hX F_X12_221 dX12_next_75 rfl hf (fun u13 hf => ?_)
        refine a_goto (pc' := 360) hX dX12_next_78 rfl ?_
        exact a_ret hX hT hF (r_vS (wf := (wM V q)) hf) dX12_next_360
    · exact wX12_next_b26 h hE hk0 hf
def fX12_next_l0    : Nat → St → Option (St)
  | 0, _ => none
  | m + 1, u => fX12_next_l0b  (fX12_next_l0    m) u
theorem wX12_next_l0 {X : Cx} {V : Vx} {q : Nat → Nat} {res : St} (h : Run X cX12_next 3 RX12 rmX12_next V none (rEq none (wM V q res))) (hE : ZOK (vZ V))  : ∀ (m : Nat) (u : St), fX12_next_l0    m u = some res → At X 3 0 0 (wM V q u) 0 [(0, .ref (q 0))] [] := by
  intro m
  induction m with
  | zero => intro u hf; cases hf
  | succ m ih => intro u hf; exact wX12_next_l0b h hE ih hf
def fX12_next (u : St) : Option (St) := fX12_next_l0 NF u
theorem wX12_next {X : Cx} {V : Vx} {q : Nat → Nat} {res : St} (h : Run X cX12_next 3 RX12 rmX12_next V none (rEq none (wM V q res))) (hE : ZOK (vZ V)) {u : St} (hf : fX12_next u = some res) : At X 3 0 0 (wM V q u) 0 [(0, .ref (q 0))] [] := by
  obtain ⟨hX, hT, hF⟩ := id h
  unfold fX12_next at hf
  exact wX12_next_l0 h hE NF u hf
theorem ctX12_next {V : Vx} {q : Nat → Nat} {u : St} {res : St} (hE : ZOK (vZ V))  (hf : fX12_next u = some res) : Ct V yX12_next (.code yX12_next cX12_next 3 none) rmX12_next 0 0 [.ref (q 0)] (wM V q u) (rEq none (wM V q res)) :=
  Ct_of (by decide) (Nat.le_of_ble_eq_true rfl) rfl (fun X hX hT _ hF => wX12_next ⟨hX, hT, hF⟩ hE hf)
def rmX12_fail : Room := { frames := 0, cells := 0, slots := 0, locals := 0 }
def fX12_fail (u : St) : Option (St) := if gZ u 33 = 0 then nmS (setZ u 33 1) (fun u1 => nmS (setZ u1 34 (gZ u1 29)) (fun u2 => some u2)) else (some u)
theorem wX12_fail {X : Cx} {V : Vx} {q : Nat → Nat} {res : St} (h : Run X cX12_fail 1 RX12 rmX12_fail V none (rEq none (wM V q res))) (hE : ZOK (vZ V)) {u : St} (hf : fX12_fail u = some res) : At X 1 0 0 (wM V q u) 0 [(0, .ref (q 0))] [] := by
  obtain ⟨hX, hT, hF⟩ := id h
  unfold fX12_fail at hf
  refine a_aload_n hX dX12_fail_0 rfl 0 rfl rfl ?_
  refine gX12_33 hX F_X12_241 dX12_fail_1 rfl ?_
  refine a_if_ne (tgt := 20) hX dX12_fail_4 rfl rfl hf (fun hf => ?_) (fun hf => ?_)
  · exact a_ret hX hT hF (r_vS (wf := (wM V q)) hf) dX12_fail_20
  · refine a_aload_n hX dX12_fail_7 rfl 0 rfl rfl ?_
    refine a_iconst (v := 1) hX dX12_fail_8 (by decide) rfl ?_
    refine pX12_33 hX F_X12_241 (by decide) (by decide) dX12_fail_9 rfl hf (fun u1 hf => ?_)
    refine a_aload_n hX dX12_fail_12 rfl 0 rfl rfl ?_
    refine a_aload_n hX dX12_fail_13 rfl 0 rfl rfl ?_
    refine gX12_29 hX F_X12_221 dX12_fail_14 rfl ?_
    refine pX12_34 hX F_X12_245 dX12_fail_17 rfl hf (fun u2 hf => ?_)
    exact a_ret hX hT hF (r_vS (wf := (wM V q)) hf) dX12_fail_20
theorem ctX12_fail {V : Vx} {q : Nat → Nat} {u : St} {res : St} (hE : ZOK (vZ V))  (hf : fX12_fail u = some res) : Ct V yX12_fail (.code yX12_fail cX12_fail 1 none) rmX12_fail 0 0 [.ref (q 0)] (wM V q u) (rEq none (wM V q res)) :=
  Ct_of (by decide) (Nat.le_of_ble_eq_true rfl) rfl (fun X hX hT _ hF => wX12_fail ⟨hX, hT, hF⟩ hE hf)
def rmX12_isWord : Room := { frames := 0, cells := 0, slots := 0, locals := 0 }
def fX12_isWord (u : St) (v1 : Int64) : Option (Int32) := if gZ u 33 = 0 then if gZ u 28 = 1 then if gY u 30 = v1 then some 1 else (some 0) else (some 0) else (some 0)
theorem wX12_isWord {X : Cx} {V : Vx} {q : Nat → Nat} {u : St} {res : Int32} (h : Run X cX12_isWord 3 RX12 rmX12_isWord V (some .boolean) (rEq (some (.int res)) (wM V q u))) (hE : ZOK (vZ V)) {v1 : Int64} (hf : fX12_isWord u v1 = some res) : At X 3 0 0 (wM V q u) 0 [(0, .ref (q 0)), (1, .long v1)] [] := by
  obtain ⟨hX, hT, hF⟩ := id h
  unfold fX12_isWord at hf
  refine a_aload_n hX dX12_isWord_0 rfl 0 rfl rfl ?_
  refine gX12_33 hX F_X12_241 dX12_isWord_1 rfl ?_
  refine a_if_ne (tgt := 28) hX dX12_isWord_4 rfl rfl hf (fun hf => ?_) (fun hf => ?_)
  · refine a_iconst (v := 0) hX dX12_isWord_28 (by decide) rfl ?_
    exact a_zret hX hT (by decide) hF (r_i hf) dX12_isWord_29
  · refine a_aload_n hX dX12_isWord_7 rfl 0 rfl rfl ?_
    refine gX12_28 hX F_X12_224 dX12_isWord_8 rfl ?_
    refine a_iconst (v := 1) hX dX12_isWord_11 (by decide) rfl ?_
    refine a_icmp_ne (tgt := 28) hX dX12_isWord_12 rfl rfl hf (fun hf => ?_) (fun hf => ?_)
    · refine a_iconst (v := 0) hX dX12_isWord_28 (by decide) rfl ?_
      exact a_zret hX hT (by decide) hF (r_i hf) dX12_isWord_29
    · refine a_aload_n hX dX12_isWord_15 rfl 0 rfl rfl ?_
      refine gX12_30 hX F_X12_227 dX12_isWord_16 rfl ?_
      refine a_lload_n hX dX12_isWord_19 rfl 1 rfl rfl ?_
      refine a_lcmp_ne (tgt := 28) hX dX12_isWord_20 rfl dX12_isWord_21 rfl rfl hf (fun hf => ?_) (fun hf => ?_)
      · refine a_iconst (v := 0) hX dX12_isWord_28 (by decide) rfl ?_
        exact a_zret hX hT (by decide) hF (r_i hf) dX12_isWord_29
      · refine a_iconst (v := 1) hX dX12_isWord_24 (by decide) rfl ?_
        refine a_goto (pc' := 29) hX dX12_isWord_25 rfl ?_
        exact a_zret hX hT (by decide) hF (r_i hf) dX12_isWord_29
theorem ctX12_isWord {V : Vx} {q : Nat → Nat} {u : St} {res : Int32} (hE : ZOK (vZ V)) {v1 : Int64} (hf : fX12_isWord u v1 = some res) : Ct V yX12_isWord (.code yX12_isWord cX12_isWord 3 (some .boolean)) rmX12_isWord 0 0 [.ref (q 0), .long v1] (wM V q u) (rEq (some (.int res)) (wM V q u)) :=
  Ct_of (by decide) (Nat.le_of_ble_eq_true rfl) rfl (fun X hX hT _ hF => wX12_isWord ⟨hX, hT, hF⟩ hE hf)
def rmX12_isSign : Room := { frames := 0, cells := 0, slots := 0, locals := 0 }
def fX12_isSign (u : St) (v1 : Int32) : Option (Int32) := if gZ u 33 = 0 then if gZ u 28 = 3 then if gY u 30 = Int32.toInt64 v1 then some 1 else (some 0) else (some 0) else (some 0)
theorem wX12_isSign {X : Cx} {V : Vx} {q : Nat → Nat} {u : St} {res : Int32} (h : Run X cX12_isSign 2 RX12 rmX12_isSign V (some .boolean) (rEq (some (.int res)) (wM V q u))) (hE : ZOK (vZ V)) {v1 : Int32} (hf : fX12_isSign u v1 = some res) : At X 2 0 0 (wM V q u) 0 [(0, .ref (q 0)), (1, .int v1)] [] := by
  obtain ⟨hX, hT, hF⟩ := id h
  unfold fX12_isSign at hf
  refine a_aload_n hX dX12_isSign_0 rfl 0 rfl rfl ?_
  refine gX12_33 hX F_X12_241 dX12_isSign_1 rfl ?_
  refine a_if_ne (tgt := 29) hX dX12_isSign_4 rfl rfl hf (fun hf => ?_) (fun hf => ?_)
  · refine a_iconst (v := 0) hX dX12_isSign_29 (by decide) rfl ?_
    exact a_zret hX hT (by decide) hF (r_i hf) dX12_isSign_30
  · refine a_aload_n hX dX12_isSign_7 rfl 0 rfl rfl ?_
    refine gX12_28 hX F_X12_224 dX12_isSign_8 rfl ?_
    refine a_iconst (v := 3) hX dX12_isSign_11 (by decide) rfl ?_
    refine a_icmp_ne (tgt := 29) hX dX12_isSign_12 rfl rfl hf (fun hf => ?_) (fun hf => ?_)
    · refine a_iconst (v := 0) hX dX12_isSign_29 (by decide) rfl ?_
      exact a_zret hX hT (by decide) hF (r_i hf) dX12_isSign_30
    · refine a_aload_n hX dX12_isSign_15 rfl 0 rfl rfl ?_
      refine gX12_30 hX F_X12_227 dX12_isSign_16 rfl ?_
      refine a_iload_n hX dX12_isSign_19 rfl 1 rfl rfl ?_
      refine a_i2l hX dX12_isSign_20 rfl ?_
      refine a_lcmp_ne (tgt := 29) hX dX12_isSign_21 rfl dX12_isSign_22 rfl rfl hf (fun hf => ?_) (fun hf => ?_)
      · refine a_iconst (v := 0) hX dX12_isSign_29 (by decide) rfl ?_
        exact a_zret hX hT (by decide) hF (r_i hf) dX12_isSign_30
      · refine a_iconst (v := 1) hX dX12_isSign_25 (by decide) rfl ?_
        refine a_goto (pc' := 30) hX dX12_isSign_26 rfl ?_
        exact a_zret hX hT (by decide) hF (r_i hf) dX12_isSign_30
theorem ctX12_isSign {V : Vx} {q : Nat → Nat} {u : St} {res : Int32} (hE : ZOK (vZ V)) {v1 : Int32} (hf : fX12_isSign u v1 = some res) : Ct V yX12_isSign (.code yX12_isSign cX12_isSign 2 (some .boolean)) rmX12_isSign 0 0 [.ref (q 0), .int v1] (wM V q u) (rEq (some (.int res)) (wM V q u)) :=
  Ct_of (by decide) (Nat.le_of_ble_eq_true rfl) rfl (fun X hX hT _ hF => wX12_isSign ⟨hX, hT, hF⟩ hE hf)
def rmX12_opens : Room := { frames := 2, cells := 0, slots := 0, locals := 44 }
def fX12_opens (u : St) : Option (Int32 × St) := if gZ u 32 = 5 then cl1 (fX12_fail u) (fun u5 => some (0, u5)) else (nmS (setZ u 32 ((gZ u 32) + 1)) (fun u1 => cl1 (fX12_next u1) (fun u3 => some (1, u3))))
theorem wX12_opens {X : Cx} {V : Vx} {q : Nat → Nat} {res : Int32 × St} (h : Run X cX12_opens 1 RX12 rmX12_opens V (some .boolean) (rEq (some (.int res.1)) (wM V q res.2))) (hE : ZOK (vZ V)) {u : St} (hf : fX12_opens u = some res) : At X 1 0 0 (wM V q u) 0 [(0, .ref (q 0))] [] := by
  obtain ⟨hX, hT, hF⟩ := id h
  unfold fX12_opens at hf
  refine a_aload_n hX dX12_opens_0 rfl 0 rfl rfl ?_
  refine gX12_32 hX F_X12_248 dX12_opens_1 rfl ?_
  refine a_iconst (v := 5) hX dX12_opens_4 (by decide) rfl ?_
  refine a_icmp_ne (tgt := 14) hX dX12_opens_5 rfl rfl hf (fun hf => ?_) (fun hf => ?_)
  · refine a_aload_n hX dX12_opens_14 rfl 0 rfl rfl ?_
    refine a_dup hX dX12_opens_15 rfl rfl ?_
    refine gX12_32 hX F_X12_248 dX12_opens_16 rfl ?_
    refine a_iconst (v := 1) hX dX12_opens_19 (by decide) rfl ?_
    refine a_iadd hX dX12_opens_20 rfl ?_
    refine pX12_32 hX F_X12_248 dX12_opens_21 rfl hf (fun u1 hf => ?_)
    refine a_aload_n hX dX12_opens_24 rfl 0 rfl rfl ?_
    obtain ⟨u3, hg2, hf⟩ := cl1_some hf
    refine a_cVsv (q0 := 0) (rest := []) hX hE (ctX12_next (q := q) hE hg2) K_X12_254 ⟨rfl, rfl⟩ ⟨rfl, rfl, by decide, by decide⟩ ⟨Nat.zero_le _, Nat.zero_le _⟩ (Nat.le_of_ble_eq_true rfl) dX12_opens_25 rfl rfl ?_
    refine a_iconst (v := 1) hX dX12_opens_28 (by decide) rfl ?_
    exact a_zret hX hT (by decide) hF (r_iS (wf := (wM V q)) hf) dX12_opens_29
  · refine a_aload_n hX dX12_opens_8 rfl 0 rfl rfl ?_
    obtain ⟨u5, hg4, hf⟩ := cl1_some hf
    refine a_cVsv (q0 := 0) (rest := []) hX hE (ctX12_fail (q := q) hE hg4) K_X12_251 ⟨rfl, rfl⟩ ⟨rfl, rfl, by decide, by decide⟩ ⟨Nat.zero_le _, Nat.zero_le _⟩ (Nat.le_of_ble_eq_true rfl) dX12_opens_9 rfl rfl ?_
    refine a_iconst (v := 0) hX dX12_opens_12 (by decide) rfl ?_
    exact a_zret hX hT (by decide) hF (r_iS (wf := (wM V q)) hf) dX12_opens_13
theorem ctX12_opens {V : Vx} {q : Nat → Nat} {u : St} {res : Int32 × St} (hE : ZOK (vZ V))  (hf : fX12_opens u = some res) : Ct V yX12_opens (.code yX12_opens cX12_opens 1 (some .boolean)) rmX12_opens 0 0 [.ref (q 0)] (wM V q u) (rEq (some (.int res.1)) (wM V q res.2)) :=
  Ct_of (by decide) (Nat.le_of_ble_eq_true rfl) rfl (fun X hX hT _ hF => wX12_opens ⟨hX, hT, hF⟩ hE hf)
def rmX12_name : Room := { frames := 2, cells := 0, slots := 0, locals := 47 }
def fX12_name (u : St) : Option (Int32 × St) := cl1 (fX12_isWord u 131638) (fun x1 => if x1 = 0 then cl1 (fX12_isWord u 555) (fun x2 => if x2 = 0 then cl1 (fX12_isWord u 232600981) (fun x3 => if x3 = 0 then cl1 (fX12_isWord u 10634) (fun x4 => if x4 = 0 then cl1 (fX12_isWord u 230433031) (fun x5 => if x5 = 0 then cl1 (fX12_isWord u 307058) (fun x6 => if x6 = 0 then cl1 (fX12_fail u) (fun u8 => some (0, u8)) else (cl1 (fX12_openWays u (gZ u 35) (gZ u 36) (gZ u 37)) (fun x9 => some (x9, u)))) else (cl1 (fX12_standing u (-1)) (fun x10 => cl1 (fX12_bitsOf x10) (fun x11 => some (x11, u))))) else (some ((gZ u 1) - 1, u))) else (some (gZ u 37, u))) else (some (gZ u 36, u))) else (some (gZ u 35, u)))
theorem wX12_name {X : Cx} {V : Vx} {q : Nat → Nat} {res : Int32 × St} (h : Run X cX12_name 1 RX12 rmX12_name V (some .int) (rEq (some (.int res.1)) (wM V q res.2))) (hE : ZOK (vZ V)) {u : St} (hf : fX12_name u = some res) : At X 1 0 0 (wM V q u) 0 [(0, .ref (q 0))] [] := by
  obtain ⟨hX, hT, hF⟩ := id h
  unfold fX12_name at hf
  refine a_aload_n hX dX12_name_0 rfl 0 rfl rfl ?_
  refine a_ldc2 hX dX12_name_1 N_X12_257 rfl ?_
  obtain ⟨x1, hg1, hf⟩ := cl1_some hf
  refine a_cVsi (q0 := 0) (rest := []) hX hE (ctX12_isWord (q := q) hE hg1) K_X12_259 ⟨rfl, rfl⟩ ⟨rfl, rfl, by decide, by decide⟩ ⟨Nat.zero_le _, Nat.zero_le _⟩ (Nat.le_of_ble_eq_true rfl) dX12_name_4 rfl rfl ?_
  refine a_if_eq (tgt := 15) hX dX12_name_7 rfl rfl hf (fun hf => ?_) (fun hf => ?_)
  · refine a_aload_n hX dX12_name_15 rfl 0 rfl rfl ?_
    refine a_ldc2 hX dX12_name_16 N_X12_266 rfl ?_
    obtain ⟨x2, hg2, hf⟩ := cl1_some hf
    refine a_cVsi (q0 := 0) (rest := []) hX hE (ctX12_isWord (q := q) hE hg2) K_X12_259 ⟨rfl, rfl⟩ ⟨rfl, rfl, by decide, by decide⟩ ⟨Nat.zero_le _, Nat.zero_le _⟩ (Nat.le_of_ble_eq_true rfl) dX12_name_19 rfl rfl ?_
    refine a_if_eq (tgt := 30) hX dX12_name_22 rfl rfl hf (fun hf => ?_) (fun hf => ?_)
    · refine a_aload_n hX dX12_name_30 rfl 0 rfl rfl ?_
      refine a_ldc2 hX dX12_name_31 N_X12_271 rfl ?_
      obtain ⟨x3, hg3, hf⟩ := cl1_some hf
      refine a_cVsi (q0 := 0) (rest := []) hX hE (ctX12_isWord (q := q) hE hg3) K_X12_259 ⟨rfl, rfl⟩ ⟨rfl, rfl, by decide, by decide⟩ ⟨Nat.zero_le _, Nat.zero_le _⟩ (Nat.le_of_ble_eq_true rfl) dX12_name_34 rfl rfl ?_
      refine a_if_eq (tgt := 45) hX dX12_name_37 rfl rfl hf (fun hf => ?_) (fun hf => ?_)
      · refine a_aload_n hX dX12_name_45 rfl 0 rfl rfl ?_
        refine a_ldc2 hX dX12_name_46 N_X12_276 rfl ?_
        obtain ⟨x4, hg4, hf⟩ := cl1_some hf
        refine a_cVsi (q0 := 0) (rest := []) hX hE (ctX12_isWord (q := q) hE hg4) K_X12_259 ⟨rfl, rfl⟩ ⟨rfl, rfl, by decide, by decide⟩ ⟨Nat.zero_le _, Nat.zero_le _⟩ (Nat.le_of_ble_eq_true rfl) dX12_name_49 rfl rfl ?_
        refine a_if_eq (tgt := 62) hX dX12_name_52 rfl rfl hf (fun hf => ?_) (fun hf => ?_)
        · refine a_aload_n hX dX12_name_62 rfl 0 rfl rfl ?_
          refine a_ldc2 hX dX12_name_63 N_X12_278 rfl ?_
          obtain ⟨x5, hg5, hf⟩ := cl1_some hf
          refine a_cVsi (q0 := 0) (rest := []) hX hE (ctX12_isWord (q := q) hE hg5) K_X12_259 ⟨rfl, rfl⟩ ⟨rfl, rfl, by decide, by decide⟩ ⟨Nat.zero_le _, Nat.zero_le _⟩ (Nat.le_of_ble_eq_true rfl) dX12_name_66 rfl rfl ?_
          refine a_if_eq (tgt := 81) hX dX12_name_69 rfl rfl hf (fun hf => ?_) (fun hf => ?_)
          · refine a_aload_n hX dX12_name_81 rfl 0 rfl rfl ?_
            refine a_ldc2 hX dX12_name_82 N_X12_280 rfl ?_
            obtain ⟨x6, hg6, hf⟩ := cl1_some hf
            refine a_cVsi (q0 := 0) (rest := []) hX hE (ctX12_isWord (q := q) hE hg6) K_X12_259 ⟨rfl, rfl⟩ ⟨rfl, rfl, by decide, by decide⟩ ⟨Nat.zero_le _, Nat.zero_le _⟩ (Nat.le_of_ble_eq_true rfl) dX12_name_85 rfl rfl ?_
            refine a_if_eq (tgt := 108) hX dX12_name_88 rfl rfl hf (fun hf => ?_) (fun hf => ?_)
            · refine a_aload_n hX dX12_name_108 rfl 0 rfl rfl ?_
              obtain ⟨u8, hg7, hf⟩ := cl1_some hf
              refine a_cVsv (q0 := 0) (rest := []) hX hE (ctX12_fail (q := q) hE hg7) K_X12_251 ⟨rfl, rfl⟩ ⟨rfl, rfl, by decide, by decide⟩ ⟨Nat.zero_le _, Nat.zero_le _⟩ (Nat.le_of_ble_eq_true rfl) dX12_name_109 rfl rfl ?_
              refine a_iconst (v := 0) hX dX12_name_112 (by decide) rfl ?_
              exact a_iret hX hT hF (r_iS (wf := (wM V q)) hf) dX12_name_113
            · refine a_aload_n hX dX12_name_91 rfl 0 rfl rfl ?_
              refine a_aload_n hX dX12_name_92 rfl 0 rfl rfl ?_
              refine gX12_35 hX F_X12_263 dX12_name_93 rfl ?_
              refine a_aload_n hX dX12_name_96 rfl 0 rfl rfl ?_
              refine gX12_36 hX F_X12_268 dX12_name_97 rfl ?_
              refine a_aload_n hX dX12_name_100 rfl 0 rfl rfl ?_
              refine gX12_37 hX F_X12_273 dX12_name_101 rfl ?_
              obtain ⟨x9, hg9, hf⟩ := cl1_some hf
              refine a_cVsi (q0 := 0) (rest := []) hX hE (ctX12_openWays (q := q) hE hg9) K_X12_182 ⟨rfl, rfl⟩ ⟨rfl, rfl, by decide, by decide⟩ ⟨Nat.zero_le _, Nat.zero_le _⟩ (Nat.le_of_ble_eq_true rfl) dX12_name_104 rfl rfl ?_
              exact a_iret hX hT hF (r_iS (wf := (wM V q)) hf) dX12_name_107
          · refine a_aload_n hX dX12_name_72 rfl 0 rfl rfl ?_
            refine a_iconst (v := (-1)) hX dX12_name_73 (by decide) rfl ?_
            obtain ⟨x10, hg10, hf⟩ := cl1_some hf
            refine a_cVsi (q0 := 0) (rest := []) hX hE (ctX12_standing (q := q) hE hg10) K_X12_168 ⟨rfl, rfl⟩ ⟨rfl, rfl, by decide, by decide⟩ ⟨Nat.zero_le _, Nat.zero_le _⟩ (Nat.le_of_ble_eq_true rfl) dX12_name_74 rfl rfl ?_
            obtain ⟨x11, hg11, hf⟩ := cl1_some hf
            refine a_cSpi (rest := []) hX hE (ctX12_bitsOf hE hg11) K_X12_179 ⟨rfl, rfl, by decide, by decide⟩ ⟨Nat.zero_le _, Nat.zero_le _⟩ (Nat.le_of_ble_eq_true rfl) dX12_name_77 rfl rfl ?_
            exact a_iret hX hT hF (r_iS (wf := (wM V q)) hf) dX12_name_80
        · refine a_aload_n hX dX12_name_55 rfl 0 rfl rfl ?_
          refine gX12_1 hX F_X12_124 dX12_name_56 rfl ?_
          refine a_iconst (v := 1) hX dX12_name_59 (by decide) rfl ?_
          refine a_isub hX dX12_name_60 rfl ?_
          exact a_iret hX hT hF (r_iS (wf := (wM V q)) hf) dX12_name_61
      · refine a_aload_n hX dX12_name_40 rfl 0 rfl rfl ?_
        refine gX12_37 hX F_X12_273 dX12_name_41 rfl ?_
        exact a_iret hX hT hF (r_iS (wf := (wM V q)) hf) dX12_name_44
    · refine a_aload_n hX dX12_name_25 rfl 0 rfl rfl ?_
      refine gX12_36 hX F_X12_268 dX12_name_26 rfl ?_
      exact a_iret hX hT hF (r_iS (wf := (wM V q)) hf) dX12_name_29
  · refine a_aload_n hX dX12_name_10 rfl 0 rfl rfl ?_
    refine gX12_35 hX F_X12_263 dX12_name_11 rfl ?_
    exact a_iret hX hT hF (r_iS (wf := (wM V q)) hf) dX12_name_14
theorem ctX12_name {V : Vx} {q : Nat → Nat} {u : St} {res : Int32 × St} (hE : ZOK (vZ V))  (hf : fX12_name u = some res) : Ct V yX12_name (.code yX12_name cX12_name 1 (some .int)) rmX12_name 0 0 [.ref (q 0)] (wM V q u) (rEq (some (.int res.1)) (wM V q res.2)) :=
  Ct_of (by decide) (Nat.le_of_ble_eq_true rfl) rfl (fun X hX hT _ hF => wX12_name ⟨hX, hT, hF⟩ hE hf)
def rmGM (n : Nat) : Room := { frames := n + 12, cells := 0, slots := 0, locals := 60 * n + 400 }
theorem rmGM_s (n : Nat) {m : Nat} (h : m ≤ 40) : RmOK (rmGM n) m 0 0 (rmGM (n + 1)) := ⟨rfl, rfl, by simp only [rmGM]; omega, by simp only [rmGM]; omega⟩
def GMok (V : Vx) (q : Nat → Nat) (n : Nat) (R : Nat → St → Option (Int32 × St)) : Prop := (∀ (u : St) (res : Int32 × St), R 0 u = some res → Ct V yX12_either (.code yX12_either cX12_either 3 (some .int)) (rmGM n) 0 0 [.ref (q 0)] (wM V q u) (rEq (some (.int res.1)) (wM V q res.2))) ∧ (∀ (u : St) (res : Int32 × St), R 1 u = some res → Ct V yX12_both_ (.code yX12_both_ cX12_both_ 3 (some .int)) (rmGM n) 0 0 [.ref (q 0)] (wM V q u) (rEq (some (.int res.1)) (wM V q res.2))) ∧ (∀ (u : St) (res : Int32 × St), R 2 u = some res → Ct V yX12_not (.code yX12_not cX12_not 4 (some .int)) (rmGM n) 0 0 [.ref (q 0)] (wM V q u) (rEq (some (.int res.1)) (wM V q res.2))) ∧ (∀ (u : St) (res : Int32 × St), R 3 u = some res → Ct V yX12_added (.code yX12_added cX12_added 4 (some .int)) (rmGM n) 0 0 [.ref (q 0)] (wM V q u) (rEq (some (.int res.1)) (wM V q res.2))) ∧ (∀ (u : St) (res : Int32 × St), R 4 u = some res → Ct V yX12_term (.code yX12_term cX12_term 2 (some .int)) (rmGM n) 0 0 [.ref (q 0)] (wM V q u) (rEq (some (.int res.1)) (wM V q res.2))) ∧ (∀ (u : St) (res : Int32 × St), R 5 u = some res → Ct V yX12_one (.code yX12_one cX12_one 2 (some .int)) (rmGM n) 0 0 [.ref (q 0)] (wM V q u) (rEq (some (.int res.1)) (wM V q res.2)))
def fX12_either_b37 (R : Nat → St → Option (Int32 × St)) (k5 : St → Int32 → Option (Int32 × St)) (u : St) (s0 : Int32) : Option (Int32 × St) := k5 u s0
theorem wX12_either_b37 {R : Nat → St → Option (Int32 × St)} {nn : Nat} {X : Cx} {V : Vx} {q : Nat → Nat} {res : Int32 × St} (h : Run X cX12_either 3 RX12 (rmGM (nn + 1)) V (some .int) (rEq (some (.int res.1)) (wM V q res.2))) (hE : ZOK (vZ V)) (hR : GMok V q nn R) {u : St} {s0 : Int32} {k5 : St → Int32 → Option (Int32 × St)} (hk5 : ∀ (u : St) (v1 : Int32), k5 u v1 = some res → At X 3 0 0 (wM V q u) 5 [(0, .ref (q 0)), (1, .int v1)] []) (hf : fX12_either_b37 R k5 u s0 = some res) : At X 3 0 0 (wM V q u) 37 [(0, .ref (q 0))] [.int s0] := by
  obtain ⟨hX, hT, hF⟩ := id h
  unfold fX12_either_b37 at hf
  refine a_istore_n (lv' := [(1, .int s0), (0, .ref (q 0))]) hX dX12_either_37 rfl (by decide) rfl rfl ?_
  refine a_goto (pc' := 5) hX dX12_either_38 rfl ?_
  refine a_lv (lv' := [(0, .ref (q 0)), (1, .int s0)]) [1, 0] rfl ?_
  exact hk5 u s0 hf
def fX12_either_b32 (R : Nat → St → Option (Int32 × St)) (k5 : St → Int32 → Option (Int32 × St)) (u : St) : Option (Int32 × St) := fX12_either_b37 R k5 u 1
theorem wX12_either_b32 {R : Nat → St → Option (Int32 × St)} {nn : Nat} {X : Cx} {V : Vx} {q : Nat → Nat} {res : Int32 × St} (h : Run X cX12_either 3 RX12 (rmGM (nn + 1)) V (some .int) (rEq (some (.int res.1)) (wM V q res.2))) (hE : ZOK (vZ V)) (hR : GMok V q nn R) {u : St} {k5 : St → Int32 → Option (Int32 × St)} (hk5 : ∀ (u : St) (v1 : Int32), k5 u v1 = some res → At X 3 0 0 (wM V q u) 5 [(0, .ref (q 0)), (1, .int v1)] []) (hf : fX12_either_b32 R k5 u = some res) : At X 3 0 0 (wM V q u) 32 [(0, .ref (q 0))] [] := by
  obtain ⟨hX, hT, hF⟩ := id h
  unfold fX12_either_b32 at hf
  refine a_iconst (v := 1) hX dX12_either_32 (by decide) rfl ?_
  refine a_goto (pc' := 37) hX dX12_either_33 rfl ?_
  exact wX12_either_b37 h hE hR hk5 hf
def fX12_either_l5b (R : Nat → St → Option (Int32 × St)) (k5 : St → Int32 → Option (Int32 × St)) (u : St) (v1 : Int32) : Option (Int32 × St) := cl1 (fX12_isWord u 423) (fun x3 => if x3 = 0 then some (v1, u) else (cl1 (fX12_next u) (fun u5 => cl2 (R 1 u5) (fun x6 u7 => if v1 = 0 then if x6 = 0 then fX12_either_b37 R k5 u7 0 else (fX12_either_b32 R k5 u7) else (fX12_either_b32 R k5 u7)))))
theorem wX12_either_l5b {R : Nat → St → Option (Int32 × St)} {nn : Nat} {X : Cx} {V : Vx} {q : Nat → Nat} {res : Int32 × St} (h : Run X cX12_either 3 RX12 (rmGM (nn + 1)) V (some .int) (rEq (some (.int res.1)) (wM V q res.2))) (hE : ZOK (vZ V)) (hR : GMok V q nn R) {u : St} {v1 : Int32} {k5 : St → Int32 → Option (Int32 × St)} (hk5 : ∀ (u : St) (v1 : Int32), k5 u v1 = some res → At X 3 0 0 (wM V q u) 5 [(0, .ref (q 0)), (1, .int v1)] []) (hf : fX12_either_l5b R k5 u v1 = some res) : At X 3 0 0 (wM V q u) 5 [(0, .ref (q 0)), (1, .int v1)] [] := by
  obtain ⟨hX, hT, hF⟩ := id h
  unfold fX12_either_l5b at hf
  refine a_aload_n hX dX12_either_5 rfl 0 rfl rfl ?_
  refine a_ldc2 hX dX12_either_6 N_X12_319 rfl ?_
  obtain ⟨x3, hg3, hf⟩ := cl1_some hf
  refine a_cVsi (q0 := 0) (rest := []) hX hE (ctX12_isWord (q := q) hE hg3) K_X12_259 ⟨rfl, rfl⟩ ⟨rfl, rfl, by simp only [rmGM, rmX12_isWord]; omega, by simp only [rmGM, rmX12_isWord]; omega⟩ ⟨Nat.zero_le _, Nat.zero_le _⟩ (Nat.le_of_ble_eq_true rfl) dX12_either_9 rfl rfl ?_
  refine a_if_eq (tgt := 41) hX dX12_either_12 rfl rfl hf (fun hf => ?_) (fun hf => ?_)
  · refine a_iload_n hX dX12_either_41 rfl 1 rfl rfl ?_
    exact a_iret hX hT hF (r_iS (wf := (wM V q)) hf) dX12_either_42
  · refine a_aload_n hX dX12_either_15 rfl 0 rfl rfl ?_
    obtain ⟨u5, hg4, hf⟩ := cl1_some hf
    refine a_cVsv (q0 := 0) (rest := []) hX hE (ctX12_next (q := q) hE hg4) K_X12_254 ⟨rfl, rfl⟩ ⟨rfl, rfl, by simp only [rmGM, rmX12_next]; omega, by simp only [rmGM, rmX12_next]; omega⟩ ⟨Nat.zero_le _, Nat.zero_le _⟩ (Nat.le_of_ble_eq_true rfl) dX12_either_16 rfl rfl ?_
    refine a_aload_n hX dX12_either_19 rfl 0 rfl rfl ?_
    obtain ⟨x6, u7, hg6, hf⟩ := cl2_some hf
    refine a_cVsi (q0 := 0) (rest := []) hX hE (hR.2.1  _ _ hg6) K_X12_316 ⟨rfl, rfl⟩ (rmGM_s nn (by decide)) ⟨Nat.zero_le _, Nat.zero_le _⟩ (Nat.le_of_ble_eq_true rfl) dX12_either_20 rfl rfl ?_
    refine a_istore_n (lv' := [(2, .int x6), (0, .ref (q 0)), (1, .int v1)]) hX dX12_either_23 rfl (by decide) rfl rfl ?_
    refine a_iload_n hX dX12_either_24 rfl 2 rfl rfl ?_
    refine a_if_ne (tgt := 32) hX dX12_either_25 rfl rfl hf (fun hf => ?_) (fun hf => ?_)
    · refine a_lv (lv' := [(0, .ref (q 0))]) [1] rfl ?_
      exact wX12_either_b32 h hE hR hk5 hf
    · refine a_iload_n hX dX12_either_28 rfl 0 rfl rfl ?_
      refine a_if_eq (tgt := 36) hX dX12_either_29 rfl rfl hf (fun hf => ?_) (fun hf => ?_)
      · refine a_iconst (v := 0) hX dX12_either_36 (by decide) rfl ?_
        refine a_lv (lv' := [(0, .ref (q 0))]) [1] rfl ?_
        exact wX12_either_b37 h hE hR hk5 hf
      · refine a_lv (lv' := [(0, .ref (q 0))]) [1] rfl ?_
        exact wX12_either_b32 h hE hR hk5 hf
def fX12_either_l5 (R : Nat → St → Option (Int32 × St))   : Nat → St → Int32 → Option (Int32 × St)
  | 0, _, _ => none
  | m + 1, u, v1 => fX12_either_l5b R (fX12_either_l5 R   m) u v1
theorem wX12_either_l5 {R : Nat → St → Option (Int32 × St)} {nn : Nat} {X : Cx} {V : Vx} {q : Nat → Nat} {res : Int32 × St} (h : Run X cX12_either 3 RX12 (rmGM (nn + 1)) V (some .int) (rEq (some (.int res.1)) (wM V q res.2))) (hE : ZOK (vZ V)) (hR : GMok V q nn R)  : ∀ (m : Nat) (u : St) (v1 : Int32), fX12_either_l5 R   m u v1 = some res → At X 3 0 0 (wM V q u) 5 [(0, .ref (q 0)), (1, .int v1)] [] := by
  intro m
  induction m with
  | zero => intro u v1 hf; cases hf
  | succ m ih => intro u v1 hf; exact wX12_either_l5b h hE hR ih hf
def fX12_either (R : Nat → St → Option (Int32 × St)) (u : St) : Option (Int32 × St) := cl2 (R 1 u) (fun x1 u2 => fX12_either_l5 R NF u2 x1)
theorem wX12_either {R : Nat → St → Option (Int32 × St)} {nn : Nat} {X : Cx} {V : Vx} {q : Nat → Nat} {res : Int32 × St} (h : Run X cX12_either 3 RX12 (rmGM (nn + 1)) V (some .int) (rEq (some (.int res.1)) (wM V q res.2))) (hE : ZOK (vZ V)) (hR : GMok V q nn R) {u : St} (hf : fX12_either R u = some res) : At X 3 0 0 (wM V q u) 0 [(0, .ref (q 0))] [] := by
  obtain ⟨hX, hT, hF⟩ := id h
  unfold fX12_either at hf
  refine a_aload_n hX dX12_either_0 rfl 0 rfl rfl ?_
  obtain ⟨x1, u2, hg1, hf⟩ := cl2_some hf
  refine a_cVsi (q0 := 0) (rest := []) hX hE (hR.2.1  _ _ hg1) K_X12_316 ⟨rfl, rfl⟩ (rmGM_s nn (by decide)) ⟨Nat.zero_le _, Nat.zero_le _⟩ (Nat.le_of_ble_eq_true rfl) dX12_either_1 rfl rfl ?_
  refine a_istore_n (lv' := [(1, .int x1), (0, .ref (q 0))]) hX dX12_either_4 rfl (by decide) rfl rfl ?_
  refine a_lv (lv' := [(0, .ref (q 0)), (1, .int x1)]) [1, 0] rfl ?_
  exact wX12_either_l5 h hE hR NF u2 x1 hf
def fX12_both__b37 (R : Nat → St → Option (Int32 × St)) (k5 : St → Int32 → Option (Int32 × St)) (u : St) (s0 : Int32) : Option (Int32 × St) := k5 u s0
theorem wX12_both__b37 {R : Nat → St → Option (Int32 × St)} {nn : Nat} {X : Cx} {V : Vx} {q : Nat → Nat} {res : Int32 × St} (h : Run X cX12_both_ 3 RX12 (rmGM (nn + 1)) V (some .int) (rEq (some (.int res.1)) (wM V q res.2))) (hE : ZOK (vZ V)) (hR : GMok V q nn R) {u : St} {s0 : Int32} {k5 : St → Int32 → Option (Int32 × St)} (hk5 : ∀ (u : St) (v1 : Int32), k5 u v1 = some res → At X 3 0 0 (wM V q u) 5 [(0, .ref (q 0)), (1, .int v1)] []) (hf : fX12_both__b37 R k5 u s0 = some res) : At X 3 0 0 (wM V q u) 37 [(0, .ref (q 0))] [.int s0] := by
  obtain ⟨hX, hT, hF⟩ := id h
  unfold fX12_both__b37 at hf
  refine a_istore_n (lv' := [(1, .int s0), (0, .ref (q 0))]) hX dX12_both__37 rfl (by decide) rfl rfl ?_
  refine a_goto (pc' := 5) hX dX12_both__38 rfl ?_
  refine a_lv (lv' := [(0, .ref (q 0)), (1, .int s0)]) [1, 0] rfl ?_
  exact hk5 u s0 hf
def fX12_both__b36 (R : Nat → St → Option (Int32 × St)) (k5 : St → Int32 → Option (Int32 × St)) (u : St) : Option (Int32 × St) := fX12_both__b37 R k5 u 0
theorem wX12_both__b36 {R : Nat → St → Option (Int32 × St)} {nn : Nat} {X : Cx} {V : Vx} {q : Nat → Nat} {res : Int32 × St} (h : Run X cX12_both_ 3 RX12 (rmGM (nn + 1)) V (some .int) (rEq (some (.int res.1)) (wM V q res.2))) (hE : ZOK (vZ V)) (hR : GMok V q nn R) {u : St} {k5 : St → Int32 → Option (Int32 × St)} (hk5 : ∀ (u : St) (v1 : Int32), k5 u v1 = some res → At X 3 0 0 (wM V q u) 5 [(0, .ref (q 0)), (1, .int v1)] []) (hf : fX12_both__b36 R k5 u = some res) : At X 3 0 0 (wM V q u) 36 [(0, .ref (q 0))] [] := by
  obtain ⟨hX, hT, hF⟩ := id h
  unfold fX12_both__b36 at hf
  refine a_iconst (v := 0) hX dX12_both__36 (by decide) rfl ?_
  exact wX12_both__b37 h hE hR hk5 hf
def fX12_both__l5b (R : Nat → St → Option (Int32 × St)) (k5 : St → Int32 → Option (Int32 × St)) (u : St) (v1 : Int32) : Option (Int32 × St) := cl1 (fX12_isWord u 1111) (fun x3 => if x3 = 0 then some (v1, u) else (cl1 (fX12_next u) (fun u5 => cl2 (R 2 u5) (fun x6 u7 => if v1 = 0 then fX12_both__b36 R k5 u7 else (if x6 = 0 then fX12_both__b36 R k5 u7 else (fX12_both__b37 R k5 u7 1))))))
theorem wX12_both__l5b {R : Nat → St → Option (Int32 × St)} {nn : Nat} {X : Cx} {V : Vx} {q : Nat → Nat} {res : Int32 × St} (h : Run X cX12_both_ 3 RX12 (rmGM (nn + 1)) V (some .int) (rEq (some (.int res.1)) (wM V q res.2))) (hE : ZOK (vZ V)) (hR : GMok V q nn R) {u : St} {v1 : Int32} {k5 : St → Int32 → Option (Int32 × St)} (hk5 : ∀ (u : St) (v1 : Int32), k5 u v1 = some res → At X 3 0 0 (wM V q u) 5 [(0, .ref (q 0)), (1, .int v1)] []) (hf : fX12_both__l5b R k5 u v1 = some res) : At X 3 0 0 (wM V q u) 5 [(0, .ref (q 0)), (1, .int v1)] [] := by
  obtain ⟨hX, hT, hF⟩ := id h
  unfold fX12_both__l5b at hf
  refine a_aload_n hX dX12_both__5 rfl 0 rfl rfl ?_
  refine a_ldc2 hX dX12_both__6 N_X12_314 rfl ?_
  obtain ⟨x3, hg3, hf⟩ := cl1_some hf
  refine a_cVsi (q0 := 0) (rest := []) hX hE (ctX12_isWord (q := q) hE hg3) K_X12_259 ⟨rfl, rfl⟩ ⟨rfl, rfl, by simp only [rmGM, rmX12_isWord]; omega, by simp only [rmGM, rmX12_isWord]; omega⟩ ⟨Nat.zero_le _, Nat.zero_le _⟩ (Nat.le_of_ble_eq_true rfl) dX12_both__9 rfl rfl ?_
  refine a_if_eq (tgt := 41) hX dX12_both__12 rfl rfl hf (fun hf => ?_) (fun hf => ?_)
  · refine a_iload_n hX dX12_both__41 rfl 1 rfl rfl ?_
    exact a_iret hX hT hF (r_iS (wf := (wM V q)) hf) dX12_both__42
  · refine a_aload_n hX dX12_both__15 rfl 0 rfl rfl ?_
    obtain ⟨u5, hg4, hf⟩ := cl1_some hf
    refine a_cVsv (q0 := 0) (rest := []) hX hE (ctX12_next (q := q) hE hg4) K_X12_254 ⟨rfl, rfl⟩ ⟨rfl, rfl, by simp only [rmGM, rmX12_next]; omega, by simp only [rmGM, rmX12_next]; omega⟩ ⟨Nat.zero_le _, Nat.zero_le _⟩ (Nat.le_of_ble_eq_true rfl) dX12_both__16 rfl rfl ?_
    refine a_aload_n hX dX12_both__19 rfl 0 rfl rfl ?_
    obtain ⟨x6, u7, hg6, hf⟩ := cl2_some hf
    refine a_cVsi (q0 := 0) (rest := []) hX hE (hR.2.2.1  _ _ hg6) K_X12_306 ⟨rfl, rfl⟩ (rmGM_s nn (by decide)) ⟨Nat.zero_le _, Nat.zero_le _⟩ (Nat.le_of_ble_eq_true rfl) dX12_both__20 rfl rfl ?_
    refine a_istore_n (lv' := [(2, .int x6), (0, .ref (q 0)), (1, .int v1)]) hX dX12_both__23 rfl (by decide) rfl rfl ?_
    refine a_iload_n hX dX12_both__24 rfl 2 rfl rfl ?_
    refine a_if_eq (tgt := 36) hX dX12_both__25 rfl rfl hf (fun hf => ?_) (fun hf => ?_)
    · refine a_lv (lv' := [(0, .ref (q 0))]) [1] rfl ?_
      exact wX12_both__b36 h hE hR hk5 hf
    · refine a_iload_n hX dX12_both__28 rfl 0 rfl rfl ?_
      refine a_if_eq (tgt := 36) hX dX12_both__29 rfl rfl hf (fun hf => ?_) (fun hf => ?_)
      · refine a_lv (lv' := [(0, .ref (q 0))]) [1] rfl ?_
        exact wX12_both__b36 h hE hR hk5 hf
      · refine a_iconst (v := 1) hX dX12_both__32 (by decide) rfl ?_
        refine a_goto (pc' := 37) hX dX12_both__33 rfl ?_
        refine a_lv (lv' := [(0, .ref (q 0))]) [1] rfl ?_
        exact wX12_both__b37 h hE hR hk5 hf
def fX12_both__l5 (R : Nat → St → Option (Int32 × St))   : Nat → St → Int32 → Option (Int32 × St)
  | 0, _, _ => none
  | m + 1, u, v1 => fX12_both__l5b R (fX12_both__l5 R   m) u v1
theorem wX12_both__l5 {R : Nat → St → Option (Int32 × St)} {nn : Nat} {X : Cx} {V : Vx} {q : Nat → Nat} {res : Int32 × St} (h : Run X cX12_both_ 3 RX12 (rmGM (nn + 1)) V (some .int) (rEq (some (.int res.1)) (wM V q res.2))) (hE : ZOK (vZ V)) (hR : GMok V q nn R)  : ∀ (m : Nat) (u : St) (v1 : Int32), fX12_both__l5 R   m u v1 = some res → At X 3 0 0 (wM V q u) 5 [(0, .ref (q 0)), (1, .int v1)] [] := by
  intro m
  induction m with
  | zero => intro u v1 hf; cases hf
  | succ m ih => intro u v1 hf; exact wX12_both__l5b h hE hR ih hf
def fX12_both_ (R : Nat → St → Option (Int32 × St)) (u : St) : Option (Int32 × St) := cl2 (R 2 u) (fun x1 u2 => fX12_both__l5 R NF u2 x1)
theorem wX12_both_ {R : Nat → St → Option (Int32 × St)} {nn : Nat} {X : Cx} {V : Vx} {q : Nat → Nat} {res : Int32 × St} (h : Run X cX12_both_ 3 RX12 (rmGM (nn + 1)) V (some .int) (rEq (some (.int res.1)) (wM V q res.2))) (hE : ZOK (vZ V)) (hR : GMok V q nn R) {u : St} (hf : fX12_both_ R u = some res) : At X 3 0 0 (wM V q u) 0 [(0, .ref (q 0))] [] := by
  obtain ⟨hX, hT, hF⟩ := id h
  unfold fX12_both_ at hf
  refine a_aload_n hX dX12_both__0 rfl 0 rfl rfl ?_
  obtain ⟨x1, u2, hg1, hf⟩ := cl2_some hf
  refine a_cVsi (q0 := 0) (rest := []) hX hE (hR.2.2.1  _ _ hg1) K_X12_306 ⟨rfl, rfl⟩ (rmGM_s nn (by decide)) ⟨Nat.zero_le _, Nat.zero_le _⟩ (Nat.le_of_ble_eq_true rfl) dX12_both__1 rfl rfl ?_
  refine a_istore_n (lv' := [(1, .int x1), (0, .ref (q 0))]) hX dX12_both__4 rfl (by decide) rfl rfl ?_
  refine a_lv (lv' := [(0, .ref (q 0)), (1, .int x1)]) [1, 0] rfl ?_
  exact wX12_both__l5 h hE hR NF u2 x1 hf
def fX12_not_b112 (R : Nat → St → Option (Int32 × St))  (u : St) : Option (Int32 × St) := some (1, u)
theorem wX12_not_b112 {R : Nat → St → Option (Int32 × St)} {nn : Nat} {X : Cx} {V : Vx} {q : Nat → Nat} {res : Int32 × St} (h : Run X cX12_not 4 RX12 (rmGM (nn + 1)) V (some .int) (rEq (some (.int res.1)) (wM V q res.2))) (hE : ZOK (vZ V)) (hR : GMok V q nn R) {u : St} (hf : fX12_not_b112 R  u = some res) : At X 4 0 0 (wM V q u) 112 [] [] := by
  obtain ⟨hX, hT, hF⟩ := id h
  unfold fX12_not_b112 at hf
  refine a_iconst (v := 1) hX dX12_not_112 (by decide) rfl ?_
  refine a_goto (pc' := 117) hX dX12_not_113 rfl ?_
  exact a_iret hX hT hF (r_iS (wf := (wM V q)) hf) dX12_not_117
def fX12_not_b85 (R : Nat → St → Option (Int32 × St))  (u : St) (v1 : Int32) (s0 : Int32) : Option (Int32 × St) := cl1 (fX12_next u) (fun u12 => cl2 (R 3 u12) (fun x13 u14 => if s0 = 0 then if v1 = x13 then fX12_not_b112 R u14 else (some (0, u14)) else (if x13 ≤ v1 then some (0, u14) else (fX12_not_b112 R u14))))
theorem wX12_not_b85 {R : Nat → St → Option (Int32 × St)} {nn : Nat} {X : Cx} {V : Vx} {q : Nat → Nat} {res : Int32 × St} (h : Run X cX12_not 4 RX12 (rmGM (nn + 1)) V (some .int) (rEq (some (.int res.1)) (wM V q res.2))) (hE : ZOK (vZ V)) (hR : GMok V q nn R) {u : St} {v1 : Int32} {s0 : Int32} (hf : fX12_not_b85 R  u v1 s0 = some res) : At X 4 0 0 (wM V q u) 85 [(0, .ref (q 0)), (1, .int v1)] [.int s0] := by
  obtain ⟨hX, hT, hF⟩ := id h
  unfold fX12_not_b85 at hf
  refine a_istore_n (lv' := [(2, .int s0), (0, .ref (q 0)), (1, .int v1)]) hX dX12_not_85 rfl (by decide) rfl rfl ?_
  refine a_aload_n hX dX12_not_86 rfl 1 rfl rfl ?_
  obtain ⟨u12, hg11, hf⟩ := cl1_some hf
  refine a_cVsv (q0 := 0) (rest := []) hX hE (ctX12_next (q := q) hE hg11) K_X12_254 ⟨rfl, rfl⟩ ⟨rfl, rfl, by simp only [rmGM, rmX12_next]; omega, by simp only [rmGM, rmX12_next]; omega⟩ ⟨Nat.zero_le _, Nat.zero_le _⟩ (Nat.le_of_ble_eq_true rfl) dX12_not_87 rfl rfl ?_
  refine a_aload_n hX dX12_not_90 rfl 1 rfl rfl ?_
  obtain ⟨x13, u14, hg13, hf⟩ := cl2_some hf
  refine a_cVsi (q0 := 0) (rest := []) hX hE (hR.2.2.2.1  _ _ hg13) K_X12_309 ⟨rfl, rfl⟩ (rmGM_s nn (by decide)) ⟨Nat.zero_le _, Nat.zero_le _⟩ (Nat.le_of_ble_eq_true rfl) dX12_not_91 rfl rfl ?_
  refine a_istore_n (lv' := [(3, .int x13), (2, .int s0), (0, .ref (q 0)), (1, .int v1)]) hX dX12_not_94 rfl (by decide) rfl rfl ?_
  refine a_iload_n hX dX12_not_95 rfl 1 rfl rfl ?_
  refine a_if_eq (tgt := 107) hX dX12_not_96 rfl rfl hf (fun hf => ?_) (fun hf => ?_)
  · refine a_iload_n hX dX12_not_107 rfl 3 rfl rfl ?_
    refine a_iload_n hX dX12_not_108 rfl 0 rfl rfl ?_
    refine a_icmp_ne (tgt := 116) hX dX12_not_109 rfl rfl hf (fun hf => ?_) (fun hf => ?_)
    · refine a_iconst (v := 0) hX dX12_not_116 (by decide) rfl ?_
      exact a_iret hX hT hF (r_iS (wf := (wM V q)) hf) dX12_not_117
    · refine a_lv (lv' := []) [] rfl ?_
      exact wX12_not_b112 h hE hR hf
  · refine a_iload_n hX dX12_not_99 rfl 3 rfl rfl ?_
    refine a_iload_n hX dX12_not_100 rfl 0 rfl rfl ?_
    refine a_icmp_ge (tgt := 116) hX dX12_not_101 rfl rfl hf (fun hf => ?_) (fun hf => ?_)
    · refine a_iconst (v := 0) hX dX12_not_116 (by decide) rfl ?_
      exact a_iret hX hT hF (r_iS (wf := (wM V q)) hf) dX12_not_117
    · refine a_goto (pc' := 112) hX dX12_not_104 rfl ?_
      refine a_lv (lv' := []) [] rfl ?_
      exact wX12_not_b112 h hE hR hf
def fX12_not_b69 (R : Nat → St → Option (Int32 × St))  (u : St) (v1 : Int32) : Option (Int32 × St) := if gY u 30 = 60 then fX12_not_b85 R u v1 1 else (fX12_not_b85 R u v1 0)
theorem wX12_not_b69 {R : Nat → St → Option (Int32 × St)} {nn : Nat} {X : Cx} {V : Vx} {q : Nat → Nat} {res : Int32 × St} (h : Run X cX12_not 4 RX12 (rmGM (nn + 1)) V (some .int) (rEq (some (.int res.1)) (wM V q res.2))) (hE : ZOK (vZ V)) (hR : GMok V q nn R) {u : St} {v1 : Int32} (hf : fX12_not_b69 R  u v1 = some res) : At X 4 0 0 (wM V q u) 69 [(0, .ref (q 0)), (1, .int v1)] [] := by
  obtain ⟨hX, hT, hF⟩ := id h
  unfold fX12_not_b69 at hf
  refine a_aload_n hX dX12_not_69 rfl 0 rfl rfl ?_
  refine gX12_30 hX F_X12_227 dX12_not_70 rfl ?_
  refine a_ldc2 hX dX12_not_73 N_X12_312 rfl ?_
  refine a_lcmp_ne (tgt := 84) hX dX12_not_76 rfl dX12_not_77 rfl rfl hf (fun hf => ?_) (fun hf => ?_)
  · refine a_iconst (v := 0) hX dX12_not_84 (by decide) rfl ?_
    exact wX12_not_b85 h hE hR hf
  · refine a_iconst (v := 1) hX dX12_not_80 (by decide) rfl ?_
    refine a_goto (pc' := 85) hX dX12_not_81 rfl ?_
    exact wX12_not_b85 h hE hR hf
def fX12_not (R : Nat → St → Option (Int32 × St)) (u : St) : Option (Int32 × St) := cl1 (fX12_isWord u 10631) (fun x1 => if x1 = 0 then cl2 (R 3 u) (fun x2 u3 => cl1 (fX12_isSign u3 60) (fun x4 => if x4 = 0 then cl1 (fX12_isSign u3 61) (fun x5 => if x5 = 0 then some (x2, u3) else (fX12_not_b69 R u3 x2)) else (fX12_not_b69 R u3 x2))) else (cl2 (fX12_opens u) (fun x6 u7 => if x6 = 0 then some (0, u7) else (cl2 (R 2 u7) (fun x8 u9 => nmS (setZ u9 32 ((gZ u9 32) - 1)) (fun u10 => if x8 = 0 then some (1, u10) else (some (0, u10))))))))
theorem wX12_not {R : Nat → St → Option (Int32 × St)} {nn : Nat} {X : Cx} {V : Vx} {q : Nat → Nat} {res : Int32 × St} (h : Run X cX12_not 4 RX12 (rmGM (nn + 1)) V (some .int) (rEq (some (.int res.1)) (wM V q res.2))) (hE : ZOK (vZ V)) (hR : GMok V q nn R) {u : St} (hf : fX12_not R u = some res) : At X 4 0 0 (wM V q u) 0 [(0, .ref (q 0))] [] := by
  obtain ⟨hX, hT, hF⟩ := id h
  unfold fX12_not at hf
  refine a_aload_n hX dX12_not_0 rfl 0 rfl rfl ?_
  refine a_ldc2 hX dX12_not_1 N_X12_304 rfl ?_
  obtain ⟨x1, hg1, hf⟩ := cl1_some hf
  refine a_cVsi (q0 := 0) (rest := []) hX hE (ctX12_isWord (q := q) hE hg1) K_X12_259 ⟨rfl, rfl⟩ ⟨rfl, rfl, by simp only [rmGM, rmX12_isWord]; omega, by simp only [rmGM, rmX12_isWord]; omega⟩ ⟨Nat.zero_le _, Nat.zero_le _⟩ (Nat.le_of_ble_eq_true rfl) dX12_not_4 rfl rfl ?_
  refine a_if_eq (tgt := 44) hX dX12_not_7 rfl rfl hf (fun hf => ?_) (fun hf => ?_)
  · refine a_aload_n hX dX12_not_44 rfl 0 rfl rfl ?_
    obtain ⟨x2, u3, hg2, hf⟩ := cl2_some hf
    refine a_cVsi (q0 := 0) (rest := []) hX hE (hR.2.2.2.1  _ _ hg2) K_X12_309 ⟨rfl, rfl⟩ (rmGM_s nn (by decide)) ⟨Nat.zero_le _, Nat.zero_le _⟩ (Nat.le_of_ble_eq_true rfl) dX12_not_45 rfl rfl ?_
    refine a_istore_n (lv' := [(1, .int x2), (0, .ref (q 0))]) hX dX12_not_48 rfl (by decide) rfl rfl ?_
    refine a_aload_n hX dX12_not_49 rfl 1 rfl rfl ?_
    refine a_bipush (v := 60) hX dX12_not_50 (by decide) rfl ?_
    obtain ⟨x4, hg4, hf⟩ := cl1_some hf
    refine a_cVsi (q0 := 0) (rest := []) hX hE (ctX12_isSign (q := q) hE hg4) K_X12_282 ⟨rfl, rfl⟩ ⟨rfl, rfl, by simp only [rmGM, rmX12_isSign]; omega, by simp only [rmGM, rmX12_isSign]; omega⟩ ⟨Nat.zero_le _, Nat.zero_le _⟩ (Nat.le_of_ble_eq_true rfl) dX12_not_52 rfl rfl ?_
    refine a_if_ne (tgt := 69) hX dX12_not_55 rfl rfl hf (fun hf => ?_) (fun hf => ?_)
    · refine a_lv (lv' := [(0, .ref (q 0)), (1, .int x2)]) [1, 0] rfl ?_
      exact wX12_not_b69 h hE hR hf
    · refine a_aload_n hX dX12_not_58 rfl 1 rfl rfl ?_
      refine a_bipush (v := 61) hX dX12_not_59 (by decide) rfl ?_
      obtain ⟨x5, hg5, hf⟩ := cl1_some hf
      refine a_cVsi (q0 := 0) (rest := []) hX hE (ctX12_isSign (q := q) hE hg5) K_X12_282 ⟨rfl, rfl⟩ ⟨rfl, rfl, by simp only [rmGM, rmX12_isSign]; omega, by simp only [rmGM, rmX12_isSign]; omega⟩ ⟨Nat.zero_le _, Nat.zero_le _⟩ (Nat.le_of_ble_eq_true rfl) dX12_not_61 rfl rfl ?_
      refine a_if_ne (tgt := 69) hX dX12_not_64 rfl rfl hf (fun hf => ?_) (fun hf => ?_)
      · refine a_lv (lv' := [(0, .ref (q 0)), (1, .int x2)]) [1, 0] rfl ?_
        exact wX12_not_b69 h hE hR hf
      · refine a_iload_n hX dX12_not_67 rfl 0 rfl rfl ?_
        exact a_iret hX hT hF (r_iS (wf := (wM V q)) hf) dX12_not_68
  · refine a_aload_n hX dX12_not_10 rfl 0 rfl rfl ?_
    obtain ⟨x6, u7, hg6, hf⟩ := cl2_some hf
    refine a_cVsi (q0 := 0) (rest := []) hX hE (ctX12_opens (q := q) hE hg6) K_X12_285 ⟨rfl, rfl⟩ ⟨rfl, rfl, by simp only [rmGM, rmX12_opens]; omega, by simp only [rmGM, rmX12_opens]; omega⟩ ⟨Nat.zero_le _, Nat.zero_le _⟩ (Nat.le_of_ble_eq_true rfl) dX12_not_11 rfl rfl ?_
    refine a_if_ne (tgt := 19) hX dX12_not_14 rfl rfl hf (fun hf => ?_) (fun hf => ?_)
    · refine a_aload_n hX dX12_not_19 rfl 0 rfl rfl ?_
      obtain ⟨x8, u9, hg8, hf⟩ := cl2_some hf
      refine a_cVsi (q0 := 0) (rest := []) hX hE (hR.2.2.1  _ _ hg8) K_X12_306 ⟨rfl, rfl⟩ (rmGM_s nn (by decide)) ⟨Nat.zero_le _, Nat.zero_le _⟩ (Nat.le_of_ble_eq_true rfl) dX12_not_20 rfl rfl ?_
      refine a_istore_n (lv' := [(1, .int x8), (0, .ref (q 0))]) hX dX12_not_23 rfl (by decide) rfl rfl ?_
      refine a_aload_n hX dX12_not_24 rfl 1 rfl rfl ?_
      refine a_dup hX dX12_not_25 rfl rfl ?_
      refine gX12_32 hX F_X12_248 dX12_not_26 rfl ?_
      refine a_iconst (v := 1) hX dX12_not_29 (by decide) rfl ?_
      refine a_isub hX dX12_not_30 rfl ?_
      refine pX12_32 hX F_X12_248 dX12_not_31 rfl hf (fun u10 hf => ?_)
      refine a_iload_n hX dX12_not_34 rfl 0 rfl rfl ?_
      refine a_if_ne (tgt := 42) hX dX12_not_35 rfl rfl hf (fun hf => ?_) (fun hf => ?_)
      · refine a_iconst (v := 0) hX dX12_not_42 (by decide) rfl ?_
        exact a_iret hX hT hF (r_iS (wf := (wM V q)) hf) dX12_not_43
      · refine a_iconst (v := 1) hX dX12_not_38 (by decide) rfl ?_
        refine a_goto (pc' := 43) hX dX12_not_39 rfl ?_
        exact a_iret hX hT hF (r_iS (wf := (wM V q)) hf) dX12_not_43
    · refine a_iconst (v := 0) hX dX12_not_17 (by decide) rfl ?_
      exact a_iret hX hT hF (r_iS (wf := (wM V q)) hf) dX12_not_18
def fX12_added_b62 (R : Nat → St → Option (Int32 × St)) (k5 : St → Int32 → Option (Int32 × St)) (u : St) (s0 : Int32) : Option (Int32 × St) := k5 u s0
theorem wX12_added_b62 {R : Nat → St → Option (Int32 × St)} {nn : Nat} {X : Cx} {V : Vx} {q : Nat → Nat} {res : Int32 × St} (h : Run X cX12_added 4 RX12 (rmGM (nn + 1)) V (some .int) (rEq (some (.int res.1)) (wM V q res.2))) (hE : ZOK (vZ V)) (hR : GMok V q nn R) {u : St} {s0 : Int32} {k5 : St → Int32 → Option (Int32 × St)} (hk5 : ∀ (u : St) (v1 : Int32), k5 u v1 = some res → At X 4 0 0 (wM V q u) 5 [(0, .ref (q 0)), (1, .int v1)] []) (hf : fX12_added_b62 R k5 u s0 = some res) : At X 4 0 0 (wM V q u) 62 [(0, .ref (q 0))] [.int s0] := by
  obtain ⟨hX, hT, hF⟩ := id h
  unfold fX12_added_b62 at hf
  refine a_istore_n (lv' := [(1, .int s0), (0, .ref (q 0))]) hX dX12_added_62 rfl (by decide) rfl rfl ?_
  refine a_goto (pc' := 5) hX dX12_added_63 rfl ?_
  refine a_lv (lv' := [(0, .ref (q 0)), (1, .int s0)]) [1, 0] rfl ?_
  exact hk5 u s0 hf
def fX12_added_b39 (R : Nat → St → Option (Int32 × St)) (k5 : St → Int32 → Option (Int32 × St)) (u : St) (v1 : Int32) (s0 : Int32) : Option (Int32 × St) := cl1 (fX12_next u) (fun u6 => cl2 (R 4 u6) (fun x7 u8 => if s0 = 0 then fX12_added_b62 R k5 u8 (v1 - x7) else (fX12_added_b62 R k5 u8 (v1 + x7))))
theorem wX12_added_b39 {R : Nat → St → Option (Int32 × St)} {nn : Nat} {X : Cx} {V : Vx} {q : Nat → Nat} {res : Int32 × St} (h : Run X cX12_added 4 RX12 (rmGM (nn + 1)) V (some .int) (rEq (some (.int res.1)) (wM V q res.2))) (hE : ZOK (vZ V)) (hR : GMok V q nn R) {u : St} {v1 : Int32} {s0 : Int32} {k5 : St → Int32 → Option (Int32 × St)} (hk5 : ∀ (u : St) (v1 : Int32), k5 u v1 = some res → At X 4 0 0 (wM V q u) 5 [(0, .ref (q 0)), (1, .int v1)] []) (hf : fX12_added_b39 R k5 u v1 s0 = some res) : At X 4 0 0 (wM V q u) 39 [(0, .ref (q 0)), (1, .int v1)] [.int s0] := by
  obtain ⟨hX, hT, hF⟩ := id h
  unfold fX12_added_b39 at hf
  refine a_istore_n (lv' := [(2, .int s0), (0, .ref (q 0)), (1, .int v1)]) hX dX12_added_39 rfl (by decide) rfl rfl ?_
  refine a_aload_n hX dX12_added_40 rfl 1 rfl rfl ?_
  obtain ⟨u6, hg5, hf⟩ := cl1_some hf
  refine a_cVsv (q0 := 0) (rest := []) hX hE (ctX12_next (q := q) hE hg5) K_X12_254 ⟨rfl, rfl⟩ ⟨rfl, rfl, by simp only [rmGM, rmX12_next]; omega, by simp only [rmGM, rmX12_next]; omega⟩ ⟨Nat.zero_le _, Nat.zero_le _⟩ (Nat.le_of_ble_eq_true rfl) dX12_added_41 rfl rfl ?_
  refine a_aload_n hX dX12_added_44 rfl 1 rfl rfl ?_
  obtain ⟨x7, u8, hg7, hf⟩ := cl2_some hf
  refine a_cVsi (q0 := 0) (rest := []) hX hE (hR.2.2.2.2.1  _ _ hg7) K_X12_299 ⟨rfl, rfl⟩ (rmGM_s nn (by decide)) ⟨Nat.zero_le _, Nat.zero_le _⟩ (Nat.le_of_ble_eq_true rfl) dX12_added_45 rfl rfl ?_
  refine a_istore_n (lv' := [(3, .int x7), (2, .int s0), (0, .ref (q 0)), (1, .int v1)]) hX dX12_added_48 rfl (by decide) rfl rfl ?_
  refine a_iload_n hX dX12_added_49 rfl 1 rfl rfl ?_
  refine a_if_eq (tgt := 59) hX dX12_added_50 rfl rfl hf (fun hf => ?_) (fun hf => ?_)
  · refine a_iload_n hX dX12_added_59 rfl 3 rfl rfl ?_
    refine a_iload_n hX dX12_added_60 rfl 0 rfl rfl ?_
    refine a_isub hX dX12_added_61 rfl ?_
    refine a_lv (lv' := [(0, .ref (q 0))]) [2] rfl ?_
    exact wX12_added_b62 h hE hR hk5 hf
  · refine a_iload_n hX dX12_added_53 rfl 3 rfl rfl ?_
    refine a_iload_n hX dX12_added_54 rfl 0 rfl rfl ?_
    refine a_iadd hX dX12_added_55 rfl ?_
    refine a_goto (pc' := 62) hX dX12_added_56 rfl ?_
    refine a_lv (lv' := [(0, .ref (q 0))]) [2] rfl ?_
    exact wX12_added_b62 h hE hR hk5 hf
def fX12_added_b23 (R : Nat → St → Option (Int32 × St)) (k5 : St → Int32 → Option (Int32 × St)) (u : St) (v1 : Int32) : Option (Int32 × St) := if gY u 30 = 43 then fX12_added_b39 R k5 u v1 1 else (fX12_added_b39 R k5 u v1 0)
theorem wX12_added_b23 {R : Nat → St → Option (Int32 × St)} {nn : Nat} {X : Cx} {V : Vx} {q : Nat → Nat} {res : Int32 × St} (h : Run X cX12_added 4 RX12 (rmGM (nn + 1)) V (some .int) (rEq (some (.int res.1)) (wM V q res.2))) (hE : ZOK (vZ V)) (hR : GMok V q nn R) {u : St} {v1 : Int32} {k5 : St → Int32 → Option (Int32 × St)} (hk5 : ∀ (u : St) (v1 : Int32), k5 u v1 = some res → At X 4 0 0 (wM V q u) 5 [(0, .ref (q 0)), (1, .int v1)] []) (hf : fX12_added_b23 R k5 u v1 = some res) : At X 4 0 0 (wM V q u) 23 [(0, .ref (q 0)), (1, .int v1)] [] := by
  obtain ⟨hX, hT, hF⟩ := id h
  unfold fX12_added_b23 at hf
  refine a_aload_n hX dX12_added_23 rfl 0 rfl rfl ?_
  refine gX12_30 hX F_X12_227 dX12_added_24 rfl ?_
  refine a_ldc2 hX dX12_added_27 N_X12_302 rfl ?_
  refine a_lcmp_ne (tgt := 38) hX dX12_added_30 rfl dX12_added_31 rfl rfl hf (fun hf => ?_) (fun hf => ?_)
  · refine a_iconst (v := 0) hX dX12_added_38 (by decide) rfl ?_
    exact wX12_added_b39 h hE hR hk5 hf
  · refine a_iconst (v := 1) hX dX12_added_34 (by decide) rfl ?_
    refine a_goto (pc' := 39) hX dX12_added_35 rfl ?_
    exact wX12_added_b39 h hE hR hk5 hf
def fX12_added_l5b (R : Nat → St → Option (Int32 × St)) (k5 : St → Int32 → Option (Int32 × St)) (u : St) (v1 : Int32) : Option (Int32 × St) := cl1 (fX12_isSign u 43) (fun x3 => if x3 = 0 then cl1 (fX12_isSign u 45) (fun x4 => if x4 = 0 then some (v1, u) else (fX12_added_b23 R k5 u v1)) else (fX12_added_b23 R k5 u v1))
theorem wX12_added_l5b {R : Nat → St → Option (Int32 × St)} {nn : Nat} {X : Cx} {V : Vx} {q : Nat → Nat} {res : Int32 × St} (h : Run X cX12_added 4 RX12 (rmGM (nn + 1)) V (some .int) (rEq (some (.int res.1)) (wM V q res.2))) (hE : ZOK (vZ V)) (hR : GMok V q nn R) {u : St} {v1 : Int32} {k5 : St → Int32 → Option (Int32 × St)} (hk5 : ∀ (u : St) (v1 : Int32), k5 u v1 = some res → At X 4 0 0 (wM V q u) 5 [(0, .ref (q 0)), (1, .int v1)] []) (hf : fX12_added_l5b R k5 u v1 = some res) : At X 4 0 0 (wM V q u) 5 [(0, .ref (q 0)), (1, .int v1)] [] := by
  obtain ⟨hX, hT, hF⟩ := id h
  unfold fX12_added_l5b at hf
  refine a_aload_n hX dX12_added_5 rfl 0 rfl rfl ?_
  refine a_bipush (v := 43) hX dX12_added_6 (by decide) rfl ?_
  obtain ⟨x3, hg3, hf⟩ := cl1_some hf
  refine a_cVsi (q0 := 0) (rest := []) hX hE (ctX12_isSign (q := q) hE hg3) K_X12_282 ⟨rfl, rfl⟩ ⟨rfl, rfl, by simp only [rmGM, rmX12_isSign]; omega, by simp only [rmGM, rmX12_isSign]; omega⟩ ⟨Nat.zero_le _, Nat.zero_le _⟩ (Nat.le_of_ble_eq_true rfl) dX12_added_8 rfl rfl ?_
  refine a_if_ne (tgt := 23) hX dX12_added_11 rfl rfl hf (fun hf => ?_) (fun hf => ?_)
  · exact wX12_added_b23 h hE hR hk5 hf
  · refine a_aload_n hX dX12_added_14 rfl 0 rfl rfl ?_
    refine a_bipush (v := 45) hX dX12_added_15 (by decide) rfl ?_
    obtain ⟨x4, hg4, hf⟩ := cl1_some hf
    refine a_cVsi (q0 := 0) (rest := []) hX hE (ctX12_isSign (q := q) hE hg4) K_X12_282 ⟨rfl, rfl⟩ ⟨rfl, rfl, by simp only [rmGM, rmX12_isSign]; omega, by simp only [rmGM, rmX12_isSign]; omega⟩ ⟨Nat.zero_le _, Nat.zero_le _⟩ (Nat.le_of_ble_eq_true rfl) dX12_added_17 rfl rfl ?_
    refine a_if_eq (tgt := 66) hX dX12_added_20 rfl rfl hf (fun hf => ?_) (fun hf => ?_)
    · refine a_iload_n hX dX12_added_66 rfl 1 rfl rfl ?_
      exact a_iret hX hT hF (r_iS (wf := (wM V q)) hf) dX12_added_67
    · exact wX12_added_b23 h hE hR hk5 hf
def fX12_added_l5 (R : Nat → St → Option (Int32 × St))   : Nat → St → Int32 → Option (Int32 × St)
  | 0, _, _ => none
  | m + 1, u, v1 => fX12_added_l5b R (fX12_added_l5 R   m) u v1
theorem wX12_added_l5 {R : Nat → St → Option (Int32 × St)} {nn : Nat} {X : Cx} {V : Vx} {q : Nat → Nat} {res : Int32 × St} (h : Run X cX12_added 4 RX12 (rmGM (nn + 1)) V (some .int) (rEq (some (.int res.1)) (wM V q res.2))) (hE : ZOK (vZ V)) (hR : GMok V q nn R)  : ∀ (m : Nat) (u : St) (v1 : Int32), fX12_added_l5 R   m u v1 = some res → At X 4 0 0 (wM V q u) 5 [(0, .ref (q 0)), (1, .int v1)] [] := by
  intro m
  induction m with
  | zero => intro u v1 hf; cases hf
  | succ m ih => intro u v1 hf; exact wX12_added_l5b h hE hR ih hf
def fX12_added (R : Nat → St → Option (Int32 × St)) (u : St) : Option (Int32 × St) := cl2 (R 4 u) (fun x1 u2 => fX12_added_l5 R NF u2 x1)
theorem wX12_added {R : Nat → St → Option (Int32 × St)} {nn : Nat} {X : Cx} {V : Vx} {q : Nat → Nat} {res : Int32 × St} (h : Run X cX12_added 4 RX12 (rmGM (nn + 1)) V (some .int) (rEq (some (.int res.1)) (wM V q res.2))) (hE : ZOK (vZ V)) (hR : GMok V q nn R) {u : St} (hf : fX12_added R u = some res) : At X 4 0 0 (wM V q u) 0 [(0, .ref (q 0))] [] := by
  obtain ⟨hX, hT, hF⟩ := id h
  unfold fX12_added at hf
  refine a_aload_n hX dX12_added_0 rfl 0 rfl rfl ?_
  obtain ⟨x1, u2, hg1, hf⟩ := cl2_some hf
  refine a_cVsi (q0 := 0) (rest := []) hX hE (hR.2.2.2.2.1  _ _ hg1) K_X12_299 ⟨rfl, rfl⟩ (rmGM_s nn (by decide)) ⟨Nat.zero_le _, Nat.zero_le _⟩ (Nat.le_of_ble_eq_true rfl) dX12_added_1 rfl rfl ?_
  refine a_istore_n (lv' := [(1, .int x1), (0, .ref (q 0))]) hX dX12_added_4 rfl (by decide) rfl rfl ?_
  refine a_lv (lv' := [(0, .ref (q 0)), (1, .int x1)]) [1, 0] rfl ?_
  exact wX12_added_l5 h hE hR NF u2 x1 hf
def fX12_term_l5b (R : Nat → St → Option (Int32 × St)) (k5 : St → Int32 → Option (Int32 × St)) (u : St) (v1 : Int32) : Option (Int32 × St) := cl1 (fX12_isSign u 42) (fun x3 => if x3 = 0 then some (v1, u) else (cl1 (fX12_next u) (fun u5 => cl2 (R 5 u5) (fun x6 u7 => nmI (v1 * x6) (fun x8 => k5 u7 x8)))))
theorem wX12_term_l5b {R : Nat → St → Option (Int32 × St)} {nn : Nat} {X : Cx} {V : Vx} {q : Nat → Nat} {res : Int32 × St} (h : Run X cX12_term 2 RX12 (rmGM (nn + 1)) V (some .int) (rEq (some (.int res.1)) (wM V q res.2))) (hE : ZOK (vZ V)) (hR : GMok V q nn R) {u : St} {v1 : Int32} {k5 : St → Int32 → Option (Int32 × St)} (hk5 : ∀ (u : St) (v1 : Int32), k5 u v1 = some res → At X 2 0 0 (wM V q u) 5 [(0, .ref (q 0)), (1, .int v1)] []) (hf : fX12_term_l5b R k5 u v1 = some res) : At X 2 0 0 (wM V q u) 5 [(0, .ref (q 0)), (1, .int v1)] [] := by
  obtain ⟨hX, hT, hF⟩ := id h
  unfold fX12_term_l5b at hf
  refine a_aload_n hX dX12_term_5 rfl 0 rfl rfl ?_
  refine a_bipush (v := 42) hX dX12_term_6 (by decide) rfl ?_
  obtain ⟨x3, hg3, hf⟩ := cl1_some hf
  refine a_cVsi (q0 := 0) (rest := []) hX hE (ctX12_isSign (q := q) hE hg3) K_X12_282 ⟨rfl, rfl⟩ ⟨rfl, rfl, by simp only [rmGM, rmX12_isSign]; omega, by simp only [rmGM, rmX12_isSign]; omega⟩ ⟨Nat.zero_le _, Nat.zero_le _⟩ (Nat.le_of_ble_eq_true rfl) dX12_term_8 rfl rfl ?_
  refine a_if_eq (tgt := 28) hX dX12_term_11 rfl rfl hf (fun hf => ?_) (fun hf => ?_)
  · refine a_iload_n hX dX12_term_28 rfl 1 rfl rfl ?_
    exact a_iret hX hT hF (r_iS (wf := (wM V q)) hf) dX12_term_29
  · refine a_aload_n hX dX12_term_14 rfl 0 rfl rfl ?_
    obtain ⟨u5, hg4, hf⟩ := cl1_some hf
    refine a_cVsv (q0 := 0) (rest := []) hX hE (ctX12_next (q := q) hE hg4) K_X12_254 ⟨rfl, rfl⟩ ⟨rfl, rfl, by simp only [rmGM, rmX12_next]; omega, by simp only [rmGM, rmX12_next]; omega⟩ ⟨Nat.zero_le _, Nat.zero_le _⟩ (Nat.le_of_ble_eq_true rfl) dX12_term_15 rfl rfl ?_
    refine a_iload_n hX dX12_term_18 rfl 1 rfl rfl ?_
    refine a_aload_n hX dX12_term_19 rfl 0 rfl rfl ?_
    obtain ⟨x6, u7, hg6, hf⟩ := cl2_some hf
    refine a_cVsi (q0 := 0) (rest := [.int v1]) hX hE (hR.2.2.2.2.2  _ _ hg6) K_X12_289 ⟨rfl, rfl⟩ (rmGM_s nn (by decide)) ⟨Nat.zero_le _, Nat.zero_le _⟩ (Nat.le_of_ble_eq_true rfl) dX12_term_20 rfl rfl ?_
    refine a_imul hX dX12_term_23 rfl ?_
    refine a_nmI hf (fun x8 hf => ?_)
    refine a_istore_n (lv' := [(1, .int x8), (0, .ref (q 0))]) hX dX12_term_24 rfl (by decide) rfl rfl ?_
    refine a_goto (pc' := 5) hX dX12_term_25 rfl ?_
    refine a_lv (lv' := [(0, .ref (q 0)), (1, .int x8)]) [1, 0] rfl ?_
    exact hk5 u7 x8 hf
def fX12_term_l5 (R : Nat → St → Option (Int32 × St))   : Nat → St → Int32 → Option (Int32 × St)
  | 0, _, _ => none
  | m + 1, u, v1 => fX12_term_l5b R (fX12_term_l5 R   m) u v1
theorem wX12_term_l5 {R : Nat → St → Option (Int32 × St)} {nn : Nat} {X : Cx} {V : Vx} {q : Nat → Nat} {res : Int32 × St} (h : Run X cX12_term 2 RX12 (rmGM (nn + 1)) V (some .int) (rEq (some (.int res.1)) (wM V q res.2))) (hE : ZOK (vZ V)) (hR : GMok V q nn R)  : ∀ (m : Nat) (u : St) (v1 : Int32), fX12_term_l5 R   m u v1 = some res → At X 2 0 0 (wM V q u) 5 [(0, .ref (q 0)), (1, .int v1)] [] := by
  intro m
  induction m with
  | zero => intro u v1 hf; cases hf
  | succ m ih => intro u v1 hf; exact wX12_term_l5b h hE hR ih hf
def fX12_term (R : Nat → St → Option (Int32 × St)) (u : St) : Option (Int32 × St) := cl2 (R 5 u) (fun x1 u2 => fX12_term_l5 R NF u2 x1)
theorem wX12_term {R : Nat → St → Option (Int32 × St)} {nn : Nat} {X : Cx} {V : Vx} {q : Nat → Nat} {res : Int32 × St} (h : Run X cX12_term 2 RX12 (rmGM (nn + 1)) V (some .int) (rEq (some (.int res.1)) (wM V q res.2))) (hE : ZOK (vZ V)) (hR : GMok V q nn R) {u : St} (hf : fX12_term R u = some res) : At X 2 0 0 (wM V q u) 0 [(0, .ref (q 0))] [] := by
  obtain ⟨hX, hT, hF⟩ := id h
  unfold fX12_term at hf
  refine a_aload_n hX dX12_term_0 rfl 0 rfl rfl ?_
  obtain ⟨x1, u2, hg1, hf⟩ := cl2_some hf
  refine a_cVsi (q0 := 0) (rest := []) hX hE (hR.2.2.2.2.2  _ _ hg1) K_X12_289 ⟨rfl, rfl⟩ (rmGM_s nn (by decide)) ⟨Nat.zero_le _, Nat.zero_le _⟩ (Nat.le_of_ble_eq_true rfl) dX12_term_1 rfl rfl ?_
  refine a_istore_n (lv' := [(1, .int x1), (0, .ref (q 0))]) hX dX12_term_4 rfl (by decide) rfl rfl ?_
  refine a_lv (lv' := [(0, .ref (q 0)), (1, .int x1)]) [1, 0] rfl ?_
  exact wX12_term_l5 h hE hR NF u2 x1 hf
def fX12_one_b71 (R : Nat → St → Option (Int32 × St))  (u : St) (v1 : Int32) : Option (Int32 × St) := nmS (setZ u 32 ((gZ u 32) - 1)) (fun u19 => if gZ u19 33 = 0 then cl1 (fX12_next u19) (fun u21 => some (v1, u21)) else (some (v1, u19)))
theorem wX12_one_b71 {R : Nat → St → Option (Int32 × St)} {nn : Nat} {X : Cx} {V : Vx} {q : Nat → Nat} {res : Int32 × St} (h : Run X cX12_one 2 RX12 (rmGM (nn + 1)) V (some .int) (rEq (some (.int res.1)) (wM V q res.2))) (hE : ZOK (vZ V)) (hR : GMok V q nn R) {u : St} {v1 : Int32} (hf : fX12_one_b71 R  u v1 = some res) : At X 2 0 0 (wM V q u) 71 [(0, .ref (q 0)), (1, .int v1)] [] := by
  obtain ⟨hX, hT, hF⟩ := id h
  unfold fX12_one_b71 at hf
  refine a_aload_n hX dX12_one_71 rfl 0 rfl rfl ?_
  refine a_dup hX dX12_one_72 rfl rfl ?_
  refine gX12_32 hX F_X12_248 dX12_one_73 rfl ?_
  refine a_iconst (v := 1) hX dX12_one_76 (by decide) rfl ?_
  refine a_isub hX dX12_one_77 rfl ?_
  refine pX12_32 hX F_X12_248 dX12_one_78 rfl hf (fun u19 hf => ?_)
  refine a_aload_n hX dX12_one_81 rfl 0 rfl rfl ?_
  refine gX12_33 hX F_X12_241 dX12_one_82 rfl ?_
  refine a_if_ne (tgt := 161) hX dX12_one_85 rfl rfl hf (fun hf => ?_) (fun hf => ?_)
  · refine a_iload_n hX dX12_one_161 rfl 1 rfl rfl ?_
    exact a_iret hX hT hF (r_iS (wf := (wM V q)) hf) dX12_one_162
  · refine a_aload_n hX dX12_one_88 rfl 0 rfl rfl ?_
    obtain ⟨u21, hg20, hf⟩ := cl1_some hf
    refine a_cVsv (q0 := 0) (rest := []) hX hE (ctX12_next (q := q) hE hg20) K_X12_254 ⟨rfl, rfl⟩ ⟨rfl, rfl, by simp only [rmGM, rmX12_next]; omega, by simp only [rmGM, rmX12_next]; omega⟩ ⟨Nat.zero_le _, Nat.zero_le _⟩ (Nat.le_of_ble_eq_true rfl) dX12_one_89 rfl rfl ?_
    refine a_goto (pc' := 161) hX dX12_one_92 rfl ?_
    refine a_iload_n hX dX12_one_161 rfl 1 rfl rfl ?_
    exact a_iret hX hT hF (r_iS (wf := (wM V q)) hf) dX12_one_162
def fX12_one_b157 (R : Nat → St → Option (Int32 × St))  (u : St) (v1 : Int32) : Option (Int32 × St) := cl1 (fX12_fail u) (fun u27 => some (v1, u27))
theorem wX12_one_b157 {R : Nat → St → Option (Int32 × St)} {nn : Nat} {X : Cx} {V : Vx} {q : Nat → Nat} {res : Int32 × St} (h : Run X cX12_one 2 RX12 (rmGM (nn + 1)) V (some .int) (rEq (some (.int res.1)) (wM V q res.2))) (hE : ZOK (vZ V)) (hR : GMok V q nn R) {u : St} {v1 : Int32} (hf : fX12_one_b157 R  u v1 = some res) : At X 2 0 0 (wM V q u) 157 [(0, .ref (q 0)), (1, .int v1)] [] := by
  obtain ⟨hX, hT, hF⟩ := id h
  unfold fX12_one_b157 at hf
  refine a_aload_n hX dX12_one_157 rfl 0 rfl rfl ?_
  obtain ⟨u27, hg26, hf⟩ := cl1_some hf
  refine a_cVsv (q0 := 0) (rest := []) hX hE (ctX12_fail (q := q) hE hg26) K_X12_251 ⟨rfl, rfl⟩ ⟨rfl, rfl, by simp only [rmGM, rmX12_fail]; omega, by simp only [rmGM, rmX12_fail]; omega⟩ ⟨Nat.zero_le _, Nat.zero_le _⟩ (Nat.le_of_ble_eq_true rfl) dX12_one_158 rfl rfl ?_
  refine a_iload_n hX dX12_one_161 rfl 1 rfl rfl ?_
  exact a_iret hX hT hF (r_iS (wf := (wM V q)) hf) dX12_one_162
def fX12_one_b123 (R : Nat → St → Option (Int32 × St))  (u : St) (v1 : Int32) : Option (Int32 × St) := if gZ u 33 = 0 then if gZ u 28 = 1 then cl2 (fX12_name u) (fun x22 u23 => if gZ u23 33 = 0 then cl1 (fX12_next u23) (fun u25 => some (x22, u25)) else (some (x22, u23))) else (fX12_one_b157 R u v1) else (fX12_one_b157 R u v1)
theorem wX12_one_b123 {R : Nat → St → Option (Int32 × St)} {nn : Nat} {X : Cx} {V : Vx} {q : Nat → Nat} {res : Int32 × St} (h : Run X cX12_one 2 RX12 (rmGM (nn + 1)) V (some .int) (rEq (some (.int res.1)) (wM V q res.2))) (hE : ZOK (vZ V)) (hR : GMok V q nn R) {u : St} {v1 : Int32} (hf : fX12_one_b123 R  u v1 = some res) : At X 2 0 0 (wM V q u) 123 [(0, .ref (q 0)), (1, .int v1)] [] := by
  obtain ⟨hX, hT, hF⟩ := id h
  unfold fX12_one_b123 at hf
  refine a_aload_n hX dX12_one_123 rfl 0 rfl rfl ?_
  refine gX12_33 hX F_X12_241 dX12_one_124 rfl ?_
  refine a_if_ne (tgt := 157) hX dX12_one_127 rfl rfl hf (fun hf => ?_) (fun hf => ?_)
  · exact wX12_one_b157 h hE hR hf
  · refine a_aload_n hX dX12_one_130 rfl 0 rfl rfl ?_
    refine gX12_28 hX F_X12_224 dX12_one_131 rfl ?_
    refine a_iconst (v := 1) hX dX12_one_134 (by decide) rfl ?_
    refine a_icmp_ne (tgt := 157) hX dX12_one_135 rfl rfl hf (fun hf => ?_) (fun hf => ?_)
    · exact wX12_one_b157 h hE hR hf
    · refine a_aload_n hX dX12_one_138 rfl 0 rfl rfl ?_
      obtain ⟨x22, u23, hg22, hf⟩ := cl2_some hf
      refine a_cVsi (q0 := 0) (rest := []) hX hE (ctX12_name (q := q) hE hg22) K_X12_296 ⟨rfl, rfl⟩ ⟨rfl, rfl, by simp only [rmGM, rmX12_name]; omega, by simp only [rmGM, rmX12_name]; omega⟩ ⟨Nat.zero_le _, Nat.zero_le _⟩ (Nat.le_of_ble_eq_true rfl) dX12_one_139 rfl rfl ?_
      refine a_istore_n (lv' := [(1, .int x22), (0, .ref (q 0))]) hX dX12_one_142 rfl (by decide) rfl rfl ?_
      refine a_aload_n hX dX12_one_143 rfl 1 rfl rfl ?_
      refine gX12_33 hX F_X12_241 dX12_one_144 rfl ?_
      refine a_if_ne (tgt := 161) hX dX12_one_147 rfl rfl hf (fun hf => ?_) (fun hf => ?_)
      · refine a_iload_n hX dX12_one_161 rfl 0 rfl rfl ?_
        exact a_iret hX hT hF (r_iS (wf := (wM V q)) hf) dX12_one_162
      · refine a_aload_n hX dX12_one_150 rfl 1 rfl rfl ?_
        obtain ⟨u25, hg24, hf⟩ := cl1_some hf
        refine a_cVsv (q0 := 0) (rest := []) hX hE (ctX12_next (q := q) hE hg24) K_X12_254 ⟨rfl, rfl⟩ ⟨rfl, rfl, by simp only [rmGM, rmX12_next]; omega, by simp only [rmGM, rmX12_next]; omega⟩ ⟨Nat.zero_le _, Nat.zero_le _⟩ (Nat.le_of_ble_eq_true rfl) dX12_one_151 rfl rfl ?_
        refine a_goto (pc' := 161) hX dX12_one_154 rfl ?_
        refine a_iload_n hX dX12_one_161 rfl 0 rfl rfl ?_
        exact a_iret hX hT hF (r_iS (wf := (wM V q)) hf) dX12_one_162
def fX12_one (R : Nat → St → Option (Int32 × St)) (u : St) : Option (Int32 × St) := cl1 (fX12_isSign u 45) (fun x1 => if x1 = 0 then cl1 (fX12_isSign u 40) (fun x2 => if x2 = 0 then if gZ u 33 = 0 then if gZ u 28 = 2 then nmI (Int64.toInt32 (gY u 30)) (fun x3 => cl1 (fX12_next u) (fun u5 => some (x3, u5))) else (fX12_one_b123 R u 0) else (fX12_one_b123 R u 0) else (cl2 (fX12_opens u) (fun x6 u7 => if x6 = 0 then some (0, u7) else (cl2 (R 0 u7) (fun x8 u9 => cl1 (fX12_isSign u9 41) (fun x10 => if x10 = 0 then cl1 (fX12_fail u9) (fun u12 => fX12_one_b71 R u12 x8) else (fX12_one_b71 R u9 x8))))))) else (cl2 (fX12_opens u) (fun x13 u14 => if x13 = 0 then some (0, u14) else (cl2 (R 5 u14) (fun x15 u16 => nmI (-x15) (fun x17 => nmS (setZ u16 32 ((gZ u16 32) - 1)) (fun u18 => some (x17, u18))))))))
theorem wX12_one {R : Nat → St → Option (Int32 × St)} {nn : Nat} {X : Cx} {V : Vx} {q : Nat → Nat} {res : Int32 × St} (h : Run X cX12_one 2 RX12 (rmGM (nn + 1)) V (some .int) (rEq (some (.int res.1)) (wM V q res.2))) (hE : ZOK (vZ V)) (hR : GMok V q nn R) {u : St} (hf : fX12_one R u = some res) : At X 2 0 0 (wM V q u) 0 [(0, .ref (q 0))] [] := by
  obtain ⟨hX, hT, hF⟩ := id h
  unfold fX12_one at hf
  refine a_iconst (v := 0) hX dX12_one_0 (by decide) rfl ?_
  refine a_istore_n (lv' := [(1, .int 0), (0, .ref (q 0))]) hX dX12_one_1 rfl (by decide) rfl rfl ?_
  refine a_aload_n hX dX12_one_2 rfl 1 rfl rfl ?_
  refine a_bipush (v := 45) hX dX12_one_3 (by decide) rfl ?_
  obtain ⟨x1, hg1, hf⟩ := cl1_some hf
  refine a_cVsi (q0 := 0) (rest := []) hX hE (ctX12_isSign (q := q) hE hg1) K_X12_282 ⟨rfl, rfl⟩ ⟨rfl, rfl, by simp only [rmGM, rmX12_isSign]; omega, by simp only [rmGM, rmX12_isSign]; omega⟩ ⟨Nat.zero_le _, Nat.zero_le _⟩ (Nat.le_of_ble_eq_true rfl) dX12_one_5 rfl rfl ?_
  refine a_if_eq (tgt := 37) hX dX12_one_8 rfl rfl hf (fun hf => ?_) (fun hf => ?_)
  · refine a_aload_n hX dX12_one_37 rfl 1 rfl rfl ?_
    refine a_bipush (v := 40) hX dX12_one_38 (by decide) rfl ?_
    obtain ⟨x2, hg2, hf⟩ := cl1_some hf
    refine a_cVsi (q0 := 0) (rest := []) hX hE (ctX12_isSign (q := q) hE hg2) K_X12_282 ⟨rfl, rfl⟩ ⟨rfl, rfl, by simp only [rmGM, rmX12_isSign]; omega, by simp only [rmGM, rmX12_isSign]; omega⟩ ⟨Nat.zero_le _, Nat.zero_le _⟩ (Nat.le_of_ble_eq_true rfl) dX12_one_40 rfl rfl ?_
    refine a_if_eq (tgt := 95) hX dX12_one_43 rfl rfl hf (fun hf => ?_) (fun hf => ?_)
    · refine a_aload_n hX dX12_one_95 rfl 1 rfl rfl ?_
      refine gX12_33 hX F_X12_241 dX12_one_96 rfl ?_
      refine a_if_ne (tgt := 123) hX dX12_one_99 rfl rfl hf (fun hf => ?_) (fun hf => ?_)
      · refine a_lv (lv' := [(0, .ref (q 0)), (1, .int 0)]) [1, 0] rfl ?_
        exact wX12_one_b123 h hE hR hf
      · refine a_aload_n hX dX12_one_102 rfl 1 rfl rfl ?_
        refine gX12_28 hX F_X12_224 dX12_one_103 rfl ?_
        refine a_iconst (v := 2) hX dX12_one_106 (by decide) rfl ?_
        refine a_icmp_ne (tgt := 123) hX dX12_one_107 rfl rfl hf (fun hf => ?_) (fun hf => ?_)
        · refine a_lv (lv' := [(0, .ref (q 0)), (1, .int 0)]) [1, 0] rfl ?_
          exact wX12_one_b123 h hE hR hf
        · refine a_aload_n hX dX12_one_110 rfl 1 rfl rfl ?_
          refine gX12_30 hX F_X12_227 dX12_one_111 rfl ?_
          refine a_l2i hX dX12_one_114 rfl ?_
          refine a_nmI hf (fun x3 hf => ?_)
          refine a_istore_n (lv' := [(1, .int x3), (0, .ref (q 0))]) hX dX12_one_115 rfl (by decide) rfl rfl ?_
          refine a_aload_n hX dX12_one_116 rfl 1 rfl rfl ?_
          obtain ⟨u5, hg4, hf⟩ := cl1_some hf
          refine a_cVsv (q0 := 0) (rest := []) hX hE (ctX12_next (q := q) hE hg4) K_X12_254 ⟨rfl, rfl⟩ ⟨rfl, rfl, by simp only [rmGM, rmX12_next]; omega, by simp only [rmGM, rmX12_next]; omega⟩ ⟨Nat.zero_le _, Nat.zero_le _⟩ (Nat.le_of_ble_eq_true rfl) dX12_one_117 rfl rfl ?_
          refine a_goto (pc' := 161) hX dX12_one_120 rfl ?_
          refine a_iload_n hX dX12_one_161 rfl 0 rfl rfl ?_
          exact a_iret hX hT hF (r_iS (wf := (wM V q)) hf) dX12_one_162
    · refine a_aload_n hX dX12_one_46 rfl 1 rfl rfl ?_
      obtain ⟨x6, u7, hg6, hf⟩ := cl2_some hf
      refine a_cVsi (q0 := 0) (rest := []) hX hE (ctX12_opens (q := q) hE hg6) K_X12_285 ⟨rfl, rfl⟩ ⟨rfl, rfl, by simp only [rmGM, rmX12_opens]; omega, by simp only [rmGM, rmX12_opens]; omega⟩ ⟨Nat.zero_le _, Nat.zero_le _⟩ (Nat.le_of_ble_eq_true rfl) dX12_one_47 rfl rfl ?_
      refine a_if_eq (tgt := 161) hX dX12_one_50 rfl rfl hf (fun hf => ?_) (fun hf => ?_)
      · refine a_iload_n hX dX12_one_161 rfl 0 rfl rfl ?_
        exact a_iret hX hT hF (r_iS (wf := (wM V q)) hf) dX12_one_162
      · refine a_aload_n hX dX12_one_53 rfl 1 rfl rfl ?_
        obtain ⟨x8, u9, hg8, hf⟩ := cl2_some hf
        refine a_cVsi (q0 := 0) (rest := []) hX hE (hR.1  _ _ hg8) K_X12_293 ⟨rfl, rfl⟩ (rmGM_s nn (by decide)) ⟨Nat.zero_le _, Nat.zero_le _⟩ (Nat.le_of_ble_eq_true rfl) dX12_one_54 rfl rfl ?_
        refine a_istore_n (lv' := [(1, .int x8), (0, .ref (q 0))]) hX dX12_one_57 rfl (by decide) rfl rfl ?_
        refine a_aload_n hX dX12_one_58 rfl 1 rfl rfl ?_
        refine a_bipush (v := 41) hX dX12_one_59 (by decide) rfl ?_
        obtain ⟨x10, hg10, hf⟩ := cl1_some hf
        refine a_cVsi (q0 := 0) (rest := []) hX hE (ctX12_isSign (q := q) hE hg10) K_X12_282 ⟨rfl, rfl⟩ ⟨rfl, rfl, by simp only [rmGM, rmX12_isSign]; omega, by simp only [rmGM, rmX12_isSign]; omega⟩ ⟨Nat.zero_le _, Nat.zero_le _⟩ (Nat.le_of_ble_eq_true rfl) dX12_one_61 rfl rfl ?_
        refine a_if_ne (tgt := 71) hX dX12_one_64 rfl rfl hf (fun hf => ?_) (fun hf => ?_)
        · refine a_lv (lv' := [(0, .ref (q 0)), (1, .int x8)]) [1, 0] rfl ?_
          exact wX12_one_b71 h hE hR hf
        · refine a_aload_n hX dX12_one_67 rfl 1 rfl rfl ?_
          obtain ⟨u12, hg11, hf⟩ := cl1_some hf
          refine a_cVsv (q0 := 0) (rest := []) hX hE (ctX12_fail (q := q) hE hg11) K_X12_251 ⟨rfl, rfl⟩ ⟨rfl, rfl, by simp only [rmGM, rmX12_fail]; omega, by simp only [rmGM, rmX12_fail]; omega⟩ ⟨Nat.zero_le _, Nat.zero_le _⟩ (Nat.le_of_ble_eq_true rfl) dX12_one_68 rfl rfl ?_
          refine a_lv (lv' := [(0, .ref (q 0)), (1, .int x8)]) [1, 0] rfl ?_
          exact wX12_one_b71 h hE hR hf
  · refine a_aload_n hX dX12_one_11 rfl 1 rfl rfl ?_
    obtain ⟨x13, u14, hg13, hf⟩ := cl2_some hf
    refine a_cVsi (q0 := 0) (rest := []) hX hE (ctX12_opens (q := q) hE hg13) K_X12_285 ⟨rfl, rfl⟩ ⟨rfl, rfl, by simp only [rmGM, rmX12_opens]; omega, by simp only [rmGM, rmX12_opens]; omega⟩ ⟨Nat.zero_le _, Nat.zero_le _⟩ (Nat.le_of_ble_eq_true rfl) dX12_one_12 rfl rfl ?_
    refine a_if_eq (tgt := 161) hX dX12_one_15 rfl rfl hf (fun hf => ?_) (fun hf => ?_)
    · refine a_iload_n hX dX12_one_161 rfl 0 rfl rfl ?_
      exact a_iret hX hT hF (r_iS (wf := (wM V q)) hf) dX12_one_162
    · refine a_aload_n hX dX12_one_18 rfl 1 rfl rfl ?_
      obtain ⟨x15, u16, hg15, hf⟩ := cl2_some hf
      refine a_cVsi (q0 := 0) (rest := []) hX hE (hR.2.2.2.2.2  _ _ hg15) K_X12_289 ⟨rfl, rfl⟩ (rmGM_s nn (by decide)) ⟨Nat.zero_le _, Nat.zero_le _⟩ (Nat.le_of_ble_eq_true rfl) dX12_one_19 rfl rfl ?_
      refine a_ineg hX dX12_one_22 rfl ?_
      refine a_nmI hf (fun x17 hf => ?_)
      refine a_istore_n (lv' := [(1, .int x17), (0, .ref (q 0))]) hX dX12_one_23 rfl (by decide) rfl rfl ?_
      refine a_aload_n hX dX12_one_24 rfl 1 rfl rfl ?_
      refine a_dup hX dX12_one_25 rfl rfl ?_
      refine gX12_32 hX F_X12_248 dX12_one_26 rfl ?_
      refine a_iconst (v := 1) hX dX12_one_29 (by decide) rfl ?_
      refine a_isub hX dX12_one_30 rfl ?_
      refine pX12_32 hX F_X12_248 dX12_one_31 rfl hf (fun u18 hf => ?_)
      refine a_goto (pc' := 161) hX dX12_one_34 rfl ?_
      refine a_iload_n hX dX12_one_161 rfl 0 rfl rfl ?_
      exact a_iret hX hT hF (r_iS (wf := (wM V q)) hf) dX12_one_162
def PGM : Nat → Nat → St → Option (Int32 × St)
  | 0, _, _ => none
  | n + 1, 0, u => fX12_either (PGM n) u
  | n + 1, 1, u => fX12_both_ (PGM n) u
  | n + 1, 2, u => fX12_not (PGM n) u
  | n + 1, 3, u => fX12_added (PGM n) u
  | n + 1, 4, u => fX12_term (PGM n) u
  | n + 1, 5, u => fX12_one (PGM n) u
  | _ + 1, _ + 6, _ => none
theorem gGM {V : Vx} {q : Nat → Nat} (hE : ZOK (vZ V)) : ∀ n : Nat, GMok V q n (PGM n) := by
  intro n
  induction n with
  | zero =>
    refine ⟨?_, ?_, ?_, ?_, ?_, ?_⟩ <;> (intros; rename_i h; cases h)
  | succ n ih =>
    refine ⟨?_, ?_, ?_, ?_, ?_, ?_⟩
    · intro  u res hf
      exact Ct_of (by decide) (Nat.le_of_ble_eq_true rfl) rfl (fun X hX hT _ hF => wX12_either ⟨hX, hT, hF⟩ hE ih hf)
    · intro  u res hf
      exact Ct_of (by decide) (Nat.le_of_ble_eq_true rfl) rfl (fun X hX hT _ hF => wX12_both_ ⟨hX, hT, hF⟩ hE ih hf)
    · intro  u res hf
      exact Ct_of (by decide) (Nat.le_of_ble_eq_true rfl) rfl (fun X hX hT _ hF => wX12_not ⟨hX, hT, hF⟩ hE ih hf)
    · intro  u res hf
      exact Ct_of (by decide) (Nat.le_of_ble_eq_true rfl) rfl (fun X hX hT _ hF => wX12_added ⟨hX, hT, hF⟩ hE ih hf)
    · intro  u res hf
      exact Ct_of (by decide) (Nat.le_of_ble_eq_true rfl) rfl (fun X hX hT _ hF => wX12_term ⟨hX, hT, hF⟩ hE ih hf)
    · intro  u res hf
      exact Ct_of (by decide) (Nat.le_of_ble_eq_true rfl) rfl (fun X hX hT _ hF => wX12_one ⟨hX, hT, hF⟩ hE ih hf)
theorem ctGM0 {V : Vx} {q : Nat → Nat} (hE : ZOK (vZ V)) {u : St} {res : Int32 × St}  (hf : PGM 60 0 u = some res) : Ct V yX12_either (.code yX12_either cX12_either 3 (some .int)) (rmGM 60) 0 0 [.ref (q 0)] (wM V q u) (rEq (some (.int res.1)) (wM V q res.2)) := (gGM hE 60).1 _ _ hf
theorem ctGM1 {V : Vx} {q : Nat → Nat} (hE : ZOK (vZ V)) {u : St} {res : Int32 × St}  (hf : PGM 60 1 u = some res) : Ct V yX12_both_ (.code yX12_both_ cX12_both_ 3 (some .int)) (rmGM 60) 0 0 [.ref (q 0)] (wM V q u) (rEq (some (.int res.1)) (wM V q res.2)) := (gGM hE 60).2.1 _ _ hf
theorem ctGM2 {V : Vx} {q : Nat → Nat} (hE : ZOK (vZ V)) {u : St} {res : Int32 × St}  (hf : PGM 60 2 u = some res) : Ct V yX12_not (.code yX12_not cX12_not 4 (some .int)) (rmGM 60) 0 0 [.ref (q 0)] (wM V q u) (rEq (some (.int res.1)) (wM V q res.2)) := (gGM hE 60).2.2.1 _ _ hf
theorem ctGM3 {V : Vx} {q : Nat → Nat} (hE : ZOK (vZ V)) {u : St} {res : Int32 × St}  (hf : PGM 60 3 u = some res) : Ct V yX12_added (.code yX12_added cX12_added 4 (some .int)) (rmGM 60) 0 0 [.ref (q 0)] (wM V q u) (rEq (some (.int res.1)) (wM V q res.2)) := (gGM hE 60).2.2.2.1 _ _ hf
theorem ctGM4 {V : Vx} {q : Nat → Nat} (hE : ZOK (vZ V)) {u : St} {res : Int32 × St}  (hf : PGM 60 4 u = some res) : Ct V yX12_term (.code yX12_term cX12_term 2 (some .int)) (rmGM 60) 0 0 [.ref (q 0)] (wM V q u) (rEq (some (.int res.1)) (wM V q res.2)) := (gGM hE 60).2.2.2.2.1 _ _ hf
theorem ctGM5 {V : Vx} {q : Nat → Nat} (hE : ZOK (vZ V)) {u : St} {res : Int32 × St}  (hf : PGM 60 5 u = some res) : Ct V yX12_one (.code yX12_one cX12_one 2 (some .int)) (rmGM 60) 0 0 [.ref (q 0)] (wM V q u) (rEq (some (.int res.1)) (wM V q res.2)) := (gGM hE 60).2.2.2.2.2 _ _ hf
def rmX12_part : Room := { frames := 73, cells := 0, slots := 0, locals := 4022 }
def fX12_part_b52   (u : St) (v3 : Int32) : Option (Int32 × St) := if gZ u 33 = 0 then cl1 (fX12_next u) (fun u12 => some (v3, u12)) else (some (v3, u))
theorem wX12_part_b52 {X : Cx} {V : Vx} {q : Nat → Nat} {res : Int32 × St} (h : Run X cX12_part 4 RX12 rmX12_part V (some .int) (rEq (some (.int res.1)) (wM V q res.2))) (hE : ZOK (vZ V)) {u : St} {v3 : Int32} (hf : fX12_part_b52   u v3 = some res) : At X 4 0 0 (wM V q u) 52 [(0, .ref (q 0)), (3, .int v3)] [] := by
  obtain ⟨hX, hT, hF⟩ := id h
  unfold fX12_part_b52 at hf
  refine a_aload_n hX dX12_part_52 rfl 0 rfl rfl ?_
  refine gX12_33 hX F_X12_241 dX12_part_53 rfl ?_
  refine a_if_ne (tgt := 63) hX dX12_part_56 rfl rfl hf (fun hf => ?_) (fun hf => ?_)
  · refine a_iload_n hX dX12_part_63 rfl 1 rfl rfl ?_
    exact a_iret hX hT hF (r_iS (wf := (wM V q)) hf) dX12_part_64
  · refine a_aload_n hX dX12_part_59 rfl 0 rfl rfl ?_
    obtain ⟨u12, hg11, hf⟩ := cl1_some hf
    refine a_cVsv (q0 := 0) (rest := []) hX hE (ctX12_next (q := q) hE hg11) K_X12_254 ⟨rfl, rfl⟩ ⟨rfl, rfl, by decide, by decide⟩ ⟨Nat.zero_le _, Nat.zero_le _⟩ (Nat.le_of_ble_eq_true rfl) dX12_part_60 rfl rfl ?_
    refine a_iload_n hX dX12_part_63 rfl 1 rfl rfl ?_
    exact a_iret hX hT hF (r_iS (wf := (wM V q)) hf) dX12_part_64
def fX12_part_b38   (u : St) (s0 : Int32) : Option (Int32 × St) := cl1 (fX12_isSign u 59) (fun x8 => if x8 = 0 then cl1 (fX12_fail u) (fun u10 => fX12_part_b52 u10 s0) else (fX12_part_b52 u s0))
theorem wX12_part_b38 {X : Cx} {V : Vx} {q : Nat → Nat} {res : Int32 × St} (h : Run X cX12_part 4 RX12 rmX12_part V (some .int) (rEq (some (.int res.1)) (wM V q res.2))) (hE : ZOK (vZ V)) {u : St} {s0 : Int32} (hf : fX12_part_b38   u s0 = some res) : At X 4 0 0 (wM V q u) 38 [(0, .ref (q 0))] [.int s0] := by
  obtain ⟨hX, hT, hF⟩ := id h
  unfold fX12_part_b38 at hf
  refine a_istore_n (lv' := [(3, .int s0), (0, .ref (q 0))]) hX dX12_part_38 rfl (by decide) rfl rfl ?_
  refine a_aload_n hX dX12_part_39 rfl 1 rfl rfl ?_
  refine a_bipush (v := 59) hX dX12_part_40 (by decide) rfl ?_
  obtain ⟨x8, hg8, hf⟩ := cl1_some hf
  refine a_cVsi (q0 := 0) (rest := []) hX hE (ctX12_isSign (q := q) hE hg8) K_X12_282 ⟨rfl, rfl⟩ ⟨rfl, rfl, by decide, by decide⟩ ⟨Nat.zero_le _, Nat.zero_le _⟩ (Nat.le_of_ble_eq_true rfl) dX12_part_42 rfl rfl ?_
  refine a_if_ne (tgt := 52) hX dX12_part_45 rfl rfl hf (fun hf => ?_) (fun hf => ?_)
  · refine a_lv (lv' := [(0, .ref (q 0)), (3, .int s0)]) [1, 0] rfl ?_
    exact wX12_part_b52 h hE hf
  · refine a_aload_n hX dX12_part_48 rfl 1 rfl rfl ?_
    obtain ⟨u10, hg9, hf⟩ := cl1_some hf
    refine a_cVsv (q0 := 0) (rest := []) hX hE (ctX12_fail (q := q) hE hg9) K_X12_251 ⟨rfl, rfl⟩ ⟨rfl, rfl, by decide, by decide⟩ ⟨Nat.zero_le _, Nat.zero_le _⟩ (Nat.le_of_ble_eq_true rfl) dX12_part_49 rfl rfl ?_
    refine a_lv (lv' := [(0, .ref (q 0)), (3, .int s0)]) [1, 0] rfl ?_
    exact wX12_part_b52 h hE hf
def fX12_part_b23   (u : St) : Option (Int32 × St) := if gZ u 33 = 0 then cl2 (PGM 60 0 u) (fun x6 u7 => fX12_part_b38 u7 x6) else (fX12_part_b38 u 0)
theorem wX12_part_b23 {X : Cx} {V : Vx} {q : Nat → Nat} {res : Int32 × St} (h : Run X cX12_part 4 RX12 rmX12_part V (some .int) (rEq (some (.int res.1)) (wM V q res.2))) (hE : ZOK (vZ V)) {u : St} (hf : fX12_part_b23   u = some res) : At X 4 0 0 (wM V q u) 23 [(0, .ref (q 0))] [] := by
  obtain ⟨hX, hT, hF⟩ := id h
  unfold fX12_part_b23 at hf
  refine a_aload_n hX dX12_part_23 rfl 0 rfl rfl ?_
  refine gX12_33 hX F_X12_241 dX12_part_24 rfl ?_
  refine a_if_eq (tgt := 34) hX dX12_part_27 rfl rfl hf (fun hf => ?_) (fun hf => ?_)
  · refine a_aload_n hX dX12_part_34 rfl 0 rfl rfl ?_
    obtain ⟨x6, u7, hg6, hf⟩ := cl2_some hf
    refine a_cVsi (q0 := 0) (rest := []) hX hE (ctGM0 (q := q) hE hg6) K_X12_293 ⟨rfl, rfl⟩ ⟨rfl, rfl, by decide, by decide⟩ ⟨Nat.zero_le _, Nat.zero_le _⟩ (Nat.le_of_ble_eq_true rfl) dX12_part_35 rfl rfl ?_
    exact wX12_part_b38 h hE hf
  · refine a_iconst (v := 0) hX dX12_part_30 (by decide) rfl ?_
    refine a_goto (pc' := 38) hX dX12_part_31 rfl ?_
    exact wX12_part_b38 h hE hf
def fX12_part_b12   (u : St) : Option (Int32 × St) := if gZ u 33 = 0 then cl1 (fX12_next u) (fun u5 => fX12_part_b23 u5) else (fX12_part_b23 u)
theorem wX12_part_b12 {X : Cx} {V : Vx} {q : Nat → Nat} {res : Int32 × St} (h : Run X cX12_part 4 RX12 rmX12_part V (some .int) (rEq (some (.int res.1)) (wM V q res.2))) (hE : ZOK (vZ V)) {u : St} (hf : fX12_part_b12   u = some res) : At X 4 0 0 (wM V q u) 12 [(0, .ref (q 0))] [] := by
  obtain ⟨hX, hT, hF⟩ := id h
  unfold fX12_part_b12 at hf
  refine a_aload_n hX dX12_part_12 rfl 0 rfl rfl ?_
  refine gX12_33 hX F_X12_241 dX12_part_13 rfl ?_
  refine a_if_ne (tgt := 23) hX dX12_part_16 rfl rfl hf (fun hf => ?_) (fun hf => ?_)
  · exact wX12_part_b23 h hE hf
  · refine a_aload_n hX dX12_part_19 rfl 0 rfl rfl ?_
    obtain ⟨u5, hg4, hf⟩ := cl1_some hf
    refine a_cVsv (q0 := 0) (rest := []) hX hE (ctX12_next (q := q) hE hg4) K_X12_254 ⟨rfl, rfl⟩ ⟨rfl, rfl, by decide, by decide⟩ ⟨Nat.zero_le _, Nat.zero_le _⟩ (Nat.le_of_ble_eq_true rfl) dX12_part_20 rfl rfl ?_
    exact wX12_part_b23 h hE hf
def fX12_part (u : St) (v1 : Int64) : Option (Int32 × St) := cl1 (fX12_isWord u v1) (fun x1 => if x1 = 0 then cl1 (fX12_fail u) (fun u3 => fX12_part_b12 u3) else (fX12_part_b12 u))
theorem wX12_part {X : Cx} {V : Vx} {q : Nat → Nat} {res : Int32 × St} (h : Run X cX12_part 4 RX12 rmX12_part V (some .int) (rEq (some (.int res.1)) (wM V q res.2))) (hE : ZOK (vZ V)) {u : St} {v1 : Int64} (hf : fX12_part u v1 = some res) : At X 4 0 0 (wM V q u) 0 [(0, .ref (q 0)), (1, .long v1)] [] := by
  obtain ⟨hX, hT, hF⟩ := id h
  unfold fX12_part at hf
  refine a_aload_n hX dX12_part_0 rfl 0 rfl rfl ?_
  refine a_lload_n hX dX12_part_1 rfl 1 rfl rfl ?_
  obtain ⟨x1, hg1, hf⟩ := cl1_some hf
  refine a_cVsi (q0 := 0) (rest := []) hX hE (ctX12_isWord (q := q) hE hg1) K_X12_259 ⟨rfl, rfl⟩ ⟨rfl, rfl, by decide, by decide⟩ ⟨Nat.zero_le _, Nat.zero_le _⟩ (Nat.le_of_ble_eq_true rfl) dX12_part_2 rfl rfl ?_
  refine a_if_ne (tgt := 12) hX dX12_part_5 rfl rfl hf (fun hf => ?_) (fun hf => ?_)
  · refine a_lv (lv' := [(0, .ref (q 0))]) [0] rfl ?_
    exact wX12_part_b12 h hE hf
  · refine a_aload_n hX dX12_part_8 rfl 0 rfl rfl ?_
    obtain ⟨u3, hg2, hf⟩ := cl1_some hf
    refine a_cVsv (q0 := 0) (rest := []) hX hE (ctX12_fail (q := q) hE hg2) K_X12_251 ⟨rfl, rfl⟩ ⟨rfl, rfl, by decide, by decide⟩ ⟨Nat.zero_le _, Nat.zero_le _⟩ (Nat.le_of_ble_eq_true rfl) dX12_part_9 rfl rfl ?_
    refine a_lv (lv' := [(0, .ref (q 0))]) [0] rfl ?_
    exact wX12_part_b12 h hE hf
theorem ctX12_part {V : Vx} {q : Nat → Nat} {u : St} {res : Int32 × St} (hE : ZOK (vZ V)) {v1 : Int64} (hf : fX12_part u v1 = some res) : Ct V yX12_part (.code yX12_part cX12_part 4 (some .int)) rmX12_part 0 0 [.ref (q 0), .long v1] (wM V q u) (rEq (some (.int res.1)) (wM V q res.2)) :=
  Ct_of (by decide) (Nat.le_of_ble_eq_true rfl) rfl (fun X hX hT _ hF => wX12_part ⟨hX, hT, hF⟩ hE hf)
def rmX12_read : Room := { frames := 74, cells := 0, slots := 0, locals := 4045 }
def fX12_read_b101   (u : St) (v5 : Int32) (v6 : Int32) (v7 : Int32) : Option (Int32 × St) := if v5 = 0 then some (v6, u) else (some (v7, u))
theorem wX12_read_b101 {X : Cx} {V : Vx} {q : Nat → Nat} {res : Int32 × St} (h : Run X cX12_read 8 RX12 rmX12_read V (some .int) (rEq (some (.int res.1)) (wM V q res.2))) (hE : ZOK (vZ V)) {u : St} {v5 : Int32} {v6 : Int32} {v7 : Int32} (hf : fX12_read_b101   u v5 v6 v7 = some res) : At X 8 0 0 (wM V q u) 101 [(5, .int v5), (6, .int v6), (7, .int v7)] [] := by
  obtain ⟨hX, hT, hF⟩ := id h
  unfold fX12_read_b101 at hf
  refine a_iload hX dX12_read_101 0 rfl rfl ?_
  refine a_if_ne (tgt := 111) hX dX12_read_103 rfl rfl hf (fun hf => ?_) (fun hf => ?_)
  · refine a_iload hX dX12_read_111 2 rfl rfl ?_
    exact a_iret hX hT hF (r_iS (wf := (wM V q)) hf) dX12_read_113
  · refine a_iload hX dX12_read_106 1 rfl rfl ?_
    refine a_goto (pc' := 113) hX dX12_read_108 rfl ?_
    exact a_iret hX hT hF (r_iS (wf := (wM V q)) hf) dX12_read_113
def fX12_read_b81   (u : St) (v5 : Int32) (v6 : Int32) (s0 : Int32) : Option (Int32 × St) := if gZ u 33 = 0 then if gZ u 28 = 0 then fX12_read_b101 u v5 v6 s0 else (cl1 (fX12_fail u) (fun u17 => fX12_read_b101 u17 v5 v6 s0)) else (fX12_read_b101 u v5 v6 s0)
theorem wX12_read_b81 {X : Cx} {V : Vx} {q : Nat → Nat} {res : Int32 × St} (h : Run X cX12_read 8 RX12 rmX12_read V (some .int) (rEq (some (.int res.1)) (wM V q res.2))) (hE : ZOK (vZ V)) {u : St} {v5 : Int32} {v6 : Int32} {s0 : Int32} (hf : fX12_read_b81   u v5 v6 s0 = some res) : At X 8 0 0 (wM V q u) 81 [(0, .ref (q 0)), (5, .int v5), (6, .int v6)] [.int s0] := by
  obtain ⟨hX, hT, hF⟩ := id h
  unfold fX12_read_b81 at hf
  refine a_istore (lv' := [(7, .int s0), (0, .ref (q 0)), (5, .int v5), (6, .int v6)]) hX dX12_read_81 (by decide) rfl rfl ?_
  refine a_aload_n hX dX12_read_83 rfl 1 rfl rfl ?_
  refine gX12_33 hX F_X12_241 dX12_read_84 rfl ?_
  refine a_if_ne (tgt := 101) hX dX12_read_87 rfl rfl hf (fun hf => ?_) (fun hf => ?_)
  · refine a_lv (lv' := [(5, .int v5), (6, .int v6), (7, .int s0)]) [2, 3, 0] rfl ?_
    exact wX12_read_b101 h hE hf
  · refine a_aload_n hX dX12_read_90 rfl 1 rfl rfl ?_
    refine gX12_28 hX F_X12_224 dX12_read_91 rfl ?_
    refine a_if_eq (tgt := 101) hX dX12_read_94 rfl rfl hf (fun hf => ?_) (fun hf => ?_)
    · refine a_lv (lv' := [(5, .int v5), (6, .int v6), (7, .int s0)]) [2, 3, 0] rfl ?_
      exact wX12_read_b101 h hE hf
    · refine a_aload_n hX dX12_read_97 rfl 1 rfl rfl ?_
      obtain ⟨u17, hg16, hf⟩ := cl1_some hf
      refine a_cVsv (q0 := 0) (rest := []) hX hE (ctX12_fail (q := q) hE hg16) K_X12_251 ⟨rfl, rfl⟩ ⟨rfl, rfl, by decide, by decide⟩ ⟨Nat.zero_le _, Nat.zero_le _⟩ (Nat.le_of_ble_eq_true rfl) dX12_read_98 rfl rfl ?_
      refine a_lv (lv' := [(5, .int v5), (6, .int v6), (7, .int s0)]) [2, 3, 0] rfl ?_
      exact wX12_read_b101 h hE hf
def fX12_read (u : St) (v1 : Int32) (v2 : Int32) (v3 : Int32) (v4 : Int32) (v5 : Int32) : Option (Int32 × St) := nmS (setZ u 35 v2) (fun u1 => nmS (setZ u1 36 v3) (fun u2 => nmS (setZ u2 37 v4) (fun u3 => nmS (setZ u3 26 (160 * v1)) (fun u4 => ldI (gA u4 22) 6 v1 (fun x5 => nmS (setZ u4 27 x5) (fun u6 => nmS (setZ u6 31 0) (fun u7 => nmS (setZ u7 32 0) (fun u8 => nmS (setZ u8 33 0) (fun u9 => cl1 (fX12_next u9) (fun u11 => cl2 (fX12_part u11 168727) (fun x12 u13 => if gZ u13 33 = 0 then cl2 (fX12_part u13 6564179) (fun x14 u15 => fX12_read_b81 u15 v5 x12 x14) else (fX12_read_b81 u13 v5 x12 0))))))))))))
theorem wX12_read {X : Cx} {V : Vx} {q : Nat → Nat} {res : Int32 × St} (h : Run X cX12_read 8 RX12 rmX12_read V (some .int) (rEq (some (.int res.1)) (wM V q res.2))) (hE : ZOK (vZ V)) {u : St} {v1 : Int32} {v2 : Int32} {v3 : Int32} {v4 : Int32} {v5 : Int32} (hf : fX12_read u v1 v2 v3 v4 v5 = some res) : At X 8 0 0 (wM V q u) 0 [(0, .ref (q 0)), (1, .int v1), (2, .int v2), (3, .int v3), (4, .int v4), (5, .int v5)] [] := by
  obtain ⟨hX, hT, hF⟩ := id h
  unfold fX12_read at hf
  refine a_aload_n hX dX12_read_0 rfl 0 rfl rfl ?_
  refine a_iload_n hX dX12_read_1 rfl 2 rfl rfl ?_
  refine pX12_35 hX F_X12_263 dX12_read_2 rfl hf (fun u1 hf => ?_)
  refine a_aload_n hX dX12_read_5 rfl 0 rfl rfl ?_
  refine a_iload_n hX dX12_read_6 rfl 3 rfl rfl ?_
  refine pX12_36 hX F_X12_268 dX12_read_7 rfl hf (fun u2 hf => ?_)
  refine a_aload_n hX dX12_read_10 rfl 0 rfl rfl ?_
  refine a_iload hX dX12_read_11 4 rfl rfl ?_
  refine pX12_37 hX F_X12_273 dX12_read_13 rfl hf (fun u3 hf => ?_)
  refine a_aload_n hX dX12_read_16 rfl 0 rfl rfl ?_
  refine a_sipush (v := 160) hX dX12_read_17 (by decide) rfl ?_
  refine a_iload_n hX dX12_read_20 rfl 1 rfl rfl ?_
  refine a_imul hX dX12_read_21 rfl ?_
  refine pX12_26 hX F_X12_212 dX12_read_22 rfl hf (fun u4 hf => ?_)
  refine a_aload_n hX dX12_read_25 rfl 0 rfl rfl ?_
  refine a_aload_n hX dX12_read_26 rfl 0 rfl rfl ?_
  refine gX12_22 hX F_X12_67 dX12_read_27 rfl ?_
  refine a_iload_n hX dX12_read_30 rfl 1 rfl rfl ?_
  refine lX12_22 hX dX12_read_31 rfl hf (fun x5 hf => ?_)
  refine pX12_27 hX F_X12_209 dX12_read_32 rfl hf (fun u6 hf => ?_)
  refine a_aload_n hX dX12_read_35 rfl 0 rfl rfl ?_
  refine a_iconst (v := 0) hX dX12_read_36 (by decide) rfl ?_
  refine pX12_31 hX F_X12_215 dX12_read_37 rfl hf (fun u7 hf => ?_)
  refine a_aload_n hX dX12_read_40 rfl 0 rfl rfl ?_
  refine a_iconst (v := 0) hX dX12_read_41 (by decide) rfl ?_
  refine pX12_32 hX F_X12_248 dX12_read_42 rfl hf (fun u8 hf => ?_)
  refine a_aload_n hX dX12_read_45 rfl 0 rfl rfl ?_
  refine a_iconst (v := 0) hX dX12_read_46 (by decide) rfl ?_
  refine pX12_33 hX F_X12_241 (by decide) (by decide) dX12_read_47 rfl hf (fun u9 hf => ?_)
  refine a_aload_n hX dX12_read_50 rfl 0 rfl rfl ?_
  obtain ⟨u11, hg10, hf⟩ := cl1_some hf
  refine a_cVsv (q0 := 0) (rest := []) hX hE (ctX12_next (q := q) hE hg10) K_X12_254 ⟨rfl, rfl⟩ ⟨rfl, rfl, by decide, by decide⟩ ⟨Nat.zero_le _, Nat.zero_le _⟩ (Nat.le_of_ble_eq_true rfl) dX12_read_51 rfl rfl ?_
  refine a_aload_n hX dX12_read_54 rfl 0 rfl rfl ?_
  refine a_ldc2 hX dX12_read_55 N_X12_321 rfl ?_
  obtain ⟨x12, u13, hg12, hf⟩ := cl2_some hf
  refine a_cVsi (q0 := 0) (rest := []) hX hE (ctX12_part (q := q) hE hg12) K_X12_323 ⟨rfl, rfl⟩ ⟨rfl, rfl, by decide, by decide⟩ ⟨Nat.zero_le _, Nat.zero_le _⟩ (Nat.le_of_ble_eq_true rfl) dX12_read_58 rfl rfl ?_
  refine a_istore (lv' := [(6, .int x12), (0, .ref (q 0)), (1, .int v1), (2, .int v2), (3, .int v3), (4, .int v4), (5, .int v5)]) hX dX12_read_61 (by decide) rfl rfl ?_
  refine a_aload_n hX dX12_read_63 rfl 1 rfl rfl ?_
  refine gX12_33 hX F_X12_241 dX12_read_64 rfl ?_
  refine a_if_eq (tgt := 74) hX dX12_read_67 rfl rfl hf (fun hf => ?_) (fun hf => ?_)
  · refine a_aload_n hX dX12_read_74 rfl 1 rfl rfl ?_
    refine a_ldc2 hX dX12_read_75 N_X12_327 rfl ?_
    obtain ⟨x14, u15, hg14, hf⟩ := cl2_some hf
    refine a_cVsi (q0 := 0) (rest := []) hX hE (ctX12_part (q := q) hE hg14) K_X12_323 ⟨rfl, rfl⟩ ⟨rfl, rfl, by decide, by decide⟩ ⟨Nat.zero_le _, Nat.zero_le _⟩ (Nat.le_of_ble_eq_true rfl) dX12_read_78 rfl rfl ?_
    refine a_lv (lv' := [(0, .ref (q 0)), (5, .int v5), (6, .int x12)]) [1, 6, 0] rfl ?_
    exact wX12_read_b81 h hE hf
  · refine a_iconst (v := 0) hX dX12_read_70 (by decide) rfl ?_
    refine a_goto (pc' := 81) hX dX12_read_71 rfl ?_
    refine a_lv (lv' := [(0, .ref (q 0)), (5, .int v5), (6, .int x12)]) [1, 6, 0] rfl ?_
    exact wX12_read_b81 h hE hf
theorem ctX12_read {V : Vx} {q : Nat → Nat} {u : St} {res : Int32 × St} (hE : ZOK (vZ V)) {v1 : Int32} {v2 : Int32} {v3 : Int32} {v4 : Int32} {v5 : Int32} (hf : fX12_read u v1 v2 v3 v4 v5 = some res) : Ct V yX12_read (.code yX12_read cX12_read 8 (some .int)) rmX12_read 0 0 [.ref (q 0), .int v1, .int v2, .int v3, .int v4, .int v5] (wM V q u) (rEq (some (.int res.1)) (wM V q res.2)) :=
  Ct_of (by decide) (Nat.le_of_ble_eq_true rfl) rfl (fun X hX hT _ hF => wX12_read ⟨hX, hT, hF⟩ hE hf)
def rmX12_text : Room := { frames := 75, cells := 0, slots := 0, locals := 4072 }
def fX12_text_l14b  (k14 : St → Int32 → Option (Int32 × St)) (u : St) (v1 : Int32) : Option (Int32 × St) := if gZ u 25 ≤ v1 then stI u 22 6 (gZ u 23) (gZ u 25) (fun u1 => nmS (setZ u1 25 0) (fun u2 => cl2 (fX12_read u2 (gZ u2 23) 0 1 0 0) (fun x3 u4 => if gZ u4 33 = 0 then nmS (setZ u4 23 ((gZ u4 23) + 1)) (fun u5 => some ((gZ u5 23) - 1, u5)) else (some ((-100) - (gZ u4 34), u4))))) else (ldI (gA u 24) 160 v1 (fun x6 => stI u 21 960 ((160 * (gZ u 23)) + v1) x6 (fun u7 => k14 u7 (v1 + 1))))
theorem wX12_text_l14b {X : Cx} {V : Vx} {q : Nat → Nat} {res : Int32 × St} (h : Run X cX12_text 2 RX12 rmX12_text V (some .int) (rEq (some (.int res.1)) (wM V q res.2))) (hE : ZOK (vZ V)) {u : St} {v1 : Int32} {k14 : St → Int32 → Option (Int32 × St)} (hk14 : ∀ (u : St) (v1 : Int32), k14 u v1 = some res → At X 2 0 0 (wM V q u) 14 [(0, .ref (q 0)), (1, .int v1)] []) (hf : fX12_text_l14b  k14 u v1 = some res) : At X 2 0 0 (wM V q u) 14 [(0, .ref (q 0)), (1, .int v1)] [] := by
  obtain ⟨hX, hT, hF⟩ := id h
  unfold fX12_text_l14b at hf
  refine a_iload_n hX dX12_text_14 rfl 1 rfl rfl ?_
  refine a_aload_n hX dX12_text_15 rfl 0 rfl rfl ?_
  refine gX12_25 hX F_X12_206 dX12_text_16 rfl ?_
  refine a_icmp_ge (tgt := 49) hX dX12_text_19 rfl rfl hf (fun hf => ?_) (fun hf => ?_)
  · refine a_aload_n hX dX12_text_49 rfl 0 rfl rfl ?_
    refine gX12_22 hX F_X12_67 dX12_text_50 rfl ?_
    refine a_aload_n hX dX12_text_53 rfl 0 rfl rfl ?_
    refine gX12_23 hX F_X12_137 dX12_text_54 rfl ?_
    refine a_aload_n hX dX12_text_57 rfl 0 rfl rfl ?_
    refine gX12_25 hX F_X12_206 dX12_text_58 rfl ?_
    refine sX12_22 hX dX12_text_61 rfl hf (fun u1 hf => ?_)
    refine a_aload_n hX dX12_text_62 rfl 0 rfl rfl ?_
    refine a_iconst (v := 0) hX dX12_text_63 (by decide) rfl ?_
    refine pX12_25 hX F_X12_206 dX12_text_64 rfl hf (fun u2 hf => ?_)
    refine a_aload_n hX dX12_text_67 rfl 0 rfl rfl ?_
    refine a_aload_n hX dX12_text_68 rfl 0 rfl rfl ?_
    refine gX12_23 hX F_X12_137 dX12_text_69 rfl ?_
    refine a_iconst (v := 0) hX dX12_text_72 (by decide) rfl ?_
    refine a_iconst (v := 1) hX dX12_text_73 (by decide) rfl ?_
    refine a_iconst (v := 0) hX dX12_text_74 (by decide) rfl ?_
    refine a_iconst (v := 0) hX dX12_text_75 (by decide) rfl ?_
    obtain ⟨x3, u4, hg3, hf⟩ := cl2_some hf
    refine a_cVsi (q0 := 0) (rest := []) hX hE (ctX12_read (q := q) hE hg3) K_X12_329 ⟨rfl, rfl⟩ ⟨rfl, rfl, by decide, by decide⟩ ⟨Nat.zero_le _, Nat.zero_le _⟩ (Nat.le_of_ble_eq_true rfl) dX12_text_76 rfl rfl ?_
    refine a_istore_n (lv' := [(1, .int x3), (0, .ref (q 0))]) hX dX12_text_79 rfl (by decide) rfl rfl ?_
    refine a_aload_n hX dX12_text_80 rfl 1 rfl rfl ?_
    refine gX12_33 hX F_X12_241 dX12_text_81 rfl ?_
    refine a_if_eq (tgt := 95) hX dX12_text_84 rfl rfl hf (fun hf => ?_) (fun hf => ?_)
    · refine a_aload_n hX dX12_text_95 rfl 1 rfl rfl ?_
      refine a_dup hX dX12_text_96 rfl rfl ?_
      refine gX12_23 hX F_X12_137 dX12_text_97 rfl ?_
      refine a_iconst (v := 1) hX dX12_text_100 (by decide) rfl ?_
      refine a_iadd hX dX12_text_101 rfl ?_
      refine pX12_23 hX F_X12_137 dX12_text_102 rfl hf (fun u5 hf => ?_)
      refine a_aload_n hX dX12_text_105 rfl 1 rfl rfl ?_
      refine gX12_23 hX F_X12_137 dX12_text_106 rfl ?_
      refine a_iconst (v := 1) hX dX12_text_109 (by decide) rfl ?_
      refine a_isub hX dX12_text_110 rfl ?_
      exact a_iret hX hT hF (r_iS (wf := (wM V q)) hf) dX12_text_111
    · refine a_bipush (v := (-100)) hX dX12_text_87 (by decide) rfl ?_
      refine a_aload_n hX dX12_text_89 rfl 1 rfl rfl ?_
      refine gX12_34 hX F_X12_245 dX12_text_90 rfl ?_
      refine a_isub hX dX12_text_93 rfl ?_
      exact a_iret hX hT hF (r_iS (wf := (wM V q)) hf) dX12_text_94
  · refine a_aload_n hX dX12_text_22 rfl 0 rfl rfl ?_
    refine gX12_21 hX F_X12_64 dX12_text_23 rfl ?_
    refine a_sipush (v := 160) hX dX12_text_26 (by decide) rfl ?_
    refine a_aload_n hX dX12_text_29 rfl 0 rfl rfl ?_
    refine gX12_23 hX F_X12_137 dX12_text_30 rfl ?_
    refine a_imul hX dX12_text_33 rfl ?_
    refine a_iload_n hX dX12_text_34 rfl 1 rfl rfl ?_
    refine a_iadd hX dX12_text_35 rfl ?_
    refine a_aload_n hX dX12_text_36 rfl 0 rfl rfl ?_
    refine gX12_24 hX F_X12_70 dX12_text_37 rfl ?_
    refine a_iload_n hX dX12_text_40 rfl 1 rfl rfl ?_
    refine lX12_24 hX dX12_text_41 rfl hf (fun x6 hf => ?_)
    refine sX12_21 hX dX12_text_42 rfl hf (fun u7 hf => ?_)
    refine a_iinc (v := v1 + 1) (lv' := [(1, .int (v1 + 1)), (0, .ref (q 0))]) hX dX12_text_43 1 rfl rfl (by decide) rfl rfl ?_
    refine a_goto (pc' := 14) hX dX12_text_46 rfl ?_
    refine a_lv (lv' := [(0, .ref (q 0)), (1, .int (v1 + 1))]) [1, 0] rfl ?_
    exact hk14 u7 (v1 + 1) hf
def fX12_text_l14    : Nat → St → Int32 → Option (Int32 × St)
  | 0, _, _ => none
  | m + 1, u, v1 => fX12_text_l14b  (fX12_text_l14    m) u v1
theorem wX12_text_l14 {X : Cx} {V : Vx} {q : Nat → Nat} {res : Int32 × St} (h : Run X cX12_text 2 RX12 rmX12_text V (some .int) (rEq (some (.int res.1)) (wM V q res.2))) (hE : ZOK (vZ V))  : ∀ (m : Nat) (u : St) (v1 : Int32), fX12_text_l14    m u v1 = some res → At X 2 0 0 (wM V q u) 14 [(0, .ref (q 0)), (1, .int v1)] [] := by
  intro m
  induction m with
  | zero => intro u v1 hf; cases hf
  | succ m ih => intro u v1 hf; exact wX12_text_l14b h hE ih hf
def fX12_text (u : St) : Option (Int32 × St) := if gZ u 23 = 6 then some ((-4), u) else (fX12_text_l14 NF u 0)
theorem wX12_text {X : Cx} {V : Vx} {q : Nat → Nat} {res : Int32 × St} (h : Run X cX12_text 2 RX12 rmX12_text V (some .int) (rEq (some (.int res.1)) (wM V q res.2))) (hE : ZOK (vZ V)) {u : St} (hf : fX12_text u = some res) : At X 2 0 0 (wM V q u) 0 [(0, .ref (q 0))] [] := by
  obtain ⟨hX, hT, hF⟩ := id h
  unfold fX12_text at hf
  refine a_aload_n hX dX12_text_0 rfl 0 rfl rfl ?_
  refine gX12_23 hX F_X12_137 dX12_text_1 rfl ?_
  refine a_bipush (v := 6) hX dX12_text_4 (by decide) rfl ?_
  refine a_icmp_ne (tgt := 12) hX dX12_text_6 rfl rfl hf (fun hf => ?_) (fun hf => ?_)
  · refine a_iconst (v := 0) hX dX12_text_12 (by decide) rfl ?_
    refine a_istore_n (lv' := [(1, .int 0), (0, .ref (q 0))]) hX dX12_text_13 rfl (by decide) rfl rfl ?_
    refine a_lv (lv' := [(0, .ref (q 0)), (1, .int 0)]) [1, 0] rfl ?_
    exact wX12_text_l14 h hE NF u 0 hf
  · refine a_bipush (v := (-4)) hX dX12_text_9 (by decide) rfl ?_
    exact a_iret hX hT hF (r_iS (wf := (wM V q)) hf) dX12_text_11
theorem ctX12_text {V : Vx} {q : Nat → Nat} {u : St} {res : Int32 × St} (hE : ZOK (vZ V))  (hf : fX12_text u = some res) : Ct V yX12_text (.code yX12_text cX12_text 2 (some .int)) rmX12_text 0 0 [.ref (q 0)] (wM V q u) (rEq (some (.int res.1)) (wM V q res.2)) :=
  Ct_of (by decide) (Nat.le_of_ble_eq_true rfl) rfl (fun X hX hT _ hF => wX12_text ⟨hX, hT, hF⟩ hE hf)
def rmX12_law : Room := { frames := 3, cells := 0, slots := 0, locals := 65 }
def fX12_law (u : St) (v1 : Int32) (v2 : Int32) (v3 : Int32) : Option (Int32 × St) := cl1 (fX12_isPlace u v1 v2) (fun x1 => if x1 = 0 then some ((-2), u) else (cl1 (fX12_in v3 0 ((gZ u 23) - 1)) (fun x2 => if x2 = 0 then some ((-2), u) else (if gZ u 38 = 20 then some ((-4), u) else (stI u 39 20 (gZ u 38) v1 (fun u3 => stI u3 40 20 (gZ u3 38) v2 (fun u4 => stI u4 41 20 (gZ u4 38) v3 (fun u5 => nmS (setZ u5 38 ((gZ u5 38) + 1)) (fun u6 => some ((gZ u6 38) - 1, u6))))))))))
theorem wX12_law {X : Cx} {V : Vx} {q : Nat → Nat} {res : Int32 × St} (h : Run X cX12_law 4 RX12 rmX12_law V (some .int) (rEq (some (.int res.1)) (wM V q res.2))) (hE : ZOK (vZ V)) {u : St} {v1 : Int32} {v2 : Int32} {v3 : Int32} (hf : fX12_law u v1 v2 v3 = some res) : At X 4 0 0 (wM V q u) 0 [(0, .ref (q 0)), (1, .int v1), (2, .int v2), (3, .int v3)] [] := by
  obtain ⟨hX, hT, hF⟩ := id h
  unfold fX12_law at hf
  refine a_aload_n hX dX12_law_0 rfl 0 rfl rfl ?_
  refine a_iload_n hX dX12_law_1 rfl 1 rfl rfl ?_
  refine a_iload_n hX dX12_law_2 rfl 2 rfl rfl ?_
  obtain ⟨x1, hg1, hf⟩ := cl1_some hf
  refine a_cVsi (q0 := 0) (rest := []) hX hE (ctX12_isPlace (q := q) hE hg1) K_X12_172 ⟨rfl, rfl⟩ ⟨rfl, rfl, by decide, by decide⟩ ⟨Nat.zero_le _, Nat.zero_le _⟩ (Nat.le_of_ble_eq_true rfl) dX12_law_3 rfl rfl ?_
  refine a_if_eq (tgt := 23) hX dX12_law_6 rfl rfl hf (fun hf => ?_) (fun hf => ?_)
  · refine a_bipush (v := (-2)) hX dX12_law_23 (by decide) rfl ?_
    exact a_iret hX hT hF (r_iS (wf := (wM V q)) hf) dX12_law_25
  · refine a_iload_n hX dX12_law_9 rfl 3 rfl rfl ?_
    refine a_iconst (v := 0) hX dX12_law_10 (by decide) rfl ?_
    refine a_aload_n hX dX12_law_11 rfl 0 rfl rfl ?_
    refine gX12_23 hX F_X12_137 dX12_law_12 rfl ?_
    refine a_iconst (v := 1) hX dX12_law_15 (by decide) rfl ?_
    refine a_isub hX dX12_law_16 rfl ?_
    obtain ⟨x2, hg2, hf⟩ := cl1_some hf
    refine a_cSpi (rest := []) hX hE (ctX12_in hE hg2) K_X12_148 ⟨rfl, rfl, by decide, by decide⟩ ⟨Nat.zero_le _, Nat.zero_le _⟩ (Nat.le_of_ble_eq_true rfl) dX12_law_17 rfl rfl ?_
    refine a_if_ne (tgt := 26) hX dX12_law_20 rfl rfl hf (fun hf => ?_) (fun hf => ?_)
    · refine a_aload_n hX dX12_law_26 rfl 0 rfl rfl ?_
      refine gX12_38 hX F_X12_333 dX12_law_27 rfl ?_
      refine a_bipush (v := 20) hX dX12_law_30 (by decide) rfl ?_
      refine a_icmp_ne (tgt := 38) hX dX12_law_32 rfl rfl hf (fun hf => ?_) (fun hf => ?_)
      · refine a_aload_n hX dX12_law_38 rfl 0 rfl rfl ?_
        refine gX12_39 hX F_X12_73 dX12_law_39 rfl ?_
        refine a_aload_n hX dX12_law_42 rfl 0 rfl rfl ?_
        refine gX12_38 hX F_X12_333 dX12_law_43 rfl ?_
        refine a_iload_n hX dX12_law_46 rfl 1 rfl rfl ?_
        refine sX12_39 hX dX12_law_47 rfl hf (fun u3 hf => ?_)
        refine a_aload_n hX dX12_law_48 rfl 0 rfl rfl ?_
        refine gX12_40 hX F_X12_76 dX12_law_49 rfl ?_
        refine a_aload_n hX dX12_law_52 rfl 0 rfl rfl ?_
        refine gX12_38 hX F_X12_333 dX12_law_53 rfl ?_
        refine a_iload_n hX dX12_law_56 rfl 2 rfl rfl ?_
        refine sX12_40 hX dX12_law_57 rfl hf (fun u4 hf => ?_)
        refine a_aload_n hX dX12_law_58 rfl 0 rfl rfl ?_
        refine gX12_41 hX F_X12_79 dX12_law_59 rfl ?_
        refine a_aload_n hX dX12_law_62 rfl 0 rfl rfl ?_
        refine gX12_38 hX F_X12_333 dX12_law_63 rfl ?_
        refine a_iload_n hX dX12_law_66 rfl 3 rfl rfl ?_
        refine sX12_41 hX dX12_law_67 rfl hf (fun u5 hf => ?_)
        refine a_aload_n hX dX12_law_68 rfl 0 rfl rfl ?_
        refine a_dup hX dX12_law_69 rfl rfl ?_
        refine gX12_38 hX F_X12_333 dX12_law_70 rfl ?_
        refine a_iconst (v := 1) hX dX12_law_73 (by decide) rfl ?_
        refine a_iadd hX dX12_law_74 rfl ?_
        refine pX12_38 hX F_X12_333 dX12_law_75 rfl hf (fun u6 hf => ?_)
        refine a_aload_n hX dX12_law_78 rfl 0 rfl rfl ?_
        refine gX12_38 hX F_X12_333 dX12_law_79 rfl ?_
        refine a_iconst (v := 1) hX dX12_law_82 (by decide) rfl ?_
        refine a_isub hX dX12_law_83 rfl ?_
        exact a_iret hX hT hF (r_iS (wf := (wM V q)) hf) dX12_law_84
      · refine a_bipush (v := (-4)) hX dX12_law_35 (by decide) rfl ?_
        exact a_iret hX hT hF (r_iS (wf := (wM V q)) hf) dX12_law_37
    · refine a_bipush (v := (-2)) hX dX12_law_23 (by decide) rfl ?_
      exact a_iret hX hT hF (r_iS (wf := (wM V q)) hf) dX12_law_25
theorem ctX12_law {V : Vx} {q : Nat → Nat} {u : St} {res : Int32 × St} (hE : ZOK (vZ V)) {v1 : Int32} {v2 : Int32} {v3 : Int32} (hf : fX12_law u v1 v2 v3 = some res) : Ct V yX12_law (.code yX12_law cX12_law 4 (some .int)) rmX12_law 0 0 [.ref (q 0), .int v1, .int v2, .int v3] (wM V q u) (rEq (some (.int res.1)) (wM V q res.2)) :=
  Ct_of (by decide) (Nat.le_of_ble_eq_true rfl) rfl (fun X hX hT _ hF => wX12_law ⟨hX, hT, hF⟩ hE hf)
def rmX12_theLaw : Room := { frames := 0, cells := 0, slots := 0, locals := 0 }
def fX12_theLaw_b60 (u : St) (k5 : Int32 → Int32 → Option (Int32)) (v1 : Int32) (v2 : Int32) (v3 : Int32) (v4 : Int32) : Option (Int32) := k5 v3 (v4 + 1)
theorem wX12_theLaw_b60 {X : Cx} {V : Vx} {q : Nat → Nat} {u : St} {res : Int32} (h : Run X cX12_theLaw 5 RX12 rmX12_theLaw V (some .int) (rEq (some (.int res)) (wM V q u))) (hE : ZOK (vZ V)) {v1 : Int32} {v2 : Int32} {v3 : Int32} {v4 : Int32} {k5 : Int32 → Int32 → Option (Int32)} (hk5 : ∀ (v3 : Int32) (v4 : Int32), k5 v3 v4 = some res → At X 5 0 0 (wM V q u) 5 [(0, .ref (q 0)), (1, .int v1), (2, .int v2), (3, .int v3), (4, .int v4)] []) (hf : fX12_theLaw_b60 u k5 v1 v2 v3 v4 = some res) : At X 5 0 0 (wM V q u) 60 [(0, .ref (q 0)), (1, .int v1), (2, .int v2), (3, .int v3), (4, .int v4)] [] := by
  obtain ⟨hX, hT, hF⟩ := id h
  unfold fX12_theLaw_b60 at hf
  refine a_iinc (v := v4 + 1) (lv' := [(4, .int (v4 + 1)), (0, .ref (q 0)), (1, .int v1), (2, .int v2), (3, .int v3)]) hX dX12_theLaw_60 4 rfl rfl (by decide) rfl rfl ?_
  refine a_goto (pc' := 5) hX dX12_theLaw_63 rfl ?_
  refine a_lv (lv' := [(0, .ref (q 0)), (1, .int v1), (2, .int v2), (3, .int v3), (4, .int (v4 + 1))]) [1, 2, 3, 4, 0] rfl ?_
  exact hk5 v3 (v4 + 1) hf
def fX12_theLaw_b57 (u : St) (k5 : Int32 → Int32 → Option (Int32)) (v1 : Int32) (v2 : Int32) (v4 : Int32) : Option (Int32) := fX12_theLaw_b60 u k5 v1 v2 v4 v4
theorem wX12_theLaw_b57 {X : Cx} {V : Vx} {q : Nat → Nat} {u : St} {res : Int32} (h : Run X cX12_theLaw 5 RX12 rmX12_theLaw V (some .int) (rEq (some (.int res)) (wM V q u))) (hE : ZOK (vZ V)) {v1 : Int32} {v2 : Int32} {v4 : Int32} {k5 : Int32 → Int32 → Option (Int32)} (hk5 : ∀ (v3 : Int32) (v4 : Int32), k5 v3 v4 = some res → At X 5 0 0 (wM V q u) 5 [(0, .ref (q 0)), (1, .int v1), (2, .int v2), (3, .int v3), (4, .int v4)] []) (hf : fX12_theLaw_b57 u k5 v1 v2 v4 = some res) : At X 5 0 0 (wM V q u) 57 [(0, .ref (q 0)), (1, .int v1), (2, .int v2), (4, .int v4)] [] := by
  obtain ⟨hX, hT, hF⟩ := id h
  unfold fX12_theLaw_b57 at hf
  refine a_iload hX dX12_theLaw_57 3 rfl rfl ?_
  refine a_istore_n (lv' := [(3, .int v4), (0, .ref (q 0)), (1, .int v1), (2, .int v2), (4, .int v4)]) hX dX12_theLaw_59 rfl (by decide) rfl rfl ?_
  refine a_lv (lv' := [(0, .ref (q 0)), (1, .int v1), (2, .int v2), (3, .int v4), (4, .int v4)]) [1, 2, 3, 0, 4] rfl ?_
  exact wX12_theLaw_b60 h hE hk5 hf
def fX12_theLaw_l5b (u : St) (k5 : Int32 → Int32 → Option (Int32)) (v1 : Int32) (v2 : Int32) (v3 : Int32) (v4 : Int32) : Option (Int32) := if gZ u 38 ≤ v4 then if v3 = (-1) then some 0 else (ldI (gA u 41) 20 v3 (fun x1 => some x1)) else (ldI (gA u 39) 20 v4 (fun x2 => if x2 = v1 then ldI (gA u 40) 20 v4 (fun x3 => if v2 < x3 then fX12_theLaw_b60 u k5 v1 v2 v3 v4 else (if v3 = (-1) then fX12_theLaw_b57 u k5 v1 v2 v4 else (ldI (gA u 40) 20 v4 (fun x4 => ldI (gA u 40) 20 v3 (fun x5 => if x4 < x5 then fX12_theLaw_b60 u k5 v1 v2 v3 v4 else (fX12_theLaw_b57 u k5 v1 v2 v4)))))) else (fX12_theLaw_b60 u k5 v1 v2 v3 v4)))
theorem wX12_theLaw_l5b {X : Cx} {V : Vx} {q : Nat → Nat} {u : St} {res : Int32} (h : Run X cX12_theLaw 5 RX12 rmX12_theLaw V (some .int) (rEq (some (.int res)) (wM V q u))) (hE : ZOK (vZ V)) {v1 : Int32} {v2 : Int32} {v3 : Int32} {v4 : Int32} {k5 : Int32 → Int32 → Option (Int32)} (hk5 : ∀ (v3 : Int32) (v4 : Int32), k5 v3 v4 = some res → At X 5 0 0 (wM V q u) 5 [(0, .ref (q 0)), (1, .int v1), (2, .int v2), (3, .int v3), (4, .int v4)] []) (hf : fX12_theLaw_l5b u k5 v1 v2 v3 v4 = some res) : At X 5 0 0 (wM V q u) 5 [(0, .ref (q 0)), (1, .int v1), (2, .int v2), (3, .int v3), (4, .int v4)] [] := by
  obtain ⟨hX, hT, hF⟩ := id h
  unfold fX12_theLaw_l5b at hf
  refine a_iload hX dX12_theLaw_5 4 rfl rfl ?_
  refine a_aload_n hX dX12_theLaw_7 rfl 0 rfl rfl ?_
  refine gX12_38 hX F_X12_333 dX12_theLaw_8 rfl ?_
  refine a_icmp_ge (tgt := 66) hX dX12_theLaw_11 rfl rfl hf (fun hf => ?_) (fun hf => ?_)
  · refine a_iload_n hX dX12_theLaw_66 rfl 3 rfl rfl ?_
    refine a_iconst (v := (-1)) hX dX12_theLaw_67 (by decide) rfl ?_
    refine a_icmp_ne (tgt := 75) hX dX12_theLaw_68 rfl rfl hf (fun hf => ?_) (fun hf => ?_)
    · refine a_aload_n hX dX12_theLaw_75 rfl 0 rfl rfl ?_
      refine gX12_41 hX F_X12_79 dX12_theLaw_76 rfl ?_
      refine a_iload_n hX dX12_theLaw_79 rfl 3 rfl rfl ?_
      refine lX12_41 hX dX12_theLaw_80 rfl hf (fun x1 hf => ?_)
      exact a_iret hX hT hF (r_i hf) dX12_theLaw_81
    · refine a_iconst (v := 0) hX dX12_theLaw_71 (by decide) rfl ?_
      refine a_goto (pc' := 81) hX dX12_theLaw_72 rfl ?_
      exact a_iret hX hT hF (r_i hf) dX12_theLaw_81
  · refine a_aload_n hX dX12_theLaw_14 rfl 0 rfl rfl ?_
    refine gX12_39 hX F_X12_73 dX12_theLaw_15 rfl ?_
    refine a_iload hX dX12_theLaw_18 4 rfl rfl ?_
    refine lX12_39 hX dX12_theLaw_20 rfl hf (fun x2 hf => ?_)
    refine a_iload_n hX dX12_theLaw_21 rfl 1 rfl rfl ?_
    refine a_icmp_ne (tgt := 60) hX dX12_theLaw_22 rfl rfl hf (fun hf => ?_) (fun hf => ?_)
    · exact wX12_theLaw_b60 h hE hk5 hf
    · refine a_aload_n hX dX12_theLaw_25 rfl 0 rfl rfl ?_
      refine gX12_40 hX F_X12_76 dX12_theLaw_26 rfl ?_
      refine a_iload hX dX12_theLaw_29 4 rfl rfl ?_
      refine lX12_40 hX dX12_theLaw_31 rfl hf (fun x3 hf => ?_)
      refine a_iload_n hX dX12_theLaw_32 rfl 2 rfl rfl ?_
      refine a_icmp_gt (tgt := 60) hX dX12_theLaw_33 rfl rfl hf (fun hf => ?_) (fun hf => ?_)
      · exact wX12_theLaw_b60 h hE hk5 hf
      · refine a_iload_n hX dX12_theLaw_36 rfl 3 rfl rfl ?_
        refine a_iconst (v := (-1)) hX dX12_theLaw_37 (by decide) rfl ?_
        refine a_icmp_eq (tgt := 57) hX dX12_theLaw_38 rfl rfl hf (fun hf => ?_) (fun hf => ?_)
        · refine a_lv (lv' := [(0, .ref (q 0)), (1, .int v1), (2, .int v2), (4, .int v4)]) [0, 1, 2, 4] rfl ?_
          exact wX12_theLaw_b57 h hE hk5 hf
        · refine a_aload_n hX dX12_theLaw_41 rfl 0 rfl rfl ?_
          refine gX12_40 hX F_X12_76 dX12_theLaw_42 rfl ?_
          refine a_iload hX dX12_theLaw_45 4 rfl rfl ?_
          refine lX12_40 hX dX12_theLaw_47 rfl hf (fun x4 hf => ?_)
          refine a_aload_n hX dX12_theLaw_48 rfl 0 rfl rfl ?_
          refine gX12_40 hX F_X12_76 dX12_theLaw_49 rfl ?_
          refine a_iload_n hX dX12_theLaw_52 rfl 3 rfl rfl ?_
          refine lX12_40 hX dX12_theLaw_53 rfl hf (fun x5 hf => ?_)
          refine a_icmp_lt (tgt := 60) hX dX12_theLaw_54 rfl rfl hf (fun hf => ?_) (fun hf => ?_)
          · exact wX12_theLaw_b60 h hE hk5 hf
          · refine a_lv (lv' := [(0, .ref (q 0)), (1, .int v1), (2, .int v2), (4, .int v4)]) [0, 1, 2, 4] rfl ?_
            exact wX12_theLaw_b57 h hE hk5 hf
def fX12_theLaw_l5 (u : St)  (v1 : Int32) (v2 : Int32) : Nat → Int32 → Int32 → Option (Int32)
  | 0, _, _ => none
  | m + 1, v3, v4 => fX12_theLaw_l5b u (fX12_theLaw_l5 u  v1 v2 m) v1 v2 v3 v4
theorem wX12_theLaw_l5 {X : Cx} {V : Vx} {q : Nat → Nat} {u : St} {res : Int32} (h : Run X cX12_theLaw 5 RX12 rmX12_theLaw V (some .int) (rEq (some (.int res)) (wM V q u))) (hE : ZOK (vZ V)) {v1 : Int32} {v2 : Int32} : ∀ (m : Nat) (v3 : Int32) (v4 : Int32), fX12_theLaw_l5 u  v1 v2 m v3 v4 = some res → At X 5 0 0 (wM V q u) 5 [(0, .ref (q 0)), (1, .int v1), (2, .int v2), (3, .int v3), (4, .int v4)] [] := by
  intro m
  induction m with
  | zero => intro v3 v4 hf; cases hf
  | succ m ih => intro v3 v4 hf; exact wX12_theLaw_l5b h hE ih hf
def fX12_theLaw (u : St) (v1 : Int32) (v2 : Int32) : Option (Int32) := fX12_theLaw_l5 u v1 v2 NF (-1) 0
theorem wX12_theLaw {X : Cx} {V : Vx} {q : Nat → Nat} {u : St} {res : Int32} (h : Run X cX12_theLaw 5 RX12 rmX12_theLaw V (some .int) (rEq (some (.int res)) (wM V q u))) (hE : ZOK (vZ V)) {v1 : Int32} {v2 : Int32} (hf : fX12_theLaw u v1 v2 = some res) : At X 5 0 0 (wM V q u) 0 [(0, .ref (q 0)), (1, .int v1), (2, .int v2)] [] := by
  obtain ⟨hX, hT, hF⟩ := id h
  unfold fX12_theLaw at hf
  refine a_iconst (v := (-1)) hX dX12_theLaw_0 (by decide) rfl ?_
  refine a_istore_n (lv' := [(3, .int (-1)), (0, .ref (q 0)), (1, .int v1), (2, .int v2)]) hX dX12_theLaw_1 rfl (by decide) rfl rfl ?_
  refine a_iconst (v := 0) hX dX12_theLaw_2 (by decide) rfl ?_
  refine a_istore (lv' := [(4, .int 0), (3, .int (-1)), (0, .ref (q 0)), (1, .int v1), (2, .int v2)]) hX dX12_theLaw_3 (by decide) rfl rfl ?_
  refine a_lv (lv' := [(0, .ref (q 0)), (1, .int v1), (2, .int v2), (3, .int (-1)), (4, .int 0)]) [2, 3, 4, 1, 0] rfl ?_
  exact wX12_theLaw_l5 h hE NF (-1) 0 hf
theorem ctX12_theLaw {V : Vx} {q : Nat → Nat} {u : St} {res : Int32} (hE : ZOK (vZ V)) {v1 : Int32} {v2 : Int32} (hf : fX12_theLaw u v1 v2 = some res) : Ct V yX12_theLaw (.code yX12_theLaw cX12_theLaw 5 (some .int)) rmX12_theLaw 0 0 [.ref (q 0), .int v1, .int v2] (wM V q u) (rEq (some (.int res)) (wM V q u)) :=
  Ct_of (by decide) (Nat.le_of_ble_eq_true rfl) rfl (fun X hX hT _ hF => wX12_theLaw ⟨hX, hT, hF⟩ hE hf)
def rmX12_lawOf : Room := { frames := 3, cells := 0, slots := 0, locals := 65 }
def fX12_lawOf (u : St) (v1 : Int32) (v2 : Int32) : Option (Int32) := cl1 (fX12_isPlace u v1 v2) (fun x1 => if x1 = 0 then some (-2) else (cl1 (fX12_theLaw u v1 v2) (fun x2 => some x2)))
theorem wX12_lawOf {X : Cx} {V : Vx} {q : Nat → Nat} {u : St} {res : Int32} (h : Run X cX12_lawOf 3 RX12 rmX12_lawOf V (some .int) (rEq (some (.int res)) (wM V q u))) (hE : ZOK (vZ V)) {v1 : Int32} {v2 : Int32} (hf : fX12_lawOf u v1 v2 = some res) : At X 3 0 0 (wM V q u) 0 [(0, .ref (q 0)), (1, .int v1), (2, .int v2)] [] := by
  obtain ⟨hX, hT, hF⟩ := id h
  unfold fX12_lawOf at hf
  refine a_aload_n hX dX12_lawOf_0 rfl 0 rfl rfl ?_
  refine a_iload_n hX dX12_lawOf_1 rfl 1 rfl rfl ?_
  refine a_iload_n hX dX12_lawOf_2 rfl 2 rfl rfl ?_
  obtain ⟨x1, hg1, hf⟩ := cl1_some hf
  refine a_cVsi (q0 := 0) (rest := []) hX hE (ctX12_isPlace (q := q) hE hg1) K_X12_172 ⟨rfl, rfl⟩ ⟨rfl, rfl, by decide, by decide⟩ ⟨Nat.zero_le _, Nat.zero_le _⟩ (Nat.le_of_ble_eq_true rfl) dX12_lawOf_3 rfl rfl ?_
  refine a_if_eq (tgt := 18) hX dX12_lawOf_6 rfl rfl hf (fun hf => ?_) (fun hf => ?_)
  · refine a_bipush (v := (-2)) hX dX12_lawOf_18 (by decide) rfl ?_
    exact a_iret hX hT hF (r_i hf) dX12_lawOf_20
  · refine a_aload_n hX dX12_lawOf_9 rfl 0 rfl rfl ?_
    refine a_iload_n hX dX12_lawOf_10 rfl 1 rfl rfl ?_
    refine a_iload_n hX dX12_lawOf_11 rfl 2 rfl rfl ?_
    obtain ⟨x2, hg2, hf⟩ := cl1_some hf
    refine a_cVsi (q0 := 0) (rest := []) hX hE (ctX12_theLaw (q := q) hE hg2) K_X12_336 ⟨rfl, rfl⟩ ⟨rfl, rfl, by decide, by decide⟩ ⟨Nat.zero_le _, Nat.zero_le _⟩ (Nat.le_of_ble_eq_true rfl) dX12_lawOf_12 rfl rfl ?_
    refine a_goto (pc' := 20) hX dX12_lawOf_15 rfl ?_
    exact a_iret hX hT hF (r_i hf) dX12_lawOf_20
theorem ctX12_lawOf {V : Vx} {q : Nat → Nat} {u : St} {res : Int32} (hE : ZOK (vZ V)) {v1 : Int32} {v2 : Int32} (hf : fX12_lawOf u v1 v2 = some res) : Ct V yX12_lawOf (.code yX12_lawOf cX12_lawOf 3 (some .int)) rmX12_lawOf 0 0 [.ref (q 0), .int v1, .int v2] (wM V q u) (rEq (some (.int res)) (wM V q u)) :=
  Ct_of (by decide) (Nat.le_of_ble_eq_true rfl) rfl (fun X hX hT _ hF => wX12_lawOf ⟨hX, hT, hF⟩ hE hf)
def rmX12_says : Room := { frames := 75, cells := 0, slots := 0, locals := 4072 }
def fX12_says (u : St) (v1 : Int32) (v2 : Int32) (v3 : Int32) (v4 : Int32) : Option (Int64 × St) := cl1 (fX12_isLand v1) (fun x1 => if x1 = 0 then some ((-4611686018427387904), u) else (cl1 (fX12_isLand v2) (fun x2 => if x2 = 0 then some ((-4611686018427387904), u) else (if v1 = v2 then some ((-4611686018427387904), u) else (cl1 (fX12_in v3 0 ((gZ u 1) - 2)) (fun x3 => if x3 = 0 then some ((-4611686018427387904), u) else (cl1 (fX12_in v4 0 1) (fun x4 => if x4 = 0 then some ((-4611686018427387904), u) else (cl1 (fX12_theLaw u v1 v3) (fun x5 => cl2 (fX12_read u x5 v1 v2 v3 v4) (fun x6 u7 => some (Int32.toInt64 x6, u7))))))))))))
theorem wX12_says {X : Cx} {V : Vx} {q : Nat → Nat} {res : Int64 × St} (h : Run X cX12_says 5 RX12 rmX12_says V (some .long) (rEq (some (.long res.1)) (wM V q res.2))) (hE : ZOK (vZ V)) {u : St} {v1 : Int32} {v2 : Int32} {v3 : Int32} {v4 : Int32} (hf : fX12_says u v1 v2 v3 v4 = some res) : At X 5 0 0 (wM V q u) 0 [(0, .ref (q 0)), (1, .int v1), (2, .int v2), (3, .int v3), (4, .int v4)] [] := by
  obtain ⟨hX, hT, hF⟩ := id h
  unfold fX12_says at hf
  refine a_iload_n hX dX12_says_0 rfl 1 rfl rfl ?_
  obtain ⟨x1, hg1, hf⟩ := cl1_some hf
  refine a_cSpi (rest := []) hX hE (ctX12_isLand hE hg1) K_X12_152 ⟨rfl, rfl, by decide, by decide⟩ ⟨Nat.zero_le _, Nat.zero_le _⟩ (Nat.le_of_ble_eq_true rfl) dX12_says_1 rfl rfl ?_
  refine a_if_eq (tgt := 43) hX dX12_says_4 rfl rfl hf (fun hf => ?_) (fun hf => ?_)
  · refine a_ldc2 hX dX12_says_43 N_X12_196 rfl ?_
    exact a_lret hX hT hF (r_lS (wf := (wM V q)) hf) dX12_says_46
  · refine a_iload_n hX dX12_says_7 rfl 2 rfl rfl ?_
    obtain ⟨x2, hg2, hf⟩ := cl1_some hf
    refine a_cSpi (rest := []) hX hE (ctX12_isLand hE hg2) K_X12_152 ⟨rfl, rfl, by decide, by decide⟩ ⟨Nat.zero_le _, Nat.zero_le _⟩ (Nat.le_of_ble_eq_true rfl) dX12_says_8 rfl rfl ?_
    refine a_if_eq (tgt := 43) hX dX12_says_11 rfl rfl hf (fun hf => ?_) (fun hf => ?_)
    · refine a_ldc2 hX dX12_says_43 N_X12_196 rfl ?_
      exact a_lret hX hT hF (r_lS (wf := (wM V q)) hf) dX12_says_46
    · refine a_iload_n hX dX12_says_14 rfl 1 rfl rfl ?_
      refine a_iload_n hX dX12_says_15 rfl 2 rfl rfl ?_
      refine a_icmp_eq (tgt := 43) hX dX12_says_16 rfl rfl hf (fun hf => ?_) (fun hf => ?_)
      · refine a_ldc2 hX dX12_says_43 N_X12_196 rfl ?_
        exact a_lret hX hT hF (r_lS (wf := (wM V q)) hf) dX12_says_46
      · refine a_iload_n hX dX12_says_19 rfl 3 rfl rfl ?_
        refine a_iconst (v := 0) hX dX12_says_20 (by decide) rfl ?_
        refine a_aload_n hX dX12_says_21 rfl 0 rfl rfl ?_
        refine gX12_1 hX F_X12_124 dX12_says_22 rfl ?_
        refine a_iconst (v := 2) hX dX12_says_25 (by decide) rfl ?_
        refine a_isub hX dX12_says_26 rfl ?_
        obtain ⟨x3, hg3, hf⟩ := cl1_some hf
        refine a_cSpi (rest := []) hX hE (ctX12_in hE hg3) K_X12_148 ⟨rfl, rfl, by decide, by decide⟩ ⟨Nat.zero_le _, Nat.zero_le _⟩ (Nat.le_of_ble_eq_true rfl) dX12_says_27 rfl rfl ?_
        refine a_if_eq (tgt := 43) hX dX12_says_30 rfl rfl hf (fun hf => ?_) (fun hf => ?_)
        · refine a_ldc2 hX dX12_says_43 N_X12_196 rfl ?_
          exact a_lret hX hT hF (r_lS (wf := (wM V q)) hf) dX12_says_46
        · refine a_iload hX dX12_says_33 4 rfl rfl ?_
          refine a_iconst (v := 0) hX dX12_says_35 (by decide) rfl ?_
          refine a_iconst (v := 1) hX dX12_says_36 (by decide) rfl ?_
          obtain ⟨x4, hg4, hf⟩ := cl1_some hf
          refine a_cSpi (rest := []) hX hE (ctX12_in hE hg4) K_X12_148 ⟨rfl, rfl, by decide, by decide⟩ ⟨Nat.zero_le _, Nat.zero_le _⟩ (Nat.le_of_ble_eq_true rfl) dX12_says_37 rfl rfl ?_
          refine a_if_ne (tgt := 47) hX dX12_says_40 rfl rfl hf (fun hf => ?_) (fun hf => ?_)
          · refine a_aload_n hX dX12_says_47 rfl 0 rfl rfl ?_
            refine a_aload_n hX dX12_says_48 rfl 0 rfl rfl ?_
            refine a_iload_n hX dX12_says_49 rfl 1 rfl rfl ?_
            refine a_iload_n hX dX12_says_50 rfl 3 rfl rfl ?_
            obtain ⟨x5, hg5, hf⟩ := cl1_some hf
            refine a_cVsi (q0 := 0) (rest := [.ref (q 0)]) hX hE (ctX12_theLaw (q := q) hE hg5) K_X12_336 ⟨rfl, rfl⟩ ⟨rfl, rfl, by decide, by decide⟩ ⟨Nat.zero_le _, Nat.zero_le _⟩ (Nat.le_of_ble_eq_true rfl) dX12_says_51 rfl rfl ?_
            refine a_iload_n hX dX12_says_54 rfl 1 rfl rfl ?_
            refine a_iload_n hX dX12_says_55 rfl 2 rfl rfl ?_
            refine a_iload_n hX dX12_says_56 rfl 3 rfl rfl ?_
            refine a_iload hX dX12_says_57 4 rfl rfl ?_
            obtain ⟨x6, u7, hg6, hf⟩ := cl2_some hf
            refine a_cVsi (q0 := 0) (rest := []) hX hE (ctX12_read (q := q) hE hg6) K_X12_329 ⟨rfl, rfl⟩ ⟨rfl, rfl, by decide, by decide⟩ ⟨Nat.zero_le _, Nat.zero_le _⟩ (Nat.le_of_ble_eq_true rfl) dX12_says_59 rfl rfl ?_
            refine a_i2l hX dX12_says_62 rfl ?_
            exact a_lret hX hT hF (r_lS (wf := (wM V q)) hf) dX12_says_63
          · refine a_ldc2 hX dX12_says_43 N_X12_196 rfl ?_
            exact a_lret hX hT hF (r_lS (wf := (wM V q)) hf) dX12_says_46
theorem ctX12_says {V : Vx} {q : Nat → Nat} {u : St} {res : Int64 × St} (hE : ZOK (vZ V)) {v1 : Int32} {v2 : Int32} {v3 : Int32} {v4 : Int32} (hf : fX12_says u v1 v2 v3 v4 = some res) : Ct V yX12_says (.code yX12_says cX12_says 5 (some .long)) rmX12_says 0 0 [.ref (q 0), .int v1, .int v2, .int v3, .int v4] (wM V q u) (rEq (some (.long res.1)) (wM V q res.2)) :=
  Ct_of (by decide) (Nat.le_of_ble_eq_true rfl) rfl (fun X hX hT _ hF => wX12_says ⟨hX, hT, hF⟩ hE hf)
def rmX12_judgeSteps : Room := { frames := 75, cells := 0, slots := 0, locals := 4072 }
def fX12_judgeSteps_b109  (k2 : St → Int32 → Option (St)) (k14 : St → Int32 → Option (St)) (k29 : St → Int32 → Option (St)) (u : St) (v1 : Int32) (v2 : Int32) (v3 : Int32) (v4 : Int32) (s0 : Int32) (s1 : Int32) : Option (St) := stZ u 42 300 s1 s0 (fun u8 => k29 u8 (v4 + 1))
theorem wX12_judgeSteps_b109 {X : Cx} {V : Vx} {q : Nat → Nat} {res : St} (h : Run X cX12_judgeSteps 6 RX12 rmX12_judgeSteps V none (rEq none (wM V q res))) (hE : ZOK (vZ V)) {u : St} {v1 : Int32} {v2 : Int32} {v3 : Int32} {v4 : Int32} {s0 : Int32} {s1 : Int32} {k2 : St → Int32 → Option (St)} (hk2 : ∀ (u : St) (v1 : Int32), k2 u v1 = some res → At X 6 0 0 (wM V q u) 2 [(0, .ref (q 0)), (1, .int v1)] []) {k14 : St → Int32 → Option (St)} (hk14 : ∀ (u : St) (v2 : Int32), k14 u v2 = some res → At X 6 0 0 (wM V q u) 14 [(0, .ref (q 0)), (1, .int v1), (2, .int v2)] []) {k29 : St → Int32 → Option (St)} (hk29 : ∀ (u : St) (v4 : Int32), k29 u v4 = some res → At X 6 0 0 (wM V q u) 29 [(0, .ref (q 0)), (1, .int v1), (2, .int v2), (3, .int v3), (4, .int v4)] []) (hf : fX12_judgeSteps_b109  k2 k14 k29 u v1 v2 v3 v4 s0 s1 = some res) : At X 6 0 0 (wM V q u) 109 [(0, .ref (q 0)), (1, .int v1), (2, .int v2), (3, .int v3), (4, .int v4)] [.int s0, .int s1, .ref (q 43)] := by
  obtain ⟨hX, hT, hF⟩ := id h
  unfold fX12_judgeSteps_b109 at hf
  refine sX12_42 hX dX12_judgeSteps_109 rfl hf (fun u8 hf => ?_)
  refine a_iinc (v := v4 + 1) (lv' := [(4, .int (v4 + 1)), (0, .ref (q 0)), (1, .int v1), (2, .int v2), (3, .int v3)]) hX dX12_judgeSteps_110 4 rfl rfl (by decide) rfl rfl ?_
  refine a_goto (pc' := 29) hX dX12_judgeSteps_113 rfl ?_
  refine a_lv (lv' := [(0, .ref (q 0)), (1, .int v1), (2, .int v2), (3, .int v3), (4, .int (v4 + 1))]) [1, 2, 3, 4, 0] rfl ?_
  exact hk29 u8 (v4 + 1) hf
def fX12_judgeSteps_b108  (k2 : St → Int32 → Option (St)) (k14 : St → Int32 → Option (St)) (k29 : St → Int32 → Option (St)) (u : St) (v1 : Int32) (v2 : Int32) (v3 : Int32) (v4 : Int32) (s0 : Int32) : Option (St) := fX12_judgeSteps_b109 k2 k14 k29 u v1 v2 v3 v4 0 s0
theorem wX12_judgeSteps_b108 {X : Cx} {V : Vx} {q : Nat → Nat} {res : St} (h : Run X cX12_judgeSteps 6 RX12 rmX12_judgeSteps V none (rEq none (wM V q res))) (hE : ZOK (vZ V)) {u : St} {v1 : Int32} {v2 : Int32} {v3 : Int32} {v4 : Int32} {s0 : Int32} {k2 : St → Int32 → Option (St)} (hk2 : ∀ (u : St) (v1 : Int32), k2 u v1 = some res → At X 6 0 0 (wM V q u) 2 [(0, .ref (q 0)), (1, .int v1)] []) {k14 : St → Int32 → Option (St)} (hk14 : ∀ (u : St) (v2 : Int32), k14 u v2 = some res → At X 6 0 0 (wM V q u) 14 [(0, .ref (q 0)), (1, .int v1), (2, .int v2)] []) {k29 : St → Int32 → Option (St)} (hk29 : ∀ (u : St) (v4 : Int32), k29 u v4 = some res → At X 6 0 0 (wM V q u) 29 [(0, .ref (q 0)), (1, .int v1), (2, .int v2), (3, .int v3), (4, .int v4)] []) (hf : fX12_judgeSteps_b108  k2 k14 k29 u v1 v2 v3 v4 s0 = some res) : At X 6 0 0 (wM V q u) 108 [(0, .ref (q 0)), (1, .int v1), (2, .int v2), (3, .int v3), (4, .int v4)] [.int s0, .ref (q 43)] := by
  obtain ⟨hX, hT, hF⟩ := id h
  unfold fX12_judgeSteps_b108 at hf
  refine a_iconst (v := 0) hX dX12_judgeSteps_108 (by decide) rfl ?_
  exact wX12_judgeSteps_b109 h hE hk2 hk14 hk29 hf
def fX12_judgeSteps_l29b  (k2 : St → Int32 → Option (St)) (k14 : St → Int32 → Option (St)) (k29 : St → Int32 → Option (St)) (u : St) (v1 : Int32) (v2 : Int32) (v3 : Int32) (v4 : Int32) : Option (St) := if 5 ≤ v4 then k14 u (v2 + 1) else (nmI (((25 * v1) + (5 * v2)) + v4) (fun x2 => if v2 = v4 then fX12_judgeSteps_b108 k2 k14 k29 u v1 v2 v3 v4 x2 else (ldI (gA u 16) 300 x2 (fun x3 => if x3 = 0 then fX12_judgeSteps_b108 k2 k14 k29 u v1 v2 v3 v4 x2 else (cl2 (fX12_read u v3 v2 v4 v1 0) (fun x4 u5 => if x4 = 0 then cl2 (fX12_read u5 v3 v2 v4 v1 1) (fun x6 u7 => if x6 < ((gZ u5 1) - 1) - v1 then fX12_judgeSteps_b108 k2 k14 k29 u7 v1 v2 v3 v4 x2 else (fX12_judgeSteps_b109 k2 k14 k29 u7 v1 v2 v3 v4 1 x2)) else (fX12_judgeSteps_b108 k2 k14 k29 u5 v1 v2 v3 v4 x2)))))))
theorem wX12_judgeSteps_l29b {X : Cx} {V : Vx} {q : Nat → Nat} {res : St} (h : Run X cX12_judgeSteps 6 RX12 rmX12_judgeSteps V none (rEq none (wM V q res))) (hE : ZOK (vZ V)) {u : St} {v1 : Int32} {v2 : Int32} {v3 : Int32} {v4 : Int32} {k2 : St → Int32 → Option (St)} (hk2 : ∀ (u : St) (v1 : Int32), k2 u v1 = some res → At X 6 0 0 (wM V q u) 2 [(0, .ref (q 0)), (1, .int v1)] []) {k14 : St → Int32 → Option (St)} (hk14 : ∀ (u : St) (v2 : Int32), k14 u v2 = some res → At X 6 0 0 (wM V q u) 14 [(0, .ref (q 0)), (1, .int v1), (2, .int v2)] []) {k29 : St → Int32 → Option (St)} (hk29 : ∀ (u : St) (v4 : Int32), k29 u v4 = some res → At X 6 0 0 (wM V q u) 29 [(0, .ref (q 0)), (1, .int v1), (2, .int v2), (3, .int v3), (4, .int v4)] []) (hf : fX12_judgeSteps_l29b  k2 k14 k29 u v1 v2 v3 v4 = some res) : At X 6 0 0 (wM V q u) 29 [(0, .ref (q 0)), (1, .int v1), (2, .int v2), (3, .int v3), (4, .int v4)] [] := by
  obtain ⟨hX, hT, hF⟩ := id h
  unfold fX12_judgeSteps_l29b at hf
  refine a_iload hX dX12_judgeSteps_29 4 rfl rfl ?_
  refine a_iconst (v := 5) hX dX12_judgeSteps_31 (by decide) rfl ?_
  refine a_icmp_ge (tgt := 116) hX dX12_judgeSteps_32 rfl rfl hf (fun hf => ?_) (fun hf => ?_)
  · refine a_iinc (v := v2 + 1) (lv' := [(2, .int (v2 + 1)), (0, .ref (q 0)), (1, .int v1), (3, .int v3), (4, .int v4)]) hX dX12_judgeSteps_116 2 rfl rfl (by decide) rfl rfl ?_
    refine a_goto (pc' := 14) hX dX12_judgeSteps_119 rfl ?_
    refine a_lv (lv' := [(0, .ref (q 0)), (1, .int v1), (2, .int (v2 + 1))]) [1, 2, 0] rfl ?_
    exact hk14 u (v2 + 1) hf
  · refine a_bipush (v := 25) hX dX12_judgeSteps_35 (by decide) rfl ?_
    refine a_iload_n hX dX12_judgeSteps_37 rfl 1 rfl rfl ?_
    refine a_imul hX dX12_judgeSteps_38 rfl ?_
    refine a_iconst (v := 5) hX dX12_judgeSteps_39 (by decide) rfl ?_
    refine a_iload_n hX dX12_judgeSteps_40 rfl 2 rfl rfl ?_
    refine a_imul hX dX12_judgeSteps_41 rfl ?_
    refine a_iadd hX dX12_judgeSteps_42 rfl ?_
    refine a_iload hX dX12_judgeSteps_43 4 rfl rfl ?_
    refine a_iadd hX dX12_judgeSteps_45 rfl ?_
    refine a_nmI hf (fun x2 hf => ?_)
    refine a_istore (lv' := [(5, .int x2), (0, .ref (q 0)), (1, .int v1), (2, .int v2), (3, .int v3), (4, .int v4)]) hX dX12_judgeSteps_46 (by decide) rfl rfl ?_
    refine a_aload_n hX dX12_judgeSteps_48 rfl 1 rfl rfl ?_
    refine gX12_42 hX F_X12_82 dX12_judgeSteps_49 rfl ?_
    refine a_iload hX dX12_judgeSteps_52 0 rfl rfl ?_
    refine a_iload_n hX dX12_judgeSteps_54 rfl 3 rfl rfl ?_
    refine a_iload hX dX12_judgeSteps_55 5 rfl rfl ?_
    refine a_icmp_eq (tgt := 108) hX dX12_judgeSteps_57 rfl rfl hf (fun hf => ?_) (fun hf => ?_)
    · refine a_lv (lv' := [(0, .ref (q 0)), (1, .int v1), (2, .int v2), (3, .int v3), (4, .int v4)]) [1, 2, 3, 4, 5] rfl ?_
      exact wX12_judgeSteps_b108 h hE hk2 hk14 hk29 hf
    · refine a_aload_n hX dX12_judgeSteps_60 rfl 1 rfl rfl ?_
      refine gX12_16 hX F_X12_48 dX12_judgeSteps_61 rfl ?_
      refine a_iload hX dX12_judgeSteps_64 0 rfl rfl ?_
      refine lX12_16 hX dX12_judgeSteps_66 rfl hf (fun x3 hf => ?_)
      refine a_if_eq (tgt := 108) hX dX12_judgeSteps_67 rfl rfl hf (fun hf => ?_) (fun hf => ?_)
      · refine a_lv (lv' := [(0, .ref (q 0)), (1, .int v1), (2, .int v2), (3, .int v3), (4, .int v4)]) [1, 2, 3, 4, 5] rfl ?_
        exact wX12_judgeSteps_b108 h hE hk2 hk14 hk29 hf
      · refine a_aload_n hX dX12_judgeSteps_70 rfl 1 rfl rfl ?_
        refine a_iload_n hX dX12_judgeSteps_71 rfl 4 rfl rfl ?_
        refine a_iload_n hX dX12_judgeSteps_72 rfl 3 rfl rfl ?_
        refine a_iload hX dX12_judgeSteps_73 5 rfl rfl ?_
        refine a_iload_n hX dX12_judgeSteps_75 rfl 2 rfl rfl ?_
        refine a_iconst (v := 0) hX dX12_judgeSteps_76 (by decide) rfl ?_
        obtain ⟨x4, u5, hg4, hf⟩ := cl2_some hf
        refine a_cVsi (q0 := 0) (rest := [.int x2, .ref (q 43)]) hX hE (ctX12_read (q := q) hE hg4) K_X12_329 ⟨rfl, rfl⟩ ⟨rfl, rfl, by decide, by decide⟩ ⟨Nat.zero_le _, Nat.zero_le _⟩ (Nat.le_of_ble_eq_true rfl) dX12_judgeSteps_77 rfl rfl ?_
        refine a_if_ne (tgt := 108) hX dX12_judgeSteps_80 rfl rfl hf (fun hf => ?_) (fun hf => ?_)
        · refine a_lv (lv' := [(0, .ref (q 0)), (1, .int v1), (2, .int v2), (3, .int v3), (4, .int v4)]) [1, 2, 3, 4, 5] rfl ?_
          exact wX12_judgeSteps_b108 h hE hk2 hk14 hk29 hf
        · refine a_aload_n hX dX12_judgeSteps_83 rfl 1 rfl rfl ?_
          refine gX12_1 hX F_X12_124 dX12_judgeSteps_84 rfl ?_
          refine a_iconst (v := 1) hX dX12_judgeSteps_87 (by decide) rfl ?_
          refine a_isub hX dX12_judgeSteps_88 rfl ?_
          refine a_iload_n hX dX12_judgeSteps_89 rfl 2 rfl rfl ?_
          refine a_isub hX dX12_judgeSteps_90 rfl ?_
          refine a_aload_n hX dX12_judgeSteps_91 rfl 1 rfl rfl ?_
          refine a_iload_n hX dX12_judgeSteps_92 rfl 4 rfl rfl ?_
          refine a_iload_n hX dX12_judgeSteps_93 rfl 3 rfl rfl ?_
          refine a_iload hX dX12_judgeSteps_94 5 rfl rfl ?_
          refine a_iload_n hX dX12_judgeSteps_96 rfl 2 rfl rfl ?_
          refine a_iconst (v := 1) hX dX12_judgeSteps_97 (by decide) rfl ?_
          obtain ⟨x6, u7, hg6, hf⟩ := cl2_some hf
          refine a_cVsi (q0 := 0) (rest := [.int (((gZ u5 1) - 1) - v1), .int x2, .ref (q 43)]) hX hE (ctX12_read (q := q) hE hg6) K_X12_329 ⟨rfl, rfl⟩ ⟨rfl, rfl, by decide, by decide⟩ ⟨Nat.zero_le _, Nat.zero_le _⟩ (Nat.le_of_ble_eq_true rfl) dX12_judgeSteps_98 rfl rfl ?_
          refine a_icmp_gt (tgt := 108) hX dX12_judgeSteps_101 rfl rfl hf (fun hf => ?_) (fun hf => ?_)
          · refine a_lv (lv' := [(0, .ref (q 0)), (1, .int v1), (2, .int v2), (3, .int v3), (4, .int v4)]) [1, 2, 3, 4, 5] rfl ?_
            exact wX12_judgeSteps_b108 h hE hk2 hk14 hk29 hf
          · refine a_iconst (v := 1) hX dX12_judgeSteps_104 (by decide) rfl ?_
            refine a_goto (pc' := 109) hX dX12_judgeSteps_105 rfl ?_
            refine a_lv (lv' := [(0, .ref (q 0)), (1, .int v1), (2, .int v2), (3, .int v3), (4, .int v4)]) [1, 2, 3, 4, 5] rfl ?_
            exact wX12_judgeSteps_b109 h hE hk2 hk14 hk29 hf
def fX12_judgeSteps_l29  (k2 : St → Int32 → Option (St)) (k14 : St → Int32 → Option (St)) (v1 : Int32) (v2 : Int32) (v3 : Int32) : Nat → St → Int32 → Option (St)
  | 0, _, _ => none
  | m + 1, u, v4 => fX12_judgeSteps_l29b  k2 k14 (fX12_judgeSteps_l29  k2 k14 v1 v2 v3 m) u v1 v2 v3 v4
theorem wX12_judgeSteps_l29 {X : Cx} {V : Vx} {q : Nat → Nat} {res : St} (h : Run X cX12_judgeSteps 6 RX12 rmX12_judgeSteps V none (rEq none (wM V q res))) (hE : ZOK (vZ V)) {v1 : Int32} {v2 : Int32} {v3 : Int32} {k2 : St → Int32 → Option (St)} (hk2 : ∀ (u : St) (v1 : Int32), k2 u v1 = some res → At X 6 0 0 (wM V q u) 2 [(0, .ref (q 0)), (1, .int v1)] []) {k14 : St → Int32 → Option (St)} (hk14 : ∀ (u : St) (v2 : Int32), k14 u v2 = some res → At X 6 0 0 (wM V q u) 14 [(0, .ref (q 0)), (1, .int v1), (2, .int v2)] []) : ∀ (m : Nat) (u : St) (v4 : Int32), fX12_judgeSteps_l29  k2 k14 v1 v2 v3 m u v4 = some res → At X 6 0 0 (wM V q u) 29 [(0, .ref (q 0)), (1, .int v1), (2, .int v2), (3, .int v3), (4, .int v4)] [] := by
  intro m
  induction m with
  | zero => intro u v4 hf; cases hf
  | succ m ih => intro u v4 hf; exact wX12_judgeSteps_l29b h hE hk2 hk14 ih hf
def fX12_judgeSteps_l14b  (k2 : St → Int32 → Option (St)) (k14 : St → Int32 → Option (St)) (u : St) (v1 : Int32) (v2 : Int32) : Option (St) := if 5 ≤ v2 then k2 u (v1 + 1) else (cl1 (fX12_theLaw u v2 v1) (fun x1 => fX12_judgeSteps_l29 k2 k14 v1 v2 x1 NF u 0))
theorem wX12_judgeSteps_l14b {X : Cx} {V : Vx} {q : Nat → Nat} {res : St} (h : Run X cX12_judgeSteps 6 RX12 rmX12_judgeSteps V none (rEq none (wM V q res))) (hE : ZOK (vZ V)) {u : St} {v1 : Int32} {v2 : Int32} {k2 : St → Int32 → Option (St)} (hk2 : ∀ (u : St) (v1 : Int32), k2 u v1 = some res → At X 6 0 0 (wM V q u) 2 [(0, .ref (q 0)), (1, .int v1)] []) {k14 : St → Int32 → Option (St)} (hk14 : ∀ (u : St) (v2 : Int32), k14 u v2 = some res → At X 6 0 0 (wM V q u) 14 [(0, .ref (q 0)), (1, .int v1), (2, .int v2)] []) (hf : fX12_judgeSteps_l14b  k2 k14 u v1 v2 = some res) : At X 6 0 0 (wM V q u) 14 [(0, .ref (q 0)), (1, .int v1), (2, .int v2)] [] := by
  obtain ⟨hX, hT, hF⟩ := id h
  unfold fX12_judgeSteps_l14b at hf
  refine a_iload_n hX dX12_judgeSteps_14 rfl 2 rfl rfl ?_
  refine a_iconst (v := 5) hX dX12_judgeSteps_15 (by decide) rfl ?_
  refine a_icmp_ge (tgt := 122) hX dX12_judgeSteps_16 rfl rfl hf (fun hf => ?_) (fun hf => ?_)
  · refine a_iinc (v := v1 + 1) (lv' := [(1, .int (v1 + 1)), (0, .ref (q 0)), (2, .int v2)]) hX dX12_judgeSteps_122 1 rfl rfl (by decide) rfl rfl ?_
    refine a_goto (pc' := 2) hX dX12_judgeSteps_125 rfl ?_
    refine a_lv (lv' := [(0, .ref (q 0)), (1, .int (v1 + 1))]) [1, 0] rfl ?_
    exact hk2 u (v1 + 1) hf
  · refine a_aload_n hX dX12_judgeSteps_19 rfl 0 rfl rfl ?_
    refine a_iload_n hX dX12_judgeSteps_20 rfl 2 rfl rfl ?_
    refine a_iload_n hX dX12_judgeSteps_21 rfl 1 rfl rfl ?_
    obtain ⟨x1, hg1, hf⟩ := cl1_some hf
    refine a_cVsi (q0 := 0) (rest := []) hX hE (ctX12_theLaw (q := q) hE hg1) K_X12_336 ⟨rfl, rfl⟩ ⟨rfl, rfl, by decide, by decide⟩ ⟨Nat.zero_le _, Nat.zero_le _⟩ (Nat.le_of_ble_eq_true rfl) dX12_judgeSteps_22 rfl rfl ?_
    refine a_istore_n (lv' := [(3, .int x1), (0, .ref (q 0)), (1, .int v1), (2, .int v2)]) hX dX12_judgeSteps_25 rfl (by decide) rfl rfl ?_
    refine a_iconst (v := 0) hX dX12_judgeSteps_26 (by decide) rfl ?_
    refine a_istore (lv' := [(4, .int 0), (3, .int x1), (0, .ref (q 0)), (1, .int v1), (2, .int v2)]) hX dX12_judgeSteps_27 (by decide) rfl rfl ?_
    refine a_lv (lv' := [(0, .ref (q 0)), (1, .int v1), (2, .int v2), (3, .int x1), (4, .int 0)]) [2, 3, 4, 1, 0] rfl ?_
    exact wX12_judgeSteps_l29 h hE hk2 hk14 NF u 0 hf
def fX12_judgeSteps_l14  (k2 : St → Int32 → Option (St)) (v1 : Int32) : Nat → St → Int32 → Option (St)
  | 0, _, _ => none
  | m + 1, u, v2 => fX12_judgeSteps_l14b  k2 (fX12_judgeSteps_l14  k2 v1 m) u v1 v2
theorem wX12_judgeSteps_l14 {X : Cx} {V : Vx} {q : Nat → Nat} {res : St} (h : Run X cX12_judgeSteps 6 RX12 rmX12_judgeSteps V none (rEq none (wM V q res))) (hE : ZOK (vZ V)) {v1 : Int32} {k2 : St → Int32 → Option (St)} (hk2 : ∀ (u : St) (v1 : Int32), k2 u v1 = some res → At X 6 0 0 (wM V q u) 2 [(0, .ref (q 0)), (1, .int v1)] []) : ∀ (m : Nat) (u : St) (v2 : Int32), fX12_judgeSteps_l14  k2 v1 m u v2 = some res → At X 6 0 0 (wM V q u) 14 [(0, .ref (q 0)), (1, .int v1), (2, .int v2)] [] := by
  intro m
  induction m with
  | zero => intro u v2 hf; cases hf
  | succ m ih => intro u v2 hf; exact wX12_judgeSteps_l14b h hE hk2 ih hf
def fX12_judgeSteps_l2b  (k2 : St → Int32 → Option (St)) (u : St) (v1 : Int32) : Option (St) := if (gZ u 1) - 1 ≤ v1 then some u else (fX12_judgeSteps_l14 k2 v1 NF u 0)
theorem wX12_judgeSteps_l2b {X : Cx} {V : Vx} {q : Nat → Nat} {res : St} (h : Run X cX12_judgeSteps 6 RX12 rmX12_judgeSteps V none (rEq none (wM V q res))) (hE : ZOK (vZ V)) {u : St} {v1 : Int32} {k2 : St → Int32 → Option (St)} (hk2 : ∀ (u : St) (v1 : Int32), k2 u v1 = some res → At X 6 0 0 (wM V q u) 2 [(0, .ref (q 0)), (1, .int v1)] []) (hf : fX12_judgeSteps_l2b  k2 u v1 = some res) : At X 6 0 0 (wM V q u) 2 [(0, .ref (q 0)), (1, .int v1)] [] := by
  obtain ⟨hX, hT, hF⟩ := id h
  unfold fX12_judgeSteps_l2b at hf
  refine a_iload_n hX dX12_judgeSteps_2 rfl 1 rfl rfl ?_
  refine a_aload_n hX dX12_judgeSteps_3 rfl 0 rfl rfl ?_
  refine gX12_1 hX F_X12_124 dX12_judgeSteps_4 rfl ?_
  refine a_iconst (v := 1) hX dX12_judgeSteps_7 (by decide) rfl ?_
  refine a_isub hX dX12_judgeSteps_8 rfl ?_
  refine a_icmp_ge (tgt := 128) hX dX12_judgeSteps_9 rfl rfl hf (fun hf => ?_) (fun hf => ?_)
  · exact a_ret hX hT hF (r_vS (wf := (wM V q)) hf) dX12_judgeSteps_128
  · refine a_iconst (v := 0) hX dX12_judgeSteps_12 (by decide) rfl ?_
    refine a_istore_n (lv' := [(2, .int 0), (0, .ref (q 0)), (1, .int v1)]) hX dX12_judgeSteps_13 rfl (by decide) rfl rfl ?_
    refine a_lv (lv' := [(0, .ref (q 0)), (1, .int v1), (2, .int 0)]) [1, 2, 0] rfl ?_
    exact wX12_judgeSteps_l14 h hE hk2 NF u 0 hf
def fX12_judgeSteps_l2    : Nat → St → Int32 → Option (St)
  | 0, _, _ => none
  | m + 1, u, v1 => fX12_judgeSteps_l2b  (fX12_judgeSteps_l2    m) u v1
theorem wX12_judgeSteps_l2 {X : Cx} {V : Vx} {q : Nat → Nat} {res : St} (h : Run X cX12_judgeSteps 6 RX12 rmX12_judgeSteps V none (rEq none (wM V q res))) (hE : ZOK (vZ V))  : ∀ (m : Nat) (u : St) (v1 : Int32), fX12_judgeSteps_l2    m u v1 = some res → At X 6 0 0 (wM V q u) 2 [(0, .ref (q 0)), (1, .int v1)] [] := by
  intro m
  induction m with
  | zero => intro u v1 hf; cases hf
  | succ m ih => intro u v1 hf; exact wX12_judgeSteps_l2b h hE ih hf
def fX12_judgeSteps (u : St) : Option (St) := fX12_judgeSteps_l2 NF u 0
theorem wX12_judgeSteps {X : Cx} {V : Vx} {q : Nat → Nat} {res : St} (h : Run X cX12_judgeSteps 6 RX12 rmX12_judgeSteps V none (rEq none (wM V q res))) (hE : ZOK (vZ V)) {u : St} (hf : fX12_judgeSteps u = some res) : At X 6 0 0 (wM V q u) 0 [(0, .ref (q 0))] [] := by
  obtain ⟨hX, hT, hF⟩ := id h
  unfold fX12_judgeSteps at hf
  refine a_iconst (v := 0) hX dX12_judgeSteps_0 (by decide) rfl ?_
  refine a_istore_n (lv' := [(1, .int 0), (0, .ref (q 0))]) hX dX12_judgeSteps_1 rfl (by decide) rfl rfl ?_
  refine a_lv (lv' := [(0, .ref (q 0)), (1, .int 0)]) [1, 0] rfl ?_
  exact wX12_judgeSteps_l2 h hE NF u 0 hf
theorem ctX12_judgeSteps {V : Vx} {q : Nat → Nat} {u : St} {res : St} (hE : ZOK (vZ V))  (hf : fX12_judgeSteps u = some res) : Ct V yX12_judgeSteps (.code yX12_judgeSteps cX12_judgeSteps 6 none) rmX12_judgeSteps 0 0 [.ref (q 0)] (wM V q u) (rEq none (wM V q res)) :=
  Ct_of (by decide) (Nat.le_of_ble_eq_true rfl) rfl (fun X hX hT _ hF => wX12_judgeSteps ⟨hX, hT, hF⟩ hE hf)
def rmX12_give : Room := { frames := 76, cells := 0, slots := 0, locals := 4097 }
def fX12_give_b42  (k11 : St → Int32 → Option (St)) (u : St) (v3 : Int32) (s0 : Int64) (s1 : Int32) : Option (St) := stL u 43 60 s1 s0 (fun u7 => k11 u7 (v3 + 1))
theorem wX12_give_b42 {X : Cx} {V : Vx} {q : Nat → Nat} {res : St} (h : Run X cX12_give 8 RX12 rmX12_give V none (rEq none (wM V q res))) (hE : ZOK (vZ V)) {u : St} {v3 : Int32} {s0 : Int64} {s1 : Int32} {k11 : St → Int32 → Option (St)} (hk11 : ∀ (u : St) (v3 : Int32), k11 u v3 = some res → At X 8 0 0 (wM V q u) 11 [(0, .ref (q 0)), (3, .int v3)] []) (hf : fX12_give_b42  k11 u v3 s0 s1 = some res) : At X 8 0 0 (wM V q u) 42 [(0, .ref (q 0)), (3, .int v3)] [.long s0, .int s1, .ref (q 44)] := by
  obtain ⟨hX, hT, hF⟩ := id h
  unfold fX12_give_b42 at hf
  refine sX12_43 hX dX12_give_42 rfl hf (fun u7 hf => ?_)
  refine a_iinc (v := v3 + 1) (lv' := [(3, .int (v3 + 1)), (0, .ref (q 0))]) hX dX12_give_43 1 rfl rfl (by decide) rfl rfl ?_
  refine a_goto (pc' := 11) hX dX12_give_46 rfl ?_
  refine a_lv (lv' := [(0, .ref (q 0)), (3, .int (v3 + 1))]) [1, 0] rfl ?_
  exact hk11 u7 (v3 + 1) hf
def fX12_give_b218  (k51 : St → Int32 → Option (St)) (k93 : St → Int32 → Option (St)) (k102 : St → Int32 → Option (St)) (u : St) (v3 : Int32) (v4 : Int32) (v5 : Int32) : Option (St) := k102 u (v5 + 1)
theorem wX12_give_b218 {X : Cx} {V : Vx} {q : Nat → Nat} {res : St} (h : Run X cX12_give 8 RX12 rmX12_give V none (rEq none (wM V q res))) (hE : ZOK (vZ V)) {u : St} {v3 : Int32} {v4 : Int32} {v5 : Int32} {k51 : St → Int32 → Option (St)} (hk51 : ∀ (u : St) (v3 : Int32), k51 u v3 = some res → At X 8 0 0 (wM V q u) 51 [(0, .ref (q 0)), (3, .int v3)] []) {k93 : St → Int32 → Option (St)} (hk93 : ∀ (u : St) (v4 : Int32), k93 u v4 = some res → At X 8 0 0 (wM V q u) 93 [(0, .ref (q 0)), (3, .int v3), (4, .int v4)] []) {k102 : St → Int32 → Option (St)} (hk102 : ∀ (u : St) (v5 : Int32), k102 u v5 = some res → At X 8 0 0 (wM V q u) 102 [(0, .ref (q 0)), (3, .int v3), (4, .int v4), (5, .int v5)] []) (hf : fX12_give_b218  k51 k93 k102 u v3 v4 v5 = some res) : At X 8 0 0 (wM V q u) 218 [(0, .ref (q 0)), (3, .int v3), (4, .int v4), (5, .int v5)] [] := by
  obtain ⟨hX, hT, hF⟩ := id h
  unfold fX12_give_b218 at hf
  refine a_iinc (v := v5 + 1) (lv' := [(5, .int (v5 + 1)), (0, .ref (q 0)), (3, .int v3), (4, .int v4)]) hX dX12_give_218 3 rfl rfl (by decide) rfl rfl ?_
  refine a_goto (pc' := 102) hX dX12_give_221 rfl ?_
  refine a_lv (lv' := [(0, .ref (q 0)), (3, .int v3), (4, .int v4), (5, .int (v5 + 1))]) [1, 2, 3, 0] rfl ?_
  exact hk102 u (v5 + 1) hf
def fX12_give_l102b  (k51 : St → Int32 → Option (St)) (k93 : St → Int32 → Option (St)) (k102 : St → Int32 → Option (St)) (u : St) (v3 : Int32) (v4 : Int32) (v5 : Int32) : Option (St) := if 5 ≤ v5 then k93 u (v4 + 1) else (nmI (((25 * v3) + (5 * v4)) + v5) (fun x9 => nmI ((5 * (v3 + 1)) + v5) (fun x10 => ldI (gA u 16) 300 x9 (fun x11 => if x11 = 0 then fX12_give_b218 k51 k93 k102 u v3 v4 v5 else (ldI (gA u 15) 60 x10 (fun x12 => if x12 = 0 then fX12_give_b218 k51 k93 k102 u v3 v4 v5 else (ldI (gA u 42) 300 x9 (fun x13 => if x13 = 0 then ldL (gB u 43) 60 x10 (fun x14 => ldL (gB u 43) 60 ((5 * v3) + v4) (fun x15 => stL u 43 60 x10 (x14 + x15) (fun u16 => fX12_give_b218 k51 k93 k102 u16 v3 v4 v5))) else (ldL (gB u 44) 5 v4 (fun x17 => ldL (gB u 43) 60 ((5 * v3) + v4) (fun x18 => ldL (gB u 18) 60 x10 (fun x19 => stL u 44 5 v4 (x17 + (x18 * x19)) (fun u20 => fX12_give_b218 k51 k93 k102 u20 v3 v4 v5)))))))))))))
theorem wX12_give_l102b {X : Cx} {V : Vx} {q : Nat → Nat} {res : St} (h : Run X cX12_give 8 RX12 rmX12_give V none (rEq none (wM V q res))) (hE : ZOK (vZ V)) {u : St} {v3 : Int32} {v4 : Int32} {v5 : Int32} {k51 : St → Int32 → Option (St)} (hk51 : ∀ (u : St) (v3 : Int32), k51 u v3 = some res → At X 8 0 0 (wM V q u) 51 [(0, .ref (q 0)), (3, .int v3)] []) {k93 : St → Int32 → Option (St)} (hk93 : ∀ (u : St) (v4 : Int32), k93 u v4 = some res → At X 8 0 0 (wM V q u) 93 [(0, .ref (q 0)), (3, .int v3), (4, .int v4)] []) {k102 : St → Int32 → Option (St)} (hk102 : ∀ (u : St) (v5 : Int32), k102 u v5 = some res → At X 8 0 0 (wM V q u) 102 [(0, .ref (q 0)), (3, .int v3), (4, .int v4), (5, .int v5)] []) (hf : fX12_give_l102b  k51 k93 k102 u v3 v4 v5 = some res) : At X 8 0 0 (wM V q u) 102 [(0, .ref (q 0)), (3, .int v3), (4, .int v4), (5, .int v5)] [] := by
  obtain ⟨hX, hT, hF⟩ := id h
  unfold fX12_give_l102b at hf
  refine a_iload hX dX12_give_102 3 rfl rfl ?_
  refine a_iconst (v := 5) hX dX12_give_104 (by decide) rfl ?_
  refine a_icmp_ge (tgt := 224) hX dX12_give_105 rfl rfl hf (fun hf => ?_) (fun hf => ?_)
  · refine a_iinc (v := v4 + 1) (lv' := [(4, .int (v4 + 1)), (0, .ref (q 0)), (3, .int v3), (5, .int v5)]) hX dX12_give_224 2 rfl rfl (by decide) rfl rfl ?_
    refine a_goto (pc' := 93) hX dX12_give_227 rfl ?_
    refine a_lv (lv' := [(0, .ref (q 0)), (3, .int v3), (4, .int (v4 + 1))]) [1, 2, 0] rfl ?_
    exact hk93 u (v4 + 1) hf
  · refine a_bipush (v := 25) hX dX12_give_108 (by decide) rfl ?_
    refine a_iload_n hX dX12_give_110 rfl 1 rfl rfl ?_
    refine a_imul hX dX12_give_111 rfl ?_
    refine a_iconst (v := 5) hX dX12_give_112 (by decide) rfl ?_
    refine a_iload hX dX12_give_113 2 rfl rfl ?_
    refine a_imul hX dX12_give_115 rfl ?_
    refine a_iadd hX dX12_give_116 rfl ?_
    refine a_iload hX dX12_give_117 3 rfl rfl ?_
    refine a_iadd hX dX12_give_119 rfl ?_
    refine a_nmI hf (fun x9 hf => ?_)
    refine a_istore (lv' := [(6, .int x9), (0, .ref (q 0)), (3, .int v3), (4, .int v4), (5, .int v5)]) hX dX12_give_120 (by decide) rfl rfl ?_
    refine a_iconst (v := 5) hX dX12_give_122 (by decide) rfl ?_
    refine a_iload_n hX dX12_give_123 rfl 2 rfl rfl ?_
    refine a_iconst (v := 1) hX dX12_give_124 (by decide) rfl ?_
    refine a_iadd hX dX12_give_125 rfl ?_
    refine a_imul hX dX12_give_126 rfl ?_
    refine a_iload hX dX12_give_127 4 rfl rfl ?_
    refine a_iadd hX dX12_give_129 rfl ?_
    refine a_nmI hf (fun x10 hf => ?_)
    refine a_istore (lv' := [(7, .int x10), (6, .int x9), (0, .ref (q 0)), (3, .int v3), (4, .int v4), (5, .int v5)]) hX dX12_give_130 (by decide) rfl rfl ?_
    refine a_aload_n hX dX12_give_132 rfl 2 rfl rfl ?_
    refine gX12_16 hX F_X12_48 dX12_give_133 rfl ?_
    refine a_iload hX dX12_give_136 1 rfl rfl ?_
    refine lX12_16 hX dX12_give_138 rfl hf (fun x11 hf => ?_)
    refine a_if_eq (tgt := 218) hX dX12_give_139 rfl rfl hf (fun hf => ?_) (fun hf => ?_)
    · refine a_lv (lv' := [(0, .ref (q 0)), (3, .int v3), (4, .int v4), (5, .int v5)]) [2, 3, 4, 5] rfl ?_
      exact wX12_give_b218 h hE hk51 hk93 hk102 hf
    · refine a_aload_n hX dX12_give_142 rfl 2 rfl rfl ?_
      refine gX12_15 hX F_X12_45 dX12_give_143 rfl ?_
      refine a_iload hX dX12_give_146 0 rfl rfl ?_
      refine lX12_15 hX dX12_give_148 rfl hf (fun x12 hf => ?_)
      refine a_if_ne (tgt := 155) hX dX12_give_149 rfl rfl hf (fun hf => ?_) (fun hf => ?_)
      · refine a_aload_n hX dX12_give_155 rfl 2 rfl rfl ?_
        refine gX12_42 hX F_X12_82 dX12_give_156 rfl ?_
        refine a_iload hX dX12_give_159 1 rfl rfl ?_
        refine lX12_42 hX dX12_give_161 rfl hf (fun x13 hf => ?_)
        refine a_if_eq (tgt := 197) hX dX12_give_162 rfl rfl hf (fun hf => ?_) (fun hf => ?_)
        · refine a_aload_n hX dX12_give_197 rfl 2 rfl rfl ?_
          refine gX12_43 hX F_X12_85 dX12_give_198 rfl ?_
          refine a_iload hX dX12_give_201 0 rfl rfl ?_
          refine a_dup2 hX dX12_give_203 rfl rfl rfl ?_
          refine lX12_43 hX dX12_give_204 rfl hf (fun x14 hf => ?_)
          refine a_aload_n hX dX12_give_205 rfl 2 rfl rfl ?_
          refine gX12_43 hX F_X12_85 dX12_give_206 rfl ?_
          refine a_iconst (v := 5) hX dX12_give_209 (by decide) rfl ?_
          refine a_iload_n hX dX12_give_210 rfl 3 rfl rfl ?_
          refine a_imul hX dX12_give_211 rfl ?_
          refine a_iload hX dX12_give_212 4 rfl rfl ?_
          refine a_iadd hX dX12_give_214 rfl ?_
          refine lX12_43 hX dX12_give_215 rfl hf (fun x15 hf => ?_)
          refine a_ladd hX dX12_give_216 rfl ?_
          refine sX12_43 hX dX12_give_217 rfl hf (fun u16 hf => ?_)
          refine a_lv (lv' := [(0, .ref (q 0)), (3, .int v3), (4, .int v4), (5, .int v5)]) [2, 3, 4, 5] rfl ?_
          exact wX12_give_b218 h hE hk51 hk93 hk102 hf
        · refine a_aload_n hX dX12_give_165 rfl 2 rfl rfl ?_
          refine gX12_44 hX F_X12_88 dX12_give_166 rfl ?_
          refine a_iload hX dX12_give_169 4 rfl rfl ?_
          refine a_dup2 hX dX12_give_171 rfl rfl rfl ?_
          refine lX12_44 hX dX12_give_172 rfl hf (fun x17 hf => ?_)
          refine a_aload_n hX dX12_give_173 rfl 2 rfl rfl ?_
          refine gX12_43 hX F_X12_85 dX12_give_174 rfl ?_
          refine a_iconst (v := 5) hX dX12_give_177 (by decide) rfl ?_
          refine a_iload_n hX dX12_give_178 rfl 3 rfl rfl ?_
          refine a_imul hX dX12_give_179 rfl ?_
          refine a_iload hX dX12_give_180 4 rfl rfl ?_
          refine a_iadd hX dX12_give_182 rfl ?_
          refine lX12_43 hX dX12_give_183 rfl hf (fun x18 hf => ?_)
          refine a_aload_n hX dX12_give_184 rfl 2 rfl rfl ?_
          refine gX12_18 hX F_X12_55 dX12_give_185 rfl ?_
          refine a_iload hX dX12_give_188 0 rfl rfl ?_
          refine lX12_18 hX dX12_give_190 rfl hf (fun x19 hf => ?_)
          refine a_lmul hX dX12_give_191 rfl ?_
          refine a_ladd hX dX12_give_192 rfl ?_
          refine sX12_44 hX dX12_give_193 rfl hf (fun u20 hf => ?_)
          refine a_goto (pc' := 218) hX dX12_give_194 rfl ?_
          refine a_lv (lv' := [(0, .ref (q 0)), (3, .int v3), (4, .int v4), (5, .int v5)]) [2, 3, 4, 5] rfl ?_
          exact wX12_give_b218 h hE hk51 hk93 hk102 hf
      · refine a_goto (pc' := 218) hX dX12_give_152 rfl ?_
        refine a_lv (lv' := [(0, .ref (q 0)), (3, .int v3), (4, .int v4), (5, .int v5)]) [2, 3, 4, 5] rfl ?_
        exact wX12_give_b218 h hE hk51 hk93 hk102 hf
def fX12_give_l102  (k51 : St → Int32 → Option (St)) (k93 : St → Int32 → Option (St)) (v3 : Int32) (v4 : Int32) : Nat → St → Int32 → Option (St)
  | 0, _, _ => none
  | m + 1, u, v5 => fX12_give_l102b  k51 k93 (fX12_give_l102  k51 k93 v3 v4 m) u v3 v4 v5
theorem wX12_give_l102 {X : Cx} {V : Vx} {q : Nat → Nat} {res : St} (h : Run X cX12_give 8 RX12 rmX12_give V none (rEq none (wM V q res))) (hE : ZOK (vZ V)) {v3 : Int32} {v4 : Int32} {k51 : St → Int32 → Option (St)} (hk51 : ∀ (u : St) (v3 : Int32), k51 u v3 = some res → At X 8 0 0 (wM V q u) 51 [(0, .ref (q 0)), (3, .int v3)] []) {k93 : St → Int32 → Option (St)} (hk93 : ∀ (u : St) (v4 : Int32), k93 u v4 = some res → At X 8 0 0 (wM V q u) 93 [(0, .ref (q 0)), (3, .int v3), (4, .int v4)] []) : ∀ (m : Nat) (u : St) (v5 : Int32), fX12_give_l102  k51 k93 v3 v4 m u v5 = some res → At X 8 0 0 (wM V q u) 102 [(0, .ref (q 0)), (3, .int v3), (4, .int v4), (5, .int v5)] [] := by
  intro m
  induction m with
  | zero => intro u v5 hf; cases hf
  | succ m ih => intro u v5 hf; exact wX12_give_l102b h hE hk51 hk93 ih hf
def fX12_give_l93b  (k51 : St → Int32 → Option (St)) (k93 : St → Int32 → Option (St)) (u : St) (v3 : Int32) (v4 : Int32) : Option (St) := if 5 ≤ v4 then k51 u (v3 + 1) else (fX12_give_l102 k51 k93 v3 v4 NF u 0)
theorem wX12_give_l93b {X : Cx} {V : Vx} {q : Nat → Nat} {res : St} (h : Run X cX12_give 8 RX12 rmX12_give V none (rEq none (wM V q res))) (hE : ZOK (vZ V)) {u : St} {v3 : Int32} {v4 : Int32} {k51 : St → Int32 → Option (St)} (hk51 : ∀ (u : St) (v3 : Int32), k51 u v3 = some res → At X 8 0 0 (wM V q u) 51 [(0, .ref (q 0)), (3, .int v3)] []) {k93 : St → Int32 → Option (St)} (hk93 : ∀ (u : St) (v4 : Int32), k93 u v4 = some res → At X 8 0 0 (wM V q u) 93 [(0, .ref (q 0)), (3, .int v3), (4, .int v4)] []) (hf : fX12_give_l93b  k51 k93 u v3 v4 = some res) : At X 8 0 0 (wM V q u) 93 [(0, .ref (q 0)), (3, .int v3), (4, .int v4)] [] := by
  obtain ⟨hX, hT, hF⟩ := id h
  unfold fX12_give_l93b at hf
  refine a_iload hX dX12_give_93 2 rfl rfl ?_
  refine a_iconst (v := 5) hX dX12_give_95 (by decide) rfl ?_
  refine a_icmp_ge (tgt := 230) hX dX12_give_96 rfl rfl hf (fun hf => ?_) (fun hf => ?_)
  · refine a_iinc (v := v3 + 1) (lv' := [(3, .int (v3 + 1)), (0, .ref (q 0)), (4, .int v4)]) hX dX12_give_230 1 rfl rfl (by decide) rfl rfl ?_
    refine a_goto (pc' := 51) hX dX12_give_233 rfl ?_
    refine a_lv (lv' := [(0, .ref (q 0)), (3, .int (v3 + 1))]) [1, 0] rfl ?_
    exact hk51 u (v3 + 1) hf
  · refine a_iconst (v := 0) hX dX12_give_99 (by decide) rfl ?_
    refine a_istore (lv' := [(5, .int 0), (0, .ref (q 0)), (3, .int v3), (4, .int v4)]) hX dX12_give_100 (by decide) rfl rfl ?_
    refine a_lv (lv' := [(0, .ref (q 0)), (3, .int v3), (4, .int v4), (5, .int 0)]) [1, 2, 3, 0] rfl ?_
    exact wX12_give_l102 h hE hk51 hk93 NF u 0 hf
def fX12_give_l93  (k51 : St → Int32 → Option (St)) (v3 : Int32) : Nat → St → Int32 → Option (St)
  | 0, _, _ => none
  | m + 1, u, v4 => fX12_give_l93b  k51 (fX12_give_l93  k51 v3 m) u v3 v4
theorem wX12_give_l93 {X : Cx} {V : Vx} {q : Nat → Nat} {res : St} (h : Run X cX12_give 8 RX12 rmX12_give V none (rEq none (wM V q res))) (hE : ZOK (vZ V)) {v3 : Int32} {k51 : St → Int32 → Option (St)} (hk51 : ∀ (u : St) (v3 : Int32), k51 u v3 = some res → At X 8 0 0 (wM V q u) 51 [(0, .ref (q 0)), (3, .int v3)] []) : ∀ (m : Nat) (u : St) (v4 : Int32), fX12_give_l93  k51 v3 m u v4 = some res → At X 8 0 0 (wM V q u) 93 [(0, .ref (q 0)), (3, .int v3), (4, .int v4)] [] := by
  intro m
  induction m with
  | zero => intro u v4 hf; cases hf
  | succ m ih => intro u v4 hf; exact wX12_give_l93b h hE hk51 ih hf
def fX12_give_l64b  (k51 : St → Int32 → Option (St)) (k64 : St → Int32 → Option (St)) (u : St) (v3 : Int32) (v4 : Int32) : Option (St) := if 5 ≤ v4 then fX12_give_l93 k51 v3 NF u 0 else (stL u 43 60 ((5 * (v3 + 1)) + v4) 0 (fun u8 => k64 u8 (v4 + 1)))
theorem wX12_give_l64b {X : Cx} {V : Vx} {q : Nat → Nat} {res : St} (h : Run X cX12_give 8 RX12 rmX12_give V none (rEq none (wM V q res))) (hE : ZOK (vZ V)) {u : St} {v3 : Int32} {v4 : Int32} {k51 : St → Int32 → Option (St)} (hk51 : ∀ (u : St) (v3 : Int32), k51 u v3 = some res → At X 8 0 0 (wM V q u) 51 [(0, .ref (q 0)), (3, .int v3)] []) {k64 : St → Int32 → Option (St)} (hk64 : ∀ (u : St) (v4 : Int32), k64 u v4 = some res → At X 8 0 0 (wM V q u) 64 [(0, .ref (q 0)), (3, .int v3), (4, .int v4)] []) (hf : fX12_give_l64b  k51 k64 u v3 v4 = some res) : At X 8 0 0 (wM V q u) 64 [(0, .ref (q 0)), (3, .int v3), (4, .int v4)] [] := by
  obtain ⟨hX, hT, hF⟩ := id h
  unfold fX12_give_l64b at hf
  refine a_iload hX dX12_give_64 2 rfl rfl ?_
  refine a_iconst (v := 5) hX dX12_give_66 (by decide) rfl ?_
  refine a_icmp_ge (tgt := 90) hX dX12_give_67 rfl rfl hf (fun hf => ?_) (fun hf => ?_)
  · refine a_iconst (v := 0) hX dX12_give_90 (by decide) rfl ?_
    refine a_istore (lv' := [(4, .int 0), (0, .ref (q 0)), (3, .int v3)]) hX dX12_give_91 (by decide) rfl rfl ?_
    refine a_lv (lv' := [(0, .ref (q 0)), (3, .int v3), (4, .int 0)]) [1, 2, 0] rfl ?_
    exact wX12_give_l93 h hE hk51 NF u 0 hf
  · refine a_aload_n hX dX12_give_70 rfl 0 rfl rfl ?_
    refine gX12_43 hX F_X12_85 dX12_give_71 rfl ?_
    refine a_iconst (v := 5) hX dX12_give_74 (by decide) rfl ?_
    refine a_iload_n hX dX12_give_75 rfl 1 rfl rfl ?_
    refine a_iconst (v := 1) hX dX12_give_76 (by decide) rfl ?_
    refine a_iadd hX dX12_give_77 rfl ?_
    refine a_imul hX dX12_give_78 rfl ?_
    refine a_iload hX dX12_give_79 2 rfl rfl ?_
    refine a_iadd hX dX12_give_81 rfl ?_
    refine a_lconst (v := 0) hX dX12_give_82 (by decide) rfl ?_
    refine sX12_43 hX dX12_give_83 rfl hf (fun u8 hf => ?_)
    refine a_iinc (v := v4 + 1) (lv' := [(4, .int (v4 + 1)), (0, .ref (q 0)), (3, .int v3)]) hX dX12_give_84 2 rfl rfl (by decide) rfl rfl ?_
    refine a_goto (pc' := 64) hX dX12_give_87 rfl ?_
    refine a_lv (lv' := [(0, .ref (q 0)), (3, .int v3), (4, .int (v4 + 1))]) [1, 2, 0] rfl ?_
    exact hk64 u8 (v4 + 1) hf
def fX12_give_l64  (k51 : St → Int32 → Option (St)) (v3 : Int32) : Nat → St → Int32 → Option (St)
  | 0, _, _ => none
  | m + 1, u, v4 => fX12_give_l64b  k51 (fX12_give_l64  k51 v3 m) u v3 v4
theorem wX12_give_l64 {X : Cx} {V : Vx} {q : Nat → Nat} {res : St} (h : Run X cX12_give 8 RX12 rmX12_give V none (rEq none (wM V q res))) (hE : ZOK (vZ V)) {v3 : Int32} {k51 : St → Int32 → Option (St)} (hk51 : ∀ (u : St) (v3 : Int32), k51 u v3 = some res → At X 8 0 0 (wM V q u) 51 [(0, .ref (q 0)), (3, .int v3)] []) : ∀ (m : Nat) (u : St) (v4 : Int32), fX12_give_l64  k51 v3 m u v4 = some res → At X 8 0 0 (wM V q u) 64 [(0, .ref (q 0)), (3, .int v3), (4, .int v4)] [] := by
  intro m
  induction m with
  | zero => intro u v4 hf; cases hf
  | succ m ih => intro u v4 hf; exact wX12_give_l64b h hE hk51 ih hf
def fX12_give_l238b  (k238 : St → Int32 → Option (St)) (u : St) (v3 : Int32) : Option (St) := if 5 ≤ v3 then some u else (ldL (gB u 44) 5 v3 (fun x21 => ldL (gB u 43) 60 ((5 * ((gZ u 1) - 1)) + v3) (fun x22 => stL u 44 5 v3 (x21 + x22) (fun u23 => k238 u23 (v3 + 1)))))
theorem wX12_give_l238b {X : Cx} {V : Vx} {q : Nat → Nat} {res : St} (h : Run X cX12_give 8 RX12 rmX12_give V none (rEq none (wM V q res))) (hE : ZOK (vZ V)) {u : St} {v3 : Int32} {k238 : St → Int32 → Option (St)} (hk238 : ∀ (u : St) (v3 : Int32), k238 u v3 = some res → At X 8 0 0 (wM V q u) 238 [(0, .ref (q 0)), (3, .int v3)] []) (hf : fX12_give_l238b  k238 u v3 = some res) : At X 8 0 0 (wM V q u) 238 [(0, .ref (q 0)), (3, .int v3)] [] := by
  obtain ⟨hX, hT, hF⟩ := id h
  unfold fX12_give_l238b at hf
  refine a_iload_n hX dX12_give_238 rfl 1 rfl rfl ?_
  refine a_iconst (v := 5) hX dX12_give_239 (by decide) rfl ?_
  refine a_icmp_ge (tgt := 273) hX dX12_give_240 rfl rfl hf (fun hf => ?_) (fun hf => ?_)
  · exact a_ret hX hT hF (r_vS (wf := (wM V q)) hf) dX12_give_273
  · refine a_aload_n hX dX12_give_243 rfl 0 rfl rfl ?_
    refine gX12_44 hX F_X12_88 dX12_give_244 rfl ?_
    refine a_iload_n hX dX12_give_247 rfl 1 rfl rfl ?_
    refine a_dup2 hX dX12_give_248 rfl rfl rfl ?_
    refine lX12_44 hX dX12_give_249 rfl hf (fun x21 hf => ?_)
    refine a_aload_n hX dX12_give_250 rfl 0 rfl rfl ?_
    refine gX12_43 hX F_X12_85 dX12_give_251 rfl ?_
    refine a_iconst (v := 5) hX dX12_give_254 (by decide) rfl ?_
    refine a_aload_n hX dX12_give_255 rfl 0 rfl rfl ?_
    refine gX12_1 hX F_X12_124 dX12_give_256 rfl ?_
    refine a_iconst (v := 1) hX dX12_give_259 (by decide) rfl ?_
    refine a_isub hX dX12_give_260 rfl ?_
    refine a_imul hX dX12_give_261 rfl ?_
    refine a_iload_n hX dX12_give_262 rfl 1 rfl rfl ?_
    refine a_iadd hX dX12_give_263 rfl ?_
    refine lX12_43 hX dX12_give_264 rfl hf (fun x22 hf => ?_)
    refine a_ladd hX dX12_give_265 rfl ?_
    refine sX12_44 hX dX12_give_266 rfl hf (fun u23 hf => ?_)
    refine a_iinc (v := v3 + 1) (lv' := [(3, .int (v3 + 1)), (0, .ref (q 0))]) hX dX12_give_267 1 rfl rfl (by decide) rfl rfl ?_
    refine a_goto (pc' := 238) hX dX12_give_270 rfl ?_
    refine a_lv (lv' := [(0, .ref (q 0)), (3, .int (v3 + 1))]) [1, 0] rfl ?_
    exact hk238 u23 (v3 + 1) hf
def fX12_give_l238    : Nat → St → Int32 → Option (St)
  | 0, _, _ => none
  | m + 1, u, v3 => fX12_give_l238b  (fX12_give_l238    m) u v3
theorem wX12_give_l238 {X : Cx} {V : Vx} {q : Nat → Nat} {res : St} (h : Run X cX12_give 8 RX12 rmX12_give V none (rEq none (wM V q res))) (hE : ZOK (vZ V))  : ∀ (m : Nat) (u : St) (v3 : Int32), fX12_give_l238    m u v3 = some res → At X 8 0 0 (wM V q u) 238 [(0, .ref (q 0)), (3, .int v3)] [] := by
  intro m
  induction m with
  | zero => intro u v3 hf; cases hf
  | succ m ih => intro u v3 hf; exact wX12_give_l238b h hE ih hf
def fX12_give_l51b  (k51 : St → Int32 → Option (St)) (u : St) (v3 : Int32) : Option (St) := if (gZ u 1) - 1 ≤ v3 then fX12_give_l238 NF u 0 else (fX12_give_l64 k51 v3 NF u 0)
theorem wX12_give_l51b {X : Cx} {V : Vx} {q : Nat → Nat} {res : St} (h : Run X cX12_give 8 RX12 rmX12_give V none (rEq none (wM V q res))) (hE : ZOK (vZ V)) {u : St} {v3 : Int32} {k51 : St → Int32 → Option (St)} (hk51 : ∀ (u : St) (v3 : Int32), k51 u v3 = some res → At X 8 0 0 (wM V q u) 51 [(0, .ref (q 0)), (3, .int v3)] []) (hf : fX12_give_l51b  k51 u v3 = some res) : At X 8 0 0 (wM V q u) 51 [(0, .ref (q 0)), (3, .int v3)] [] := by
  obtain ⟨hX, hT, hF⟩ := id h
  unfold fX12_give_l51b at hf
  refine a_iload_n hX dX12_give_51 rfl 1 rfl rfl ?_
  refine a_aload_n hX dX12_give_52 rfl 0 rfl rfl ?_
  refine gX12_1 hX F_X12_124 dX12_give_53 rfl ?_
  refine a_iconst (v := 1) hX dX12_give_56 (by decide) rfl ?_
  refine a_isub hX dX12_give_57 rfl ?_
  refine a_icmp_ge (tgt := 236) hX dX12_give_58 rfl rfl hf (fun hf => ?_) (fun hf => ?_)
  · refine a_iconst (v := 0) hX dX12_give_236 (by decide) rfl ?_
    refine a_istore_n (lv' := [(3, .int 0), (0, .ref (q 0))]) hX dX12_give_237 rfl (by decide) rfl rfl ?_
    refine a_lv (lv' := [(0, .ref (q 0)), (3, .int 0)]) [1, 0] rfl ?_
    exact wX12_give_l238 h hE NF u 0 hf
  · refine a_iconst (v := 0) hX dX12_give_61 (by decide) rfl ?_
    refine a_istore (lv' := [(4, .int 0), (0, .ref (q 0)), (3, .int v3)]) hX dX12_give_62 (by decide) rfl rfl ?_
    refine a_lv (lv' := [(0, .ref (q 0)), (3, .int v3), (4, .int 0)]) [1, 2, 0] rfl ?_
    exact wX12_give_l64 h hE hk51 NF u 0 hf
def fX12_give_l51    : Nat → St → Int32 → Option (St)
  | 0, _, _ => none
  | m + 1, u, v3 => fX12_give_l51b  (fX12_give_l51    m) u v3
theorem wX12_give_l51 {X : Cx} {V : Vx} {q : Nat → Nat} {res : St} (h : Run X cX12_give 8 RX12 rmX12_give V none (rEq none (wM V q res))) (hE : ZOK (vZ V))  : ∀ (m : Nat) (u : St) (v3 : Int32), fX12_give_l51    m u v3 = some res → At X 8 0 0 (wM V q u) 51 [(0, .ref (q 0)), (3, .int v3)] [] := by
  intro m
  induction m with
  | zero => intro u v3 hf; cases hf
  | succ m ih => intro u v3 hf; exact wX12_give_l51b h hE ih hf
def fX12_give_l11b  (k11 : St → Int32 → Option (St)) (u : St) (v3 : Int32) : Option (St) := if 5 ≤ v3 then fX12_give_l51 NF u 0 else (stL u 44 5 v3 0 (fun u5 => ldI (gA u5 15) 60 v3 (fun x6 => if x6 = 0 then fX12_give_b42 k11 u5 v3 0 v3 else (fX12_give_b42 k11 u5 v3 1 v3))))
theorem wX12_give_l11b {X : Cx} {V : Vx} {q : Nat → Nat} {res : St} (h : Run X cX12_give 8 RX12 rmX12_give V none (rEq none (wM V q res))) (hE : ZOK (vZ V)) {u : St} {v3 : Int32} {k11 : St → Int32 → Option (St)} (hk11 : ∀ (u : St) (v3 : Int32), k11 u v3 = some res → At X 8 0 0 (wM V q u) 11 [(0, .ref (q 0)), (3, .int v3)] []) (hf : fX12_give_l11b  k11 u v3 = some res) : At X 8 0 0 (wM V q u) 11 [(0, .ref (q 0)), (3, .int v3)] [] := by
  obtain ⟨hX, hT, hF⟩ := id h
  unfold fX12_give_l11b at hf
  refine a_iload_n hX dX12_give_11 rfl 1 rfl rfl ?_
  refine a_iconst (v := 5) hX dX12_give_12 (by decide) rfl ?_
  refine a_icmp_ge (tgt := 49) hX dX12_give_13 rfl rfl hf (fun hf => ?_) (fun hf => ?_)
  · refine a_iconst (v := 0) hX dX12_give_49 (by decide) rfl ?_
    refine a_istore_n (lv' := [(3, .int 0), (0, .ref (q 0))]) hX dX12_give_50 rfl (by decide) rfl rfl ?_
    refine a_lv (lv' := [(0, .ref (q 0)), (3, .int 0)]) [1, 0] rfl ?_
    exact wX12_give_l51 h hE NF u 0 hf
  · refine a_aload_n hX dX12_give_16 rfl 0 rfl rfl ?_
    refine gX12_44 hX F_X12_88 dX12_give_17 rfl ?_
    refine a_iload_n hX dX12_give_20 rfl 1 rfl rfl ?_
    refine a_lconst (v := 0) hX dX12_give_21 (by decide) rfl ?_
    refine sX12_44 hX dX12_give_22 rfl hf (fun u5 hf => ?_)
    refine a_aload_n hX dX12_give_23 rfl 0 rfl rfl ?_
    refine gX12_43 hX F_X12_85 dX12_give_24 rfl ?_
    refine a_iload_n hX dX12_give_27 rfl 1 rfl rfl ?_
    refine a_aload_n hX dX12_give_28 rfl 0 rfl rfl ?_
    refine gX12_15 hX F_X12_45 dX12_give_29 rfl ?_
    refine a_iload_n hX dX12_give_32 rfl 1 rfl rfl ?_
    refine lX12_15 hX dX12_give_33 rfl hf (fun x6 hf => ?_)
    refine a_if_eq (tgt := 41) hX dX12_give_34 rfl rfl hf (fun hf => ?_) (fun hf => ?_)
    · refine a_lconst (v := 0) hX dX12_give_41 (by decide) rfl ?_
      exact wX12_give_b42 h hE hk11 hf
    · refine a_lconst (v := 1) hX dX12_give_37 (by decide) rfl ?_
      refine a_goto (pc' := 42) hX dX12_give_38 rfl ?_
      exact wX12_give_b42 h hE hk11 hf
def fX12_give_l11    : Nat → St → Int32 → Option (St)
  | 0, _, _ => none
  | m + 1, u, v3 => fX12_give_l11b  (fX12_give_l11    m) u v3
theorem wX12_give_l11 {X : Cx} {V : Vx} {q : Nat → Nat} {res : St} (h : Run X cX12_give 8 RX12 rmX12_give V none (rEq none (wM V q res))) (hE : ZOK (vZ V))  : ∀ (m : Nat) (u : St) (v3 : Int32), fX12_give_l11    m u v3 = some res → At X 8 0 0 (wM V q u) 11 [(0, .ref (q 0)), (3, .int v3)] [] := by
  intro m
  induction m with
  | zero => intro u v3 hf; cases hf
  | succ m ih => intro u v3 hf; exact wX12_give_l11b h hE ih hf
def fX12_give (u : St) : Option (St) := cl2 (fX12_all u) (fun x1 u2 => cl1 (fX12_judgeSteps u2) (fun u4 => fX12_give_l11 NF u4 0))
theorem wX12_give {X : Cx} {V : Vx} {q : Nat → Nat} {res : St} (h : Run X cX12_give 8 RX12 rmX12_give V none (rEq none (wM V q res))) (hE : ZOK (vZ V)) {u : St} (hf : fX12_give u = some res) : At X 8 0 0 (wM V q u) 0 [(0, .ref (q 0))] [] := by
  obtain ⟨hX, hT, hF⟩ := id h
  unfold fX12_give at hf
  refine a_aload_n hX dX12_give_0 rfl 0 rfl rfl ?_
  obtain ⟨x1, u2, hg1, hf⟩ := cl2_some hf
  refine a_cVsl (q0 := 0) (rest := []) hX hE (ctX12_all (q := q) hE hg1) K_X12_193 ⟨rfl, rfl⟩ ⟨rfl, rfl, by decide, by decide⟩ ⟨Nat.zero_le _, Nat.zero_le _⟩ (Nat.le_of_ble_eq_true rfl) dX12_give_1 rfl rfl ?_
  refine a_lstore_n (lv' := [(1, .long x1), (0, .ref (q 0))]) hX dX12_give_4 rfl (by decide) rfl rfl ?_
  refine a_aload_n hX dX12_give_5 rfl 1 rfl rfl ?_
  obtain ⟨u4, hg3, hf⟩ := cl1_some hf
  refine a_cVsv (q0 := 0) (rest := []) hX hE (ctX12_judgeSteps (q := q) hE hg3) K_X12_340 ⟨rfl, rfl⟩ ⟨rfl, rfl, by decide, by decide⟩ ⟨Nat.zero_le _, Nat.zero_le _⟩ (Nat.le_of_ble_eq_true rfl) dX12_give_6 rfl rfl ?_
  refine a_iconst (v := 0) hX dX12_give_9 (by decide) rfl ?_
  refine a_istore_n (lv' := [(3, .int 0), (1, .long x1), (0, .ref (q 0))]) hX dX12_give_10 rfl (by decide) rfl rfl ?_
  refine a_lv (lv' := [(0, .ref (q 0)), (3, .int 0)]) [2, 0] rfl ?_
  exact wX12_give_l11 h hE NF u4 0 hf
theorem ctX12_give {V : Vx} {q : Nat → Nat} {u : St} {res : St} (hE : ZOK (vZ V))  (hf : fX12_give u = some res) : Ct V yX12_give (.code yX12_give cX12_give 8 none) rmX12_give 0 0 [.ref (q 0)] (wM V q u) (rEq none (wM V q res)) :=
  Ct_of (by decide) (Nat.le_of_ble_eq_true rfl) rfl (fun X hX hT _ hF => wX12_give ⟨hX, hT, hF⟩ hE hf)
def rmX12_given : Room := { frames := 77, cells := 0, slots := 0, locals := 4124 }
def fX12_given (u : St) (v1 : Int32) : Option (Int64 × St) := cl1 (fX12_isLand v1) (fun x1 => if x1 = 0 then some ((-4611686018427387904), u) else (cl1 (fX12_give u) (fun u3 => ldL (gB u3 44) 5 v1 (fun x4 => some (x4, u3)))))
theorem wX12_given {X : Cx} {V : Vx} {q : Nat → Nat} {res : Int64 × St} (h : Run X cX12_given 2 RX12 rmX12_given V (some .long) (rEq (some (.long res.1)) (wM V q res.2))) (hE : ZOK (vZ V)) {u : St} {v1 : Int32} (hf : fX12_given u v1 = some res) : At X 2 0 0 (wM V q u) 0 [(0, .ref (q 0)), (1, .int v1)] [] := by
  obtain ⟨hX, hT, hF⟩ := id h
  unfold fX12_given at hf
  refine a_iload_n hX dX12_given_0 rfl 1 rfl rfl ?_
  obtain ⟨x1, hg1, hf⟩ := cl1_some hf
  refine a_cSpi (rest := []) hX hE (ctX12_isLand hE hg1) K_X12_152 ⟨rfl, rfl, by decide, by decide⟩ ⟨Nat.zero_le _, Nat.zero_le _⟩ (Nat.le_of_ble_eq_true rfl) dX12_given_1 rfl rfl ?_
  refine a_if_ne (tgt := 11) hX dX12_given_4 rfl rfl hf (fun hf => ?_) (fun hf => ?_)
  · refine a_aload_n hX dX12_given_11 rfl 0 rfl rfl ?_
    obtain ⟨u3, hg2, hf⟩ := cl1_some hf
    refine a_cVsv (q0 := 0) (rest := []) hX hE (ctX12_give (q := q) hE hg2) K_X12_343 ⟨rfl, rfl⟩ ⟨rfl, rfl, by decide, by decide⟩ ⟨Nat.zero_le _, Nat.zero_le _⟩ (Nat.le_of_ble_eq_true rfl) dX12_given_12 rfl rfl ?_
    refine a_aload_n hX dX12_given_15 rfl 0 rfl rfl ?_
    refine gX12_44 hX F_X12_88 dX12_given_16 rfl ?_
    refine a_iload_n hX dX12_given_19 rfl 1 rfl rfl ?_
    refine lX12_44 hX dX12_given_20 rfl hf (fun x4 hf => ?_)
    exact a_lret hX hT hF (r_lS (wf := (wM V q)) hf) dX12_given_21
  · refine a_ldc2 hX dX12_given_7 N_X12_196 rfl ?_
    exact a_lret hX hT hF (r_lS (wf := (wM V q)) hf) dX12_given_10
theorem ctX12_given {V : Vx} {q : Nat → Nat} {u : St} {res : Int64 × St} (hE : ZOK (vZ V)) {v1 : Int32} (hf : fX12_given u v1 = some res) : Ct V yX12_given (.code yX12_given cX12_given 2 (some .long)) rmX12_given 0 0 [.ref (q 0), .int v1] (wM V q u) (rEq (some (.long res.1)) (wM V q res.2)) :=
  Ct_of (by decide) (Nat.le_of_ble_eq_true rfl) rfl (fun X hX hT _ hF => wX12_given ⟨hX, hT, hF⟩ hE hf)
def rmX12_claim : Room := { frames := 76, cells := 0, slots := 0, locals := 4097 }
def fX12_claim_b88  (k23 : St → Int32 → Option (Int64 × St)) (k37 : St → Int32 → Option (Int64 × St)) (u : St) (v1 : Int32) (v2 : Int64) (v4 : Int32) (v5 : Int32) (s0 : Int32) (s1 : Int32) : Option (Int64 × St) := stZ u 16 300 s1 s0 (fun u11 => k37 u11 (v5 + 1))
theorem wX12_claim_b88 {X : Cx} {V : Vx} {q : Nat → Nat} {res : Int64 × St} (h : Run X cX12_claim 7 RX12 rmX12_claim V (some .long) (rEq (some (.long res.1)) (wM V q res.2))) (hE : ZOK (vZ V)) {u : St} {v1 : Int32} {v2 : Int64} {v4 : Int32} {v5 : Int32} {s0 : Int32} {s1 : Int32} {k23 : St → Int32 → Option (Int64 × St)} (hk23 : ∀ (u : St) (v4 : Int32), k23 u v4 = some res → At X 7 0 0 (wM V q u) 23 [(0, .ref (q 0)), (1, .int v1), (2, .long v2), (4, .int v4)] []) {k37 : St → Int32 → Option (Int64 × St)} (hk37 : ∀ (u : St) (v5 : Int32), k37 u v5 = some res → At X 7 0 0 (wM V q u) 37 [(0, .ref (q 0)), (1, .int v1), (2, .long v2), (4, .int v4), (5, .int v5)] []) (hf : fX12_claim_b88  k23 k37 u v1 v2 v4 v5 s0 s1 = some res) : At X 7 0 0 (wM V q u) 88 [(0, .ref (q 0)), (1, .int v1), (2, .long v2), (4, .int v4), (5, .int v5)] [.int s0, .int s1, .ref (q 17)] := by
  obtain ⟨hX, hT, hF⟩ := id h
  unfold fX12_claim_b88 at hf
  refine sX12_16 hX dX12_claim_88 rfl hf (fun u11 hf => ?_)
  refine a_iinc (v := v5 + 1) (lv' := [(5, .int (v5 + 1)), (0, .ref (q 0)), (1, .int v1), (2, .long v2), (4, .int v4)]) hX dX12_claim_89 4 rfl rfl (by decide) rfl rfl ?_
  refine a_goto (pc' := 37) hX dX12_claim_92 rfl ?_
  refine a_lv (lv' := [(0, .ref (q 0)), (1, .int v1), (2, .long v2), (4, .int v4), (5, .int (v5 + 1))]) [1, 2, 3, 4, 0] rfl ?_
  exact hk37 u11 (v5 + 1) hf
def fX12_claim_b87  (k23 : St → Int32 → Option (Int64 × St)) (k37 : St → Int32 → Option (Int64 × St)) (u : St) (v1 : Int32) (v2 : Int64) (v4 : Int32) (v5 : Int32) (s0 : Int32) : Option (Int64 × St) := fX12_claim_b88 k23 k37 u v1 v2 v4 v5 0 s0
theorem wX12_claim_b87 {X : Cx} {V : Vx} {q : Nat → Nat} {res : Int64 × St} (h : Run X cX12_claim 7 RX12 rmX12_claim V (some .long) (rEq (some (.long res.1)) (wM V q res.2))) (hE : ZOK (vZ V)) {u : St} {v1 : Int32} {v2 : Int64} {v4 : Int32} {v5 : Int32} {s0 : Int32} {k23 : St → Int32 → Option (Int64 × St)} (hk23 : ∀ (u : St) (v4 : Int32), k23 u v4 = some res → At X 7 0 0 (wM V q u) 23 [(0, .ref (q 0)), (1, .int v1), (2, .long v2), (4, .int v4)] []) {k37 : St → Int32 → Option (Int64 × St)} (hk37 : ∀ (u : St) (v5 : Int32), k37 u v5 = some res → At X 7 0 0 (wM V q u) 37 [(0, .ref (q 0)), (1, .int v1), (2, .long v2), (4, .int v4), (5, .int v5)] []) (hf : fX12_claim_b87  k23 k37 u v1 v2 v4 v5 s0 = some res) : At X 7 0 0 (wM V q u) 87 [(0, .ref (q 0)), (1, .int v1), (2, .long v2), (4, .int v4), (5, .int v5)] [.int s0, .ref (q 17)] := by
  obtain ⟨hX, hT, hF⟩ := id h
  unfold fX12_claim_b87 at hf
  refine a_iconst (v := 0) hX dX12_claim_87 (by decide) rfl ?_
  exact wX12_claim_b88 h hE hk23 hk37 hf
def fX12_claim_l37b  (k23 : St → Int32 → Option (Int64 × St)) (k37 : St → Int32 → Option (Int64 × St)) (u : St) (v1 : Int32) (v2 : Int64) (v4 : Int32) (v5 : Int32) : Option (Int64 × St) := if 5 ≤ v5 then k23 u (v4 + 1) else (nmI (((25 * v4) + (5 * v1)) + v5) (fun x8 => ldI (gA u 16) 300 x8 (fun x9 => if x9 = 0 then fX12_claim_b87 k23 k37 u v1 v2 v4 v5 x8 else (ldI (gA u 42) 300 x8 (fun x10 => if x10 = 0 then fX12_claim_b88 k23 k37 u v1 v2 v4 v5 1 x8 else (fX12_claim_b87 k23 k37 u v1 v2 v4 v5 x8))))))
theorem wX12_claim_l37b {X : Cx} {V : Vx} {q : Nat → Nat} {res : Int64 × St} (h : Run X cX12_claim 7 RX12 rmX12_claim V (some .long) (rEq (some (.long res.1)) (wM V q res.2))) (hE : ZOK (vZ V)) {u : St} {v1 : Int32} {v2 : Int64} {v4 : Int32} {v5 : Int32} {k23 : St → Int32 → Option (Int64 × St)} (hk23 : ∀ (u : St) (v4 : Int32), k23 u v4 = some res → At X 7 0 0 (wM V q u) 23 [(0, .ref (q 0)), (1, .int v1), (2, .long v2), (4, .int v4)] []) {k37 : St → Int32 → Option (Int64 × St)} (hk37 : ∀ (u : St) (v5 : Int32), k37 u v5 = some res → At X 7 0 0 (wM V q u) 37 [(0, .ref (q 0)), (1, .int v1), (2, .long v2), (4, .int v4), (5, .int v5)] []) (hf : fX12_claim_l37b  k23 k37 u v1 v2 v4 v5 = some res) : At X 7 0 0 (wM V q u) 37 [(0, .ref (q 0)), (1, .int v1), (2, .long v2), (4, .int v4), (5, .int v5)] [] := by
  obtain ⟨hX, hT, hF⟩ := id h
  unfold fX12_claim_l37b at hf
  refine a_iload hX dX12_claim_37 4 rfl rfl ?_
  refine a_iconst (v := 5) hX dX12_claim_39 (by decide) rfl ?_
  refine a_icmp_ge (tgt := 95) hX dX12_claim_40 rfl rfl hf (fun hf => ?_) (fun hf => ?_)
  · refine a_iinc (v := v4 + 1) (lv' := [(4, .int (v4 + 1)), (0, .ref (q 0)), (1, .int v1), (2, .long v2), (5, .int v5)]) hX dX12_claim_95 3 rfl rfl (by decide) rfl rfl ?_
    refine a_goto (pc' := 23) hX dX12_claim_98 rfl ?_
    refine a_lv (lv' := [(0, .ref (q 0)), (1, .int v1), (2, .long v2), (4, .int (v4 + 1))]) [1, 2, 3, 0] rfl ?_
    exact hk23 u (v4 + 1) hf
  · refine a_bipush (v := 25) hX dX12_claim_43 (by decide) rfl ?_
    refine a_iload hX dX12_claim_45 3 rfl rfl ?_
    refine a_imul hX dX12_claim_47 rfl ?_
    refine a_iconst (v := 5) hX dX12_claim_48 (by decide) rfl ?_
    refine a_iload_n hX dX12_claim_49 rfl 1 rfl rfl ?_
    refine a_imul hX dX12_claim_50 rfl ?_
    refine a_iadd hX dX12_claim_51 rfl ?_
    refine a_iload hX dX12_claim_52 4 rfl rfl ?_
    refine a_iadd hX dX12_claim_54 rfl ?_
    refine a_nmI hf (fun x8 hf => ?_)
    refine a_istore (lv' := [(6, .int x8), (0, .ref (q 0)), (1, .int v1), (2, .long v2), (4, .int v4), (5, .int v5)]) hX dX12_claim_55 (by decide) rfl rfl ?_
    refine a_aload_n hX dX12_claim_57 rfl 1 rfl rfl ?_
    refine gX12_16 hX F_X12_48 dX12_claim_58 rfl ?_
    refine a_iload hX dX12_claim_61 0 rfl rfl ?_
    refine a_aload_n hX dX12_claim_63 rfl 1 rfl rfl ?_
    refine gX12_16 hX F_X12_48 dX12_claim_64 rfl ?_
    refine a_iload hX dX12_claim_67 0 rfl rfl ?_
    refine lX12_16 hX dX12_claim_69 rfl hf (fun x9 hf => ?_)
    refine a_if_eq (tgt := 87) hX dX12_claim_70 rfl rfl hf (fun hf => ?_) (fun hf => ?_)
    · refine a_lv (lv' := [(0, .ref (q 0)), (1, .int v1), (2, .long v2), (4, .int v4), (5, .int v5)]) [1, 2, 3, 4, 5] rfl ?_
      exact wX12_claim_b87 h hE hk23 hk37 hf
    · refine a_aload_n hX dX12_claim_73 rfl 1 rfl rfl ?_
      refine gX12_42 hX F_X12_82 dX12_claim_74 rfl ?_
      refine a_iload hX dX12_claim_77 0 rfl rfl ?_
      refine lX12_42 hX dX12_claim_79 rfl hf (fun x10 hf => ?_)
      refine a_if_ne (tgt := 87) hX dX12_claim_80 rfl rfl hf (fun hf => ?_) (fun hf => ?_)
      · refine a_lv (lv' := [(0, .ref (q 0)), (1, .int v1), (2, .long v2), (4, .int v4), (5, .int v5)]) [1, 2, 3, 4, 5] rfl ?_
        exact wX12_claim_b87 h hE hk23 hk37 hf
      · refine a_iconst (v := 1) hX dX12_claim_83 (by decide) rfl ?_
        refine a_goto (pc' := 88) hX dX12_claim_84 rfl ?_
        refine a_lv (lv' := [(0, .ref (q 0)), (1, .int v1), (2, .long v2), (4, .int v4), (5, .int v5)]) [1, 2, 3, 4, 5] rfl ?_
        exact wX12_claim_b88 h hE hk23 hk37 hf
def fX12_claim_l37  (k23 : St → Int32 → Option (Int64 × St)) (v1 : Int32) (v2 : Int64) (v4 : Int32) : Nat → St → Int32 → Option (Int64 × St)
  | 0, _, _ => none
  | m + 1, u, v5 => fX12_claim_l37b  k23 (fX12_claim_l37  k23 v1 v2 v4 m) u v1 v2 v4 v5
theorem wX12_claim_l37 {X : Cx} {V : Vx} {q : Nat → Nat} {res : Int64 × St} (h : Run X cX12_claim 7 RX12 rmX12_claim V (some .long) (rEq (some (.long res.1)) (wM V q res.2))) (hE : ZOK (vZ V)) {v1 : Int32} {v2 : Int64} {v4 : Int32} {k23 : St → Int32 → Option (Int64 × St)} (hk23 : ∀ (u : St) (v4 : Int32), k23 u v4 = some res → At X 7 0 0 (wM V q u) 23 [(0, .ref (q 0)), (1, .int v1), (2, .long v2), (4, .int v4)] []) : ∀ (m : Nat) (u : St) (v5 : Int32), fX12_claim_l37  k23 v1 v2 v4 m u v5 = some res → At X 7 0 0 (wM V q u) 37 [(0, .ref (q 0)), (1, .int v1), (2, .long v2), (4, .int v4), (5, .int v5)] [] := by
  intro m
  induction m with
  | zero => intro u v5 hf; cases hf
  | succ m ih => intro u v5 hf; exact wX12_claim_l37b h hE hk23 ih hf
def fX12_claim_l23b  (k23 : St → Int32 → Option (Int64 × St)) (u : St) (v1 : Int32) (v2 : Int64) (v4 : Int32) : Option (Int64 × St) := if (gZ u 1) - 1 ≤ v4 then cl2 (fX12_counted u) (fun x6 u7 => some (v2 - x6, u7)) else (fX12_claim_l37 k23 v1 v2 v4 NF u 0)
theorem wX12_claim_l23b {X : Cx} {V : Vx} {q : Nat → Nat} {res : Int64 × St} (h : Run X cX12_claim 7 RX12 rmX12_claim V (some .long) (rEq (some (.long res.1)) (wM V q res.2))) (hE : ZOK (vZ V)) {u : St} {v1 : Int32} {v2 : Int64} {v4 : Int32} {k23 : St → Int32 → Option (Int64 × St)} (hk23 : ∀ (u : St) (v4 : Int32), k23 u v4 = some res → At X 7 0 0 (wM V q u) 23 [(0, .ref (q 0)), (1, .int v1), (2, .long v2), (4, .int v4)] []) (hf : fX12_claim_l23b  k23 u v1 v2 v4 = some res) : At X 7 0 0 (wM V q u) 23 [(0, .ref (q 0)), (1, .int v1), (2, .long v2), (4, .int v4)] [] := by
  obtain ⟨hX, hT, hF⟩ := id h
  unfold fX12_claim_l23b at hf
  refine a_iload hX dX12_claim_23 3 rfl rfl ?_
  refine a_aload_n hX dX12_claim_25 rfl 0 rfl rfl ?_
  refine gX12_1 hX F_X12_124 dX12_claim_26 rfl ?_
  refine a_iconst (v := 1) hX dX12_claim_29 (by decide) rfl ?_
  refine a_isub hX dX12_claim_30 rfl ?_
  refine a_icmp_ge (tgt := 101) hX dX12_claim_31 rfl rfl hf (fun hf => ?_) (fun hf => ?_)
  · refine a_lload_n hX dX12_claim_101 rfl 2 rfl rfl ?_
    refine a_aload_n hX dX12_claim_102 rfl 0 rfl rfl ?_
    obtain ⟨x6, u7, hg6, hf⟩ := cl2_some hf
    refine a_cVsl (q0 := 0) (rest := [.long v2]) hX hE (ctX12_counted (q := q) hE hg6) K_X12_189 ⟨rfl, rfl⟩ ⟨rfl, rfl, by decide, by decide⟩ ⟨Nat.zero_le _, Nat.zero_le _⟩ (Nat.le_of_ble_eq_true rfl) dX12_claim_103 rfl rfl ?_
    refine a_lsub hX dX12_claim_106 rfl ?_
    exact a_lret hX hT hF (r_lS (wf := (wM V q)) hf) dX12_claim_107
  · refine a_iconst (v := 0) hX dX12_claim_34 (by decide) rfl ?_
    refine a_istore (lv' := [(5, .int 0), (0, .ref (q 0)), (1, .int v1), (2, .long v2), (4, .int v4)]) hX dX12_claim_35 (by decide) rfl rfl ?_
    refine a_lv (lv' := [(0, .ref (q 0)), (1, .int v1), (2, .long v2), (4, .int v4), (5, .int 0)]) [1, 2, 3, 4, 0] rfl ?_
    exact wX12_claim_l37 h hE hk23 NF u 0 hf
def fX12_claim_l23   (v1 : Int32) (v2 : Int64) : Nat → St → Int32 → Option (Int64 × St)
  | 0, _, _ => none
  | m + 1, u, v4 => fX12_claim_l23b  (fX12_claim_l23   v1 v2 m) u v1 v2 v4
theorem wX12_claim_l23 {X : Cx} {V : Vx} {q : Nat → Nat} {res : Int64 × St} (h : Run X cX12_claim 7 RX12 rmX12_claim V (some .long) (rEq (some (.long res.1)) (wM V q res.2))) (hE : ZOK (vZ V)) {v1 : Int32} {v2 : Int64} : ∀ (m : Nat) (u : St) (v4 : Int32), fX12_claim_l23   v1 v2 m u v4 = some res → At X 7 0 0 (wM V q u) 23 [(0, .ref (q 0)), (1, .int v1), (2, .long v2), (4, .int v4)] [] := by
  intro m
  induction m with
  | zero => intro u v4 hf; cases hf
  | succ m ih => intro u v4 hf; exact wX12_claim_l23b h hE ih hf
def fX12_claim (u : St) (v1 : Int32) : Option (Int64 × St) := cl1 (fX12_isLand v1) (fun x1 => if x1 = 0 then some ((-4611686018427387904), u) else (cl2 (fX12_all u) (fun x2 u3 => cl1 (fX12_judgeSteps u3) (fun u5 => fX12_claim_l23 v1 x2 NF u5 0))))
theorem wX12_claim {X : Cx} {V : Vx} {q : Nat → Nat} {res : Int64 × St} (h : Run X cX12_claim 7 RX12 rmX12_claim V (some .long) (rEq (some (.long res.1)) (wM V q res.2))) (hE : ZOK (vZ V)) {u : St} {v1 : Int32} (hf : fX12_claim u v1 = some res) : At X 7 0 0 (wM V q u) 0 [(0, .ref (q 0)), (1, .int v1)] [] := by
  obtain ⟨hX, hT, hF⟩ := id h
  unfold fX12_claim at hf
  refine a_iload_n hX dX12_claim_0 rfl 1 rfl rfl ?_
  obtain ⟨x1, hg1, hf⟩ := cl1_some hf
  refine a_cSpi (rest := []) hX hE (ctX12_isLand hE hg1) K_X12_152 ⟨rfl, rfl, by decide, by decide⟩ ⟨Nat.zero_le _, Nat.zero_le _⟩ (Nat.le_of_ble_eq_true rfl) dX12_claim_1 rfl rfl ?_
  refine a_if_ne (tgt := 11) hX dX12_claim_4 rfl rfl hf (fun hf => ?_) (fun hf => ?_)
  · refine a_aload_n hX dX12_claim_11 rfl 0 rfl rfl ?_
    obtain ⟨x2, u3, hg2, hf⟩ := cl2_some hf
    refine a_cVsl (q0 := 0) (rest := []) hX hE (ctX12_all (q := q) hE hg2) K_X12_193 ⟨rfl, rfl⟩ ⟨rfl, rfl, by decide, by decide⟩ ⟨Nat.zero_le _, Nat.zero_le _⟩ (Nat.le_of_ble_eq_true rfl) dX12_claim_12 rfl rfl ?_
    refine a_lstore_n (lv' := [(2, .long x2), (0, .ref (q 0)), (1, .int v1)]) hX dX12_claim_15 rfl (by decide) rfl rfl ?_
    refine a_aload_n hX dX12_claim_16 rfl 1 rfl rfl ?_
    obtain ⟨u5, hg4, hf⟩ := cl1_some hf
    refine a_cVsv (q0 := 0) (rest := []) hX hE (ctX12_judgeSteps (q := q) hE hg4) K_X12_340 ⟨rfl, rfl⟩ ⟨rfl, rfl, by decide, by decide⟩ ⟨Nat.zero_le _, Nat.zero_le _⟩ (Nat.le_of_ble_eq_true rfl) dX12_claim_17 rfl rfl ?_
    refine a_iconst (v := 0) hX dX12_claim_20 (by decide) rfl ?_
    refine a_istore (lv' := [(4, .int 0), (2, .long x2), (0, .ref (q 0)), (1, .int v1)]) hX dX12_claim_21 (by decide) rfl rfl ?_
    refine a_lv (lv' := [(0, .ref (q 0)), (1, .int v1), (2, .long x2), (4, .int 0)]) [2, 3, 1, 0] rfl ?_
    exact wX12_claim_l23 h hE NF u5 0 hf
  · refine a_ldc2 hX dX12_claim_7 N_X12_196 rfl ?_
    exact a_lret hX hT hF (r_lS (wf := (wM V q)) hf) dX12_claim_10
theorem ctX12_claim {V : Vx} {q : Nat → Nat} {u : St} {res : Int64 × St} (hE : ZOK (vZ V)) {v1 : Int32} (hf : fX12_claim u v1 = some res) : Ct V yX12_claim (.code yX12_claim cX12_claim 7 (some .long)) rmX12_claim 0 0 [.ref (q 0), .int v1] (wM V q u) (rEq (some (.long res.1)) (wM V q res.2)) :=
  Ct_of (by decide) (Nat.le_of_ble_eq_true rfl) rfl (fun X hX hT _ hF => wX12_claim ⟨hX, hT, hF⟩ hE hf)
def rmX12_judge : Room := { frames := 77, cells := 0, slots := 0, locals := 4124 }
def fX12_judge_l18b  (k18 : St → Int32 → Option (Int32 × St)) (u : St) (v1 : Int32) : Option (Int32 × St) := if 5 ≤ v1 then nmS (setZ u 45 ((gZ u 45) + 1)) (fun u3 => some ((gZ u3 45) - 1, u3)) else (ldL (gB u 44) 5 v1 (fun x4 => stL u 46 60 ((5 * (gZ u 45)) + v1) x4 (fun u5 => k18 u5 (v1 + 1))))
theorem wX12_judge_l18b {X : Cx} {V : Vx} {q : Nat → Nat} {res : Int32 × St} (h : Run X cX12_judge 2 RX12 rmX12_judge V (some .int) (rEq (some (.int res.1)) (wM V q res.2))) (hE : ZOK (vZ V)) {u : St} {v1 : Int32} {k18 : St → Int32 → Option (Int32 × St)} (hk18 : ∀ (u : St) (v1 : Int32), k18 u v1 = some res → At X 2 0 0 (wM V q u) 18 [(0, .ref (q 0)), (1, .int v1)] []) (hf : fX12_judge_l18b  k18 u v1 = some res) : At X 2 0 0 (wM V q u) 18 [(0, .ref (q 0)), (1, .int v1)] [] := by
  obtain ⟨hX, hT, hF⟩ := id h
  unfold fX12_judge_l18b at hf
  refine a_iload_n hX dX12_judge_18 rfl 1 rfl rfl ?_
  refine a_iconst (v := 5) hX dX12_judge_19 (by decide) rfl ?_
  refine a_icmp_ge (tgt := 48) hX dX12_judge_20 rfl rfl hf (fun hf => ?_) (fun hf => ?_)
  · refine a_aload_n hX dX12_judge_48 rfl 0 rfl rfl ?_
    refine a_dup hX dX12_judge_49 rfl rfl ?_
    refine gX12_45 hX F_X12_346 dX12_judge_50 rfl ?_
    refine a_iconst (v := 1) hX dX12_judge_53 (by decide) rfl ?_
    refine a_iadd hX dX12_judge_54 rfl ?_
    refine pX12_45 hX F_X12_346 dX12_judge_55 rfl hf (fun u3 hf => ?_)
    refine a_aload_n hX dX12_judge_58 rfl 0 rfl rfl ?_
    refine gX12_45 hX F_X12_346 dX12_judge_59 rfl ?_
    refine a_iconst (v := 1) hX dX12_judge_62 (by decide) rfl ?_
    refine a_isub hX dX12_judge_63 rfl ?_
    exact a_iret hX hT hF (r_iS (wf := (wM V q)) hf) dX12_judge_64
  · refine a_aload_n hX dX12_judge_23 rfl 0 rfl rfl ?_
    refine gX12_46 hX F_X12_91 dX12_judge_24 rfl ?_
    refine a_iconst (v := 5) hX dX12_judge_27 (by decide) rfl ?_
    refine a_aload_n hX dX12_judge_28 rfl 0 rfl rfl ?_
    refine gX12_45 hX F_X12_346 dX12_judge_29 rfl ?_
    refine a_imul hX dX12_judge_32 rfl ?_
    refine a_iload_n hX dX12_judge_33 rfl 1 rfl rfl ?_
    refine a_iadd hX dX12_judge_34 rfl ?_
    refine a_aload_n hX dX12_judge_35 rfl 0 rfl rfl ?_
    refine gX12_44 hX F_X12_88 dX12_judge_36 rfl ?_
    refine a_iload_n hX dX12_judge_39 rfl 1 rfl rfl ?_
    refine lX12_44 hX dX12_judge_40 rfl hf (fun x4 hf => ?_)
    refine sX12_46 hX dX12_judge_41 rfl hf (fun u5 hf => ?_)
    refine a_iinc (v := v1 + 1) (lv' := [(1, .int (v1 + 1)), (0, .ref (q 0))]) hX dX12_judge_42 1 rfl rfl (by decide) rfl rfl ?_
    refine a_goto (pc' := 18) hX dX12_judge_45 rfl ?_
    refine a_lv (lv' := [(0, .ref (q 0)), (1, .int (v1 + 1))]) [1, 0] rfl ?_
    exact hk18 u5 (v1 + 1) hf
def fX12_judge_l18    : Nat → St → Int32 → Option (Int32 × St)
  | 0, _, _ => none
  | m + 1, u, v1 => fX12_judge_l18b  (fX12_judge_l18    m) u v1
theorem wX12_judge_l18 {X : Cx} {V : Vx} {q : Nat → Nat} {res : Int32 × St} (h : Run X cX12_judge 2 RX12 rmX12_judge V (some .int) (rEq (some (.int res.1)) (wM V q res.2))) (hE : ZOK (vZ V))  : ∀ (m : Nat) (u : St) (v1 : Int32), fX12_judge_l18    m u v1 = some res → At X 2 0 0 (wM V q u) 18 [(0, .ref (q 0)), (1, .int v1)] [] := by
  intro m
  induction m with
  | zero => intro u v1 hf; cases hf
  | succ m ih => intro u v1 hf; exact wX12_judge_l18b h hE ih hf
def fX12_judge (u : St) : Option (Int32 × St) := if gZ u 45 = 12 then some ((-4), u) else (cl1 (fX12_give u) (fun u2 => fX12_judge_l18 NF u2 0))
theorem wX12_judge {X : Cx} {V : Vx} {q : Nat → Nat} {res : Int32 × St} (h : Run X cX12_judge 2 RX12 rmX12_judge V (some .int) (rEq (some (.int res.1)) (wM V q res.2))) (hE : ZOK (vZ V)) {u : St} (hf : fX12_judge u = some res) : At X 2 0 0 (wM V q u) 0 [(0, .ref (q 0))] [] := by
  obtain ⟨hX, hT, hF⟩ := id h
  unfold fX12_judge at hf
  refine a_aload_n hX dX12_judge_0 rfl 0 rfl rfl ?_
  refine gX12_45 hX F_X12_346 dX12_judge_1 rfl ?_
  refine a_bipush (v := 12) hX dX12_judge_4 (by decide) rfl ?_
  refine a_icmp_ne (tgt := 12) hX dX12_judge_6 rfl rfl hf (fun hf => ?_) (fun hf => ?_)
  · refine a_aload_n hX dX12_judge_12 rfl 0 rfl rfl ?_
    obtain ⟨u2, hg1, hf⟩ := cl1_some hf
    refine a_cVsv (q0 := 0) (rest := []) hX hE (ctX12_give (q := q) hE hg1) K_X12_343 ⟨rfl, rfl⟩ ⟨rfl, rfl, by decide, by decide⟩ ⟨Nat.zero_le _, Nat.zero_le _⟩ (Nat.le_of_ble_eq_true rfl) dX12_judge_13 rfl rfl ?_
    refine a_iconst (v := 0) hX dX12_judge_16 (by decide) rfl ?_
    refine a_istore_n (lv' := [(1, .int 0), (0, .ref (q 0))]) hX dX12_judge_17 rfl (by decide) rfl rfl ?_
    refine a_lv (lv' := [(0, .ref (q 0)), (1, .int 0)]) [1, 0] rfl ?_
    exact wX12_judge_l18 h hE NF u2 0 hf
  · refine a_bipush (v := (-4)) hX dX12_judge_9 (by decide) rfl ?_
    exact a_iret hX hT hF (r_iS (wf := (wM V q)) hf) dX12_judge_11
theorem ctX12_judge {V : Vx} {q : Nat → Nat} {u : St} {res : Int32 × St} (hE : ZOK (vZ V))  (hf : fX12_judge u = some res) : Ct V yX12_judge (.code yX12_judge cX12_judge 2 (some .int)) rmX12_judge 0 0 [.ref (q 0)] (wM V q u) (rEq (some (.int res.1)) (wM V q res.2)) :=
  Ct_of (by decide) (Nat.le_of_ble_eq_true rfl) rfl (fun X hX hT _ hF => wX12_judge ⟨hX, hT, hF⟩ hE hf)
def rmX12_judged : Room := { frames := 2, cells := 0, slots := 0, locals := 42 }
def fX12_judged (u : St) (v1 : Int32) (v2 : Int32) : Option (Int64) := cl1 (fX12_in v1 0 ((gZ u 45) - 1)) (fun x1 => if x1 = 0 then some (-4611686018427387904) else (cl1 (fX12_isLand v2) (fun x2 => if x2 = 0 then some (-4611686018427387904) else (ldL (gB u 46) 60 ((5 * v1) + v2) (fun x3 => some x3)))))
theorem wX12_judged {X : Cx} {V : Vx} {q : Nat → Nat} {u : St} {res : Int64} (h : Run X cX12_judged 3 RX12 rmX12_judged V (some .long) (rEq (some (.long res)) (wM V q u))) (hE : ZOK (vZ V)) {v1 : Int32} {v2 : Int32} (hf : fX12_judged u v1 v2 = some res) : At X 3 0 0 (wM V q u) 0 [(0, .ref (q 0)), (1, .int v1), (2, .int v2)] [] := by
  obtain ⟨hX, hT, hF⟩ := id h
  unfold fX12_judged at hf
  refine a_iload_n hX dX12_judged_0 rfl 1 rfl rfl ?_
  refine a_iconst (v := 0) hX dX12_judged_1 (by decide) rfl ?_
  refine a_aload_n hX dX12_judged_2 rfl 0 rfl rfl ?_
  refine gX12_45 hX F_X12_346 dX12_judged_3 rfl ?_
  refine a_iconst (v := 1) hX dX12_judged_6 (by decide) rfl ?_
  refine a_isub hX dX12_judged_7 rfl ?_
  obtain ⟨x1, hg1, hf⟩ := cl1_some hf
  refine a_cSpi (rest := []) hX hE (ctX12_in hE hg1) K_X12_148 ⟨rfl, rfl, by decide, by decide⟩ ⟨Nat.zero_le _, Nat.zero_le _⟩ (Nat.le_of_ble_eq_true rfl) dX12_judged_8 rfl rfl ?_
  refine a_if_eq (tgt := 34) hX dX12_judged_11 rfl rfl hf (fun hf => ?_) (fun hf => ?_)
  · refine a_ldc2 hX dX12_judged_34 N_X12_196 rfl ?_
    exact a_lret hX hT hF (r_l hf) dX12_judged_37
  · refine a_iload_n hX dX12_judged_14 rfl 2 rfl rfl ?_
    obtain ⟨x2, hg2, hf⟩ := cl1_some hf
    refine a_cSpi (rest := []) hX hE (ctX12_isLand hE hg2) K_X12_152 ⟨rfl, rfl, by decide, by decide⟩ ⟨Nat.zero_le _, Nat.zero_le _⟩ (Nat.le_of_ble_eq_true rfl) dX12_judged_15 rfl rfl ?_
    refine a_if_eq (tgt := 34) hX dX12_judged_18 rfl rfl hf (fun hf => ?_) (fun hf => ?_)
    · refine a_ldc2 hX dX12_judged_34 N_X12_196 rfl ?_
      exact a_lret hX hT hF (r_l hf) dX12_judged_37
    · refine a_aload_n hX dX12_judged_21 rfl 0 rfl rfl ?_
      refine gX12_46 hX F_X12_91 dX12_judged_22 rfl ?_
      refine a_iconst (v := 5) hX dX12_judged_25 (by decide) rfl ?_
      refine a_iload_n hX dX12_judged_26 rfl 1 rfl rfl ?_
      refine a_imul hX dX12_judged_27 rfl ?_
      refine a_iload_n hX dX12_judged_28 rfl 2 rfl rfl ?_
      refine a_iadd hX dX12_judged_29 rfl ?_
      refine lX12_46 hX dX12_judged_30 rfl hf (fun x3 hf => ?_)
      refine a_goto (pc' := 37) hX dX12_judged_31 rfl ?_
      exact a_lret hX hT hF (r_l hf) dX12_judged_37
theorem ctX12_judged {V : Vx} {q : Nat → Nat} {u : St} {res : Int64} (hE : ZOK (vZ V)) {v1 : Int32} {v2 : Int32} (hf : fX12_judged u v1 v2 = some res) : Ct V yX12_judged (.code yX12_judged cX12_judged 3 (some .long)) rmX12_judged 0 0 [.ref (q 0), .int v1, .int v2] (wM V q u) (rEq (some (.long res)) (wM V q u)) :=
  Ct_of (by decide) (Nat.le_of_ble_eq_true rfl) rfl (fun X hX hT _ hF => wX12_judged ⟨hX, hT, hF⟩ hE hf)
def rmX12_changed : Room := { frames := 77, cells := 0, slots := 0, locals := 4124 }
def fX12_changed_b58  (k25 : Int32 → Int32 → Option (Int32 × St)) (u : St) (v1 : Int32) (v3 : Int32) (s0 : Int32) (s1 : Int32) : Option (Int32 × St) := nmI (s1 ||| s0) (fun x6 => k25 x6 (v3 + 1))
theorem wX12_changed_b58 {X : Cx} {V : Vx} {q : Nat → Nat} {res : Int32 × St} (h : Run X cX12_changed 4 RX12 rmX12_changed V (some .int) (rEq (some (.int res.1)) (wM V q res.2))) (hE : ZOK (vZ V)) {u : St} {v1 : Int32} {v3 : Int32} {s0 : Int32} {s1 : Int32} {k25 : Int32 → Int32 → Option (Int32 × St)} (hk25 : ∀ (v2 : Int32) (v3 : Int32), k25 v2 v3 = some res → At X 4 0 0 (wM V q u) 25 [(0, .ref (q 0)), (1, .int v1), (2, .int v2), (3, .int v3)] []) (hf : fX12_changed_b58  k25 u v1 v3 s0 s1 = some res) : At X 4 0 0 (wM V q u) 58 [(0, .ref (q 0)), (1, .int v1), (3, .int v3)] [.int s0, .int s1] := by
  obtain ⟨hX, hT, hF⟩ := id h
  unfold fX12_changed_b58 at hf
  refine a_ior hX dX12_changed_58 rfl ?_
  refine a_nmI hf (fun x6 hf => ?_)
  refine a_istore_n (lv' := [(2, .int x6), (0, .ref (q 0)), (1, .int v1), (3, .int v3)]) hX dX12_changed_59 rfl (by decide) rfl rfl ?_
  refine a_iinc (v := v3 + 1) (lv' := [(3, .int (v3 + 1)), (2, .int x6), (0, .ref (q 0)), (1, .int v1)]) hX dX12_changed_60 3 rfl rfl (by decide) rfl rfl ?_
  refine a_goto (pc' := 25) hX dX12_changed_63 rfl ?_
  refine a_lv (lv' := [(0, .ref (q 0)), (1, .int v1), (2, .int x6), (3, .int (v3 + 1))]) [2, 3, 1, 0] rfl ?_
  exact hk25 x6 (v3 + 1) hf
def fX12_changed_l25b  (k25 : Int32 → Int32 → Option (Int32 × St)) (u : St) (v1 : Int32) (v2 : Int32) (v3 : Int32) : Option (Int32 × St) := if 5 ≤ v3 then some (v2, u) else (ldL (gB u 44) 5 v3 (fun x4 => ldL (gB u 46) 60 ((5 * v1) + v3) (fun x5 => if x4 = x5 then fX12_changed_b58 k25 u v1 v3 0 v2 else (fX12_changed_b58 k25 u v1 v3 ((1 : Int32) <<< (v3 &&& 31)) v2))))
theorem wX12_changed_l25b {X : Cx} {V : Vx} {q : Nat → Nat} {res : Int32 × St} (h : Run X cX12_changed 4 RX12 rmX12_changed V (some .int) (rEq (some (.int res.1)) (wM V q res.2))) (hE : ZOK (vZ V)) {u : St} {v1 : Int32} {v2 : Int32} {v3 : Int32} {k25 : Int32 → Int32 → Option (Int32 × St)} (hk25 : ∀ (v2 : Int32) (v3 : Int32), k25 v2 v3 = some res → At X 4 0 0 (wM V q u) 25 [(0, .ref (q 0)), (1, .int v1), (2, .int v2), (3, .int v3)] []) (hf : fX12_changed_l25b  k25 u v1 v2 v3 = some res) : At X 4 0 0 (wM V q u) 25 [(0, .ref (q 0)), (1, .int v1), (2, .int v2), (3, .int v3)] [] := by
  obtain ⟨hX, hT, hF⟩ := id h
  unfold fX12_changed_l25b at hf
  refine a_iload_n hX dX12_changed_25 rfl 3 rfl rfl ?_
  refine a_iconst (v := 5) hX dX12_changed_26 (by decide) rfl ?_
  refine a_icmp_ge (tgt := 66) hX dX12_changed_27 rfl rfl hf (fun hf => ?_) (fun hf => ?_)
  · refine a_iload_n hX dX12_changed_66 rfl 2 rfl rfl ?_
    exact a_iret hX hT hF (r_iS (wf := (wM V q)) hf) dX12_changed_67
  · refine a_iload_n hX dX12_changed_30 rfl 2 rfl rfl ?_
    refine a_aload_n hX dX12_changed_31 rfl 0 rfl rfl ?_
    refine gX12_44 hX F_X12_88 dX12_changed_32 rfl ?_
    refine a_iload_n hX dX12_changed_35 rfl 3 rfl rfl ?_
    refine lX12_44 hX dX12_changed_36 rfl hf (fun x4 hf => ?_)
    refine a_aload_n hX dX12_changed_37 rfl 0 rfl rfl ?_
    refine gX12_46 hX F_X12_91 dX12_changed_38 rfl ?_
    refine a_iconst (v := 5) hX dX12_changed_41 (by decide) rfl ?_
    refine a_iload_n hX dX12_changed_42 rfl 1 rfl rfl ?_
    refine a_imul hX dX12_changed_43 rfl ?_
    refine a_iload_n hX dX12_changed_44 rfl 3 rfl rfl ?_
    refine a_iadd hX dX12_changed_45 rfl ?_
    refine lX12_46 hX dX12_changed_46 rfl hf (fun x5 hf => ?_)
    refine a_lcmp_eq (tgt := 57) hX dX12_changed_47 rfl dX12_changed_48 rfl rfl hf (fun hf => ?_) (fun hf => ?_)
    · refine a_iconst (v := 0) hX dX12_changed_57 (by decide) rfl ?_
      refine a_lv (lv' := [(0, .ref (q 0)), (1, .int v1), (3, .int v3)]) [0, 1, 3] rfl ?_
      exact wX12_changed_b58 h hE hk25 hf
    · refine a_iconst (v := 1) hX dX12_changed_51 (by decide) rfl ?_
      refine a_iload_n hX dX12_changed_52 rfl 3 rfl rfl ?_
      refine a_ishl hX dX12_changed_53 rfl ?_
      refine a_goto (pc' := 58) hX dX12_changed_54 rfl ?_
      refine a_lv (lv' := [(0, .ref (q 0)), (1, .int v1), (3, .int v3)]) [0, 1, 3] rfl ?_
      exact wX12_changed_b58 h hE hk25 hf
def fX12_changed_l25   (u : St) (v1 : Int32) : Nat → Int32 → Int32 → Option (Int32 × St)
  | 0, _, _ => none
  | m + 1, v2, v3 => fX12_changed_l25b  (fX12_changed_l25   u v1 m) u v1 v2 v3
theorem wX12_changed_l25 {X : Cx} {V : Vx} {q : Nat → Nat} {res : Int32 × St} (h : Run X cX12_changed 4 RX12 rmX12_changed V (some .int) (rEq (some (.int res.1)) (wM V q res.2))) (hE : ZOK (vZ V)) {u : St} {v1 : Int32} : ∀ (m : Nat) (v2 : Int32) (v3 : Int32), fX12_changed_l25   u v1 m v2 v3 = some res → At X 4 0 0 (wM V q u) 25 [(0, .ref (q 0)), (1, .int v1), (2, .int v2), (3, .int v3)] [] := by
  intro m
  induction m with
  | zero => intro v2 v3 hf; cases hf
  | succ m ih => intro v2 v3 hf; exact wX12_changed_l25b h hE ih hf
def fX12_changed (u : St) (v1 : Int32) : Option (Int32 × St) := cl1 (fX12_in v1 0 ((gZ u 45) - 1)) (fun x1 => if x1 = 0 then some ((-2), u) else (cl1 (fX12_give u) (fun u3 => fX12_changed_l25 u3 v1 NF 0 0)))
theorem wX12_changed {X : Cx} {V : Vx} {q : Nat → Nat} {res : Int32 × St} (h : Run X cX12_changed 4 RX12 rmX12_changed V (some .int) (rEq (some (.int res.1)) (wM V q res.2))) (hE : ZOK (vZ V)) {u : St} {v1 : Int32} (hf : fX12_changed u v1 = some res) : At X 4 0 0 (wM V q u) 0 [(0, .ref (q 0)), (1, .int v1)] [] := by
  obtain ⟨hX, hT, hF⟩ := id h
  unfold fX12_changed at hf
  refine a_iload_n hX dX12_changed_0 rfl 1 rfl rfl ?_
  refine a_iconst (v := 0) hX dX12_changed_1 (by decide) rfl ?_
  refine a_aload_n hX dX12_changed_2 rfl 0 rfl rfl ?_
  refine gX12_45 hX F_X12_346 dX12_changed_3 rfl ?_
  refine a_iconst (v := 1) hX dX12_changed_6 (by decide) rfl ?_
  refine a_isub hX dX12_changed_7 rfl ?_
  obtain ⟨x1, hg1, hf⟩ := cl1_some hf
  refine a_cSpi (rest := []) hX hE (ctX12_in hE hg1) K_X12_148 ⟨rfl, rfl, by decide, by decide⟩ ⟨Nat.zero_le _, Nat.zero_le _⟩ (Nat.le_of_ble_eq_true rfl) dX12_changed_8 rfl rfl ?_
  refine a_if_ne (tgt := 17) hX dX12_changed_11 rfl rfl hf (fun hf => ?_) (fun hf => ?_)
  · refine a_aload_n hX dX12_changed_17 rfl 0 rfl rfl ?_
    obtain ⟨u3, hg2, hf⟩ := cl1_some hf
    refine a_cVsv (q0 := 0) (rest := []) hX hE (ctX12_give (q := q) hE hg2) K_X12_343 ⟨rfl, rfl⟩ ⟨rfl, rfl, by decide, by decide⟩ ⟨Nat.zero_le _, Nat.zero_le _⟩ (Nat.le_of_ble_eq_true rfl) dX12_changed_18 rfl rfl ?_
    refine a_iconst (v := 0) hX dX12_changed_21 (by decide) rfl ?_
    refine a_istore_n (lv' := [(2, .int 0), (0, .ref (q 0)), (1, .int v1)]) hX dX12_changed_22 rfl (by decide) rfl rfl ?_
    refine a_iconst (v := 0) hX dX12_changed_23 (by decide) rfl ?_
    refine a_istore_n (lv' := [(3, .int 0), (2, .int 0), (0, .ref (q 0)), (1, .int v1)]) hX dX12_changed_24 rfl (by decide) rfl rfl ?_
    refine a_lv (lv' := [(0, .ref (q 0)), (1, .int v1), (2, .int 0), (3, .int 0)]) [2, 3, 1, 0] rfl ?_
    exact wX12_changed_l25 h hE NF 0 0 hf
  · refine a_bipush (v := (-2)) hX dX12_changed_14 (by decide) rfl ?_
    exact a_iret hX hT hF (r_iS (wf := (wM V q)) hf) dX12_changed_16
theorem ctX12_changed {V : Vx} {q : Nat → Nat} {u : St} {res : Int32 × St} (hE : ZOK (vZ V)) {v1 : Int32} (hf : fX12_changed u v1 = some res) : Ct V yX12_changed (.code yX12_changed cX12_changed 4 (some .int)) rmX12_changed 0 0 [.ref (q 0), .int v1] (wM V q u) (rEq (some (.int res.1)) (wM V q res.2)) :=
  Ct_of (by decide) (Nat.le_of_ble_eq_true rfl) rfl (fun X hX hT _ hF => wX12_changed ⟨hX, hT, hF⟩ hE hf)
