def rmX12_feed : Room := { frames := 1, cells := 0, slots := 0, locals := 22 }
def fX12_feed_l31b  (k31 : St → Int32 → Option (Int32 × St)) (u : St) (v1 : Int32) (v2 : Int64) (v4 : Int32) : Option (Int32 × St) := if v1 ≤ v4 then some (gZ u 25, u) else (stI u 24 160 (gZ u 25) (Int64.toInt32 ((v2 >>> (Int32.toInt64 (8 * v4) &&& 63)) &&& 255)) (fun u2 => nmS (setZ u2 25 ((gZ u2 25) + 1)) (fun u3 => k31 u3 (v4 + 1))))
theorem wX12_feed_l31b {X : Cx} {V : Vx} {q : Nat → Nat} {res : Int32 × St} (h : Run X cX12_feed 5 RX12 rmX12_feed V (some .int) (rEq (some (.int res.1)) (wM V q res.2))) (hE : ZOK (vZ V)) {u : St} {v1 : Int32} {v2 : Int64} {v4 : Int32} {k31 : St → Int32 → Option (Int32 × St)} (hk31 : ∀ (u : St) (v4 : Int32), k31 u v4 = some res → At X 5 0 0 (wM V q u) 31 [(0, .ref (q 0)), (1, .int v1), (2, .long v2), (4, .int v4)] []) (hf : fX12_feed_l31b  k31 u v1 v2 v4 = some res) : At X 5 0 0 (wM V q u) 31 [(0, .ref (q 0)), (1, .int v1), (2, .long v2), (4, .int v4)] [] := by
  obtain ⟨hX, hT, hF⟩ := id h
  unfold fX12_feed_l31b at hf
  refine a_iload hX dX12_feed_31 3 rfl rfl ?_
  refine a_iload_n hX dX12_feed_33 rfl 1 rfl rfl ?_
  refine a_icmp_ge (tgt := 74) hX dX12_feed_34 rfl rfl hf (fun hf => ?_) (fun hf => ?_)
  · refine a_aload_n hX dX12_feed_74 rfl 0 rfl rfl ?_
    refine gX12_25 hX F_X12_206 dX12_feed_75 rfl ?_
    exact a_iret hX hT hF (r_iS (wf := (wM V q)) hf) dX12_feed_78
  · refine a_aload_n hX dX12_feed_37 rfl 0 rfl rfl ?_
    refine gX12_24 hX F_X12_70 dX12_feed_38 rfl ?_
    refine a_aload_n hX dX12_feed_41 rfl 0 rfl rfl ?_
    refine gX12_25 hX F_X12_206 dX12_feed_42 rfl ?_
    refine a_lload_n hX dX12_feed_45 rfl 2 rfl rfl ?_
    refine a_bipush (v := 8) hX dX12_feed_46 (by decide) rfl ?_
    refine a_iload hX dX12_feed_48 3 rfl rfl ?_
    refine a_imul hX dX12_feed_50 rfl ?_
    refine a_lshr hX dX12_feed_51 rfl ?_
    refine a_ldc2 hX dX12_feed_52 N_X12_146 rfl ?_
    refine a_land hX dX12_feed_55 rfl ?_
    refine a_l2i hX dX12_feed_56 rfl ?_
    refine sX12_24 hX dX12_feed_57 rfl hf (fun u2 hf => ?_)
    refine a_aload_n hX dX12_feed_58 rfl 0 rfl rfl ?_
    refine a_dup hX dX12_feed_59 rfl rfl ?_
    refine gX12_25 hX F_X12_206 dX12_feed_60 rfl ?_
    refine a_iconst (v := 1) hX dX12_feed_63 (by decide) rfl ?_
    refine a_iadd hX dX12_feed_64 rfl ?_
    refine pX12_25 hX F_X12_206 dX12_feed_65 rfl hf (fun u3 hf => ?_)
    refine a_iinc (v := v4 + 1) (lv' := [(4, .int (v4 + 1)), (0, .ref (q 0)), (1, .int v1), (2, .long v2)]) hX dX12_feed_68 3 rfl rfl (by decide) rfl rfl ?_
    refine a_goto (pc' := 31) hX dX12_feed_71 rfl ?_
    refine a_lv (lv' := [(0, .ref (q 0)), (1, .int v1), (2, .long v2), (4, .int (v4 + 1))]) [1, 2, 3, 0] rfl ?_
    exact hk31 u3 (v4 + 1) hf
def fX12_feed_l31   (v1 : Int32) (v2 : Int64) : Nat → St → Int32 → Option (Int32 × St)
  | 0, _, _ => none
  | m + 1, u, v4 => fX12_feed_l31b  (fX12_feed_l31   v1 v2 m) u v1 v2 v4
theorem wX12_feed_l31 {X : Cx} {V : Vx} {q : Nat → Nat} {res : Int32 × St} (h : Run X cX12_feed 5 RX12 rmX12_feed V (some .int) (rEq (some (.int res.1)) (wM V q res.2))) (hE : ZOK (vZ V)) {v1 : Int32} {v2 : Int64} : ∀ (m : Nat) (u : St) (v4 : Int32), fX12_feed_l31   v1 v2 m u v4 = some res → At X 5 0 0 (wM V q u) 31 [(0, .ref (q 0)), (1, .int v1), (2, .long v2), (4, .int v4)] [] := by
  intro m
  induction m with
  | zero => intro u v4 hf; cases hf
  | succ m ih => intro u v4 hf; exact wX12_feed_l31b h hE ih hf
def fX12_feed (u : St) (v1 : Int32) (v2 : Int64) : Option (Int32 × St) := cl1 (fX12_in v1 1 8) (fun x1 => if x1 = 0 then some ((-2), u) else (if (gZ u 25) + v1 ≤ 160 then fX12_feed_l31 v1 v2 NF u 0 else (some ((-4), u))))
theorem wX12_feed {X : Cx} {V : Vx} {q : Nat → Nat} {res : Int32 × St} (h : Run X cX12_feed 5 RX12 rmX12_feed V (some .int) (rEq (some (.int res.1)) (wM V q res.2))) (hE : ZOK (vZ V)) {u : St} {v1 : Int32} {v2 : Int64} (hf : fX12_feed u v1 v2 = some res) : At X 5 0 0 (wM V q u) 0 [(0, .ref (q 0)), (1, .int v1), (2, .long v2)] [] := by
  obtain ⟨hX, hT, hF⟩ := id h
  unfold fX12_feed at hf
  refine a_iload_n hX dX12_feed_0 rfl 1 rfl rfl ?_
  refine a_iconst (v := 1) hX dX12_feed_1 (by decide) rfl ?_
  refine a_bipush (v := 8) hX dX12_feed_2 (by decide) rfl ?_
  obtain ⟨x1, hg1, hf⟩ := cl1_some hf
  refine a_cSpi (rest := []) hX hE (cX12_in hE hg1) K_X12_148 ⟨rfl, rfl, by decide, by decide⟩ ⟨Nat.zero_le _, Nat.zero_le _⟩ (Nat.le_of_ble_eq_true rfl) dX12_feed_4 rfl rfl ?_
  refine a_if_ne (tgt := 13) hX dX12_feed_7 rfl rfl hf (fun hf => ?_) (fun hf => ?_)
  · refine a_aload_n hX dX12_feed_13 rfl 0 rfl rfl ?_
    refine gX12_25 hX F_X12_206 dX12_feed_14 rfl ?_
    refine a_iload_n hX dX12_feed_17 rfl 1 rfl rfl ?_
    refine a_iadd hX dX12_feed_18 rfl ?_
    refine a_sipush (v := 160) hX dX12_feed_19 (by decide) rfl ?_
    refine a_icmp_le (tgt := 28) hX dX12_feed_22 rfl rfl hf (fun hf => ?_) (fun hf => ?_)
    · refine a_iconst (v := 0) hX dX12_feed_28 (by decide) rfl ?_
      refine a_istore (lv' := [(4, .int 0), (0, .ref (q 0)), (1, .int v1), (2, .long v2)]) hX dX12_feed_29 (by decide) rfl rfl ?_
      refine a_lv (lv' := [(0, .ref (q 0)), (1, .int v1), (2, .long v2), (4, .int 0)]) [1, 2, 3, 0] rfl ?_
      exact wX12_feed_l31 h hE NF u 0 hf
    · refine a_bipush (v := (-4)) hX dX12_feed_25 (by decide) rfl ?_
      exact a_iret hX hT hF (r_iS (wf := (wM V q)) hf) dX12_feed_27
  · refine a_bipush (v := (-2)) hX dX12_feed_10 (by decide) rfl ?_
    exact a_iret hX hT hF (r_iS (wf := (wM V q)) hf) dX12_feed_12
theorem cX12_feed {V : Vx} {q : Nat → Nat} {u : St} {res : Int32 × St} (hE : ZOK (vZ V)) {v1 : Int32} {v2 : Int64} (hf : fX12_feed u v1 v2 = some res) : Ct V yX12_feed (.code yX12_feed cX12_feed 5 (some .int)) rmX12_feed 0 0 [.ref (q 0), .int v1, .long v2] (wM V q u) (rEq (some (.int res.1)) (wM V q res.2)) :=
  Ct_of (by decide) (Nat.le_of_ble_eq_true rfl) rfl (fun X hX hT _ hF => wX12_feed ⟨hX, hT, hF⟩ hE hf)
def rmX12_byteAt : Room := { frames := 0, cells := 0, slots := 0, locals := 0 }
def fX12_byteAt (u : St) (v1 : Int32) : Option (Int32) := if gZ u 27 ≤ v1 then some (-1) else (ldI (gA u 21) 960 ((gZ u 26) + v1) (fun x1 => some x1))
theorem wX12_byteAt {X : Cx} {V : Vx} {q : Nat → Nat} {u : St} {res : Int32} (h : Run X cX12_byteAt 2 RX12 rmX12_byteAt V (some .int) (rEq (some (.int res)) (wM V q u))) (hE : ZOK (vZ V)) {v1 : Int32} (hf : fX12_byteAt u v1 = some res) : At X 2 0 0 (wM V q u) 0 [(0, .ref (q 0)), (1, .int v1)] [] := by
  obtain ⟨hX, hT, hF⟩ := id h
  unfold fX12_byteAt at hf
  refine a_iload_n hX dX12_byteAt_0 rfl 1 rfl rfl ?_
  refine a_aload_n hX dX12_byteAt_1 rfl 0 rfl rfl ?_
  refine gX12_27 hX F_X12_209 dX12_byteAt_2 rfl ?_
  refine a_icmp_ge (tgt := 22) hX dX12_byteAt_5 rfl rfl hf (fun hf => ?_) (fun hf => ?_)
  · refine a_iconst (v := (-1)) hX dX12_byteAt_22 (by decide) rfl ?_
    exact a_iret hX hT hF (r_i hf) dX12_byteAt_23
  · refine a_aload_n hX dX12_byteAt_8 rfl 0 rfl rfl ?_
    refine gX12_21 hX F_X12_64 dX12_byteAt_9 rfl ?_
    refine a_aload_n hX dX12_byteAt_12 rfl 0 rfl rfl ?_
    refine gX12_26 hX F_X12_212 dX12_byteAt_13 rfl ?_
    refine a_iload_n hX dX12_byteAt_16 rfl 1 rfl rfl ?_
    refine a_iadd hX dX12_byteAt_17 rfl ?_
    refine lX12_21 hX dX12_byteAt_18 rfl hf (fun x1 hf => ?_)
    refine a_goto (pc' := 23) hX dX12_byteAt_19 rfl ?_
    exact a_iret hX hT hF (r_i hf) dX12_byteAt_23
theorem cX12_byteAt {V : Vx} {q : Nat → Nat} {u : St} {res : Int32} (hE : ZOK (vZ V)) {v1 : Int32} (hf : fX12_byteAt u v1 = some res) : Ct V yX12_byteAt (.code yX12_byteAt cX12_byteAt 2 (some .int)) rmX12_byteAt 0 0 [.ref (q 0), .int v1] (wM V q u) (rEq (some (.int res)) (wM V q u)) :=
  Ct_of (by decide) (Nat.le_of_ble_eq_true rfl) rfl (fun X hX hT _ hF => wX12_byteAt ⟨hX, hT, hF⟩ hE hf)
def rmX12_next : Room := { frames := 1, cells := 0, slots := 0, locals := 22 }
def fX12_next_b26  (k0 : St → Option (St)) (u : St) : Option (St) := nmS (setZ u 31 ((gZ u 31) + 1)) (fun u14 => k0 u14)
theorem wX12_next_b26 {X : Cx} {V : Vx} {q : Nat → Nat} {res : St} (h : Run X cX12_next 3 RX12 rmX12_next V none (rEq none (wM V q res))) (hE : ZOK (vZ V)) {u : St} {k0 : St → Option (St)} (hk0 : ∀ (u : St), k0 u = some res → At X 3 0 0 (wM V q u) 0 [(0, .ref (q 0))] []) (hf : fX12_next_b26  k0 u = some res) : At X 3 0 0 (wM V q u) 26 [(0, .ref (q 0))] [] := by
  obtain ⟨hX, hT, hF⟩ := id h
  unfold fX12_next_b26 at hf
  refine a_aload_n hX dX12_next_26 rfl 0 rfl rfl ?_
  refine a_dup hX dX12_next_27 rfl rfl ?_
  refine gX12_31 hX F_X12_215 dX12_next_28 rfl ?_
  refine a_iconst (v := 1) hX dX12_next_31 (by decide) rfl ?_
  refine a_iadd hX dX12_next_32 rfl ?_
  refine pX12_31 hX F_X12_215 dX12_next_33 rfl hf (fun u14 hf => ?_)
  refine a_goto (pc' := 0) hX dX12_next_36 rfl ?_
  exact hk0 u14 hf
def fX12_next_b157  (k104 : St → Int32 → Option (St)) (u : St) (v2 : Int32) (s0 : Int64) : Option (St) := nmS (setY u 30 s0) (fun u18 => nmS (setZ u18 31 ((gZ u18 31) + 1)) (fun u19 => k104 u19 (v2 + 1)))
theorem wX12_next_b157 {X : Cx} {V : Vx} {q : Nat → Nat} {res : St} (h : Run X cX12_next 3 RX12 rmX12_next V none (rEq none (wM V q res))) (hE : ZOK (vZ V)) {u : St} {v2 : Int32} {s0 : Int64} {k104 : St → Int32 → Option (St)} (hk104 : ∀ (u : St) (v2 : Int32), k104 u v2 = some res → At X 3 0 0 (wM V q u) 104 [(0, .ref (q 0)), (2, .int v2)] []) (hf : fX12_next_b157  k104 u v2 s0 = some res) : At X 3 0 0 (wM V q u) 157 [(0, .ref (q 0)), (2, .int v2)] [.long s0, .ref (q 0)] := by
  obtain ⟨hX, hT, hF⟩ := id h
  unfold fX12_next_b157 at hf
  refine pX12_30 hX F_X12_227 dX12_next_157 rfl hf (fun u18 hf => ?_)
  refine a_iinc (v := v2 + 1) (lv' := [(2, .int (v2 + 1)), (0, .ref (q 0))]) hX dX12_next_160 1 rfl rfl (by decide) rfl rfl ?_
  refine a_aload_n hX dX12_next_163 rfl 1 rfl rfl ?_
  refine a_dup hX dX12_next_164 rfl rfl ?_
  refine gX12_31 hX F_X12_215 dX12_next_165 rfl ?_
  refine a_iconst (v := 1) hX dX12_next_168 (by decide) rfl ?_
  refine a_iadd hX dX12_next_169 rfl ?_
  refine pX12_31 hX F_X12_215 dX12_next_170 rfl hf (fun u19 hf => ?_)
  refine a_goto (pc' := 104) hX dX12_next_173 rfl ?_
  refine a_lv (lv' := [(0, .ref (q 0)), (2, .int (v2 + 1))]) [1, 0] rfl ?_
  exact hk104 u19 (v2 + 1) hf
def fX12_next_l104b  (k104 : St → Int32 → Option (St)) (u : St) (v2 : Int32) : Option (St) := cl1 (fX12_byteAt u (gZ u 31)) (fun x15 => cl1 (fX12_in x15 97 122) (fun x16 => if x16 = 0 then some u else (if 8 ≤ v2 then fX12_next_b157 k104 u v2 (-1) else (cl1 (fX12_byteAt u (gZ u 31)) (fun x17 => fX12_next_b157 k104 u v2 (((27 * (gY u 30)) + (Int32.toInt64 x17)) - 96))))))
theorem wX12_next_l104b {X : Cx} {V : Vx} {q : Nat → Nat} {res : St} (h : Run X cX12_next 3 RX12 rmX12_next V none (rEq none (wM V q res))) (hE : ZOK (vZ V)) {u : St} {v2 : Int32} {k104 : St → Int32 → Option (St)} (hk104 : ∀ (u : St) (v2 : Int32), k104 u v2 = some res → At X 3 0 0 (wM V q u) 104 [(0, .ref (q 0)), (2, .int v2)] []) (hf : fX12_next_l104b  k104 u v2 = some res) : At X 3 0 0 (wM V q u) 104 [(0, .ref (q 0)), (2, .int v2)] [] := by
  obtain ⟨hX, hT, hF⟩ := id h
  unfold fX12_next_l104b at hf
  refine a_aload_n hX dX12_next_104 rfl 0 rfl rfl ?_
  refine a_aload_n hX dX12_next_105 rfl 0 rfl rfl ?_
  refine gX12_31 hX F_X12_215 dX12_next_106 rfl ?_
  obtain ⟨x15, hg15, hf⟩ := cl1_some hf
  refine a_cVsi (q0 := 0) (rest := []) hX hE (cX12_byteAt (q := q) hE hg15) K_X12_218 ⟨rfl, rfl⟩ ⟨rfl, rfl, by decide, by decide⟩ ⟨Nat.zero_le _, Nat.zero_le _⟩ (Nat.le_of_ble_eq_true rfl) dX12_next_109 rfl rfl ?_
  refine a_bipush (v := 97) hX dX12_next_112 (by decide) rfl ?_
  refine a_bipush (v := 122) hX dX12_next_114 (by decide) rfl ?_
  obtain ⟨x16, hg16, hf⟩ := cl1_some hf
  refine a_cSpi (rest := []) hX hE (cX12_in hE hg16) K_X12_148 ⟨rfl, rfl, by decide, by decide⟩ ⟨Nat.zero_le _, Nat.zero_le _⟩ (Nat.le_of_ble_eq_true rfl) dX12_next_116 rfl rfl ?_
  refine a_if_eq (tgt := 176) hX dX12_next_119 rfl rfl hf (fun hf => ?_) (fun hf => ?_)
  · refine a_goto (pc' := 360) hX dX12_next_176 rfl ?_
    exact a_ret hX hT hF (r_vS (wf := (wM V q)) hf) dX12_next_360
  · refine a_aload_n hX dX12_next_122 rfl 0 rfl rfl ?_
    refine a_iload_n hX dX12_next_123 rfl 1 rfl rfl ?_
    refine a_bipush (v := 8) hX dX12_next_124 (by decide) rfl ?_
    refine a_icmp_ge (tgt := 154) hX dX12_next_126 rfl rfl hf (fun hf => ?_) (fun hf => ?_)
    · refine a_ldc2 hX dX12_next_154 N_X12_235 rfl ?_
      exact wX12_next_b157 h hE hk104 hf
    · refine a_ldc2 hX dX12_next_129 N_X12_231 rfl ?_
      refine a_aload_n hX dX12_next_132 rfl 0 rfl rfl ?_
      refine gX12_30 hX F_X12_227 dX12_next_133 rfl ?_
      refine a_lmul hX dX12_next_136 rfl ?_
      refine a_aload_n hX dX12_next_137 rfl 0 rfl rfl ?_
      refine a_aload_n hX dX12_next_138 rfl 0 rfl rfl ?_
      refine gX12_31 hX F_X12_215 dX12_next_139 rfl ?_
      obtain ⟨x17, hg17, hf⟩ := cl1_some hf
      refine a_cVsi (q0 := 0) (rest := [.long (27 * (gY u 30)), .ref (q 0)]) hX hE (cX12_byteAt (q := q) hE hg17) K_X12_218 ⟨rfl, rfl⟩ ⟨rfl, rfl, by decide, by decide⟩ ⟨Nat.zero_le _, Nat.zero_le _⟩ (Nat.le_of_ble_eq_true rfl) dX12_next_142 rfl rfl ?_
      refine a_i2l hX dX12_next_145 rfl ?_
      refine a_ladd hX dX12_next_146 rfl ?_
      refine a_ldc2 hX dX12_next_147 N_X12_233 rfl ?_
      refine a_lsub hX dX12_next_150 rfl ?_
      refine a_goto (pc' := 157) hX dX12_next_151 rfl ?_
      exact wX12_next_b157 h hE hk104 hf
def fX12_next_l104    : Nat → St → Int32 → Option (St)
  | 0, _, _ => none
  | m + 1, u, v2 => fX12_next_l104b  (fX12_next_l104    m) u v2
theorem wX12_next_l104 {X : Cx} {V : Vx} {q : Nat → Nat} {res : St} (h : Run X cX12_next 3 RX12 rmX12_next V none (rEq none (wM V q res))) (hE : ZOK (vZ V))  : ∀ (m : Nat) (u : St) (v2 : Int32), fX12_next_l104    m u v2 = some res → At X 3 0 0 (wM V q u) 104 [(0, .ref (q 0)), (2, .int v2)] [] := by
  intro m
  induction m with
  | zero => intro u v2 hf; cases hf
  | succ m ih => intro u v2 hf; exact wX12_next_l104b h hE ih hf
def fX12_next_b255  (k202 : St → Int32 → Option (St)) (u : St) (v2 : Int32) (s0 : Int64) : Option (St) := nmS (setY u 30 s0) (fun u23 => nmS (setZ u23 31 ((gZ u23 31) + 1)) (fun u24 => k202 u24 (v2 + 1)))
theorem wX12_next_b255 {X : Cx} {V : Vx} {q : Nat → Nat} {res : St} (h : Run X cX12_next 3 RX12 rmX12_next V none (rEq none (wM V q res))) (hE : ZOK (vZ V)) {u : St} {v2 : Int32} {s0 : Int64} {k202 : St → Int32 → Option (St)} (hk202 : ∀ (u : St) (v2 : Int32), k202 u v2 = some res → At X 3 0 0 (wM V q u) 202 [(0, .ref (q 0)), (2, .int v2)] []) (hf : fX12_next_b255  k202 u v2 s0 = some res) : At X 3 0 0 (wM V q u) 255 [(0, .ref (q 0)), (2, .int v2)] [.long s0, .ref (q 0)] := by
  obtain ⟨hX, hT, hF⟩ := id h
  unfold fX12_next_b255 at hf
  refine pX12_30 hX F_X12_227 dX12_next_255 rfl hf (fun u23 hf => ?_)
  refine a_iinc (v := v2 + 1) (lv' := [(2, .int (v2 + 1)), (0, .ref (q 0))]) hX dX12_next_258 1 rfl rfl (by decide) rfl rfl ?_
  refine a_aload_n hX dX12_next_261 rfl 1 rfl rfl ?_
  refine a_dup hX dX12_next_262 rfl rfl ?_
  refine gX12_31 hX F_X12_215 dX12_next_263 rfl ?_
  refine a_iconst (v := 1) hX dX12_next_266 (by decide) rfl ?_
  refine a_iadd hX dX12_next_267 rfl ?_
  refine pX12_31 hX F_X12_215 dX12_next_268 rfl hf (fun u24 hf => ?_)
  refine a_goto (pc' := 202) hX dX12_next_271 rfl ?_
  refine a_lv (lv' := [(0, .ref (q 0)), (2, .int (v2 + 1))]) [1, 0] rfl ?_
  exact hk202 u24 (v2 + 1) hf
def fX12_next_b285   (u : St) (s0 : Int32) : Option (St) := nmS (setZ u 28 s0) (fun u25 => some u25)
theorem wX12_next_b285 {X : Cx} {V : Vx} {q : Nat → Nat} {res : St} (h : Run X cX12_next 3 RX12 rmX12_next V none (rEq none (wM V q res))) (hE : ZOK (vZ V)) {u : St} {s0 : Int32} (hf : fX12_next_b285   u s0 = some res) : At X 3 0 0 (wM V q u) 285 [] [.int s0, .ref (q 0)] := by
  obtain ⟨hX, hT, hF⟩ := id h
  unfold fX12_next_b285 at hf
  refine pX12_28 hX F_X12_224 dX12_next_285 rfl hf (fun u25 hf => ?_)
  refine a_goto (pc' := 360) hX dX12_next_288 rfl ?_
  exact a_ret hX hT hF (r_vS (wf := (wM V q)) hf) dX12_next_360
def fX12_next_l202b  (k202 : St → Int32 → Option (St)) (u : St) (v2 : Int32) : Option (St) := cl1 (fX12_byteAt u (gZ u 31)) (fun x20 => cl1 (fX12_in x20 48 57) (fun x21 => if x21 = 0 then if v2 ≤ 4 then fX12_next_b285 u 2 else (fX12_next_b285 u 4) else (if 4 ≤ v2 then fX12_next_b255 k202 u v2 (gY u 30) else (cl1 (fX12_byteAt u (gZ u 31)) (fun x22 => fX12_next_b255 k202 u v2 (((10 * (gY u 30)) + (Int32.toInt64 x22)) - 48))))))
theorem wX12_next_l202b {X : Cx} {V : Vx} {q : Nat → Nat} {res : St} (h : Run X cX12_next 3 RX12 rmX12_next V none (rEq none (wM V q res))) (hE : ZOK (vZ V)) {u : St} {v2 : Int32} {k202 : St → Int32 → Option (St)} (hk202 : ∀ (u : St) (v2 : Int32), k202 u v2 = some res → At X 3 0 0 (wM V q u) 202 [(0, .ref (q 0)), (2, .int v2)] []) (hf : fX12_next_l202b  k202 u v2 = some res) : At X 3 0 0 (wM V q u) 202 [(0, .ref (q 0)), (2, .int v2)] [] := by
  obtain ⟨hX, hT, hF⟩ := id h
  unfold fX12_next_l202b at hf
  refine a_aload_n hX dX12_next_202 rfl 0 rfl rfl ?_
  refine a_aload_n hX dX12_next_203 rfl 0 rfl rfl ?_
  refine gX12_31 hX F_X12_215 dX12_next_204 rfl ?_
  obtain ⟨x20, hg20, hf⟩ := cl1_some hf
  refine a_cVsi (q0 := 0) (rest := []) hX hE (cX12_byteAt (q := q) hE hg20) K_X12_218 ⟨rfl, rfl⟩ ⟨rfl, rfl, by decide, by decide⟩ ⟨Nat.zero_le _, Nat.zero_le _⟩ (Nat.le_of_ble_eq_true rfl) dX12_next_207 rfl rfl ?_
  refine a_bipush (v := 48) hX dX12_next_210 (by decide) rfl ?_
  refine a_bipush (v := 57) hX dX12_next_212 (by decide) rfl ?_
  obtain ⟨x21, hg21, hf⟩ := cl1_some hf
  refine a_cSpi (rest := []) hX hE (cX12_in hE hg21) K_X12_148 ⟨rfl, rfl, by decide, by decide⟩ ⟨Nat.zero_le _, Nat.zero_le _⟩ (Nat.le_of_ble_eq_true rfl) dX12_next_214 rfl rfl ?_
  refine a_if_eq (tgt := 274) hX dX12_next_217 rfl rfl hf (fun hf => ?_) (fun hf => ?_)
  · refine a_aload_n hX dX12_next_274 rfl 0 rfl rfl ?_
    refine a_iload_n hX dX12_next_275 rfl 1 rfl rfl ?_
    refine a_iconst (v := 4) hX dX12_next_276 (by decide) rfl ?_
    refine a_icmp_le (tgt := 284) hX dX12_next_277 rfl rfl hf (fun hf => ?_) (fun hf => ?_)
    · refine a_iconst (v := 2) hX dX12_next_284 (by decide) rfl ?_
      refine a_lv (lv' := []) [] rfl ?_
      exact wX12_next_b285 h hE hf
    · refine a_iconst (v := 4) hX dX12_next_280 (by decide) rfl ?_
      refine a_goto (pc' := 285) hX dX12_next_281 rfl ?_
      refine a_lv (lv' := []) [] rfl ?_
      exact wX12_next_b285 h hE hf
  · refine a_aload_n hX dX12_next_220 rfl 0 rfl rfl ?_
    refine a_iload_n hX dX12_next_221 rfl 1 rfl rfl ?_
    refine a_iconst (v := 4) hX dX12_next_222 (by decide) rfl ?_
    refine a_icmp_ge (tgt := 251) hX dX12_next_223 rfl rfl hf (fun hf => ?_) (fun hf => ?_)
    · refine a_aload_n hX dX12_next_251 rfl 0 rfl rfl ?_
      refine gX12_30 hX F_X12_227 dX12_next_252 rfl ?_
      exact wX12_next_b255 h hE hk202 hf
    · refine a_ldc2 hX dX12_next_226 N_X12_237 rfl ?_
      refine a_aload_n hX dX12_next_229 rfl 0 rfl rfl ?_
      refine gX12_30 hX F_X12_227 dX12_next_230 rfl ?_
      refine a_lmul hX dX12_next_233 rfl ?_
      refine a_aload_n hX dX12_next_234 rfl 0 rfl rfl ?_
      refine a_aload_n hX dX12_next_235 rfl 0 rfl rfl ?_
      refine gX12_31 hX F_X12_215 dX12_next_236 rfl ?_
      obtain ⟨x22, hg22, hf⟩ := cl1_some hf
      refine a_cVsi (q0 := 0) (rest := [.long (10 * (gY u 30)), .ref (q 0)]) hX hE (cX12_byteAt (q := q) hE hg22) K_X12_218 ⟨rfl, rfl⟩ ⟨rfl, rfl, by decide, by decide⟩ ⟨Nat.zero_le _, Nat.zero_le _⟩ (Nat.le_of_ble_eq_true rfl) dX12_next_239 rfl rfl ?_
      refine a_i2l hX dX12_next_242 rfl ?_
      refine a_ladd hX dX12_next_243 rfl ?_
      refine a_ldc2 hX dX12_next_244 N_X12_239 rfl ?_
      refine a_lsub hX dX12_next_247 rfl ?_
      refine a_goto (pc' := 255) hX dX12_next_248 rfl ?_
      exact wX12_next_b255 h hE hk202 hf
def fX12_next_l202    : Nat → St → Int32 → Option (St)
  | 0, _, _ => none
  | m + 1, u, v2 => fX12_next_l202b  (fX12_next_l202    m) u v2
theorem wX12_next_l202 {X : Cx} {V : Vx} {q : Nat → Nat} {res : St} (h : Run X cX12_next 3 RX12 rmX12_next V none (rEq none (wM V q res))) (hE : ZOK (vZ V))  : ∀ (m : Nat) (u : St) (v2 : Int32), fX12_next_l202    m u v2 = some res → At X 3 0 0 (wM V q u) 202 [(0, .ref (q 0)), (2, .int v2)] [] := by
  intro m
  induction m with
  | zero => intro u v2 hf; cases hf
  | succ m ih => intro u v2 hf; exact wX12_next_l202b h hE ih hf
def fX12_next_b339   (u : St) (v1 : Int32) : Option (St) := nmS (setZ u 28 3) (fun u26 => nmS (setY u26 30 (Int32.toInt64 v1)) (fun u27 => nmS (setZ u27 31 ((gZ u27 31) + 1)) (fun u28 => some u28)))
theorem wX12_next_b339 {X : Cx} {V : Vx} {q : Nat → Nat} {res : St} (h : Run X cX12_next 3 RX12 rmX12_next V none (rEq none (wM V q res))) (hE : ZOK (vZ V)) {u : St} {v1 : Int32} (hf : fX12_next_b339   u v1 = some res) : At X 3 0 0 (wM V q u) 339 [(0, .ref (q 0)), (1, .int v1)] [] := by
  obtain ⟨hX, hT, hF⟩ := id h
  unfold fX12_next_b339 at hf
  refine a_aload_n hX dX12_next_339 rfl 0 rfl rfl ?_
  refine a_iconst (v := 3) hX dX12_next_340 (by decide) rfl ?_
  refine pX12_28 hX F_X12_224 dX12_next_341 rfl hf (fun u26 hf => ?_)
  refine a_aload_n hX dX12_next_344 rfl 0 rfl rfl ?_
  refine a_iload_n hX dX12_next_345 rfl 1 rfl rfl ?_
  refine a_i2l hX dX12_next_346 rfl ?_
  refine pX12_30 hX F_X12_227 dX12_next_347 rfl hf (fun u27 hf => ?_)
  refine a_aload_n hX dX12_next_350 rfl 0 rfl rfl ?_
  refine a_dup hX dX12_next_351 rfl rfl ?_
  refine gX12_31 hX F_X12_215 dX12_next_352 rfl ?_
  refine a_iconst (v := 1) hX dX12_next_355 (by decide) rfl ?_
  refine a_iadd hX dX12_next_356 rfl ?_
  refine pX12_31 hX F_X12_215 dX12_next_357 rfl hf (fun u28 hf => ?_)
  exact a_ret hX hT hF (r_vS (wf := (wM V q)) hf) dX12_next_360
def fX12_next_l0b  (k0 : St → Option (St)) (u : St) : Option (St) := cl1 (fX12_byteAt u (gZ u 31)) (fun x1 => if x1 = 32 then fX12_next_b26 k0 u else (cl1 (fX12_byteAt u (gZ u 31)) (fun x2 => if x2 = 10 then fX12_next_b26 k0 u else (nmS (setZ u 29 (gZ u 31)) (fun u3 => cl1 (fX12_byteAt u3 (gZ u3 31)) (fun x4 => nmS (setZ u3 28 4) (fun u5 => if 0 ≤ x4 then cl1 (fX12_in x4 97 122) (fun x6 => if x6 = 0 then cl1 (fX12_in x4 48 57) (fun x7 => if x7 = 0 then if x4 = 40 then fX12_next_b339 u5 x4 else (if x4 = 41 then fX12_next_b339 u5 x4 else (if x4 = 59 then fX12_next_b339 u5 x4 else (if x4 = 43 then fX12_next_b339 u5 x4 else (if x4 = 45 then fX12_next_b339 u5 x4 else (if x4 = 42 then fX12_next_b339 u5 x4 else (if x4 = 60 then fX12_next_b339 u5 x4 else (if x4 = 61 then fX12_next_b339 u5 x4 else (some u5)))))))) else (nmS (setZ u5 28 2) (fun u8 => nmS (setY u8 30 0) (fun u9 => fX12_next_l202 NF u9 0)))) else (nmS (setZ u5 28 1) (fun u10 => nmS (setY u10 30 0) (fun u11 => fX12_next_l104 NF u11 0)))) else (nmS (setZ u5 28 0) (fun u12 => nmS (setZ u12 29 (gZ u12 27)) (fun u13 => some u13))))))))))
theorem wX12_next_l0b {X : Cx} {V : Vx} {q : Nat → Nat} {res : St} (h : Run X cX12_next 3 RX12 rmX12_next V none (rEq none (wM V q res))) (hE : ZOK (vZ V)) {u : St} {k0 : St → Option (St)} (hk0 : ∀ (u : St), k0 u = some res → At X 3 0 0 (wM V q u) 0 [(0, .ref (q 0))] []) (hf : fX12_next_l0b  k0 u = some res) : At X 3 0 0 (wM V q u) 0 [(0, .ref (q 0))] [] := by
  obtain ⟨hX, hT, hF⟩ := id h
  unfold fX12_next_l0b at hf
  refine a_aload_n hX dX12_next_0 rfl 0 rfl rfl ?_
  refine a_aload_n hX dX12_next_1 rfl 0 rfl rfl ?_
  refine gX12_31 hX F_X12_215 dX12_next_2 rfl ?_
  obtain ⟨x1, hg1, hf⟩ := cl1_some hf
  refine a_cVsi (q0 := 0) (rest := []) hX hE (cX12_byteAt (q := q) hE hg1) K_X12_218 ⟨rfl, rfl⟩ ⟨rfl, rfl, by decide, by decide⟩ ⟨Nat.zero_le _, Nat.zero_le _⟩ (Nat.le_of_ble_eq_true rfl) dX12_next_5 rfl rfl ?_
  refine a_bipush (v := 32) hX dX12_next_8 (by decide) rfl ?_
  refine a_icmp_eq (tgt := 26) hX dX12_next_10 rfl rfl hf (fun hf => ?_) (fun hf => ?_)
  · exact wX12_next_b26 h hE hk0 hf
  · refine a_aload_n hX dX12_next_13 rfl 0 rfl rfl ?_
    refine a_aload_n hX dX12_next_14 rfl 0 rfl rfl ?_
    refine gX12_31 hX F_X12_215 dX12_next_15 rfl ?_
    obtain ⟨x2, hg2, hf⟩ := cl1_some hf
    refine a_cVsi (q0 := 0) (rest := []) hX hE (cX12_byteAt (q := q) hE hg2) K_X12_218 ⟨rfl, rfl⟩ ⟨rfl, rfl, by decide, by decide⟩ ⟨Nat.zero_le _, Nat.zero_le _⟩ (Nat.le_of_ble_eq_true rfl) dX12_next_18 rfl rfl ?_
    refine a_bipush (v := 10) hX dX12_next_21 (by decide) rfl ?_
    refine a_icmp_ne (tgt := 39) hX dX12_next_23 rfl rfl hf (fun hf => ?_) (fun hf => ?_)
    · refine a_aload_n hX dX12_next_39 rfl 0 rfl rfl ?_
      refine a_aload_n hX dX12_next_40 rfl 0 rfl rfl ?_
      refine gX12_31 hX F_X12_215 dX12_next_41 rfl ?_
      refine pX12_29 hX F_X12_221 dX12_next_44 rfl hf (fun u3 hf => ?_)
      refine a_aload_n hX dX12_next_47 rfl 0 rfl rfl ?_
      refine a_aload_n hX dX12_next_48 rfl 0 rfl rfl ?_
      refine gX12_31 hX F_X12_215 dX12_next_49 rfl ?_
      obtain ⟨x4, hg4, hf⟩ := cl1_some hf
      refine a_cVsi (q0 := 0) (rest := []) hX hE (cX12_byteAt (q := q) hE hg4) K_X12_218 ⟨rfl, rfl⟩ ⟨rfl, rfl, by decide, by decide⟩ ⟨Nat.zero_le _, Nat.zero_le _⟩ (Nat.le_of_ble_eq_true rfl) dX12_next_52 rfl rfl ?_
      refine a_istore_n (lv' := [(1, .int x4), (0, .ref (q 0))]) hX dX12_next_55 rfl (by decide) rfl rfl ?_
      refine a_aload_n hX dX12_next_56 rfl 1 rfl rfl ?_
      refine a_iconst (v := 4) hX dX12_next_57 (by decide) rfl ?_
      refine pX12_28 hX F_X12_224 dX12_next_58 rfl hf (fun u5 hf => ?_)
      refine a_iload_n hX dX12_next_61 rfl 0 rfl rfl ?_
      refine a_if_ge (tgt := 81) hX dX12_next_62 rfl rfl hf (fun hf => ?_) (fun hf => ?_)
      · refine a_iload_n hX dX12_next_81 rfl 0 rfl rfl ?_
        refine a_bipush (v := 97) hX dX12_next_82 (by decide) rfl ?_
        refine a_bipush (v := 122) hX dX12_next_84 (by decide) rfl ?_
        obtain ⟨x6, hg6, hf⟩ := cl1_some hf
        refine a_cSpi (rest := []) hX hE (cX12_in hE hg6) K_X12_148 ⟨rfl, rfl, by decide, by decide⟩ ⟨Nat.zero_le _, Nat.zero_le _⟩ (Nat.le_of_ble_eq_true rfl) dX12_next_86 rfl rfl ?_
        refine a_if_eq (tgt := 179) hX dX12_next_89 rfl rfl hf (fun hf => ?_) (fun hf => ?_)
        · refine a_iload_n hX dX12_next_179 rfl 0 rfl rfl ?_
          refine a_bipush (v := 48) hX dX12_next_180 (by decide) rfl ?_
          refine a_bipush (v := 57) hX dX12_next_182 (by decide) rfl ?_
          obtain ⟨x7, hg7, hf⟩ := cl1_some hf
          refine a_cSpi (rest := []) hX hE (cX12_in hE hg7) K_X12_148 ⟨rfl, rfl, by decide, by decide⟩ ⟨Nat.zero_le _, Nat.zero_le _⟩ (Nat.le_of_ble_eq_true rfl) dX12_next_184 rfl rfl ?_
          refine a_if_eq (tgt := 291) hX dX12_next_187 rfl rfl hf (fun hf => ?_) (fun hf => ?_)
          · refine a_iload_n hX dX12_next_291 rfl 0 rfl rfl ?_
            refine a_bipush (v := 40) hX dX12_next_292 (by decide) rfl ?_
            refine a_icmp_eq (tgt := 339) hX dX12_next_294 rfl rfl hf (fun hf => ?_) (fun hf => ?_)
            · refine a_lv (lv' := [(0, .ref (q 0)), (1, .int x4)]) [1, 0] rfl ?_
              exact wX12_next_b339 h hE hf
            · refine a_iload_n hX dX12_next_297 rfl 0 rfl rfl ?_
              refine a_bipush (v := 41) hX dX12_next_298 (by decide) rfl ?_
              refine a_icmp_eq (tgt := 339) hX dX12_next_300 rfl rfl hf (fun hf => ?_) (fun hf => ?_)
              · refine a_lv (lv' := [(0, .ref (q 0)), (1, .int x4)]) [1, 0] rfl ?_
                exact wX12_next_b339 h hE hf
              · refine a_iload_n hX dX12_next_303 rfl 0 rfl rfl ?_
                refine a_bipush (v := 59) hX dX12_next_304 (by decide) rfl ?_
                refine a_icmp_eq (tgt := 339) hX dX12_next_306 rfl rfl hf (fun hf => ?_) (fun hf => ?_)
                · refine a_lv (lv' := [(0, .ref (q 0)), (1, .int x4)]) [1, 0] rfl ?_
                  exact wX12_next_b339 h hE hf
                · refine a_iload_n hX dX12_next_309 rfl 0 rfl rfl ?_
                  refine a_bipush (v := 43) hX dX12_next_310 (by decide) rfl ?_
                  refine a_icmp_eq (tgt := 339) hX dX12_next_312 rfl rfl hf (fun hf => ?_) (fun hf => ?_)
                  · refine a_lv (lv' := [(0, .ref (q 0)), (1, .int x4)]) [1, 0] rfl ?_
                    exact wX12_next_b339 h hE hf
                  · refine a_iload_n hX dX12_next_315 rfl 0 rfl rfl ?_
                    refine a_bipush (v := 45) hX dX12_next_316 (by decide) rfl ?_
                    refine a_icmp_eq (tgt := 339) hX dX12_next_318 rfl rfl hf (fun hf => ?_) (fun hf => ?_)
                    · refine a_lv (lv' := [(0, .ref (q 0)), (1, .int x4)]) [1, 0] rfl ?_
                      exact wX12_next_b339 h hE hf
                    · refine a_iload_n hX dX12_next_321 rfl 0 rfl rfl ?_
                      refine a_bipush (v := 42) hX dX12_next_322 (by decide) rfl ?_
                      refine a_icmp_eq (tgt := 339) hX dX12_next_324 rfl rfl hf (fun hf => ?_) (fun hf => ?_)
                      · refine a_lv (lv' := [(0, .ref (q 0)), (1, .int x4)]) [1, 0] rfl ?_
                        exact wX12_next_b339 h hE hf
                      · refine a_iload_n hX dX12_next_327 rfl 0 rfl rfl ?_
                        refine a_bipush (v := 60) hX dX12_next_328 (by decide) rfl ?_
                        refine a_icmp_eq (tgt := 339) hX dX12_next_330 rfl rfl hf (fun hf => ?_) (fun hf => ?_)
                        · refine a_lv (lv' := [(0, .ref (q 0)), (1, .int x4)]) [1, 0] rfl ?_
                          exact wX12_next_b339 h hE hf
                        · refine a_iload_n hX dX12_next_333 rfl 0 rfl rfl ?_
                          refine a_bipush (v := 61) hX dX12_next_334 (by decide) rfl ?_
                          refine a_icmp_ne (tgt := 360) hX dX12_next_336 rfl rfl hf (fun hf => ?_) (fun hf => ?_)
                          · exact a_ret hX hT hF (r_vS (wf := (wM V q)) hf) dX12_next_360
                          · refine a_lv (lv' := [(0, .ref (q 0)), (1, .int x4)]) [1, 0] rfl ?_
                            exact wX12_next_b339 h hE hf
          · refine a_aload_n hX dX12_next_190 rfl 1 rfl rfl ?_
            refine a_iconst (v := 2) hX dX12_next_191 (by decide) rfl ?_
            refine pX12_28 hX F_X12_224 dX12_next_192 rfl hf (fun u8 hf => ?_)
            refine a_aload_n hX dX12_next_195 rfl 1 rfl rfl ?_
            refine a_lconst (v := 0) hX dX12_next_196 (by decide) rfl ?_
            refine pX12_30 hX F_X12_227 dX12_next_197 rfl hf (fun u9 hf => ?_)
            refine a_iconst (v := 0) hX dX12_next_200 (by decide) rfl ?_
            refine a_istore_n (lv' := [(2, .int 0), (1, .int x4), (0, .ref (q 0))]) hX dX12_next_201 rfl (by decide) rfl rfl ?_
            refine a_lv (lv' := [(0, .ref (q 0)), (2, .int 0)]) [2, 0] rfl ?_
            exact wX12_next_l202 h hE NF u9 0 hf
        · refine a_aload_n hX dX12_next_92 rfl 1 rfl rfl ?_
          refine a_iconst (v := 1) hX dX12_next_93 (by decide) rfl ?_
          refine pX12_28 hX F_X12_224 dX12_next_94 rfl hf (fun u10 hf => ?_)
          refine a_aload_n hX dX12_next_97 rfl 1 rfl rfl ?_
          refine a_lconst (v := 0) hX dX12_next_98 (by decide) rfl ?_
          refine pX12_30 hX F_X12_227 dX12_next_99 rfl hf (fun u11 hf => ?_)
          refine a_iconst (v := 0) hX dX12_next_102 (by decide) rfl ?_
          refine a_istore_n (lv' := [(2, .int 0), (1, .int x4), (0, .ref (q 0))]) hX dX12_next_103 rfl (by decide) rfl rfl ?_
          refine a_lv (lv' := [(0, .ref (q 0)), (2, .int 0)]) [2, 0] rfl ?_
          exact wX12_next_l104 h hE NF u11 0 hf
      · refine a_aload_n hX dX12_next_65 rfl 1 rfl rfl ?_
        refine a_iconst (v := 0) hX dX12_next_66 (by decide) rfl ?_
        refine pX12_28 hX F_X12_224 dX12_next_67 rfl hf (fun u12 hf => ?_)
        refine a_aload_n hX dX12_next_70 rfl 1 rfl rfl ?_
        refine a_aload_n hX dX12_next_71 rfl 1 rfl rfl ?_
        refine gX12_27 hX F_X12_209 dX12_next_72 rfl ?_
        refine pX12_29 hX F_X12_221 dX12_next_75 rfl hf (fun u13 hf => ?_)
        refine a_goto (pc' := 360) hX dX12_next_78 rfl ?_
        exact a_ret hX hT hF (r_vS (wf := (wM V q)) hf) dX12_next_360
    · exact wX12_next_b26 h hE hk0 hf
def fX12_next_l0    : Nat → St → Option (St)
  | 0, _ => none
  | m + 1, u => fX12_next_l0b  (fX12_next_l0    m) u
theorem wX12_next_l0 {X : Cx} {V : Vx} {q : Nat → Nat} {res : St} (h : Run X cX12_next 3 RX12 rmX12_next V none (rEq none (wM V q res))) (hE : ZOK (vZ V))  : ∀ (m : Nat) (u : St), fX12_next_l0    m u = some res → At X 3 0 0 (wM V q u) 0 [(0, .ref (q 0))] [] := by
  intro m
  induction m with
  | zero => intro u hf; cases hf
  | succ m ih => intro u hf; exact wX12_next_l0b h hE ih hf
def fX12_next (u : St) : Option (St) := fX12_next_l0 NF u
theorem wX12_next {X : Cx} {V : Vx} {q : Nat → Nat} {res : St} (h : Run X cX12_next 3 RX12 rmX12_next V none (rEq none (wM V q res))) (hE : ZOK (vZ V)) {u : St} (hf : fX12_next u = some res) : At X 3 0 0 (wM V q u) 0 [(0, .ref (q 0))] [] := by
  obtain ⟨hX, hT, hF⟩ := id h
  unfold fX12_next at hf
  exact wX12_next_l0 h hE NF u hf
theorem cX12_next {V : Vx} {q : Nat → Nat} {u : St} {res : St} (hE : ZOK (vZ V))  (hf : fX12_next u = some res) : Ct V yX12_next (.code yX12_next cX12_next 3 none) rmX12_next 0 0 [.ref (q 0)] (wM V q u) (rEq none (wM V q res)) :=
  Ct_of (by decide) (Nat.le_of_ble_eq_true rfl) rfl (fun X hX hT _ hF => wX12_next ⟨hX, hT, hF⟩ hE hf)
def rmX12_fail : Room := { frames := 0, cells := 0, slots := 0, locals := 0 }
def fX12_fail (u : St) : Option (St) := if gZ u 33 = 0 then nmS (setZ u 33 1) (fun u1 => nmS (setZ u1 34 (gZ u1 29)) (fun u2 => some u2)) else (some u)
theorem wX12_fail {X : Cx} {V : Vx} {q : Nat → Nat} {res : St} (h : Run X cX12_fail 1 RX12 rmX12_fail V none (rEq none (wM V q res))) (hE : ZOK (vZ V)) {u : St} (hf : fX12_fail u = some res) : At X 1 0 0 (wM V q u) 0 [(0, .ref (q 0))] [] := by
  obtain ⟨hX, hT, hF⟩ := id h
  unfold fX12_fail at hf
  refine a_aload_n hX dX12_fail_0 rfl 0 rfl rfl ?_
  refine gX12_33 hX F_X12_241 dX12_fail_1 rfl ?_
  refine a_if_ne (tgt := 20) hX dX12_fail_4 rfl rfl hf (fun hf => ?_) (fun hf => ?_)
  · exact a_ret hX hT hF (r_vS (wf := (wM V q)) hf) dX12_fail_20
  · refine a_aload_n hX dX12_fail_7 rfl 0 rfl rfl ?_
    refine a_iconst (v := 1) hX dX12_fail_8 (by decide) rfl ?_
    refine pX12_33 hX F_X12_241 (by decide) (by decide) dX12_fail_9 rfl hf (fun u1 hf => ?_)
    refine a_aload_n hX dX12_fail_12 rfl 0 rfl rfl ?_
    refine a_aload_n hX dX12_fail_13 rfl 0 rfl rfl ?_
    refine gX12_29 hX F_X12_221 dX12_fail_14 rfl ?_
    refine pX12_34 hX F_X12_245 dX12_fail_17 rfl hf (fun u2 hf => ?_)
    exact a_ret hX hT hF (r_vS (wf := (wM V q)) hf) dX12_fail_20
theorem cX12_fail {V : Vx} {q : Nat → Nat} {u : St} {res : St} (hE : ZOK (vZ V))  (hf : fX12_fail u = some res) : Ct V yX12_fail (.code yX12_fail cX12_fail 1 none) rmX12_fail 0 0 [.ref (q 0)] (wM V q u) (rEq none (wM V q res)) :=
  Ct_of (by decide) (Nat.le_of_ble_eq_true rfl) rfl (fun X hX hT _ hF => wX12_fail ⟨hX, hT, hF⟩ hE hf)
def rmX12_isWord : Room := { frames := 0, cells := 0, slots := 0, locals := 0 }
def fX12_isWord (u : St) (v1 : Int64) : Option (Int32) := if gZ u 33 = 0 then if gZ u 28 = 1 then if gY u 30 = v1 then some 1 else (some 0) else (some 0) else (some 0)
theorem wX12_isWord {X : Cx} {V : Vx} {q : Nat → Nat} {u : St} {res : Int32} (h : Run X cX12_isWord 3 RX12 rmX12_isWord V (some .boolean) (rEq (some (.int res)) (wM V q u))) (hE : ZOK (vZ V)) {v1 : Int64} (hf : fX12_isWord u v1 = some res) : At X 3 0 0 (wM V q u) 0 [(0, .ref (q 0)), (1, .long v1)] [] := by
  obtain ⟨hX, hT, hF⟩ := id h
  unfold fX12_isWord at hf
  refine a_aload_n hX dX12_isWord_0 rfl 0 rfl rfl ?_
  refine gX12_33 hX F_X12_241 dX12_isWord_1 rfl ?_
  refine a_if_ne (tgt := 28) hX dX12_isWord_4 rfl rfl hf (fun hf => ?_) (fun hf => ?_)
  · refine a_iconst (v := 0) hX dX12_isWord_28 (by decide) rfl ?_
    exact a_zret hX hT (by decide) hF (r_i hf) dX12_isWord_29
  · refine a_aload_n hX dX12_isWord_7 rfl 0 rfl rfl ?_
    refine gX12_28 hX F_X12_224 dX12_isWord_8 rfl ?_
    refine a_iconst (v := 1) hX dX12_isWord_11 (by decide) rfl ?_
    refine a_icmp_ne (tgt := 28) hX dX12_isWord_12 rfl rfl hf (fun hf => ?_) (fun hf => ?_)
    · refine a_iconst (v := 0) hX dX12_isWord_28 (by decide) rfl ?_
      exact a_zret hX hT (by decide) hF (r_i hf) dX12_isWord_29
    · refine a_aload_n hX dX12_isWord_15 rfl 0 rfl rfl ?_
      refine gX12_30 hX F_X12_227 dX12_isWord_16 rfl ?_
      refine a_lload_n hX dX12_isWord_19 rfl 1 rfl rfl ?_
      refine a_lcmp_ne (tgt := 28) hX dX12_isWord_20 rfl dX12_isWord_21 rfl rfl hf (fun hf => ?_) (fun hf => ?_)
      · refine a_iconst (v := 0) hX dX12_isWord_28 (by decide) rfl ?_
        exact a_zret hX hT (by decide) hF (r_i hf) dX12_isWord_29
      · refine a_iconst (v := 1) hX dX12_isWord_24 (by decide) rfl ?_
        refine a_goto (pc' := 29) hX dX12_isWord_25 rfl ?_
        exact a_zret hX hT (by decide) hF (r_i hf) dX12_isWord_29
theorem cX12_isWord {V : Vx} {q : Nat → Nat} {u : St} {res : Int32} (hE : ZOK (vZ V)) {v1 : Int64} (hf : fX12_isWord u v1 = some res) : Ct V yX12_isWord (.code yX12_isWord cX12_isWord 3 (some .boolean)) rmX12_isWord 0 0 [.ref (q 0), .long v1] (wM V q u) (rEq (some (.int res)) (wM V q u)) :=
  Ct_of (by decide) (Nat.le_of_ble_eq_true rfl) rfl (fun X hX hT _ hF => wX12_isWord ⟨hX, hT, hF⟩ hE hf)
def rmX12_isSign : Room := { frames := 0, cells := 0, slots := 0, locals := 0 }
def fX12_isSign (u : St) (v1 : Int32) : Option (Int32) := if gZ u 33 = 0 then if gZ u 28 = 3 then if gY u 30 = Int32.toInt64 v1 then some 1 else (some 0) else (some 0) else (some 0)
theorem wX12_isSign {X : Cx} {V : Vx} {q : Nat → Nat} {u : St} {res : Int32} (h : Run X cX12_isSign 2 RX12 rmX12_isSign V (some .boolean) (rEq (some (.int res)) (wM V q u))) (hE : ZOK (vZ V)) {v1 : Int32} (hf : fX12_isSign u v1 = some res) : At X 2 0 0 (wM V q u) 0 [(0, .ref (q 0)), (1, .int v1)] [] := by
  obtain ⟨hX, hT, hF⟩ := id h
  unfold fX12_isSign at hf
  refine a_aload_n hX dX12_isSign_0 rfl 0 rfl rfl ?_
  refine gX12_33 hX F_X12_241 dX12_isSign_1 rfl ?_
  refine a_if_ne (tgt := 29) hX dX12_isSign_4 rfl rfl hf (fun hf => ?_) (fun hf => ?_)
  · refine a_iconst (v := 0) hX dX12_isSign_29 (by decide) rfl ?_
    exact a_zret hX hT (by decide) hF (r_i hf) dX12_isSign_30
  · refine a_aload_n hX dX12_isSign_7 rfl 0 rfl rfl ?_
    refine gX12_28 hX F_X12_224 dX12_isSign_8 rfl ?_
    refine a_iconst (v := 3) hX dX12_isSign_11 (by decide) rfl ?_
    refine a_icmp_ne (tgt := 29) hX dX12_isSign_12 rfl rfl hf (fun hf => ?_) (fun hf => ?_)
    · refine a_iconst (v := 0) hX dX12_isSign_29 (by decide) rfl ?_
      exact a_zret hX hT (by decide) hF (r_i hf) dX12_isSign_30
    · refine a_aload_n hX dX12_isSign_15 rfl 0 rfl rfl ?_
      refine gX12_30 hX F_X12_227 dX12_isSign_16 rfl ?_
      refine a_iload_n hX dX12_isSign_19 rfl 1 rfl rfl ?_
      refine a_i2l hX dX12_isSign_20 rfl ?_
      refine a_lcmp_ne (tgt := 29) hX dX12_isSign_21 rfl dX12_isSign_22 rfl rfl hf (fun hf => ?_) (fun hf => ?_)
      · refine a_iconst (v := 0) hX dX12_isSign_29 (by decide) rfl ?_
        exact a_zret hX hT (by decide) hF (r_i hf) dX12_isSign_30
      · refine a_iconst (v := 1) hX dX12_isSign_25 (by decide) rfl ?_
        refine a_goto (pc' := 30) hX dX12_isSign_26 rfl ?_
        exact a_zret hX hT (by decide) hF (r_i hf) dX12_isSign_30
theorem cX12_isSign {V : Vx} {q : Nat → Nat} {u : St} {res : Int32} (hE : ZOK (vZ V)) {v1 : Int32} (hf : fX12_isSign u v1 = some res) : Ct V yX12_isSign (.code yX12_isSign cX12_isSign 2 (some .boolean)) rmX12_isSign 0 0 [.ref (q 0), .int v1] (wM V q u) (rEq (some (.int res)) (wM V q u)) :=
  Ct_of (by decide) (Nat.le_of_ble_eq_true rfl) rfl (fun X hX hT _ hF => wX12_isSign ⟨hX, hT, hF⟩ hE hf)
def rmX12_opens : Room := { frames := 2, cells := 0, slots := 0, locals := 44 }
def fX12_opens (u : St) : Option (Int32 × St) := if gZ u 32 = 5 then cl1 (fX12_fail u) (fun u5 => some (0, u5)) else (nmS (setZ u 32 ((gZ u 32) + 1)) (fun u1 => cl1 (fX12_next u1) (fun u3 => some (1, u3))))
theorem wX12_opens {X : Cx} {V : Vx} {q : Nat → Nat} {res : Int32 × St} (h : Run X cX12_opens 1 RX12 rmX12_opens V (some .boolean) (rEq (some (.int res.1)) (wM V q res.2))) (hE : ZOK (vZ V)) {u : St} (hf : fX12_opens u = some res) : At X 1 0 0 (wM V q u) 0 [(0, .ref (q 0))] [] := by
  obtain ⟨hX, hT, hF⟩ := id h
  unfold fX12_opens at hf
  refine a_aload_n hX dX12_opens_0 rfl 0 rfl rfl ?_
  refine gX12_32 hX F_X12_248 dX12_opens_1 rfl ?_
  refine a_iconst (v := 5) hX dX12_opens_4 (by decide) rfl ?_
  refine a_icmp_ne (tgt := 14) hX dX12_opens_5 rfl rfl hf (fun hf => ?_) (fun hf => ?_)
  · refine a_aload_n hX dX12_opens_14 rfl 0 rfl rfl ?_
    refine a_dup hX dX12_opens_15 rfl rfl ?_
    refine gX12_32 hX F_X12_248 dX12_opens_16 rfl ?_
    refine a_iconst (v := 1) hX dX12_opens_19 (by decide) rfl ?_
    refine a_iadd hX dX12_opens_20 rfl ?_
    refine pX12_32 hX F_X12_248 dX12_opens_21 rfl hf (fun u1 hf => ?_)
    refine a_aload_n hX dX12_opens_24 rfl 0 rfl rfl ?_
    obtain ⟨u3, hg2, hf⟩ := cl1_some hf
    refine a_cVsv (q0 := 0) (rest := []) hX hE (cX12_next (q := q) hE hg2) K_X12_254 ⟨rfl, rfl⟩ ⟨rfl, rfl, by decide, by decide⟩ ⟨Nat.zero_le _, Nat.zero_le _⟩ (Nat.le_of_ble_eq_true rfl) dX12_opens_25 rfl rfl ?_
    refine a_iconst (v := 1) hX dX12_opens_28 (by decide) rfl ?_
    exact a_zret hX hT (by decide) hF (r_iS (wf := (wM V q)) hf) dX12_opens_29
  · refine a_aload_n hX dX12_opens_8 rfl 0 rfl rfl ?_
    obtain ⟨u5, hg4, hf⟩ := cl1_some hf
    refine a_cVsv (q0 := 0) (rest := []) hX hE (cX12_fail (q := q) hE hg4) K_X12_251 ⟨rfl, rfl⟩ ⟨rfl, rfl, by decide, by decide⟩ ⟨Nat.zero_le _, Nat.zero_le _⟩ (Nat.le_of_ble_eq_true rfl) dX12_opens_9 rfl rfl ?_
    refine a_iconst (v := 0) hX dX12_opens_12 (by decide) rfl ?_
    exact a_zret hX hT (by decide) hF (r_iS (wf := (wM V q)) hf) dX12_opens_13
theorem cX12_opens {V : Vx} {q : Nat → Nat} {u : St} {res : Int32 × St} (hE : ZOK (vZ V))  (hf : fX12_opens u = some res) : Ct V yX12_opens (.code yX12_opens cX12_opens 1 (some .boolean)) rmX12_opens 0 0 [.ref (q 0)] (wM V q u) (rEq (some (.int res.1)) (wM V q res.2)) :=
  Ct_of (by decide) (Nat.le_of_ble_eq_true rfl) rfl (fun X hX hT _ hF => wX12_opens ⟨hX, hT, hF⟩ hE hf)
def rmX12_name : Room := { frames := 2, cells := 0, slots := 0, locals := 47 }
def fX12_name (u : St) : Option (Int32 × St) := cl1 (fX12_isWord u 131638) (fun x1 => if x1 = 0 then cl1 (fX12_isWord u 555) (fun x2 => if x2 = 0 then cl1 (fX12_isWord u 232600981) (fun x3 => if x3 = 0 then cl1 (fX12_isWord u 10634) (fun x4 => if x4 = 0 then cl1 (fX12_isWord u 230433031) (fun x5 => if x5 = 0 then cl1 (fX12_isWord u 307058) (fun x6 => if x6 = 0 then cl1 (fX12_fail u) (fun u8 => some (0, u8)) else (cl1 (fX12_openWays u (gZ u 35) (gZ u 36) (gZ u 37)) (fun x9 => some (x9, u)))) else (cl1 (fX12_standing u (-1)) (fun x10 => cl1 (fX12_bitsOf x10) (fun x11 => some (x11, u))))) else (some ((gZ u 1) - 1, u))) else (some (gZ u 37, u))) else (some (gZ u 36, u))) else (some (gZ u 35, u)))
theorem wX12_name {X : Cx} {V : Vx} {q : Nat → Nat} {res : Int32 × St} (h : Run X cX12_name 1 RX12 rmX12_name V (some .int) (rEq (some (.int res.1)) (wM V q res.2))) (hE : ZOK (vZ V)) {u : St} (hf : fX12_name u = some res) : At X 1 0 0 (wM V q u) 0 [(0, .ref (q 0))] [] := by
  obtain ⟨hX, hT, hF⟩ := id h
  unfold fX12_name at hf
  refine a_aload_n hX dX12_name_0 rfl 0 rfl rfl ?_
  refine a_ldc2 hX dX12_name_1 N_X12_257 rfl ?_
  obtain ⟨x1, hg1, hf⟩ := cl1_some hf
  refine a_cVsi (q0 := 0) (rest := []) hX hE (cX12_isWord (q := q) hE hg1) K_X12_259 ⟨rfl, rfl⟩ ⟨rfl, rfl, by decide, by decide⟩ ⟨Nat.zero_le _, Nat.zero_le _⟩ (Nat.le_of_ble_eq_true rfl) dX12_name_4 rfl rfl ?_
  refine a_if_eq (tgt := 15) hX dX12_name_7 rfl rfl hf (fun hf => ?_) (fun hf => ?_)
  · refine a_aload_n hX dX12_name_15 rfl 0 rfl rfl ?_
    refine a_ldc2 hX dX12_name_16 N_X12_266 rfl ?_
    obtain ⟨x2, hg2, hf⟩ := cl1_some hf
    refine a_cVsi (q0 := 0) (rest := []) hX hE (cX12_isWord (q := q) hE hg2) K_X12_259 ⟨rfl, rfl⟩ ⟨rfl, rfl, by decide, by decide⟩ ⟨Nat.zero_le _, Nat.zero_le _⟩ (Nat.le_of_ble_eq_true rfl) dX12_name_19 rfl rfl ?_
    refine a_if_eq (tgt := 30) hX dX12_name_22 rfl rfl hf (fun hf => ?_) (fun hf => ?_)
    · refine a_aload_n hX dX12_name_30 rfl 0 rfl rfl ?_
      refine a_ldc2 hX dX12_name_31 N_X12_271 rfl ?_
      obtain ⟨x3, hg3, hf⟩ := cl1_some hf
      refine a_cVsi (q0 := 0) (rest := []) hX hE (cX12_isWord (q := q) hE hg3) K_X12_259 ⟨rfl, rfl⟩ ⟨rfl, rfl, by decide, by decide⟩ ⟨Nat.zero_le _, Nat.zero_le _⟩ (Nat.le_of_ble_eq_true rfl) dX12_name_34 rfl rfl ?_
      refine a_if_eq (tgt := 45) hX dX12_name_37 rfl rfl hf (fun hf => ?_) (fun hf => ?_)
      · refine a_aload_n hX dX12_name_45 rfl 0 rfl rfl ?_
        refine a_ldc2 hX dX12_name_46 N_X12_276 rfl ?_
        obtain ⟨x4, hg4, hf⟩ := cl1_some hf
        refine a_cVsi (q0 := 0) (rest := []) hX hE (cX12_isWord (q := q) hE hg4) K_X12_259 ⟨rfl, rfl⟩ ⟨rfl, rfl, by decide, by decide⟩ ⟨Nat.zero_le _, Nat.zero_le _⟩ (Nat.le_of_ble_eq_true rfl) dX12_name_49 rfl rfl ?_
        refine a_if_eq (tgt := 62) hX dX12_name_52 rfl rfl hf (fun hf => ?_) (fun hf => ?_)
        · refine a_aload_n hX dX12_name_62 rfl 0 rfl rfl ?_
          refine a_ldc2 hX dX12_name_63 N_X12_278 rfl ?_
          obtain ⟨x5, hg5, hf⟩ := cl1_some hf
          refine a_cVsi (q0 := 0) (rest := []) hX hE (cX12_isWord (q := q) hE hg5) K_X12_259 ⟨rfl, rfl⟩ ⟨rfl, rfl, by decide, by decide⟩ ⟨Nat.zero_le _, Nat.zero_le _⟩ (Nat.le_of_ble_eq_true rfl) dX12_name_66 rfl rfl ?_
          refine a_if_eq (tgt := 81) hX dX12_name_69 rfl rfl hf (fun hf => ?_) (fun hf => ?_)
          · refine a_aload_n hX dX12_name_81 rfl 0 rfl rfl ?_
            refine a_ldc2 hX dX12_name_82 N_X12_280 rfl ?_
            obtain ⟨x6, hg6, hf⟩ := cl1_some hf
            refine a_cVsi (q0 := 0) (rest := []) hX hE (cX12_isWord (q := q) hE hg6) K_X12_259 ⟨rfl, rfl⟩ ⟨rfl, rfl, by decide, by decide⟩ ⟨Nat.zero_le _, Nat.zero_le _⟩ (Nat.le_of_ble_eq_true rfl) dX12_name_85 rfl rfl ?_
            refine a_if_eq (tgt := 108) hX dX12_name_88 rfl rfl hf (fun hf => ?_) (fun hf => ?_)
            · refine a_aload_n hX dX12_name_108 rfl 0 rfl rfl ?_
              obtain ⟨u8, hg7, hf⟩ := cl1_some hf
              refine a_cVsv (q0 := 0) (rest := []) hX hE (cX12_fail (q := q) hE hg7) K_X12_251 ⟨rfl, rfl⟩ ⟨rfl, rfl, by decide, by decide⟩ ⟨Nat.zero_le _, Nat.zero_le _⟩ (Nat.le_of_ble_eq_true rfl) dX12_name_109 rfl rfl ?_
              refine a_iconst (v := 0) hX dX12_name_112 (by decide) rfl ?_
              exact a_iret hX hT hF (r_iS (wf := (wM V q)) hf) dX12_name_113
            · refine a_aload_n hX dX12_name_91 rfl 0 rfl rfl ?_
              refine a_aload_n hX dX12_name_92 rfl 0 rfl rfl ?_
              refine gX12_35 hX F_X12_263 dX12_name_93 rfl ?_
              refine a_aload_n hX dX12_name_96 rfl 0 rfl rfl ?_
              refine gX12_36 hX F_X12_268 dX12_name_97 rfl ?_
              refine a_aload_n hX dX12_name_100 rfl 0 rfl rfl ?_
              refine gX12_37 hX F_X12_273 dX12_name_101 rfl ?_
              obtain ⟨x9, hg9, hf⟩ := cl1_some hf
              refine a_cVsi (q0 := 0) (rest := []) hX hE (cX12_openWays (q := q) hE hg9) K_X12_182 ⟨rfl, rfl⟩ ⟨rfl, rfl, by decide, by decide⟩ ⟨Nat.zero_le _, Nat.zero_le _⟩ (Nat.le_of_ble_eq_true rfl) dX12_name_104 rfl rfl ?_
              exact a_iret hX hT hF (r_iS (wf := (wM V q)) hf) dX12_name_107
          · refine a_aload_n hX dX12_name_72 rfl 0 rfl rfl ?_
            refine a_iconst (v := (-1)) hX dX12_name_73 (by decide) rfl ?_
            obtain ⟨x10, hg10, hf⟩ := cl1_some hf
            refine a_cVsi (q0 := 0) (rest := []) hX hE (cX12_standing (q := q) hE hg10) K_X12_168 ⟨rfl, rfl⟩ ⟨rfl, rfl, by decide, by decide⟩ ⟨Nat.zero_le _, Nat.zero_le _⟩ (Nat.le_of_ble_eq_true rfl) dX12_name_74 rfl rfl ?_
            obtain ⟨x11, hg11, hf⟩ := cl1_some hf
            refine a_cSpi (rest := []) hX hE (cX12_bitsOf hE hg11) K_X12_179 ⟨rfl, rfl, by decide, by decide⟩ ⟨Nat.zero_le _, Nat.zero_le _⟩ (Nat.le_of_ble_eq_true rfl) dX12_name_77 rfl rfl ?_
            exact a_iret hX hT hF (r_iS (wf := (wM V q)) hf) dX12_name_80
        · refine a_aload_n hX dX12_name_55 rfl 0 rfl rfl ?_
          refine gX12_1 hX F_X12_124 dX12_name_56 rfl ?_
          refine a_iconst (v := 1) hX dX12_name_59 (by decide) rfl ?_
          refine a_isub hX dX12_name_60 rfl ?_
          exact a_iret hX hT hF (r_iS (wf := (wM V q)) hf) dX12_name_61
      · refine a_aload_n hX dX12_name_40 rfl 0 rfl rfl ?_
        refine gX12_37 hX F_X12_273 dX12_name_41 rfl ?_
        exact a_iret hX hT hF (r_iS (wf := (wM V q)) hf) dX12_name_44
    · refine a_aload_n hX dX12_name_25 rfl 0 rfl rfl ?_
      refine gX12_36 hX F_X12_268 dX12_name_26 rfl ?_
      exact a_iret hX hT hF (r_iS (wf := (wM V q)) hf) dX12_name_29
  · refine a_aload_n hX dX12_name_10 rfl 0 rfl rfl ?_
    refine gX12_35 hX F_X12_263 dX12_name_11 rfl ?_
    exact a_iret hX hT hF (r_iS (wf := (wM V q)) hf) dX12_name_14
theorem cX12_name {V : Vx} {q : Nat → Nat} {u : St} {res : Int32 × St} (hE : ZOK (vZ V))  (hf : fX12_name u = some res) : Ct V yX12_name (.code yX12_name cX12_name 1 (some .int)) rmX12_name 0 0 [.ref (q 0)] (wM V q u) (rEq (some (.int res.1)) (wM V q res.2)) :=
  Ct_of (by decide) (Nat.le_of_ble_eq_true rfl) rfl (fun X hX hT _ hF => wX12_name ⟨hX, hT, hF⟩ hE hf)
def rmX12_law : Room := { frames := 3, cells := 0, slots := 0, locals := 65 }
def fX12_law (u : St) (v1 : Int32) (v2 : Int32) (v3 : Int32) : Option (Int32 × St) := cl1 (fX12_isPlace u v1 v2) (fun x1 => if x1 = 0 then some ((-2), u) else (cl1 (fX12_in v3 0 ((gZ u 23) - 1)) (fun x2 => if x2 = 0 then some ((-2), u) else (if gZ u 38 = 20 then some ((-4), u) else (stI u 39 20 (gZ u 38) v1 (fun u3 => stI u3 40 20 (gZ u3 38) v2 (fun u4 => stI u4 41 20 (gZ u4 38) v3 (fun u5 => nmS (setZ u5 38 ((gZ u5 38) + 1)) (fun u6 => some ((gZ u6 38) - 1, u6))))))))))
theorem wX12_law {X : Cx} {V : Vx} {q : Nat → Nat} {res : Int32 × St} (h : Run X cX12_law 4 RX12 rmX12_law V (some .int) (rEq (some (.int res.1)) (wM V q res.2))) (hE : ZOK (vZ V)) {u : St} {v1 : Int32} {v2 : Int32} {v3 : Int32} (hf : fX12_law u v1 v2 v3 = some res) : At X 4 0 0 (wM V q u) 0 [(0, .ref (q 0)), (1, .int v1), (2, .int v2), (3, .int v3)] [] := by
  obtain ⟨hX, hT, hF⟩ := id h
  unfold fX12_law at hf
  refine a_aload_n hX dX12_law_0 rfl 0 rfl rfl ?_
  refine a_iload_n hX dX12_law_1 rfl 1 rfl rfl ?_
  refine a_iload_n hX dX12_law_2 rfl 2 rfl rfl ?_
  obtain ⟨x1, hg1, hf⟩ := cl1_some hf
  refine a_cVsi (q0 := 0) (rest := []) hX hE (cX12_isPlace (q := q) hE hg1) K_X12_172 ⟨rfl, rfl⟩ ⟨rfl, rfl, by decide, by decide⟩ ⟨Nat.zero_le _, Nat.zero_le _⟩ (Nat.le_of_ble_eq_true rfl) dX12_law_3 rfl rfl ?_
  refine a_if_eq (tgt := 23) hX dX12_law_6 rfl rfl hf (fun hf => ?_) (fun hf => ?_)
  · refine a_bipush (v := (-2)) hX dX12_law_23 (by decide) rfl ?_
    exact a_iret hX hT hF (r_iS (wf := (wM V q)) hf) dX12_law_25
  · refine a_iload_n hX dX12_law_9 rfl 3 rfl rfl ?_
    refine a_iconst (v := 0) hX dX12_law_10 (by decide) rfl ?_
    refine a_aload_n hX dX12_law_11 rfl 0 rfl rfl ?_
    refine gX12_23 hX F_X12_137 dX12_law_12 rfl ?_
    refine a_iconst (v := 1) hX dX12_law_15 (by decide) rfl ?_
    refine a_isub hX dX12_law_16 rfl ?_
    obtain ⟨x2, hg2, hf⟩ := cl1_some hf
    refine a_cSpi (rest := []) hX hE (cX12_in hE hg2) K_X12_148 ⟨rfl, rfl, by decide, by decide⟩ ⟨Nat.zero_le _, Nat.zero_le _⟩ (Nat.le_of_ble_eq_true rfl) dX12_law_17 rfl rfl ?_
    refine a_if_ne (tgt := 26) hX dX12_law_20 rfl rfl hf (fun hf => ?_) (fun hf => ?_)
    · refine a_aload_n hX dX12_law_26 rfl 0 rfl rfl ?_
      refine gX12_38 hX F_X12_333 dX12_law_27 rfl ?_
      refine a_bipush (v := 20) hX dX12_law_30 (by decide) rfl ?_
      refine a_icmp_ne (tgt := 38) hX dX12_law_32 rfl rfl hf (fun hf => ?_) (fun hf => ?_)
      · refine a_aload_n hX dX12_law_38 rfl 0 rfl rfl ?_
        refine gX12_39 hX F_X12_73 dX12_law_39 rfl ?_
        refine a_aload_n hX dX12_law_42 rfl 0 rfl rfl ?_
        refine gX12_38 hX F_X12_333 dX12_law_43 rfl ?_
        refine a_iload_n hX dX12_law_46 rfl 1 rfl rfl ?_
        refine sX12_39 hX dX12_law_47 rfl hf (fun u3 hf => ?_)
        refine a_aload_n hX dX12_law_48 rfl 0 rfl rfl ?_
        refine gX12_40 hX F_X12_76 dX12_law_49 rfl ?_
        refine a_aload_n hX dX12_law_52 rfl 0 rfl rfl ?_
        refine gX12_38 hX F_X12_333 dX12_law_53 rfl ?_
        refine a_iload_n hX dX12_law_56 rfl 2 rfl rfl ?_
        refine sX12_40 hX dX12_law_57 rfl hf (fun u4 hf => ?_)
        refine a_aload_n hX dX12_law_58 rfl 0 rfl rfl ?_
        refine gX12_41 hX F_X12_79 dX12_law_59 rfl ?_
        refine a_aload_n hX dX12_law_62 rfl 0 rfl rfl ?_
        refine gX12_38 hX F_X12_333 dX12_law_63 rfl ?_
        refine a_iload_n hX dX12_law_66 rfl 3 rfl rfl ?_
        refine sX12_41 hX dX12_law_67 rfl hf (fun u5 hf => ?_)
        refine a_aload_n hX dX12_law_68 rfl 0 rfl rfl ?_
        refine a_dup hX dX12_law_69 rfl rfl ?_
        refine gX12_38 hX F_X12_333 dX12_law_70 rfl ?_
        refine a_iconst (v := 1) hX dX12_law_73 (by decide) rfl ?_
        refine a_iadd hX dX12_law_74 rfl ?_
        refine pX12_38 hX F_X12_333 dX12_law_75 rfl hf (fun u6 hf => ?_)
        refine a_aload_n hX dX12_law_78 rfl 0 rfl rfl ?_
        refine gX12_38 hX F_X12_333 dX12_law_79 rfl ?_
        refine a_iconst (v := 1) hX dX12_law_82 (by decide) rfl ?_
        refine a_isub hX dX12_law_83 rfl ?_
        exact a_iret hX hT hF (r_iS (wf := (wM V q)) hf) dX12_law_84
      · refine a_bipush (v := (-4)) hX dX12_law_35 (by decide) rfl ?_
        exact a_iret hX hT hF (r_iS (wf := (wM V q)) hf) dX12_law_37
    · refine a_bipush (v := (-2)) hX dX12_law_23 (by decide) rfl ?_
      exact a_iret hX hT hF (r_iS (wf := (wM V q)) hf) dX12_law_25
theorem cX12_law {V : Vx} {q : Nat → Nat} {u : St} {res : Int32 × St} (hE : ZOK (vZ V)) {v1 : Int32} {v2 : Int32} {v3 : Int32} (hf : fX12_law u v1 v2 v3 = some res) : Ct V yX12_law (.code yX12_law cX12_law 4 (some .int)) rmX12_law 0 0 [.ref (q 0), .int v1, .int v2, .int v3] (wM V q u) (rEq (some (.int res.1)) (wM V q res.2)) :=
  Ct_of (by decide) (Nat.le_of_ble_eq_true rfl) rfl (fun X hX hT _ hF => wX12_law ⟨hX, hT, hF⟩ hE hf)
def rmX12_theLaw : Room := { frames := 0, cells := 0, slots := 0, locals := 0 }
def fX12_theLaw_b60 (u : St) (k5 : Int32 → Int32 → Option (Int32)) (v1 : Int32) (v2 : Int32) (v3 : Int32) (v4 : Int32) : Option (Int32) := k5 v3 (v4 + 1)
theorem wX12_theLaw_b60 {X : Cx} {V : Vx} {q : Nat → Nat} {u : St} {res : Int32} (h : Run X cX12_theLaw 5 RX12 rmX12_theLaw V (some .int) (rEq (some (.int res)) (wM V q u))) (hE : ZOK (vZ V)) {v1 : Int32} {v2 : Int32} {v3 : Int32} {v4 : Int32} {k5 : Int32 → Int32 → Option (Int32)} (hk5 : ∀ (v3 : Int32) (v4 : Int32), k5 v3 v4 = some res → At X 5 0 0 (wM V q u) 5 [(0, .ref (q 0)), (1, .int v1), (2, .int v2), (3, .int v3), (4, .int v4)] []) (hf : fX12_theLaw_b60 u k5 v1 v2 v3 v4 = some res) : At X 5 0 0 (wM V q u) 60 [(0, .ref (q 0)), (1, .int v1), (2, .int v2), (3, .int v3), (4, .int v4)] [] := by
  obtain ⟨hX, hT, hF⟩ := id h
  unfold fX12_theLaw_b60 at hf
  refine a_iinc (v := v4 + 1) (lv' := [(4, .int (v4 + 1)), (0, .ref (q 0)), (1, .int v1), (2, .int v2), (3, .int v3)]) hX dX12_theLaw_60 4 rfl rfl (by decide) rfl rfl ?_
  refine a_goto (pc' := 5) hX dX12_theLaw_63 rfl ?_
  refine a_lv (lv' := [(0, .ref (q 0)), (1, .int v1), (2, .int v2), (3, .int v3), (4, .int (v4 + 1))]) [1, 2, 3, 4, 0] rfl ?_
  exact hk5 v3 (v4 + 1) hf
def fX12_theLaw_b57 (u : St) (k5 : Int32 → Int32 → Option (Int32)) (v1 : Int32) (v2 : Int32) (v4 : Int32) : Option (Int32) := fX12_theLaw_b60 u k5 v1 v2 v4 v4
theorem wX12_theLaw_b57 {X : Cx} {V : Vx} {q : Nat → Nat} {u : St} {res : Int32} (h : Run X cX12_theLaw 5 RX12 rmX12_theLaw V (some .int) (rEq (some (.int res)) (wM V q u))) (hE : ZOK (vZ V)) {v1 : Int32} {v2 : Int32} {v4 : Int32} {k5 : Int32 → Int32 → Option (Int32)} (hk5 : ∀ (v3 : Int32) (v4 : Int32), k5 v3 v4 = some res → At X 5 0 0 (wM V q u) 5 [(0, .ref (q 0)), (1, .int v1), (2, .int v2), (3, .int v3), (4, .int v4)] []) (hf : fX12_theLaw_b57 u k5 v1 v2 v4 = some res) : At X 5 0 0 (wM V q u) 57 [(0, .ref (q 0)), (1, .int v1), (2, .int v2), (4, .int v4)] [] := by
  obtain ⟨hX, hT, hF⟩ := id h
  unfold fX12_theLaw_b57 at hf
  refine a_iload hX dX12_theLaw_57 3 rfl rfl ?_
  refine a_istore_n (lv' := [(3, .int v4), (0, .ref (q 0)), (1, .int v1), (2, .int v2), (4, .int v4)]) hX dX12_theLaw_59 rfl (by decide) rfl rfl ?_
  refine a_lv (lv' := [(0, .ref (q 0)), (1, .int v1), (2, .int v2), (3, .int v4), (4, .int v4)]) [1, 2, 3, 0, 4] rfl ?_
  exact wX12_theLaw_b60 h hE hk5 hf
def fX12_theLaw_l5b (u : St) (k5 : Int32 → Int32 → Option (Int32)) (v1 : Int32) (v2 : Int32) (v3 : Int32) (v4 : Int32) : Option (Int32) := if gZ u 38 ≤ v4 then if v3 = (-1) then some 0 else (ldI (gA u 41) 20 v3 (fun x1 => some x1)) else (ldI (gA u 39) 20 v4 (fun x2 => if x2 = v1 then ldI (gA u 40) 20 v4 (fun x3 => if v2 < x3 then fX12_theLaw_b60 u k5 v1 v2 v3 v4 else (if v3 = (-1) then fX12_theLaw_b57 u k5 v1 v2 v4 else (ldI (gA u 40) 20 v4 (fun x4 => ldI (gA u 40) 20 v3 (fun x5 => if x4 < x5 then fX12_theLaw_b60 u k5 v1 v2 v3 v4 else (fX12_theLaw_b57 u k5 v1 v2 v4)))))) else (fX12_theLaw_b60 u k5 v1 v2 v3 v4)))
theorem wX12_theLaw_l5b {X : Cx} {V : Vx} {q : Nat → Nat} {u : St} {res : Int32} (h : Run X cX12_theLaw 5 RX12 rmX12_theLaw V (some .int) (rEq (some (.int res)) (wM V q u))) (hE : ZOK (vZ V)) {v1 : Int32} {v2 : Int32} {v3 : Int32} {v4 : Int32} {k5 : Int32 → Int32 → Option (Int32)} (hk5 : ∀ (v3 : Int32) (v4 : Int32), k5 v3 v4 = some res → At X 5 0 0 (wM V q u) 5 [(0, .ref (q 0)), (1, .int v1), (2, .int v2), (3, .int v3), (4, .int v4)] []) (hf : fX12_theLaw_l5b u k5 v1 v2 v3 v4 = some res) : At X 5 0 0 (wM V q u) 5 [(0, .ref (q 0)), (1, .int v1), (2, .int v2), (3, .int v3), (4, .int v4)] [] := by
  obtain ⟨hX, hT, hF⟩ := id h
  unfold fX12_theLaw_l5b at hf
  refine a_iload hX dX12_theLaw_5 4 rfl rfl ?_
  refine a_aload_n hX dX12_theLaw_7 rfl 0 rfl rfl ?_
  refine gX12_38 hX F_X12_333 dX12_theLaw_8 rfl ?_
  refine a_icmp_ge (tgt := 66) hX dX12_theLaw_11 rfl rfl hf (fun hf => ?_) (fun hf => ?_)
  · refine a_iload_n hX dX12_theLaw_66 rfl 3 rfl rfl ?_
    refine a_iconst (v := (-1)) hX dX12_theLaw_67 (by decide) rfl ?_
    refine a_icmp_ne (tgt := 75) hX dX12_theLaw_68 rfl rfl hf (fun hf => ?_) (fun hf => ?_)
    · refine a_aload_n hX dX12_theLaw_75 rfl 0 rfl rfl ?_
      refine gX12_41 hX F_X12_79 dX12_theLaw_76 rfl ?_
      refine a_iload_n hX dX12_theLaw_79 rfl 3 rfl rfl ?_
      refine lX12_41 hX dX12_theLaw_80 rfl hf (fun x1 hf => ?_)
      exact a_iret hX hT hF (r_i hf) dX12_theLaw_81
    · refine a_iconst (v := 0) hX dX12_theLaw_71 (by decide) rfl ?_
      refine a_goto (pc' := 81) hX dX12_theLaw_72 rfl ?_
      exact a_iret hX hT hF (r_i hf) dX12_theLaw_81
  · refine a_aload_n hX dX12_theLaw_14 rfl 0 rfl rfl ?_
    refine gX12_39 hX F_X12_73 dX12_theLaw_15 rfl ?_
    refine a_iload hX dX12_theLaw_18 4 rfl rfl ?_
    refine lX12_39 hX dX12_theLaw_20 rfl hf (fun x2 hf => ?_)
    refine a_iload_n hX dX12_theLaw_21 rfl 1 rfl rfl ?_
    refine a_icmp_ne (tgt := 60) hX dX12_theLaw_22 rfl rfl hf (fun hf => ?_) (fun hf => ?_)
    · exact wX12_theLaw_b60 h hE hk5 hf
    · refine a_aload_n hX dX12_theLaw_25 rfl 0 rfl rfl ?_
      refine gX12_40 hX F_X12_76 dX12_theLaw_26 rfl ?_
      refine a_iload hX dX12_theLaw_29 4 rfl rfl ?_
      refine lX12_40 hX dX12_theLaw_31 rfl hf (fun x3 hf => ?_)
      refine a_iload_n hX dX12_theLaw_32 rfl 2 rfl rfl ?_
      refine a_icmp_gt (tgt := 60) hX dX12_theLaw_33 rfl rfl hf (fun hf => ?_) (fun hf => ?_)
      · exact wX12_theLaw_b60 h hE hk5 hf
      · refine a_iload_n hX dX12_theLaw_36 rfl 3 rfl rfl ?_
        refine a_iconst (v := (-1)) hX dX12_theLaw_37 (by decide) rfl ?_
        refine a_icmp_eq (tgt := 57) hX dX12_theLaw_38 rfl rfl hf (fun hf => ?_) (fun hf => ?_)
        · refine a_lv (lv' := [(0, .ref (q 0)), (1, .int v1), (2, .int v2), (4, .int v4)]) [0, 1, 2, 4] rfl ?_
          exact wX12_theLaw_b57 h hE hk5 hf
        · refine a_aload_n hX dX12_theLaw_41 rfl 0 rfl rfl ?_
          refine gX12_40 hX F_X12_76 dX12_theLaw_42 rfl ?_
          refine a_iload hX dX12_theLaw_45 4 rfl rfl ?_
          refine lX12_40 hX dX12_theLaw_47 rfl hf (fun x4 hf => ?_)
          refine a_aload_n hX dX12_theLaw_48 rfl 0 rfl rfl ?_
          refine gX12_40 hX F_X12_76 dX12_theLaw_49 rfl ?_
          refine a_iload_n hX dX12_theLaw_52 rfl 3 rfl rfl ?_
          refine lX12_40 hX dX12_theLaw_53 rfl hf (fun x5 hf => ?_)
          refine a_icmp_lt (tgt := 60) hX dX12_theLaw_54 rfl rfl hf (fun hf => ?_) (fun hf => ?_)
          · exact wX12_theLaw_b60 h hE hk5 hf
          · refine a_lv (lv' := [(0, .ref (q 0)), (1, .int v1), (2, .int v2), (4, .int v4)]) [0, 1, 2, 4] rfl ?_
            exact wX12_theLaw_b57 h hE hk5 hf
def fX12_theLaw_l5 (u : St)  (v1 : Int32) (v2 : Int32) : Nat → Int32 → Int32 → Option (Int32)
  | 0, _, _ => none
  | m + 1, v3, v4 => fX12_theLaw_l5b u (fX12_theLaw_l5 u  v1 v2 m) v1 v2 v3 v4
theorem wX12_theLaw_l5 {X : Cx} {V : Vx} {q : Nat → Nat} {u : St} {res : Int32} (h : Run X cX12_theLaw 5 RX12 rmX12_theLaw V (some .int) (rEq (some (.int res)) (wM V q u))) (hE : ZOK (vZ V)) {v1 : Int32} {v2 : Int32} : ∀ (m : Nat) (v3 : Int32) (v4 : Int32), fX12_theLaw_l5 u  v1 v2 m v3 v4 = some res → At X 5 0 0 (wM V q u) 5 [(0, .ref (q 0)), (1, .int v1), (2, .int v2), (3, .int v3), (4, .int v4)] [] := by
  intro m
  induction m with
  | zero => intro v3 v4 hf; cases hf
  | succ m ih => intro v3 v4 hf; exact wX12_theLaw_l5b h hE ih hf
def fX12_theLaw (u : St) (v1 : Int32) (v2 : Int32) : Option (Int32) := fX12_theLaw_l5 u v1 v2 NF (-1) 0
theorem wX12_theLaw {X : Cx} {V : Vx} {q : Nat → Nat} {u : St} {res : Int32} (h : Run X cX12_theLaw 5 RX12 rmX12_theLaw V (some .int) (rEq (some (.int res)) (wM V q u))) (hE : ZOK (vZ V)) {v1 : Int32} {v2 : Int32} (hf : fX12_theLaw u v1 v2 = some res) : At X 5 0 0 (wM V q u) 0 [(0, .ref (q 0)), (1, .int v1), (2, .int v2)] [] := by
  obtain ⟨hX, hT, hF⟩ := id h
  unfold fX12_theLaw at hf
  refine a_iconst (v := (-1)) hX dX12_theLaw_0 (by decide) rfl ?_
  refine a_istore_n (lv' := [(3, .int (-1)), (0, .ref (q 0)), (1, .int v1), (2, .int v2)]) hX dX12_theLaw_1 rfl (by decide) rfl rfl ?_
  refine a_iconst (v := 0) hX dX12_theLaw_2 (by decide) rfl ?_
  refine a_istore (lv' := [(4, .int 0), (3, .int (-1)), (0, .ref (q 0)), (1, .int v1), (2, .int v2)]) hX dX12_theLaw_3 (by decide) rfl rfl ?_
  refine a_lv (lv' := [(0, .ref (q 0)), (1, .int v1), (2, .int v2), (3, .int (-1)), (4, .int 0)]) [2, 3, 4, 1, 0] rfl ?_
  exact wX12_theLaw_l5 h hE NF (-1) 0 hf
theorem cX12_theLaw {V : Vx} {q : Nat → Nat} {u : St} {res : Int32} (hE : ZOK (vZ V)) {v1 : Int32} {v2 : Int32} (hf : fX12_theLaw u v1 v2 = some res) : Ct V yX12_theLaw (.code yX12_theLaw cX12_theLaw 5 (some .int)) rmX12_theLaw 0 0 [.ref (q 0), .int v1, .int v2] (wM V q u) (rEq (some (.int res)) (wM V q u)) :=
  Ct_of (by decide) (Nat.le_of_ble_eq_true rfl) rfl (fun X hX hT _ hF => wX12_theLaw ⟨hX, hT, hF⟩ hE hf)
def rmX12_lawOf : Room := { frames := 3, cells := 0, slots := 0, locals := 65 }
def fX12_lawOf (u : St) (v1 : Int32) (v2 : Int32) : Option (Int32) := cl1 (fX12_isPlace u v1 v2) (fun x1 => if x1 = 0 then some (-2) else (cl1 (fX12_theLaw u v1 v2) (fun x2 => some x2)))
theorem wX12_lawOf {X : Cx} {V : Vx} {q : Nat → Nat} {u : St} {res : Int32} (h : Run X cX12_lawOf 3 RX12 rmX12_lawOf V (some .int) (rEq (some (.int res)) (wM V q u))) (hE : ZOK (vZ V)) {v1 : Int32} {v2 : Int32} (hf : fX12_lawOf u v1 v2 = some res) : At X 3 0 0 (wM V q u) 0 [(0, .ref (q 0)), (1, .int v1), (2, .int v2)] [] := by
  obtain ⟨hX, hT, hF⟩ := id h
  unfold fX12_lawOf at hf
  refine a_aload_n hX dX12_lawOf_0 rfl 0 rfl rfl ?_
  refine a_iload_n hX dX12_lawOf_1 rfl 1 rfl rfl ?_
  refine a_iload_n hX dX12_lawOf_2 rfl 2 rfl rfl ?_
  obtain ⟨x1, hg1, hf⟩ := cl1_some hf
  refine a_cVsi (q0 := 0) (rest := []) hX hE (cX12_isPlace (q := q) hE hg1) K_X12_172 ⟨rfl, rfl⟩ ⟨rfl, rfl, by decide, by decide⟩ ⟨Nat.zero_le _, Nat.zero_le _⟩ (Nat.le_of_ble_eq_true rfl) dX12_lawOf_3 rfl rfl ?_
  refine a_if_eq (tgt := 18) hX dX12_lawOf_6 rfl rfl hf (fun hf => ?_) (fun hf => ?_)
  · refine a_bipush (v := (-2)) hX dX12_lawOf_18 (by decide) rfl ?_
    exact a_iret hX hT hF (r_i hf) dX12_lawOf_20
  · refine a_aload_n hX dX12_lawOf_9 rfl 0 rfl rfl ?_
    refine a_iload_n hX dX12_lawOf_10 rfl 1 rfl rfl ?_
    refine a_iload_n hX dX12_lawOf_11 rfl 2 rfl rfl ?_
    obtain ⟨x2, hg2, hf⟩ := cl1_some hf
    refine a_cVsi (q0 := 0) (rest := []) hX hE (cX12_theLaw (q := q) hE hg2) K_X12_336 ⟨rfl, rfl⟩ ⟨rfl, rfl, by decide, by decide⟩ ⟨Nat.zero_le _, Nat.zero_le _⟩ (Nat.le_of_ble_eq_true rfl) dX12_lawOf_12 rfl rfl ?_
    refine a_goto (pc' := 20) hX dX12_lawOf_15 rfl ?_
    exact a_iret hX hT hF (r_i hf) dX12_lawOf_20
theorem cX12_lawOf {V : Vx} {q : Nat → Nat} {u : St} {res : Int32} (hE : ZOK (vZ V)) {v1 : Int32} {v2 : Int32} (hf : fX12_lawOf u v1 v2 = some res) : Ct V yX12_lawOf (.code yX12_lawOf cX12_lawOf 3 (some .int)) rmX12_lawOf 0 0 [.ref (q 0), .int v1, .int v2] (wM V q u) (rEq (some (.int res)) (wM V q u)) :=
  Ct_of (by decide) (Nat.le_of_ble_eq_true rfl) rfl (fun X hX hT _ hF => wX12_lawOf ⟨hX, hT, hF⟩ hE hf)
def rmX12_judged : Room := { frames := 2, cells := 0, slots := 0, locals := 42 }
def fX12_judged (u : St) (v1 : Int32) (v2 : Int32) : Option (Int64) := cl1 (fX12_in v1 0 ((gZ u 45) - 1)) (fun x1 => if x1 = 0 then some (-4611686018427387904) else (cl1 (fX12_isLand v2) (fun x2 => if x2 = 0 then some (-4611686018427387904) else (ldL (gB u 46) 60 ((5 * v1) + v2) (fun x3 => some x3)))))
theorem wX12_judged {X : Cx} {V : Vx} {q : Nat → Nat} {u : St} {res : Int64} (h : Run X cX12_judged 3 RX12 rmX12_judged V (some .long) (rEq (some (.long res)) (wM V q u))) (hE : ZOK (vZ V)) {v1 : Int32} {v2 : Int32} (hf : fX12_judged u v1 v2 = some res) : At X 3 0 0 (wM V q u) 0 [(0, .ref (q 0)), (1, .int v1), (2, .int v2)] [] := by
  obtain ⟨hX, hT, hF⟩ := id h
  unfold fX12_judged at hf
  refine a_iload_n hX dX12_judged_0 rfl 1 rfl rfl ?_
  refine a_iconst (v := 0) hX dX12_judged_1 (by decide) rfl ?_
  refine a_aload_n hX dX12_judged_2 rfl 0 rfl rfl ?_
  refine gX12_45 hX F_X12_346 dX12_judged_3 rfl ?_
  refine a_iconst (v := 1) hX dX12_judged_6 (by decide) rfl ?_
  refine a_isub hX dX12_judged_7 rfl ?_
  obtain ⟨x1, hg1, hf⟩ := cl1_some hf
  refine a_cSpi (rest := []) hX hE (cX12_in hE hg1) K_X12_148 ⟨rfl, rfl, by decide, by decide⟩ ⟨Nat.zero_le _, Nat.zero_le _⟩ (Nat.le_of_ble_eq_true rfl) dX12_judged_8 rfl rfl ?_
  refine a_if_eq (tgt := 34) hX dX12_judged_11 rfl rfl hf (fun hf => ?_) (fun hf => ?_)
  · refine a_ldc2 hX dX12_judged_34 N_X12_196 rfl ?_
    exact a_lret hX hT hF (r_l hf) dX12_judged_37
  · refine a_iload_n hX dX12_judged_14 rfl 2 rfl rfl ?_
    obtain ⟨x2, hg2, hf⟩ := cl1_some hf
    refine a_cSpi (rest := []) hX hE (cX12_isLand hE hg2) K_X12_152 ⟨rfl, rfl, by decide, by decide⟩ ⟨Nat.zero_le _, Nat.zero_le _⟩ (Nat.le_of_ble_eq_true rfl) dX12_judged_15 rfl rfl ?_
    refine a_if_eq (tgt := 34) hX dX12_judged_18 rfl rfl hf (fun hf => ?_) (fun hf => ?_)
    · refine a_ldc2 hX dX12_judged_34 N_X12_196 rfl ?_
      exact a_lret hX hT hF (r_l hf) dX12_judged_37
    · refine a_aload_n hX dX12_judged_21 rfl 0 rfl rfl ?_
      refine gX12_46 hX F_X12_91 dX12_judged_22 rfl ?_
      refine a_iconst (v := 5) hX dX12_judged_25 (by decide) rfl ?_
      refine a_iload_n hX dX12_judged_26 rfl 1 rfl rfl ?_
      refine a_imul hX dX12_judged_27 rfl ?_
      refine a_iload_n hX dX12_judged_28 rfl 2 rfl rfl ?_
      refine a_iadd hX dX12_judged_29 rfl ?_
      refine lX12_46 hX dX12_judged_30 rfl hf (fun x3 hf => ?_)
      refine a_goto (pc' := 37) hX dX12_judged_31 rfl ?_
      exact a_lret hX hT hF (r_l hf) dX12_judged_37
theorem cX12_judged {V : Vx} {q : Nat → Nat} {u : St} {res : Int64} (hE : ZOK (vZ V)) {v1 : Int32} {v2 : Int32} (hf : fX12_judged u v1 v2 = some res) : Ct V yX12_judged (.code yX12_judged cX12_judged 3 (some .long)) rmX12_judged 0 0 [.ref (q 0), .int v1, .int v2] (wM V q u) (rEq (some (.long res)) (wM V q u)) :=
  Ct_of (by decide) (Nat.le_of_ble_eq_true rfl) rfl (fun X hX hT _ hF => wX12_judged ⟨hX, hT, hF⟩ hE hf)
def rmX12_greater : Room := { frames := 0, cells := 0, slots := 0, locals := 0 }
def fX12_greater (v0 : Int64) (v2 : Int64) : Option (Int64) := if v0 ≤ v2 then some v2 else (some v0)
theorem wX12_greater {X : Cx} {V : Vx} {res : Int64} (h : Run X cX12_greater 4 RX12 rmX12_greater V (some .long) (rEq (some (.long res)) [])) (hE : ZOK (vZ V)) {v0 : Int64} {v2 : Int64} (hf : fX12_greater v0 v2 = some res) : At X 4 0 0 [] 0 [(0, .long v0), (2, .long v2)] [] := by
  obtain ⟨hX, hT, hF⟩ := id h
  unfold fX12_greater at hf
  refine a_lload_n hX dX12_greater_0 rfl 0 rfl rfl ?_
  refine a_lload_n hX dX12_greater_1 rfl 1 rfl rfl ?_
  refine a_lcmp_le (tgt := 10) hX dX12_greater_2 rfl dX12_greater_3 rfl rfl hf (fun hf => ?_) (fun hf => ?_)
  · refine a_lload_n hX dX12_greater_10 rfl 1 rfl rfl ?_
    exact a_lret hX hT hF (r_l hf) dX12_greater_11
  · refine a_lload_n hX dX12_greater_6 rfl 0 rfl rfl ?_
    refine a_goto (pc' := 11) hX dX12_greater_7 rfl ?_
    exact a_lret hX hT hF (r_l hf) dX12_greater_11
theorem cX12_greater {V : Vx} {res : Int64} (hE : ZOK (vZ V)) {v0 : Int64} {v2 : Int64} (hf : fX12_greater v0 v2 = some res) : Ct V yX12_greater (.code yX12_greater cX12_greater 4 (some .long)) rmX12_greater 0 0 [.long v0, .long v2] [] (rEq (some (.long res)) []) :=
  Ct_of (by decide) (Nat.le_of_ble_eq_true rfl) rfl (fun X hX hT _ hF => wX12_greater ⟨hX, hT, hF⟩ hE hf)
def rmX12_worst : Room := { frames := 4, cells := 0, slots := 0, locals := 92 }
def fX12_worst (u : St) (v1 : Int32) (v2 : Int32) : Option (Int64 × St) := cl1 (fX12_isPlace u v1 v2) (fun x1 => if x1 = 0 then some ((-4611686018427387904), u) else (cl2 (fX12_all u) (fun x2 u3 => cl1 (fX12_through u3 v1 v2) (fun x4 => cl1 (fX12_through u3 v1 v2) (fun x5 => cl1 (fX12_greater x4 (x2 - x5)) (fun x6 => some (x6, u3)))))))
theorem wX12_worst {X : Cx} {V : Vx} {q : Nat → Nat} {res : Int64 × St} (h : Run X cX12_worst 5 RX12 rmX12_worst V (some .long) (rEq (some (.long res.1)) (wM V q res.2))) (hE : ZOK (vZ V)) {u : St} {v1 : Int32} {v2 : Int32} (hf : fX12_worst u v1 v2 = some res) : At X 5 0 0 (wM V q u) 0 [(0, .ref (q 0)), (1, .int v1), (2, .int v2)] [] := by
  obtain ⟨hX, hT, hF⟩ := id h
  unfold fX12_worst at hf
  refine a_aload_n hX dX12_worst_0 rfl 0 rfl rfl ?_
  refine a_iload_n hX dX12_worst_1 rfl 1 rfl rfl ?_
  refine a_iload_n hX dX12_worst_2 rfl 2 rfl rfl ?_
  obtain ⟨x1, hg1, hf⟩ := cl1_some hf
  refine a_cVsi (q0 := 0) (rest := []) hX hE (cX12_isPlace (q := q) hE hg1) K_X12_172 ⟨rfl, rfl⟩ ⟨rfl, rfl, by decide, by decide⟩ ⟨Nat.zero_le _, Nat.zero_le _⟩ (Nat.le_of_ble_eq_true rfl) dX12_worst_3 rfl rfl ?_
  refine a_if_ne (tgt := 13) hX dX12_worst_6 rfl rfl hf (fun hf => ?_) (fun hf => ?_)
  · refine a_aload_n hX dX12_worst_13 rfl 0 rfl rfl ?_
    obtain ⟨x2, u3, hg2, hf⟩ := cl2_some hf
    refine a_cVsl (q0 := 0) (rest := []) hX hE (cX12_all (q := q) hE hg2) K_X12_193 ⟨rfl, rfl⟩ ⟨rfl, rfl, by decide, by decide⟩ ⟨Nat.zero_le _, Nat.zero_le _⟩ (Nat.le_of_ble_eq_true rfl) dX12_worst_14 rfl rfl ?_
    refine a_lstore_n (lv' := [(3, .long x2), (0, .ref (q 0)), (1, .int v1), (2, .int v2)]) hX dX12_worst_17 rfl (by decide) rfl rfl ?_
    refine a_aload_n hX dX12_worst_18 rfl 1 rfl rfl ?_
    refine a_iload_n hX dX12_worst_19 rfl 2 rfl rfl ?_
    refine a_iload_n hX dX12_worst_20 rfl 3 rfl rfl ?_
    obtain ⟨x4, hg4, hf⟩ := cl1_some hf
    refine a_cVsl (q0 := 0) (rest := []) hX hE (cX12_through (q := q) hE hg4) K_X12_198 ⟨rfl, rfl⟩ ⟨rfl, rfl, by decide, by decide⟩ ⟨Nat.zero_le _, Nat.zero_le _⟩ (Nat.le_of_ble_eq_true rfl) dX12_worst_21 rfl rfl ?_
    refine a_lload_n hX dX12_worst_24 rfl 0 rfl rfl ?_
    refine a_aload_n hX dX12_worst_25 rfl 1 rfl rfl ?_
    refine a_iload_n hX dX12_worst_26 rfl 2 rfl rfl ?_
    refine a_iload_n hX dX12_worst_27 rfl 3 rfl rfl ?_
    obtain ⟨x5, hg5, hf⟩ := cl1_some hf
    refine a_cVsl (q0 := 0) (rest := [.long x2, .long x4]) hX hE (cX12_through (q := q) hE hg5) K_X12_198 ⟨rfl, rfl⟩ ⟨rfl, rfl, by decide, by decide⟩ ⟨Nat.zero_le _, Nat.zero_le _⟩ (Nat.le_of_ble_eq_true rfl) dX12_worst_28 rfl rfl ?_
    refine a_lsub hX dX12_worst_31 rfl ?_
    obtain ⟨x6, hg6, hf⟩ := cl1_some hf
    refine a_cSpl (rest := []) hX hE (cX12_greater hE hg6) K_X12_349 ⟨rfl, rfl, by decide, by decide⟩ ⟨Nat.zero_le _, Nat.zero_le _⟩ (Nat.le_of_ble_eq_true rfl) dX12_worst_32 rfl rfl ?_
    exact a_lret hX hT hF (r_lS (wf := (wM V q)) hf) dX12_worst_35
  · refine a_ldc2 hX dX12_worst_9 N_X12_196 rfl ?_
    exact a_lret hX hT hF (r_lS (wf := (wM V q)) hf) dX12_worst_12
theorem cX12_worst {V : Vx} {q : Nat → Nat} {u : St} {res : Int64 × St} (hE : ZOK (vZ V)) {v1 : Int32} {v2 : Int32} (hf : fX12_worst u v1 v2 = some res) : Ct V yX12_worst (.code yX12_worst cX12_worst 5 (some .long)) rmX12_worst 0 0 [.ref (q 0), .int v1, .int v2] (wM V q u) (rEq (some (.long res.1)) (wM V q res.2)) :=
  Ct_of (by decide) (Nat.le_of_ble_eq_true rfl) rfl (fun X hX hT _ hF => wX12_worst ⟨hX, hT, hF⟩ hE hf)
def rmX12_question : Room := { frames := 4, cells := 0, slots := 0, locals := 92 }
def fX12_question_b79  (k13 : Int64 → Int32 → Int32 → Option (Int32 × St)) (u : St) (v1 : Int64) (v3 : Int64) (v5 : Int32) (v6 : Int32) : Option (Int32 × St) := k13 v1 v5 (v6 + 1)
theorem wX12_question_b79 {X : Cx} {V : Vx} {q : Nat → Nat} {res : Int32 × St} (h : Run X cX12_question 9 RX12 rmX12_question V (some .int) (rEq (some (.int res.1)) (wM V q res.2))) (hE : ZOK (vZ V)) {u : St} {v1 : Int64} {v3 : Int64} {v5 : Int32} {v6 : Int32} {k13 : Int64 → Int32 → Int32 → Option (Int32 × St)} (hk13 : ∀ (v1 : Int64) (v5 : Int32) (v6 : Int32), k13 v1 v5 v6 = some res → At X 9 0 0 (wM V q u) 13 [(0, .ref (q 0)), (1, .long v1), (3, .long v3), (5, .int v5), (6, .int v6)] []) (hf : fX12_question_b79  k13 u v1 v3 v5 v6 = some res) : At X 9 0 0 (wM V q u) 79 [(0, .ref (q 0)), (1, .long v1), (3, .long v3), (5, .int v5), (6, .int v6)] [] := by
  obtain ⟨hX, hT, hF⟩ := id h
  unfold fX12_question_b79 at hf
  refine a_iinc (v := v6 + 1) (lv' := [(6, .int (v6 + 1)), (0, .ref (q 0)), (1, .long v1), (3, .long v3), (5, .int v5)]) hX dX12_question_79 4 rfl rfl (by decide) rfl rfl ?_
  refine a_goto (pc' := 13) hX dX12_question_82 rfl ?_
  refine a_lv (lv' := [(0, .ref (q 0)), (1, .long v1), (3, .long v3), (5, .int v5), (6, .int (v6 + 1))]) [1, 2, 3, 4, 0] rfl ?_
  exact hk13 v1 v5 (v6 + 1) hf
def fX12_question_l13b  (k13 : Int64 → Int32 → Int32 → Option (Int32 × St)) (u : St) (v1 : Int64) (v3 : Int64) (v5 : Int32) (v6 : Int32) : Option (Int32 × St) := if 5 * (gZ u 1) ≤ v6 then some (v5, u) else (cl1 (fX12_through u (v6 - v6 / 5 * 5) (v6 / 5)) (fun x3 => cl1 (fX12_greater x3 (v3 - x3)) (fun x4 => if x4 < v1 then cl1 (fX12_greater x3 (v3 - x3)) (fun x5 => nmI ((10 * (v6 / 5)) + (v6 - v6 / 5 * 5)) (fun x6 => fX12_question_b79 k13 u x5 v3 x6 v6)) else (fX12_question_b79 k13 u v1 v3 v5 v6))))
theorem wX12_question_l13b {X : Cx} {V : Vx} {q : Nat → Nat} {res : Int32 × St} (h : Run X cX12_question 9 RX12 rmX12_question V (some .int) (rEq (some (.int res.1)) (wM V q res.2))) (hE : ZOK (vZ V)) {u : St} {v1 : Int64} {v3 : Int64} {v5 : Int32} {v6 : Int32} {k13 : Int64 → Int32 → Int32 → Option (Int32 × St)} (hk13 : ∀ (v1 : Int64) (v5 : Int32) (v6 : Int32), k13 v1 v5 v6 = some res → At X 9 0 0 (wM V q u) 13 [(0, .ref (q 0)), (1, .long v1), (3, .long v3), (5, .int v5), (6, .int v6)] []) (hf : fX12_question_l13b  k13 u v1 v3 v5 v6 = some res) : At X 9 0 0 (wM V q u) 13 [(0, .ref (q 0)), (1, .long v1), (3, .long v3), (5, .int v5), (6, .int v6)] [] := by
  obtain ⟨hX, hT, hF⟩ := id h
  unfold fX12_question_l13b at hf
  refine a_iload hX dX12_question_13 4 rfl rfl ?_
  refine a_iconst (v := 5) hX dX12_question_15 (by decide) rfl ?_
  refine a_aload_n hX dX12_question_16 rfl 0 rfl rfl ?_
  refine gX12_1 hX F_X12_124 dX12_question_17 rfl ?_
  refine a_imul hX dX12_question_20 rfl ?_
  refine a_icmp_ge (tgt := 85) hX dX12_question_21 rfl rfl hf (fun hf => ?_) (fun hf => ?_)
  · refine a_iload hX dX12_question_85 3 rfl rfl ?_
    exact a_iret hX hT hF (r_iS (wf := (wM V q)) hf) dX12_question_87
  · refine a_aload_n hX dX12_question_24 rfl 0 rfl rfl ?_
    refine a_iload hX dX12_question_25 4 rfl rfl ?_
    refine a_iconst (v := 5) hX dX12_question_27 (by decide) rfl ?_
    refine a_irem hX dX12_question_28 (by decide) rfl ?_
    refine a_iload hX dX12_question_29 4 rfl rfl ?_
    refine a_iconst (v := 5) hX dX12_question_31 (by decide) rfl ?_
    refine a_idiv hX dX12_question_32 (by decide) rfl ?_
    obtain ⟨x3, hg3, hf⟩ := cl1_some hf
    refine a_cVsl (q0 := 0) (rest := []) hX hE (cX12_through (q := q) hE hg3) K_X12_198 ⟨rfl, rfl⟩ ⟨rfl, rfl, by decide, by decide⟩ ⟨Nat.zero_le _, Nat.zero_le _⟩ (Nat.le_of_ble_eq_true rfl) dX12_question_33 rfl rfl ?_
    refine a_lstore (lv' := [(7, .long x3), (0, .ref (q 0)), (1, .long v1), (3, .long v3), (5, .int v5), (6, .int v6)]) hX dX12_question_36 (by decide) rfl rfl ?_
    refine a_lload hX dX12_question_38 0 rfl rfl ?_
    refine a_lload_n hX dX12_question_40 rfl 3 rfl rfl ?_
    refine a_lload hX dX12_question_41 0 rfl rfl ?_
    refine a_lsub hX dX12_question_43 rfl ?_
    obtain ⟨x4, hg4, hf⟩ := cl1_some hf
    refine a_cSpl (rest := []) hX hE (cX12_greater hE hg4) K_X12_349 ⟨rfl, rfl, by decide, by decide⟩ ⟨Nat.zero_le _, Nat.zero_le _⟩ (Nat.le_of_ble_eq_true rfl) dX12_question_44 rfl rfl ?_
    refine a_lload_n hX dX12_question_47 rfl 2 rfl rfl ?_
    refine a_lcmp_lt (tgt := 55) hX dX12_question_48 rfl dX12_question_49 rfl rfl hf (fun hf => ?_) (fun hf => ?_)
    · refine a_lload hX dX12_question_55 0 rfl rfl ?_
      refine a_lload_n hX dX12_question_57 rfl 3 rfl rfl ?_
      refine a_lload hX dX12_question_58 0 rfl rfl ?_
      refine a_lsub hX dX12_question_60 rfl ?_
      obtain ⟨x5, hg5, hf⟩ := cl1_some hf
      refine a_cSpl (rest := []) hX hE (cX12_greater hE hg5) K_X12_349 ⟨rfl, rfl, by decide, by decide⟩ ⟨Nat.zero_le _, Nat.zero_le _⟩ (Nat.le_of_ble_eq_true rfl) dX12_question_61 rfl rfl ?_
      refine a_lstore_n (lv' := [(1, .long x5), (7, .long x3), (0, .ref (q 0)), (3, .long v3), (5, .int v5), (6, .int v6)]) hX dX12_question_64 rfl (by decide) rfl rfl ?_
      refine a_bipush (v := 10) hX dX12_question_65 (by decide) rfl ?_
      refine a_iload hX dX12_question_67 5 rfl rfl ?_
      refine a_iconst (v := 5) hX dX12_question_69 (by decide) rfl ?_
      refine a_idiv hX dX12_question_70 (by decide) rfl ?_
      refine a_imul hX dX12_question_71 rfl ?_
      refine a_iload hX dX12_question_72 5 rfl rfl ?_
      refine a_iconst (v := 5) hX dX12_question_74 (by decide) rfl ?_
      refine a_irem hX dX12_question_75 (by decide) rfl ?_
      refine a_iadd hX dX12_question_76 rfl ?_
      refine a_nmI hf (fun x6 hf => ?_)
      refine a_istore (lv' := [(5, .int x6), (1, .long x5), (7, .long x3), (0, .ref (q 0)), (3, .long v3), (6, .int v6)]) hX dX12_question_77 (by decide) rfl rfl ?_
      refine a_lv (lv' := [(0, .ref (q 0)), (1, .long x5), (3, .long v3), (5, .int x6), (6, .int v6)]) [3, 1, 4, 0, 5] rfl ?_
      exact wX12_question_b79 h hE hk13 hf
    · refine a_goto (pc' := 79) hX dX12_question_52 rfl ?_
      refine a_lv (lv' := [(0, .ref (q 0)), (1, .long v1), (3, .long v3), (5, .int v5), (6, .int v6)]) [1, 2, 3, 4, 5] rfl ?_
      exact wX12_question_b79 h hE hk13 hf
def fX12_question_l13   (u : St) (v3 : Int64) : Nat → Int64 → Int32 → Int32 → Option (Int32 × St)
  | 0, _, _, _ => none
  | m + 1, v1, v5, v6 => fX12_question_l13b  (fX12_question_l13   u v3 m) u v1 v3 v5 v6
theorem wX12_question_l13 {X : Cx} {V : Vx} {q : Nat → Nat} {res : Int32 × St} (h : Run X cX12_question 9 RX12 rmX12_question V (some .int) (rEq (some (.int res.1)) (wM V q res.2))) (hE : ZOK (vZ V)) {u : St} {v3 : Int64} : ∀ (m : Nat) (v1 : Int64) (v5 : Int32) (v6 : Int32), fX12_question_l13   u v3 m v1 v5 v6 = some res → At X 9 0 0 (wM V q u) 13 [(0, .ref (q 0)), (1, .long v1), (3, .long v3), (5, .int v5), (6, .int v6)] [] := by
  intro m
  induction m with
  | zero => intro v1 v5 v6 hf; cases hf
  | succ m ih => intro v1 v5 v6 hf; exact wX12_question_l13b h hE ih hf
def fX12_question (u : St) : Option (Int32 × St) := cl2 (fX12_all u) (fun x1 u2 => fX12_question_l13 u2 x1 NF x1 (-1) 0)
theorem wX12_question {X : Cx} {V : Vx} {q : Nat → Nat} {res : Int32 × St} (h : Run X cX12_question 9 RX12 rmX12_question V (some .int) (rEq (some (.int res.1)) (wM V q res.2))) (hE : ZOK (vZ V)) {u : St} (hf : fX12_question u = some res) : At X 9 0 0 (wM V q u) 0 [(0, .ref (q 0))] [] := by
  obtain ⟨hX, hT, hF⟩ := id h
  unfold fX12_question at hf
  refine a_aload_n hX dX12_question_0 rfl 0 rfl rfl ?_
  obtain ⟨x1, u2, hg1, hf⟩ := cl2_some hf
  refine a_cVsl (q0 := 0) (rest := []) hX hE (cX12_all (q := q) hE hg1) K_X12_193 ⟨rfl, rfl⟩ ⟨rfl, rfl, by decide, by decide⟩ ⟨Nat.zero_le _, Nat.zero_le _⟩ (Nat.le_of_ble_eq_true rfl) dX12_question_1 rfl rfl ?_
  refine a_lstore_n (lv' := [(1, .long x1), (0, .ref (q 0))]) hX dX12_question_4 rfl (by decide) rfl rfl ?_
  refine a_lload_n hX dX12_question_5 rfl 0 rfl rfl ?_
  refine a_lstore_n (lv' := [(3, .long x1), (1, .long x1), (0, .ref (q 0))]) hX dX12_question_6 rfl (by decide) rfl rfl ?_
  refine a_iconst (v := (-1)) hX dX12_question_7 (by decide) rfl ?_
  refine a_istore (lv' := [(5, .int (-1)), (3, .long x1), (1, .long x1), (0, .ref (q 0))]) hX dX12_question_8 (by decide) rfl rfl ?_
  refine a_iconst (v := 0) hX dX12_question_10 (by decide) rfl ?_
  refine a_istore (lv' := [(6, .int 0), (5, .int (-1)), (3, .long x1), (1, .long x1), (0, .ref (q 0))]) hX dX12_question_11 (by decide) rfl rfl ?_
  refine a_lv (lv' := [(0, .ref (q 0)), (1, .long x1), (3, .long x1), (5, .int (-1)), (6, .int 0)]) [4, 3, 2, 1, 0] rfl ?_
  exact wX12_question_l13 h hE NF x1 (-1) 0 hf
theorem cX12_question {V : Vx} {q : Nat → Nat} {u : St} {res : Int32 × St} (hE : ZOK (vZ V))  (hf : fX12_question u = some res) : Ct V yX12_question (.code yX12_question cX12_question 9 (some .int)) rmX12_question 0 0 [.ref (q 0)] (wM V q u) (rEq (some (.int res.1)) (wM V q res.2)) :=
  Ct_of (by decide) (Nat.le_of_ble_eq_true rfl) rfl (fun X hX hT _ hF => wX12_question ⟨hX, hT, hF⟩ hE hf)
def rmX12_leastAmong : Room := { frames := 1, cells := 0, slots := 0, locals := 23 }
def fX12_leastAmong_b120 (u : St) (k35 : Int64 → Int32 → Option (Int64)) (v1 : Int32) (v2 : Int32) (v7 : Int64) (v11 : Int32) (s0 : Int64) : Option (Int64) := k35 s0 (v11 + 1)
theorem wX12_leastAmong_b120 {X : Cx} {V : Vx} {q : Nat → Nat} {u : St} {res : Int64} (h : Run X cX12_leastAmong 16 RX12 rmX12_leastAmong V (some .long) (rEq (some (.long res)) (wM V q u))) (hE : ZOK (vZ V)) {v1 : Int32} {v2 : Int32} {v7 : Int64} {v11 : Int32} {s0 : Int64} {k35 : Int64 → Int32 → Option (Int64)} (hk35 : ∀ (v9 : Int64) (v11 : Int32), k35 v9 v11 = some res → At X 16 0 0 (wM V q u) 35 [(0, .ref (q 0)), (1, .int v1), (2, .int v2), (7, .long v7), (9, .long v9), (11, .int v11)] []) (hf : fX12_leastAmong_b120 u k35 v1 v2 v7 v11 s0 = some res) : At X 16 0 0 (wM V q u) 120 [(0, .ref (q 0)), (1, .int v1), (2, .int v2), (7, .long v7), (11, .int v11)] [.long s0] := by
  obtain ⟨hX, hT, hF⟩ := id h
  unfold fX12_leastAmong_b120 at hf
  refine a_lstore (lv' := [(9, .long s0), (0, .ref (q 0)), (1, .int v1), (2, .int v2), (7, .long v7), (11, .int v11)]) hX dX12_leastAmong_120 (by decide) rfl rfl ?_
  refine a_iinc (v := v11 + 1) (lv' := [(11, .int (v11 + 1)), (9, .long s0), (0, .ref (q 0)), (1, .int v1), (2, .int v2), (7, .long v7)]) hX dX12_leastAmong_122 5 rfl rfl (by decide) rfl rfl ?_
  refine a_goto (pc' := 35) hX dX12_leastAmong_125 rfl ?_
  refine a_lv (lv' := [(0, .ref (q 0)), (1, .int v1), (2, .int v2), (7, .long v7), (9, .long s0), (11, .int (v11 + 1))]) [2, 3, 4, 5, 1, 0] rfl ?_
  exact hk35 s0 (v11 + 1) hf
def fX12_leastAmong_b91 (u : St) (k35 : Int64 → Int32 → Option (Int64)) (v1 : Int32) (v2 : Int32) (v7 : Int64) (v9 : Int64) (v11 : Int32) (s0 : Int64) : Option (Int64) := cl1 (fX12_greater s0 (v7 - s0)) (fun x5 => if v9 ≤ x5 then fX12_leastAmong_b120 u k35 v1 v2 v7 v11 v9 else (fX12_leastAmong_b120 u k35 v1 v2 v7 v11 x5))
theorem wX12_leastAmong_b91 {X : Cx} {V : Vx} {q : Nat → Nat} {u : St} {res : Int64} (h : Run X cX12_leastAmong 16 RX12 rmX12_leastAmong V (some .long) (rEq (some (.long res)) (wM V q u))) (hE : ZOK (vZ V)) {v1 : Int32} {v2 : Int32} {v7 : Int64} {v9 : Int64} {v11 : Int32} {s0 : Int64} {k35 : Int64 → Int32 → Option (Int64)} (hk35 : ∀ (v9 : Int64) (v11 : Int32), k35 v9 v11 = some res → At X 16 0 0 (wM V q u) 35 [(0, .ref (q 0)), (1, .int v1), (2, .int v2), (7, .long v7), (9, .long v9), (11, .int v11)] []) (hf : fX12_leastAmong_b91 u k35 v1 v2 v7 v9 v11 s0 = some res) : At X 16 0 0 (wM V q u) 91 [(0, .ref (q 0)), (1, .int v1), (2, .int v2), (7, .long v7), (9, .long v9), (11, .int v11)] [.long s0] := by
  obtain ⟨hX, hT, hF⟩ := id h
  unfold fX12_leastAmong_b91 at hf
  refine a_lstore (lv' := [(12, .long s0), (0, .ref (q 0)), (1, .int v1), (2, .int v2), (7, .long v7), (9, .long v9), (11, .int v11)]) hX dX12_leastAmong_91 (by decide) rfl rfl ?_
  refine a_lload hX dX12_leastAmong_93 0 rfl rfl ?_
  refine a_lload hX dX12_leastAmong_95 4 rfl rfl ?_
  refine a_lload hX dX12_leastAmong_97 0 rfl rfl ?_
  refine a_lsub hX dX12_leastAmong_99 rfl ?_
  obtain ⟨x5, hg5, hf⟩ := cl1_some hf
  refine a_cSpl (rest := []) hX hE (cX12_greater hE hg5) K_X12_349 ⟨rfl, rfl, by decide, by decide⟩ ⟨Nat.zero_le _, Nat.zero_le _⟩ (Nat.le_of_ble_eq_true rfl) dX12_leastAmong_100 rfl rfl ?_
  refine a_lstore (lv' := [(14, .long x5), (12, .long s0), (0, .ref (q 0)), (1, .int v1), (2, .int v2), (7, .long v7), (9, .long v9), (11, .int v11)]) hX dX12_leastAmong_103 (by decide) rfl rfl ?_
  refine a_lload hX dX12_leastAmong_105 0 rfl rfl ?_
  refine a_lload hX dX12_leastAmong_107 6 rfl rfl ?_
  refine a_lcmp_ge (tgt := 118) hX dX12_leastAmong_109 rfl dX12_leastAmong_110 rfl rfl hf (fun hf => ?_) (fun hf => ?_)
  · refine a_lload hX dX12_leastAmong_118 6 rfl rfl ?_
    refine a_lv (lv' := [(0, .ref (q 0)), (1, .int v1), (2, .int v2), (7, .long v7), (11, .int v11)]) [2, 3, 4, 5, 7] rfl ?_
    exact wX12_leastAmong_b120 h hE hk35 hf
  · refine a_lload hX dX12_leastAmong_113 0 rfl rfl ?_
    refine a_goto (pc' := 120) hX dX12_leastAmong_115 rfl ?_
    refine a_lv (lv' := [(0, .ref (q 0)), (1, .int v1), (2, .int v2), (7, .long v7), (11, .int v11)]) [2, 3, 4, 5, 7] rfl ?_
    exact wX12_leastAmong_b120 h hE hk35 hf
def fX12_leastAmong_l35b (u : St) (k35 : Int64 → Int32 → Option (Int64)) (v1 : Int32) (v2 : Int32) (v7 : Int64) (v9 : Int64) (v11 : Int32) : Option (Int64) := if 5 * (gZ u 1) ≤ v11 then some v9 else (if v2 = 0 then ldL (gB u 20) 3600 ((60 * v11) + v11) (fun x2 => ldL (gB u 20) 3600 ((60 * v1) + v11) (fun x3 => fX12_leastAmong_b91 u k35 v1 v2 v7 v9 v11 (x2 - x3))) else (ldL (gB u 20) 3600 ((60 * v1) + v11) (fun x4 => fX12_leastAmong_b91 u k35 v1 v2 v7 v9 v11 x4)))
theorem wX12_leastAmong_l35b {X : Cx} {V : Vx} {q : Nat → Nat} {u : St} {res : Int64} (h : Run X cX12_leastAmong 16 RX12 rmX12_leastAmong V (some .long) (rEq (some (.long res)) (wM V q u))) (hE : ZOK (vZ V)) {v1 : Int32} {v2 : Int32} {v7 : Int64} {v9 : Int64} {v11 : Int32} {k35 : Int64 → Int32 → Option (Int64)} (hk35 : ∀ (v9 : Int64) (v11 : Int32), k35 v9 v11 = some res → At X 16 0 0 (wM V q u) 35 [(0, .ref (q 0)), (1, .int v1), (2, .int v2), (7, .long v7), (9, .long v9), (11, .int v11)] []) (hf : fX12_leastAmong_l35b u k35 v1 v2 v7 v9 v11 = some res) : At X 16 0 0 (wM V q u) 35 [(0, .ref (q 0)), (1, .int v1), (2, .int v2), (7, .long v7), (9, .long v9), (11, .int v11)] [] := by
  obtain ⟨hX, hT, hF⟩ := id h
  unfold fX12_leastAmong_l35b at hf
  refine a_iload hX dX12_leastAmong_35 5 rfl rfl ?_
  refine a_iconst (v := 5) hX dX12_leastAmong_37 (by decide) rfl ?_
  refine a_aload_n hX dX12_leastAmong_38 rfl 0 rfl rfl ?_
  refine gX12_1 hX F_X12_124 dX12_leastAmong_39 rfl ?_
  refine a_imul hX dX12_leastAmong_42 rfl ?_
  refine a_icmp_ge (tgt := 128) hX dX12_leastAmong_43 rfl rfl hf (fun hf => ?_) (fun hf => ?_)
  · refine a_lload hX dX12_leastAmong_128 4 rfl rfl ?_
    exact a_lret hX hT hF (r_l hf) dX12_leastAmong_130
  · refine a_iload_n hX dX12_leastAmong_46 rfl 2 rfl rfl ?_
    refine a_if_eq (tgt := 65) hX dX12_leastAmong_47 rfl rfl hf (fun hf => ?_) (fun hf => ?_)
    · refine a_aload_n hX dX12_leastAmong_65 rfl 0 rfl rfl ?_
      refine gX12_20 hX F_X12_61 dX12_leastAmong_66 rfl ?_
      refine a_bipush (v := 60) hX dX12_leastAmong_69 (by decide) rfl ?_
      refine a_iload hX dX12_leastAmong_71 5 rfl rfl ?_
      refine a_imul hX dX12_leastAmong_73 rfl ?_
      refine a_iload hX dX12_leastAmong_74 5 rfl rfl ?_
      refine a_iadd hX dX12_leastAmong_76 rfl ?_
      refine lX12_20 hX dX12_leastAmong_77 rfl hf (fun x2 hf => ?_)
      refine a_aload_n hX dX12_leastAmong_78 rfl 0 rfl rfl ?_
      refine gX12_20 hX F_X12_61 dX12_leastAmong_79 rfl ?_
      refine a_bipush (v := 60) hX dX12_leastAmong_82 (by decide) rfl ?_
      refine a_iload_n hX dX12_leastAmong_84 rfl 1 rfl rfl ?_
      refine a_imul hX dX12_leastAmong_85 rfl ?_
      refine a_iload hX dX12_leastAmong_86 5 rfl rfl ?_
      refine a_iadd hX dX12_leastAmong_88 rfl ?_
      refine lX12_20 hX dX12_leastAmong_89 rfl hf (fun x3 hf => ?_)
      refine a_lsub hX dX12_leastAmong_90 rfl ?_
      exact wX12_leastAmong_b91 h hE hk35 hf
    · refine a_aload_n hX dX12_leastAmong_50 rfl 0 rfl rfl ?_
      refine gX12_20 hX F_X12_61 dX12_leastAmong_51 rfl ?_
      refine a_bipush (v := 60) hX dX12_leastAmong_54 (by decide) rfl ?_
      refine a_iload_n hX dX12_leastAmong_56 rfl 1 rfl rfl ?_
      refine a_imul hX dX12_leastAmong_57 rfl ?_
      refine a_iload hX dX12_leastAmong_58 5 rfl rfl ?_
      refine a_iadd hX dX12_leastAmong_60 rfl ?_
      refine lX12_20 hX dX12_leastAmong_61 rfl hf (fun x4 hf => ?_)
      refine a_goto (pc' := 91) hX dX12_leastAmong_62 rfl ?_
      exact wX12_leastAmong_b91 h hE hk35 hf
def fX12_leastAmong_l35 (u : St)  (v1 : Int32) (v2 : Int32) (v7 : Int64) : Nat → Int64 → Int32 → Option (Int64)
  | 0, _, _ => none
  | m + 1, v9, v11 => fX12_leastAmong_l35b u (fX12_leastAmong_l35 u  v1 v2 v7 m) v1 v2 v7 v9 v11
theorem wX12_leastAmong_l35 {X : Cx} {V : Vx} {q : Nat → Nat} {u : St} {res : Int64} (h : Run X cX12_leastAmong 16 RX12 rmX12_leastAmong V (some .long) (rEq (some (.long res)) (wM V q u))) (hE : ZOK (vZ V)) {v1 : Int32} {v2 : Int32} {v7 : Int64} : ∀ (m : Nat) (v9 : Int64) (v11 : Int32), fX12_leastAmong_l35 u  v1 v2 v7 m v9 v11 = some res → At X 16 0 0 (wM V q u) 35 [(0, .ref (q 0)), (1, .int v1), (2, .int v2), (7, .long v7), (9, .long v9), (11, .int v11)] [] := by
  intro m
  induction m with
  | zero => intro v9 v11 hf; cases hf
  | succ m ih => intro v9 v11 hf; exact wX12_leastAmong_l35b h hE ih hf
def fX12_leastAmong_b26 (u : St)  (v1 : Int32) (v2 : Int32) (s0 : Int64) : Option (Int64) := fX12_leastAmong_l35 u v1 v2 s0 NF s0 0
theorem wX12_leastAmong_b26 {X : Cx} {V : Vx} {q : Nat → Nat} {u : St} {res : Int64} (h : Run X cX12_leastAmong 16 RX12 rmX12_leastAmong V (some .long) (rEq (some (.long res)) (wM V q u))) (hE : ZOK (vZ V)) {v1 : Int32} {v2 : Int32} {s0 : Int64} (hf : fX12_leastAmong_b26 u  v1 v2 s0 = some res) : At X 16 0 0 (wM V q u) 26 [(0, .ref (q 0)), (1, .int v1), (2, .int v2)] [.long s0] := by
  obtain ⟨hX, hT, hF⟩ := id h
  unfold fX12_leastAmong_b26 at hf
  refine a_lstore (lv' := [(7, .long s0), (0, .ref (q 0)), (1, .int v1), (2, .int v2)]) hX dX12_leastAmong_26 (by decide) rfl rfl ?_
  refine a_lload hX dX12_leastAmong_28 0 rfl rfl ?_
  refine a_lstore (lv' := [(9, .long s0), (7, .long s0), (0, .ref (q 0)), (1, .int v1), (2, .int v2)]) hX dX12_leastAmong_30 (by decide) rfl rfl ?_
  refine a_iconst (v := 0) hX dX12_leastAmong_32 (by decide) rfl ?_
  refine a_istore (lv' := [(11, .int 0), (9, .long s0), (7, .long s0), (0, .ref (q 0)), (1, .int v1), (2, .int v2)]) hX dX12_leastAmong_33 (by decide) rfl rfl ?_
  refine a_lv (lv' := [(0, .ref (q 0)), (1, .int v1), (2, .int v2), (7, .long s0), (9, .long s0), (11, .int 0)]) [3, 4, 5, 2, 1, 0] rfl ?_
  exact wX12_leastAmong_l35 h hE NF s0 0 hf
def fX12_leastAmong (u : St) (v1 : Int32) (v2 : Int32) (v3 : Int64) : Option (Int64) := ldL (gB u 20) 3600 ((60 * v1) + v1) (fun x1 => if v2 = 0 then fX12_leastAmong_b26 u v1 v2 (v3 - x1) else (fX12_leastAmong_b26 u v1 v2 x1))
theorem wX12_leastAmong {X : Cx} {V : Vx} {q : Nat → Nat} {u : St} {res : Int64} (h : Run X cX12_leastAmong 16 RX12 rmX12_leastAmong V (some .long) (rEq (some (.long res)) (wM V q u))) (hE : ZOK (vZ V)) {v1 : Int32} {v2 : Int32} {v3 : Int64} (hf : fX12_leastAmong u v1 v2 v3 = some res) : At X 16 0 0 (wM V q u) 0 [(0, .ref (q 0)), (1, .int v1), (2, .int v2), (3, .long v3)] [] := by
  obtain ⟨hX, hT, hF⟩ := id h
  unfold fX12_leastAmong at hf
  refine a_aload_n hX dX12_leastAmong_0 rfl 0 rfl rfl ?_
  refine gX12_20 hX F_X12_61 dX12_leastAmong_1 rfl ?_
  refine a_bipush (v := 60) hX dX12_leastAmong_4 (by decide) rfl ?_
  refine a_iload_n hX dX12_leastAmong_6 rfl 1 rfl rfl ?_
  refine a_imul hX dX12_leastAmong_7 rfl ?_
  refine a_iload_n hX dX12_leastAmong_8 rfl 1 rfl rfl ?_
  refine a_iadd hX dX12_leastAmong_9 rfl ?_
  refine lX12_20 hX dX12_leastAmong_10 rfl hf (fun x1 hf => ?_)
  refine a_lstore (lv' := [(5, .long x1), (0, .ref (q 0)), (1, .int v1), (2, .int v2), (3, .long v3)]) hX dX12_leastAmong_11 (by decide) rfl rfl ?_
  refine a_iload_n hX dX12_leastAmong_13 rfl 3 rfl rfl ?_
  refine a_if_eq (tgt := 22) hX dX12_leastAmong_14 rfl rfl hf (fun hf => ?_) (fun hf => ?_)
  · refine a_lload_n hX dX12_leastAmong_22 rfl 4 rfl rfl ?_
    refine a_lload hX dX12_leastAmong_23 0 rfl rfl ?_
    refine a_lsub hX dX12_leastAmong_25 rfl ?_
    refine a_lv (lv' := [(0, .ref (q 0)), (1, .int v1), (2, .int v2)]) [1, 2, 3] rfl ?_
    exact wX12_leastAmong_b26 h hE hf
  · refine a_lload hX dX12_leastAmong_17 0 rfl rfl ?_
    refine a_goto (pc' := 26) hX dX12_leastAmong_19 rfl ?_
    refine a_lv (lv' := [(0, .ref (q 0)), (1, .int v1), (2, .int v2)]) [1, 2, 3] rfl ?_
    exact wX12_leastAmong_b26 h hE hf
theorem cX12_leastAmong {V : Vx} {q : Nat → Nat} {u : St} {res : Int64} (hE : ZOK (vZ V)) {v1 : Int32} {v2 : Int32} {v3 : Int64} (hf : fX12_leastAmong u v1 v2 v3 = some res) : Ct V yX12_leastAmong (.code yX12_leastAmong cX12_leastAmong 16 (some .long)) rmX12_leastAmong 0 0 [.ref (q 0), .int v1, .int v2, .long v3] (wM V q u) (rEq (some (.long res)) (wM V q u)) :=
  Ct_of (by decide) (Nat.le_of_ble_eq_true rfl) rfl (fun X hX hT _ hF => wX12_leastAmong ⟨hX, hT, hF⟩ hE hf)
def rmX12_ofTwo : Room := { frames := 2, cells := 0, slots := 0, locals := 58 }
def fX12_ofTwo (u : St) (v1 : Int32) (v2 : Int64) : Option (Int64) := cl1 (fX12_leastAmong u v1 1 v2) (fun x1 => cl1 (fX12_leastAmong u v1 0 v2) (fun x2 => cl1 (fX12_greater x1 x2) (fun x3 => some x3)))
theorem wX12_ofTwo {X : Cx} {V : Vx} {q : Nat → Nat} {u : St} {res : Int64} (h : Run X cX12_ofTwo 4 RX12 rmX12_ofTwo V (some .long) (rEq (some (.long res)) (wM V q u))) (hE : ZOK (vZ V)) {v1 : Int32} {v2 : Int64} (hf : fX12_ofTwo u v1 v2 = some res) : At X 4 0 0 (wM V q u) 0 [(0, .ref (q 0)), (1, .int v1), (2, .long v2)] [] := by
  obtain ⟨hX, hT, hF⟩ := id h
  unfold fX12_ofTwo at hf
  refine a_aload_n hX dX12_ofTwo_0 rfl 0 rfl rfl ?_
  refine a_iload_n hX dX12_ofTwo_1 rfl 1 rfl rfl ?_
  refine a_iconst (v := 1) hX dX12_ofTwo_2 (by decide) rfl ?_
  refine a_lload_n hX dX12_ofTwo_3 rfl 2 rfl rfl ?_
  obtain ⟨x1, hg1, hf⟩ := cl1_some hf
  refine a_cVsl (q0 := 0) (rest := []) hX hE (cX12_leastAmong (q := q) hE hg1) K_X12_353 ⟨rfl, rfl⟩ ⟨rfl, rfl, by decide, by decide⟩ ⟨Nat.zero_le _, Nat.zero_le _⟩ (Nat.le_of_ble_eq_true rfl) dX12_ofTwo_4 rfl rfl ?_
  refine a_aload_n hX dX12_ofTwo_7 rfl 0 rfl rfl ?_
  refine a_iload_n hX dX12_ofTwo_8 rfl 1 rfl rfl ?_
  refine a_iconst (v := 0) hX dX12_ofTwo_9 (by decide) rfl ?_
  refine a_lload_n hX dX12_ofTwo_10 rfl 2 rfl rfl ?_
  obtain ⟨x2, hg2, hf⟩ := cl1_some hf
  refine a_cVsl (q0 := 0) (rest := [.long x1]) hX hE (cX12_leastAmong (q := q) hE hg2) K_X12_353 ⟨rfl, rfl⟩ ⟨rfl, rfl, by decide, by decide⟩ ⟨Nat.zero_le _, Nat.zero_le _⟩ (Nat.le_of_ble_eq_true rfl) dX12_ofTwo_11 rfl rfl ?_
  obtain ⟨x3, hg3, hf⟩ := cl1_some hf
  refine a_cSpl (rest := []) hX hE (cX12_greater hE hg3) K_X12_349 ⟨rfl, rfl, by decide, by decide⟩ ⟨Nat.zero_le _, Nat.zero_le _⟩ (Nat.le_of_ble_eq_true rfl) dX12_ofTwo_14 rfl rfl ?_
  exact a_lret hX hT hF (r_l hf) dX12_ofTwo_17
theorem cX12_ofTwo {V : Vx} {q : Nat → Nat} {u : St} {res : Int64} (hE : ZOK (vZ V)) {v1 : Int32} {v2 : Int64} (hf : fX12_ofTwo u v1 v2 = some res) : Ct V yX12_ofTwo (.code yX12_ofTwo cX12_ofTwo 4 (some .long)) rmX12_ofTwo 0 0 [.ref (q 0), .int v1, .long v2] (wM V q u) (rEq (some (.long res)) (wM V q u)) :=
  Ct_of (by decide) (Nat.le_of_ble_eq_true rfl) rfl (fun X hX hT _ hF => wX12_ofTwo ⟨hX, hT, hF⟩ hE hf)
def rmX12_worstOfTwo : Room := { frames := 4, cells := 0, slots := 0, locals := 92 }
def fX12_worstOfTwo (u : St) (v1 : Int32) (v2 : Int32) : Option (Int64 × St) := cl1 (fX12_isPlace u v1 v2) (fun x1 => if x1 = 0 then some ((-4611686018427387904), u) else (cl2 (fX12_all u) (fun x2 u3 => cl1 (fX12_pairUp u3) (fun u5 => cl1 (fX12_ofTwo u5 ((5 * v2) + v1) x2) (fun x6 => some (x6, u5))))))
theorem wX12_worstOfTwo {X : Cx} {V : Vx} {q : Nat → Nat} {res : Int64 × St} (h : Run X cX12_worstOfTwo 5 RX12 rmX12_worstOfTwo V (some .long) (rEq (some (.long res.1)) (wM V q res.2))) (hE : ZOK (vZ V)) {u : St} {v1 : Int32} {v2 : Int32} (hf : fX12_worstOfTwo u v1 v2 = some res) : At X 5 0 0 (wM V q u) 0 [(0, .ref (q 0)), (1, .int v1), (2, .int v2)] [] := by
  obtain ⟨hX, hT, hF⟩ := id h
  unfold fX12_worstOfTwo at hf
  refine a_aload_n hX dX12_worstOfTwo_0 rfl 0 rfl rfl ?_
  refine a_iload_n hX dX12_worstOfTwo_1 rfl 1 rfl rfl ?_
  refine a_iload_n hX dX12_worstOfTwo_2 rfl 2 rfl rfl ?_
  obtain ⟨x1, hg1, hf⟩ := cl1_some hf
  refine a_cVsi (q0 := 0) (rest := []) hX hE (cX12_isPlace (q := q) hE hg1) K_X12_172 ⟨rfl, rfl⟩ ⟨rfl, rfl, by decide, by decide⟩ ⟨Nat.zero_le _, Nat.zero_le _⟩ (Nat.le_of_ble_eq_true rfl) dX12_worstOfTwo_3 rfl rfl ?_
  refine a_if_ne (tgt := 13) hX dX12_worstOfTwo_6 rfl rfl hf (fun hf => ?_) (fun hf => ?_)
  · refine a_aload_n hX dX12_worstOfTwo_13 rfl 0 rfl rfl ?_
    obtain ⟨x2, u3, hg2, hf⟩ := cl2_some hf
    refine a_cVsl (q0 := 0) (rest := []) hX hE (cX12_all (q := q) hE hg2) K_X12_193 ⟨rfl, rfl⟩ ⟨rfl, rfl, by decide, by decide⟩ ⟨Nat.zero_le _, Nat.zero_le _⟩ (Nat.le_of_ble_eq_true rfl) dX12_worstOfTwo_14 rfl rfl ?_
    refine a_lstore_n (lv' := [(3, .long x2), (0, .ref (q 0)), (1, .int v1), (2, .int v2)]) hX dX12_worstOfTwo_17 rfl (by decide) rfl rfl ?_
    refine a_aload_n hX dX12_worstOfTwo_18 rfl 1 rfl rfl ?_
    obtain ⟨u5, hg4, hf⟩ := cl1_some hf
    refine a_cVsv (q0 := 0) (rest := []) hX hE (cX12_pairUp (q := q) hE hg4) K_X12_357 ⟨rfl, rfl⟩ ⟨rfl, rfl, by decide, by decide⟩ ⟨Nat.zero_le _, Nat.zero_le _⟩ (Nat.le_of_ble_eq_true rfl) dX12_worstOfTwo_19 rfl rfl ?_
    refine a_aload_n hX dX12_worstOfTwo_22 rfl 1 rfl rfl ?_
    refine a_iconst (v := 5) hX dX12_worstOfTwo_23 (by decide) rfl ?_
    refine a_iload_n hX dX12_worstOfTwo_24 rfl 3 rfl rfl ?_
    refine a_imul hX dX12_worstOfTwo_25 rfl ?_
    refine a_iload_n hX dX12_worstOfTwo_26 rfl 2 rfl rfl ?_
    refine a_iadd hX dX12_worstOfTwo_27 rfl ?_
    refine a_lload_n hX dX12_worstOfTwo_28 rfl 0 rfl rfl ?_
    obtain ⟨x6, hg6, hf⟩ := cl1_some hf
    refine a_cVsl (q0 := 0) (rest := []) hX hE (cX12_ofTwo (q := q) hE hg6) K_X12_360 ⟨rfl, rfl⟩ ⟨rfl, rfl, by decide, by decide⟩ ⟨Nat.zero_le _, Nat.zero_le _⟩ (Nat.le_of_ble_eq_true rfl) dX12_worstOfTwo_29 rfl rfl ?_
    exact a_lret hX hT hF (r_lS (wf := (wM V q)) hf) dX12_worstOfTwo_32
  · refine a_ldc2 hX dX12_worstOfTwo_9 N_X12_196 rfl ?_
    exact a_lret hX hT hF (r_lS (wf := (wM V q)) hf) dX12_worstOfTwo_12
theorem cX12_worstOfTwo {V : Vx} {q : Nat → Nat} {u : St} {res : Int64 × St} (hE : ZOK (vZ V)) {v1 : Int32} {v2 : Int32} (hf : fX12_worstOfTwo u v1 v2 = some res) : Ct V yX12_worstOfTwo (.code yX12_worstOfTwo cX12_worstOfTwo 5 (some .long)) rmX12_worstOfTwo 0 0 [.ref (q 0), .int v1, .int v2] (wM V q u) (rEq (some (.long res.1)) (wM V q res.2)) :=
  Ct_of (by decide) (Nat.le_of_ble_eq_true rfl) rfl (fun X hX hT _ hF => wX12_worstOfTwo ⟨hX, hT, hF⟩ hE hf)
def rmX12_firstOfTwo : Room := { frames := 4, cells := 0, slots := 0, locals := 92 }
def fX12_firstOfTwo_b64  (k17 : Int64 → Int32 → Int32 → Option (Int32 × St)) (u : St) (v1 : Int64) (v3 : Int64) (v5 : Int32) (v6 : Int32) : Option (Int32 × St) := k17 v3 v5 (v6 + 1)
theorem wX12_firstOfTwo_b64 {X : Cx} {V : Vx} {q : Nat → Nat} {res : Int32 × St} (h : Run X cX12_firstOfTwo 9 RX12 rmX12_firstOfTwo V (some .int) (rEq (some (.int res.1)) (wM V q res.2))) (hE : ZOK (vZ V)) {u : St} {v1 : Int64} {v3 : Int64} {v5 : Int32} {v6 : Int32} {k17 : Int64 → Int32 → Int32 → Option (Int32 × St)} (hk17 : ∀ (v3 : Int64) (v5 : Int32) (v6 : Int32), k17 v3 v5 v6 = some res → At X 9 0 0 (wM V q u) 17 [(0, .ref (q 0)), (1, .long v1), (3, .long v3), (5, .int v5), (6, .int v6)] []) (hf : fX12_firstOfTwo_b64  k17 u v1 v3 v5 v6 = some res) : At X 9 0 0 (wM V q u) 64 [(0, .ref (q 0)), (1, .long v1), (3, .long v3), (5, .int v5), (6, .int v6)] [] := by
  obtain ⟨hX, hT, hF⟩ := id h
  unfold fX12_firstOfTwo_b64 at hf
  refine a_iinc (v := v6 + 1) (lv' := [(6, .int (v6 + 1)), (0, .ref (q 0)), (1, .long v1), (3, .long v3), (5, .int v5)]) hX dX12_firstOfTwo_64 4 rfl rfl (by decide) rfl rfl ?_
  refine a_goto (pc' := 17) hX dX12_firstOfTwo_67 rfl ?_
  refine a_lv (lv' := [(0, .ref (q 0)), (1, .long v1), (3, .long v3), (5, .int v5), (6, .int (v6 + 1))]) [1, 2, 3, 4, 0] rfl ?_
  exact hk17 v3 v5 (v6 + 1) hf
def fX12_firstOfTwo_l17b  (k17 : Int64 → Int32 → Int32 → Option (Int32 × St)) (u : St) (v1 : Int64) (v3 : Int64) (v5 : Int32) (v6 : Int32) : Option (Int32 × St) := if 5 * (gZ u 1) ≤ v6 then some (v5, u) else (cl1 (fX12_ofTwo u v6 v1) (fun x5 => if x5 < v3 then nmI ((10 * (v6 / 5)) + (v6 - v6 / 5 * 5)) (fun x6 => fX12_firstOfTwo_b64 k17 u v1 x5 x6 v6) else (fX12_firstOfTwo_b64 k17 u v1 v3 v5 v6)))
theorem wX12_firstOfTwo_l17b {X : Cx} {V : Vx} {q : Nat → Nat} {res : Int32 × St} (h : Run X cX12_firstOfTwo 9 RX12 rmX12_firstOfTwo V (some .int) (rEq (some (.int res.1)) (wM V q res.2))) (hE : ZOK (vZ V)) {u : St} {v1 : Int64} {v3 : Int64} {v5 : Int32} {v6 : Int32} {k17 : Int64 → Int32 → Int32 → Option (Int32 × St)} (hk17 : ∀ (v3 : Int64) (v5 : Int32) (v6 : Int32), k17 v3 v5 v6 = some res → At X 9 0 0 (wM V q u) 17 [(0, .ref (q 0)), (1, .long v1), (3, .long v3), (5, .int v5), (6, .int v6)] []) (hf : fX12_firstOfTwo_l17b  k17 u v1 v3 v5 v6 = some res) : At X 9 0 0 (wM V q u) 17 [(0, .ref (q 0)), (1, .long v1), (3, .long v3), (5, .int v5), (6, .int v6)] [] := by
  obtain ⟨hX, hT, hF⟩ := id h
  unfold fX12_firstOfTwo_l17b at hf
  refine a_iload hX dX12_firstOfTwo_17 4 rfl rfl ?_
  refine a_iconst (v := 5) hX dX12_firstOfTwo_19 (by decide) rfl ?_
  refine a_aload_n hX dX12_firstOfTwo_20 rfl 0 rfl rfl ?_
  refine gX12_1 hX F_X12_124 dX12_firstOfTwo_21 rfl ?_
  refine a_imul hX dX12_firstOfTwo_24 rfl ?_
  refine a_icmp_ge (tgt := 70) hX dX12_firstOfTwo_25 rfl rfl hf (fun hf => ?_) (fun hf => ?_)
  · refine a_iload hX dX12_firstOfTwo_70 3 rfl rfl ?_
    exact a_iret hX hT hF (r_iS (wf := (wM V q)) hf) dX12_firstOfTwo_72
  · refine a_aload_n hX dX12_firstOfTwo_28 rfl 0 rfl rfl ?_
    refine a_iload hX dX12_firstOfTwo_29 4 rfl rfl ?_
    refine a_lload_n hX dX12_firstOfTwo_31 rfl 1 rfl rfl ?_
    obtain ⟨x5, hg5, hf⟩ := cl1_some hf
    refine a_cVsl (q0 := 0) (rest := []) hX hE (cX12_ofTwo (q := q) hE hg5) K_X12_360 ⟨rfl, rfl⟩ ⟨rfl, rfl, by decide, by decide⟩ ⟨Nat.zero_le _, Nat.zero_le _⟩ (Nat.le_of_ble_eq_true rfl) dX12_firstOfTwo_32 rfl rfl ?_
    refine a_lstore (lv' := [(7, .long x5), (0, .ref (q 0)), (1, .long v1), (3, .long v3), (5, .int v5), (6, .int v6)]) hX dX12_firstOfTwo_35 (by decide) rfl rfl ?_
    refine a_lload hX dX12_firstOfTwo_37 0 rfl rfl ?_
    refine a_lload_n hX dX12_firstOfTwo_39 rfl 3 rfl rfl ?_
    refine a_lcmp_lt (tgt := 47) hX dX12_firstOfTwo_40 rfl dX12_firstOfTwo_41 rfl rfl hf (fun hf => ?_) (fun hf => ?_)
    · refine a_lload hX dX12_firstOfTwo_47 0 rfl rfl ?_
      refine a_lstore_n (lv' := [(3, .long x5), (7, .long x5), (0, .ref (q 0)), (1, .long v1), (5, .int v5), (6, .int v6)]) hX dX12_firstOfTwo_49 rfl (by decide) rfl rfl ?_
      refine a_bipush (v := 10) hX dX12_firstOfTwo_50 (by decide) rfl ?_
      refine a_iload hX dX12_firstOfTwo_52 5 rfl rfl ?_
      refine a_iconst (v := 5) hX dX12_firstOfTwo_54 (by decide) rfl ?_
      refine a_idiv hX dX12_firstOfTwo_55 (by decide) rfl ?_
      refine a_imul hX dX12_firstOfTwo_56 rfl ?_
      refine a_iload hX dX12_firstOfTwo_57 5 rfl rfl ?_
      refine a_iconst (v := 5) hX dX12_firstOfTwo_59 (by decide) rfl ?_
      refine a_irem hX dX12_firstOfTwo_60 (by decide) rfl ?_
      refine a_iadd hX dX12_firstOfTwo_61 rfl ?_
      refine a_nmI hf (fun x6 hf => ?_)
      refine a_istore (lv' := [(5, .int x6), (3, .long x5), (7, .long x5), (0, .ref (q 0)), (1, .long v1), (6, .int v6)]) hX dX12_firstOfTwo_62 (by decide) rfl rfl ?_
      refine a_lv (lv' := [(0, .ref (q 0)), (1, .long v1), (3, .long x5), (5, .int x6), (6, .int v6)]) [3, 4, 1, 0, 5] rfl ?_
      exact wX12_firstOfTwo_b64 h hE hk17 hf
    · refine a_goto (pc' := 64) hX dX12_firstOfTwo_44 rfl ?_
      refine a_lv (lv' := [(0, .ref (q 0)), (1, .long v1), (3, .long v3), (5, .int v5), (6, .int v6)]) [1, 2, 3, 4, 5] rfl ?_
      exact wX12_firstOfTwo_b64 h hE hk17 hf
def fX12_firstOfTwo_l17   (u : St) (v1 : Int64) : Nat → Int64 → Int32 → Int32 → Option (Int32 × St)
  | 0, _, _, _ => none
  | m + 1, v3, v5, v6 => fX12_firstOfTwo_l17b  (fX12_firstOfTwo_l17   u v1 m) u v1 v3 v5 v6
theorem wX12_firstOfTwo_l17 {X : Cx} {V : Vx} {q : Nat → Nat} {res : Int32 × St} (h : Run X cX12_firstOfTwo 9 RX12 rmX12_firstOfTwo V (some .int) (rEq (some (.int res.1)) (wM V q res.2))) (hE : ZOK (vZ V)) {u : St} {v1 : Int64} : ∀ (m : Nat) (v3 : Int64) (v5 : Int32) (v6 : Int32), fX12_firstOfTwo_l17   u v1 m v3 v5 v6 = some res → At X 9 0 0 (wM V q u) 17 [(0, .ref (q 0)), (1, .long v1), (3, .long v3), (5, .int v5), (6, .int v6)] [] := by
  intro m
  induction m with
  | zero => intro v3 v5 v6 hf; cases hf
  | succ m ih => intro v3 v5 v6 hf; exact wX12_firstOfTwo_l17b h hE ih hf
def fX12_firstOfTwo (u : St) : Option (Int32 × St) := cl2 (fX12_all u) (fun x1 u2 => cl1 (fX12_pairUp u2) (fun u4 => fX12_firstOfTwo_l17 u4 x1 NF x1 (-1) 0))
theorem wX12_firstOfTwo {X : Cx} {V : Vx} {q : Nat → Nat} {res : Int32 × St} (h : Run X cX12_firstOfTwo 9 RX12 rmX12_firstOfTwo V (some .int) (rEq (some (.int res.1)) (wM V q res.2))) (hE : ZOK (vZ V)) {u : St} (hf : fX12_firstOfTwo u = some res) : At X 9 0 0 (wM V q u) 0 [(0, .ref (q 0))] [] := by
  obtain ⟨hX, hT, hF⟩ := id h
  unfold fX12_firstOfTwo at hf
  refine a_aload_n hX dX12_firstOfTwo_0 rfl 0 rfl rfl ?_
  obtain ⟨x1, u2, hg1, hf⟩ := cl2_some hf
  refine a_cVsl (q0 := 0) (rest := []) hX hE (cX12_all (q := q) hE hg1) K_X12_193 ⟨rfl, rfl⟩ ⟨rfl, rfl, by decide, by decide⟩ ⟨Nat.zero_le _, Nat.zero_le _⟩ (Nat.le_of_ble_eq_true rfl) dX12_firstOfTwo_1 rfl rfl ?_
  refine a_lstore_n (lv' := [(1, .long x1), (0, .ref (q 0))]) hX dX12_firstOfTwo_4 rfl (by decide) rfl rfl ?_
  refine a_aload_n hX dX12_firstOfTwo_5 rfl 1 rfl rfl ?_
  obtain ⟨u4, hg3, hf⟩ := cl1_some hf
  refine a_cVsv (q0 := 0) (rest := []) hX hE (cX12_pairUp (q := q) hE hg3) K_X12_357 ⟨rfl, rfl⟩ ⟨rfl, rfl, by decide, by decide⟩ ⟨Nat.zero_le _, Nat.zero_le _⟩ (Nat.le_of_ble_eq_true rfl) dX12_firstOfTwo_6 rfl rfl ?_
  refine a_lload_n hX dX12_firstOfTwo_9 rfl 0 rfl rfl ?_
  refine a_lstore_n (lv' := [(3, .long x1), (1, .long x1), (0, .ref (q 0))]) hX dX12_firstOfTwo_10 rfl (by decide) rfl rfl ?_
  refine a_iconst (v := (-1)) hX dX12_firstOfTwo_11 (by decide) rfl ?_
  refine a_istore (lv' := [(5, .int (-1)), (3, .long x1), (1, .long x1), (0, .ref (q 0))]) hX dX12_firstOfTwo_12 (by decide) rfl rfl ?_
  refine a_iconst (v := 0) hX dX12_firstOfTwo_14 (by decide) rfl ?_
  refine a_istore (lv' := [(6, .int 0), (5, .int (-1)), (3, .long x1), (1, .long x1), (0, .ref (q 0))]) hX dX12_firstOfTwo_15 (by decide) rfl rfl ?_
  refine a_lv (lv' := [(0, .ref (q 0)), (1, .long x1), (3, .long x1), (5, .int (-1)), (6, .int 0)]) [4, 3, 2, 1, 0] rfl ?_
  exact wX12_firstOfTwo_l17 h hE NF x1 (-1) 0 hf
theorem cX12_firstOfTwo {V : Vx} {q : Nat → Nat} {u : St} {res : Int32 × St} (hE : ZOK (vZ V))  (hf : fX12_firstOfTwo u = some res) : Ct V yX12_firstOfTwo (.code yX12_firstOfTwo cX12_firstOfTwo 9 (some .int)) rmX12_firstOfTwo 0 0 [.ref (q 0)] (wM V q u) (rEq (some (.int res.1)) (wM V q res.2)) :=
  Ct_of (by decide) (Nat.le_of_ble_eq_true rfl) rfl (fun X hX hT _ hF => wX12_firstOfTwo ⟨hX, hT, hF⟩ hE hf)
def rmX12_sherd : Room := { frames := 1, cells := 0, slots := 0, locals := 22 }
def fX12_sherd (u : St) (v1 : Int32) (v2 : Int32) : Option (Int32 × St) := cl1 (fX12_in v1 0 9999) (fun x1 => if x1 = 0 then some ((-2), u) else (cl1 (fX12_in v2 0 9999) (fun x2 => if x2 = 0 then some ((-2), u) else (if gZ u 47 = 8 then some ((-4), u) else (stI u 48 8 (gZ u 47) v1 (fun u3 => stI u3 49 8 (gZ u3 47) v2 (fun u4 => nmS (setZ u4 47 ((gZ u4 47) + 1)) (fun u5 => some ((gZ u5 47) - 1, u5)))))))))
theorem wX12_sherd {X : Cx} {V : Vx} {q : Nat → Nat} {res : Int32 × St} (h : Run X cX12_sherd 3 RX12 rmX12_sherd V (some .int) (rEq (some (.int res.1)) (wM V q res.2))) (hE : ZOK (vZ V)) {u : St} {v1 : Int32} {v2 : Int32} (hf : fX12_sherd u v1 v2 = some res) : At X 3 0 0 (wM V q u) 0 [(0, .ref (q 0)), (1, .int v1), (2, .int v2)] [] := by
  obtain ⟨hX, hT, hF⟩ := id h
  unfold fX12_sherd at hf
  refine a_iload_n hX dX12_sherd_0 rfl 1 rfl rfl ?_
  refine a_iconst (v := 0) hX dX12_sherd_1 (by decide) rfl ?_
  refine a_sipush (v := 9999) hX dX12_sherd_2 (by decide) rfl ?_
  obtain ⟨x1, hg1, hf⟩ := cl1_some hf
  refine a_cSpi (rest := []) hX hE (cX12_in hE hg1) K_X12_148 ⟨rfl, rfl, by decide, by decide⟩ ⟨Nat.zero_le _, Nat.zero_le _⟩ (Nat.le_of_ble_eq_true rfl) dX12_sherd_5 rfl rfl ?_
  refine a_if_eq (tgt := 22) hX dX12_sherd_8 rfl rfl hf (fun hf => ?_) (fun hf => ?_)
  · refine a_bipush (v := (-2)) hX dX12_sherd_22 (by decide) rfl ?_
    exact a_iret hX hT hF (r_iS (wf := (wM V q)) hf) dX12_sherd_24
  · refine a_iload_n hX dX12_sherd_11 rfl 2 rfl rfl ?_
    refine a_iconst (v := 0) hX dX12_sherd_12 (by decide) rfl ?_
    refine a_sipush (v := 9999) hX dX12_sherd_13 (by decide) rfl ?_
    obtain ⟨x2, hg2, hf⟩ := cl1_some hf
    refine a_cSpi (rest := []) hX hE (cX12_in hE hg2) K_X12_148 ⟨rfl, rfl, by decide, by decide⟩ ⟨Nat.zero_le _, Nat.zero_le _⟩ (Nat.le_of_ble_eq_true rfl) dX12_sherd_16 rfl rfl ?_
    refine a_if_ne (tgt := 25) hX dX12_sherd_19 rfl rfl hf (fun hf => ?_) (fun hf => ?_)
    · refine a_aload_n hX dX12_sherd_25 rfl 0 rfl rfl ?_
      refine gX12_47 hX F_X12_364 dX12_sherd_26 rfl ?_
      refine a_bipush (v := 8) hX dX12_sherd_29 (by decide) rfl ?_
      refine a_icmp_ne (tgt := 37) hX dX12_sherd_31 rfl rfl hf (fun hf => ?_) (fun hf => ?_)
      · refine a_aload_n hX dX12_sherd_37 rfl 0 rfl rfl ?_
        refine gX12_48 hX F_X12_94 dX12_sherd_38 rfl ?_
        refine a_aload_n hX dX12_sherd_41 rfl 0 rfl rfl ?_
        refine gX12_47 hX F_X12_364 dX12_sherd_42 rfl ?_
        refine a_iload_n hX dX12_sherd_45 rfl 1 rfl rfl ?_
        refine sX12_48 hX dX12_sherd_46 rfl hf (fun u3 hf => ?_)
        refine a_aload_n hX dX12_sherd_47 rfl 0 rfl rfl ?_
        refine gX12_49 hX F_X12_97 dX12_sherd_48 rfl ?_
        refine a_aload_n hX dX12_sherd_51 rfl 0 rfl rfl ?_
        refine gX12_47 hX F_X12_364 dX12_sherd_52 rfl ?_
        refine a_iload_n hX dX12_sherd_55 rfl 2 rfl rfl ?_
        refine sX12_49 hX dX12_sherd_56 rfl hf (fun u4 hf => ?_)
        refine a_aload_n hX dX12_sherd_57 rfl 0 rfl rfl ?_
        refine a_dup hX dX12_sherd_58 rfl rfl ?_
        refine gX12_47 hX F_X12_364 dX12_sherd_59 rfl ?_
        refine a_iconst (v := 1) hX dX12_sherd_62 (by decide) rfl ?_
        refine a_iadd hX dX12_sherd_63 rfl ?_
        refine pX12_47 hX F_X12_364 dX12_sherd_64 rfl hf (fun u5 hf => ?_)
        refine a_aload_n hX dX12_sherd_67 rfl 0 rfl rfl ?_
        refine gX12_47 hX F_X12_364 dX12_sherd_68 rfl ?_
        refine a_iconst (v := 1) hX dX12_sherd_71 (by decide) rfl ?_
        refine a_isub hX dX12_sherd_72 rfl ?_
        exact a_iret hX hT hF (r_iS (wf := (wM V q)) hf) dX12_sherd_73
      · refine a_bipush (v := (-4)) hX dX12_sherd_34 (by decide) rfl ?_
        exact a_iret hX hT hF (r_iS (wf := (wM V q)) hf) dX12_sherd_36
    · refine a_bipush (v := (-2)) hX dX12_sherd_22 (by decide) rfl ?_
      exact a_iret hX hT hF (r_iS (wf := (wM V q)) hf) dX12_sherd_24
theorem cX12_sherd {V : Vx} {q : Nat → Nat} {u : St} {res : Int32 × St} (hE : ZOK (vZ V)) {v1 : Int32} {v2 : Int32} (hf : fX12_sherd u v1 v2 = some res) : Ct V yX12_sherd (.code yX12_sherd cX12_sherd 3 (some .int)) rmX12_sherd 0 0 [.ref (q 0), .int v1, .int v2] (wM V q u) (rEq (some (.int res.1)) (wM V q res.2)) :=
  Ct_of (by decide) (Nat.le_of_ble_eq_true rfl) rfl (fun X hX hT _ hF => wX12_sherd ⟨hX, hT, hF⟩ hE hf)
def rmX12_set : Room := { frames := 1, cells := 0, slots := 0, locals := 22 }
def fX12_set_b49   (u : St) (v1 : Int32) (v2 : Int32) (s0 : Int32) : Option (Int32 × St) := if v1 = 0 then nmS (setZ u 50 v2) (fun u4 => some (s0, u4)) else (nmS (setZ u 51 v2) (fun u3 => some (s0, u3)))
theorem wX12_set_b49 {X : Cx} {V : Vx} {q : Nat → Nat} {res : Int32 × St} (h : Run X cX12_set 4 RX12 rmX12_set V (some .int) (rEq (some (.int res.1)) (wM V q res.2))) (hE : ZOK (vZ V)) {u : St} {v1 : Int32} {v2 : Int32} {s0 : Int32} (hf : fX12_set_b49   u v1 v2 s0 = some res) : At X 4 0 0 (wM V q u) 49 [(0, .ref (q 0)), (1, .int v1), (2, .int v2)] [.int s0] := by
  obtain ⟨hX, hT, hF⟩ := id h
  unfold fX12_set_b49 at hf
  refine a_istore_n (lv' := [(3, .int s0), (0, .ref (q 0)), (1, .int v1), (2, .int v2)]) hX dX12_set_49 rfl (by decide) rfl rfl ?_
  refine a_iload_n hX dX12_set_50 rfl 2 rfl rfl ?_
  refine a_if_ne (tgt := 62) hX dX12_set_51 rfl rfl hf (fun hf => ?_) (fun hf => ?_)
  · refine a_aload_n hX dX12_set_62 rfl 1 rfl rfl ?_
    refine a_iload_n hX dX12_set_63 rfl 3 rfl rfl ?_
    refine pX12_51 hX F_X12_143 dX12_set_64 rfl hf (fun u3 hf => ?_)
    refine a_iload_n hX dX12_set_67 rfl 0 rfl rfl ?_
    exact a_iret hX hT hF (r_iS (wf := (wM V q)) hf) dX12_set_68
  · refine a_aload_n hX dX12_set_54 rfl 1 rfl rfl ?_
    refine a_iload_n hX dX12_set_55 rfl 3 rfl rfl ?_
    refine pX12_50 hX F_X12_367 dX12_set_56 rfl hf (fun u4 hf => ?_)
    refine a_goto (pc' := 67) hX dX12_set_59 rfl ?_
    refine a_iload_n hX dX12_set_67 rfl 0 rfl rfl ?_
    exact a_iret hX hT hF (r_iS (wf := (wM V q)) hf) dX12_set_68
def fX12_set_b34   (u : St) (v1 : Int32) (v2 : Int32) : Option (Int32 × St) := if v1 = 0 then fX12_set_b49 u v1 v2 (gZ u 50) else (fX12_set_b49 u v1 v2 (gZ u 51))
theorem wX12_set_b34 {X : Cx} {V : Vx} {q : Nat → Nat} {res : Int32 × St} (h : Run X cX12_set 4 RX12 rmX12_set V (some .int) (rEq (some (.int res.1)) (wM V q res.2))) (hE : ZOK (vZ V)) {u : St} {v1 : Int32} {v2 : Int32} (hf : fX12_set_b34   u v1 v2 = some res) : At X 4 0 0 (wM V q u) 34 [(0, .ref (q 0)), (1, .int v1), (2, .int v2)] [] := by
  obtain ⟨hX, hT, hF⟩ := id h
  unfold fX12_set_b34 at hf
  refine a_iload_n hX dX12_set_34 rfl 1 rfl rfl ?_
  refine a_if_ne (tgt := 45) hX dX12_set_35 rfl rfl hf (fun hf => ?_) (fun hf => ?_)
  · refine a_aload_n hX dX12_set_45 rfl 0 rfl rfl ?_
    refine gX12_51 hX F_X12_143 dX12_set_46 rfl ?_
    exact wX12_set_b49 h hE hf
  · refine a_aload_n hX dX12_set_38 rfl 0 rfl rfl ?_
    refine gX12_50 hX F_X12_367 dX12_set_39 rfl ?_
    refine a_goto (pc' := 49) hX dX12_set_42 rfl ?_
    exact wX12_set_b49 h hE hf
def fX12_set (u : St) (v1 : Int32) (v2 : Int32) : Option (Int32 × St) := if v1 = 0 then cl1 (fX12_in v2 0 4) (fun x2 => if x2 = 0 then some ((-2), u) else (fX12_set_b34 u v1 v2)) else (if v1 = 1 then cl1 (fX12_in v2 1 10) (fun x1 => if x1 = 0 then some ((-2), u) else (fX12_set_b34 u v1 v2)) else (some ((-2), u)))
theorem wX12_set {X : Cx} {V : Vx} {q : Nat → Nat} {res : Int32 × St} (h : Run X cX12_set 4 RX12 rmX12_set V (some .int) (rEq (some (.int res.1)) (wM V q res.2))) (hE : ZOK (vZ V)) {u : St} {v1 : Int32} {v2 : Int32} (hf : fX12_set u v1 v2 = some res) : At X 4 0 0 (wM V q u) 0 [(0, .ref (q 0)), (1, .int v1), (2, .int v2)] [] := by
  obtain ⟨hX, hT, hF⟩ := id h
  unfold fX12_set at hf
  refine a_iload_n hX dX12_set_0 rfl 1 rfl rfl ?_
  refine a_if_ne (tgt := 16) hX dX12_set_1 rfl rfl hf (fun hf => ?_) (fun hf => ?_)
  · refine a_iload_n hX dX12_set_16 rfl 1 rfl rfl ?_
    refine a_iconst (v := 1) hX dX12_set_17 (by decide) rfl ?_
    refine a_icmp_ne (tgt := 31) hX dX12_set_18 rfl rfl hf (fun hf => ?_) (fun hf => ?_)
    · refine a_bipush (v := (-2)) hX dX12_set_31 (by decide) rfl ?_
      exact a_iret hX hT hF (r_iS (wf := (wM V q)) hf) dX12_set_33
    · refine a_iload_n hX dX12_set_21 rfl 2 rfl rfl ?_
      refine a_iconst (v := 1) hX dX12_set_22 (by decide) rfl ?_
      refine a_bipush (v := 10) hX dX12_set_23 (by decide) rfl ?_
      obtain ⟨x1, hg1, hf⟩ := cl1_some hf
      refine a_cSpi (rest := []) hX hE (cX12_in hE hg1) K_X12_148 ⟨rfl, rfl, by decide, by decide⟩ ⟨Nat.zero_le _, Nat.zero_le _⟩ (Nat.le_of_ble_eq_true rfl) dX12_set_25 rfl rfl ?_
      refine a_if_ne (tgt := 34) hX dX12_set_28 rfl rfl hf (fun hf => ?_) (fun hf => ?_)
      · exact wX12_set_b34 h hE hf
      · refine a_bipush (v := (-2)) hX dX12_set_31 (by decide) rfl ?_
        exact a_iret hX hT hF (r_iS (wf := (wM V q)) hf) dX12_set_33
  · refine a_iload_n hX dX12_set_4 rfl 2 rfl rfl ?_
    refine a_iconst (v := 0) hX dX12_set_5 (by decide) rfl ?_
    refine a_iconst (v := 4) hX dX12_set_6 (by decide) rfl ?_
    obtain ⟨x2, hg2, hf⟩ := cl1_some hf
    refine a_cSpi (rest := []) hX hE (cX12_in hE hg2) K_X12_148 ⟨rfl, rfl, by decide, by decide⟩ ⟨Nat.zero_le _, Nat.zero_le _⟩ (Nat.le_of_ble_eq_true rfl) dX12_set_7 rfl rfl ?_
    refine a_if_ne (tgt := 34) hX dX12_set_10 rfl rfl hf (fun hf => ?_) (fun hf => ?_)
    · exact wX12_set_b34 h hE hf
    · refine a_goto (pc' := 31) hX dX12_set_13 rfl ?_
      refine a_bipush (v := (-2)) hX dX12_set_31 (by decide) rfl ?_
      exact a_iret hX hT hF (r_iS (wf := (wM V q)) hf) dX12_set_33
theorem cX12_set {V : Vx} {q : Nat → Nat} {u : St} {res : Int32 × St} (hE : ZOK (vZ V)) {v1 : Int32} {v2 : Int32} (hf : fX12_set u v1 v2 = some res) : Ct V yX12_set (.code yX12_set cX12_set 4 (some .int)) rmX12_set 0 0 [.ref (q 0), .int v1, .int v2] (wM V q u) (rEq (some (.int res.1)) (wM V q res.2)) :=
  Ct_of (by decide) (Nat.le_of_ble_eq_true rfl) rfl (fun X hX hT _ hF => wX12_set ⟨hX, hT, hF⟩ hE hf)
def rmX12_isJoined : Room := { frames := 0, cells := 0, slots := 0, locals := 0 }
def fX12_isJoined_b49 (u : St) (k21 : Int32 → Int32 → Int32 → Int32 → Option (Int32)) (v4 : Int32) (v5 : Int32) (v6 : Int32) (s0 : Int32) (s1 : Int32) : Option (Int32) := nmI (s1 + s0) (fun x3 => nmI (v4 / 10) (fun x4 => nmI (v5 / 10) (fun x5 => k21 x3 x4 x5 (v6 + 1))))
theorem wX12_isJoined_b49 {X : Cx} {V : Vx} {q : Nat → Nat} {u : St} {res : Int32} (h : Run X cX12_isJoined 7 RX12 rmX12_isJoined V (some .boolean) (rEq (some (.int res)) (wM V q u))) (hE : ZOK (vZ V)) {v4 : Int32} {v5 : Int32} {v6 : Int32} {s0 : Int32} {s1 : Int32} {k21 : Int32 → Int32 → Int32 → Int32 → Option (Int32)} (hk21 : ∀ (v3 : Int32) (v4 : Int32) (v5 : Int32) (v6 : Int32), k21 v3 v4 v5 v6 = some res → At X 7 0 0 (wM V q u) 21 [(0, .ref (q 0)), (3, .int v3), (4, .int v4), (5, .int v5), (6, .int v6)] []) (hf : fX12_isJoined_b49 u k21 v4 v5 v6 s0 s1 = some res) : At X 7 0 0 (wM V q u) 49 [(0, .ref (q 0)), (4, .int v4), (5, .int v5), (6, .int v6)] [.int s0, .int s1] := by
  obtain ⟨hX, hT, hF⟩ := id h
  unfold fX12_isJoined_b49 at hf
  refine a_iadd hX dX12_isJoined_49 rfl ?_
  refine a_nmI hf (fun x3 hf => ?_)
  refine a_istore_n (lv' := [(3, .int x3), (0, .ref (q 0)), (4, .int v4), (5, .int v5), (6, .int v6)]) hX dX12_isJoined_50 rfl (by decide) rfl rfl ?_
  refine a_iload hX dX12_isJoined_51 2 rfl rfl ?_
  refine a_bipush (v := 10) hX dX12_isJoined_53 (by decide) rfl ?_
  refine a_idiv hX dX12_isJoined_55 (by decide) rfl ?_
  refine a_nmI hf (fun x4 hf => ?_)
  refine a_istore (lv' := [(4, .int x4), (3, .int x3), (0, .ref (q 0)), (5, .int v5), (6, .int v6)]) hX dX12_isJoined_56 (by decide) rfl rfl ?_
  refine a_iload hX dX12_isJoined_58 3 rfl rfl ?_
  refine a_bipush (v := 10) hX dX12_isJoined_60 (by decide) rfl ?_
  refine a_idiv hX dX12_isJoined_62 (by decide) rfl ?_
  refine a_nmI hf (fun x5 hf => ?_)
  refine a_istore (lv' := [(5, .int x5), (4, .int x4), (3, .int x3), (0, .ref (q 0)), (6, .int v6)]) hX dX12_isJoined_63 (by decide) rfl rfl ?_
  refine a_iinc (v := v6 + 1) (lv' := [(6, .int (v6 + 1)), (5, .int x5), (4, .int x4), (3, .int x3), (0, .ref (q 0))]) hX dX12_isJoined_65 4 rfl rfl (by decide) rfl rfl ?_
  refine a_goto (pc' := 21) hX dX12_isJoined_68 rfl ?_
  refine a_lv (lv' := [(0, .ref (q 0)), (3, .int x3), (4, .int x4), (5, .int x5), (6, .int (v6 + 1))]) [4, 3, 2, 1, 0] rfl ?_
  exact hk21 x3 x4 x5 (v6 + 1) hf
def fX12_isJoined_l21b (u : St) (k21 : Int32 → Int32 → Int32 → Int32 → Option (Int32)) (v3 : Int32) (v4 : Int32) (v5 : Int32) (v6 : Int32) : Option (Int32) := if 4 ≤ v6 then if gZ u 50 < v3 then some 0 else (some 1) else (if (v4 - v4 / 10 * 10) + (v5 - v5 / 10 * 10) = 9 then fX12_isJoined_b49 u k21 v4 v5 v6 0 v3 else (fX12_isJoined_b49 u k21 v4 v5 v6 1 v3))
theorem wX12_isJoined_l21b {X : Cx} {V : Vx} {q : Nat → Nat} {u : St} {res : Int32} (h : Run X cX12_isJoined 7 RX12 rmX12_isJoined V (some .boolean) (rEq (some (.int res)) (wM V q u))) (hE : ZOK (vZ V)) {v3 : Int32} {v4 : Int32} {v5 : Int32} {v6 : Int32} {k21 : Int32 → Int32 → Int32 → Int32 → Option (Int32)} (hk21 : ∀ (v3 : Int32) (v4 : Int32) (v5 : Int32) (v6 : Int32), k21 v3 v4 v5 v6 = some res → At X 7 0 0 (wM V q u) 21 [(0, .ref (q 0)), (3, .int v3), (4, .int v4), (5, .int v5), (6, .int v6)] []) (hf : fX12_isJoined_l21b u k21 v3 v4 v5 v6 = some res) : At X 7 0 0 (wM V q u) 21 [(0, .ref (q 0)), (3, .int v3), (4, .int v4), (5, .int v5), (6, .int v6)] [] := by
  obtain ⟨hX, hT, hF⟩ := id h
  unfold fX12_isJoined_l21b at hf
  refine a_iload hX dX12_isJoined_21 4 rfl rfl ?_
  refine a_iconst (v := 4) hX dX12_isJoined_23 (by decide) rfl ?_
  refine a_icmp_ge (tgt := 71) hX dX12_isJoined_24 rfl rfl hf (fun hf => ?_) (fun hf => ?_)
  · refine a_iload_n hX dX12_isJoined_71 rfl 1 rfl rfl ?_
    refine a_aload_n hX dX12_isJoined_72 rfl 0 rfl rfl ?_
    refine gX12_50 hX F_X12_367 dX12_isJoined_73 rfl ?_
    refine a_icmp_gt (tgt := 83) hX dX12_isJoined_76 rfl rfl hf (fun hf => ?_) (fun hf => ?_)
    · refine a_iconst (v := 0) hX dX12_isJoined_83 (by decide) rfl ?_
      exact a_zret hX hT (by decide) hF (r_i hf) dX12_isJoined_84
    · refine a_iconst (v := 1) hX dX12_isJoined_79 (by decide) rfl ?_
      refine a_goto (pc' := 84) hX dX12_isJoined_80 rfl ?_
      exact a_zret hX hT (by decide) hF (r_i hf) dX12_isJoined_84
  · refine a_iload_n hX dX12_isJoined_27 rfl 1 rfl rfl ?_
    refine a_iload hX dX12_isJoined_28 2 rfl rfl ?_
    refine a_bipush (v := 10) hX dX12_isJoined_30 (by decide) rfl ?_
    refine a_irem hX dX12_isJoined_32 (by decide) rfl ?_
    refine a_iload hX dX12_isJoined_33 3 rfl rfl ?_
    refine a_bipush (v := 10) hX dX12_isJoined_35 (by decide) rfl ?_
    refine a_irem hX dX12_isJoined_37 (by decide) rfl ?_
    refine a_iadd hX dX12_isJoined_38 rfl ?_
    refine a_bipush (v := 9) hX dX12_isJoined_39 (by decide) rfl ?_
    refine a_icmp_eq (tgt := 48) hX dX12_isJoined_41 rfl rfl hf (fun hf => ?_) (fun hf => ?_)
    · refine a_iconst (v := 0) hX dX12_isJoined_48 (by decide) rfl ?_
      refine a_lv (lv' := [(0, .ref (q 0)), (4, .int v4), (5, .int v5), (6, .int v6)]) [0, 2, 3, 4] rfl ?_
      exact wX12_isJoined_b49 h hE hk21 hf
    · refine a_iconst (v := 1) hX dX12_isJoined_44 (by decide) rfl ?_
      refine a_goto (pc' := 49) hX dX12_isJoined_45 rfl ?_
      refine a_lv (lv' := [(0, .ref (q 0)), (4, .int v4), (5, .int v5), (6, .int v6)]) [0, 2, 3, 4] rfl ?_
      exact wX12_isJoined_b49 h hE hk21 hf
def fX12_isJoined_l21 (u : St)   : Nat → Int32 → Int32 → Int32 → Int32 → Option (Int32)
  | 0, _, _, _, _ => none
  | m + 1, v3, v4, v5, v6 => fX12_isJoined_l21b u (fX12_isJoined_l21 u   m) v3 v4 v5 v6
theorem wX12_isJoined_l21 {X : Cx} {V : Vx} {q : Nat → Nat} {u : St} {res : Int32} (h : Run X cX12_isJoined 7 RX12 rmX12_isJoined V (some .boolean) (rEq (some (.int res)) (wM V q u))) (hE : ZOK (vZ V))  : ∀ (m : Nat) (v3 : Int32) (v4 : Int32) (v5 : Int32) (v6 : Int32), fX12_isJoined_l21 u   m v3 v4 v5 v6 = some res → At X 7 0 0 (wM V q u) 21 [(0, .ref (q 0)), (3, .int v3), (4, .int v4), (5, .int v5), (6, .int v6)] [] := by
  intro m
  induction m with
  | zero => intro v3 v4 v5 v6 hf; cases hf
  | succ m ih => intro v3 v4 v5 v6 hf; exact wX12_isJoined_l21b h hE ih hf
def fX12_isJoined (u : St) (v1 : Int32) (v2 : Int32) : Option (Int32) := ldI (gA u 49) 8 v1 (fun x1 => ldI (gA u 48) 8 v2 (fun x2 => fX12_isJoined_l21 u NF 0 x1 x2 0))
theorem wX12_isJoined {X : Cx} {V : Vx} {q : Nat → Nat} {u : St} {res : Int32} (h : Run X cX12_isJoined 7 RX12 rmX12_isJoined V (some .boolean) (rEq (some (.int res)) (wM V q u))) (hE : ZOK (vZ V)) {v1 : Int32} {v2 : Int32} (hf : fX12_isJoined u v1 v2 = some res) : At X 7 0 0 (wM V q u) 0 [(0, .ref (q 0)), (1, .int v1), (2, .int v2)] [] := by
  obtain ⟨hX, hT, hF⟩ := id h
  unfold fX12_isJoined at hf
  refine a_iconst (v := 0) hX dX12_isJoined_0 (by decide) rfl ?_
  refine a_istore_n (lv' := [(3, .int 0), (0, .ref (q 0)), (1, .int v1), (2, .int v2)]) hX dX12_isJoined_1 rfl (by decide) rfl rfl ?_
  refine a_aload_n hX dX12_isJoined_2 rfl 1 rfl rfl ?_
  refine gX12_49 hX F_X12_97 dX12_isJoined_3 rfl ?_
  refine a_iload_n hX dX12_isJoined_6 rfl 2 rfl rfl ?_
  refine lX12_49 hX dX12_isJoined_7 rfl hf (fun x1 hf => ?_)
  refine a_istore (lv' := [(4, .int x1), (3, .int 0), (0, .ref (q 0)), (1, .int v1), (2, .int v2)]) hX dX12_isJoined_8 (by decide) rfl rfl ?_
  refine a_aload_n hX dX12_isJoined_10 rfl 2 rfl rfl ?_
  refine gX12_48 hX F_X12_94 dX12_isJoined_11 rfl ?_
  refine a_iload_n hX dX12_isJoined_14 rfl 4 rfl rfl ?_
  refine lX12_48 hX dX12_isJoined_15 rfl hf (fun x2 hf => ?_)
  refine a_istore (lv' := [(5, .int x2), (4, .int x1), (3, .int 0), (0, .ref (q 0)), (1, .int v1), (2, .int v2)]) hX dX12_isJoined_16 (by decide) rfl rfl ?_
  refine a_iconst (v := 0) hX dX12_isJoined_18 (by decide) rfl ?_
  refine a_istore (lv' := [(6, .int 0), (5, .int x2), (4, .int x1), (3, .int 0), (0, .ref (q 0)), (1, .int v1), (2, .int v2)]) hX dX12_isJoined_19 (by decide) rfl rfl ?_
  refine a_lv (lv' := [(0, .ref (q 0)), (3, .int 0), (4, .int x1), (5, .int x2), (6, .int 0)]) [4, 3, 2, 1, 0] rfl ?_
  exact wX12_isJoined_l21 h hE NF 0 x1 x2 0 hf
theorem cX12_isJoined {V : Vx} {q : Nat → Nat} {u : St} {res : Int32} (hE : ZOK (vZ V)) {v1 : Int32} {v2 : Int32} (hf : fX12_isJoined u v1 v2 = some res) : Ct V yX12_isJoined (.code yX12_isJoined cX12_isJoined 7 (some .boolean)) rmX12_isJoined 0 0 [.ref (q 0), .int v1, .int v2] (wM V q u) (rEq (some (.int res)) (wM V q u)) :=
  Ct_of (by decide) (Nat.le_of_ble_eq_true rfl) rfl (fun X hX hT _ hF => wX12_isJoined ⟨hX, hT, hF⟩ hE hf)
def rmX12_joined : Room := { frames := 1, cells := 0, slots := 0, locals := 26 }
def fX12_joined (u : St) (v1 : Int32) (v2 : Int32) : Option (Int32) := cl1 (fX12_in v1 0 ((gZ u 47) - 1)) (fun x1 => if x1 = 0 then some (-2) else (cl1 (fX12_in v2 0 ((gZ u 47) - 1)) (fun x2 => if x2 = 0 then some (-2) else (if v1 = v2 then some (-2) else (cl1 (fX12_isJoined u v1 v2) (fun x3 => if x3 = 0 then some 0 else (some 1)))))))
theorem wX12_joined {X : Cx} {V : Vx} {q : Nat → Nat} {u : St} {res : Int32} (h : Run X cX12_joined 3 RX12 rmX12_joined V (some .int) (rEq (some (.int res)) (wM V q u))) (hE : ZOK (vZ V)) {v1 : Int32} {v2 : Int32} (hf : fX12_joined u v1 v2 = some res) : At X 3 0 0 (wM V q u) 0 [(0, .ref (q 0)), (1, .int v1), (2, .int v2)] [] := by
  obtain ⟨hX, hT, hF⟩ := id h
  unfold fX12_joined at hf
  refine a_iload_n hX dX12_joined_0 rfl 1 rfl rfl ?_
  refine a_iconst (v := 0) hX dX12_joined_1 (by decide) rfl ?_
  refine a_aload_n hX dX12_joined_2 rfl 0 rfl rfl ?_
  refine gX12_47 hX F_X12_364 dX12_joined_3 rfl ?_
  refine a_iconst (v := 1) hX dX12_joined_6 (by decide) rfl ?_
  refine a_isub hX dX12_joined_7 rfl ?_
  obtain ⟨x1, hg1, hf⟩ := cl1_some hf
  refine a_cSpi (rest := []) hX hE (cX12_in hE hg1) K_X12_148 ⟨rfl, rfl, by decide, by decide⟩ ⟨Nat.zero_le _, Nat.zero_le _⟩ (Nat.le_of_ble_eq_true rfl) dX12_joined_8 rfl rfl ?_
  refine a_if_eq (tgt := 33) hX dX12_joined_11 rfl rfl hf (fun hf => ?_) (fun hf => ?_)
  · refine a_bipush (v := (-2)) hX dX12_joined_33 (by decide) rfl ?_
    exact a_iret hX hT hF (r_i hf) dX12_joined_35
  · refine a_iload_n hX dX12_joined_14 rfl 2 rfl rfl ?_
    refine a_iconst (v := 0) hX dX12_joined_15 (by decide) rfl ?_
    refine a_aload_n hX dX12_joined_16 rfl 0 rfl rfl ?_
    refine gX12_47 hX F_X12_364 dX12_joined_17 rfl ?_
    refine a_iconst (v := 1) hX dX12_joined_20 (by decide) rfl ?_
    refine a_isub hX dX12_joined_21 rfl ?_
    obtain ⟨x2, hg2, hf⟩ := cl1_some hf
    refine a_cSpi (rest := []) hX hE (cX12_in hE hg2) K_X12_148 ⟨rfl, rfl, by decide, by decide⟩ ⟨Nat.zero_le _, Nat.zero_le _⟩ (Nat.le_of_ble_eq_true rfl) dX12_joined_22 rfl rfl ?_
    refine a_if_eq (tgt := 33) hX dX12_joined_25 rfl rfl hf (fun hf => ?_) (fun hf => ?_)
    · refine a_bipush (v := (-2)) hX dX12_joined_33 (by decide) rfl ?_
      exact a_iret hX hT hF (r_i hf) dX12_joined_35
    · refine a_iload_n hX dX12_joined_28 rfl 1 rfl rfl ?_
      refine a_iload_n hX dX12_joined_29 rfl 2 rfl rfl ?_
      refine a_icmp_ne (tgt := 36) hX dX12_joined_30 rfl rfl hf (fun hf => ?_) (fun hf => ?_)
      · refine a_aload_n hX dX12_joined_36 rfl 0 rfl rfl ?_
        refine a_iload_n hX dX12_joined_37 rfl 1 rfl rfl ?_
        refine a_iload_n hX dX12_joined_38 rfl 2 rfl rfl ?_
        obtain ⟨x3, hg3, hf⟩ := cl1_some hf
        refine a_cVsi (q0 := 0) (rest := []) hX hE (cX12_isJoined (q := q) hE hg3) K_X12_370 ⟨rfl, rfl⟩ ⟨rfl, rfl, by decide, by decide⟩ ⟨Nat.zero_le _, Nat.zero_le _⟩ (Nat.le_of_ble_eq_true rfl) dX12_joined_39 rfl rfl ?_
        refine a_if_eq (tgt := 49) hX dX12_joined_42 rfl rfl hf (fun hf => ?_) (fun hf => ?_)
        · refine a_iconst (v := 0) hX dX12_joined_49 (by decide) rfl ?_
          exact a_iret hX hT hF (r_i hf) dX12_joined_50
        · refine a_iconst (v := 1) hX dX12_joined_45 (by decide) rfl ?_
          refine a_goto (pc' := 50) hX dX12_joined_46 rfl ?_
          exact a_iret hX hT hF (r_i hf) dX12_joined_50
      · refine a_bipush (v := (-2)) hX dX12_joined_33 (by decide) rfl ?_
        exact a_iret hX hT hF (r_i hf) dX12_joined_35
theorem cX12_joined {V : Vx} {q : Nat → Nat} {u : St} {res : Int32} (hE : ZOK (vZ V)) {v1 : Int32} {v2 : Int32} (hf : fX12_joined u v1 v2 = some res) : Ct V yX12_joined (.code yX12_joined cX12_joined 3 (some .int)) rmX12_joined 0 0 [.ref (q 0), .int v1, .int v2] (wM V q u) (rEq (some (.int res)) (wM V q u)) :=
  Ct_of (by decide) (Nat.le_of_ble_eq_true rfl) rfl (fun X hX hT _ hF => wX12_joined ⟨hX, hT, hF⟩ hE hf)
def rmX12_findRow : Room := { frames := 1, cells := 0, slots := 0, locals := 26 }
def fX12_findRow_b100  (k11 : St → Int32 → Option (St)) (k17 : St → Int32 → Option (St)) (k31 : Int32 → Int32 → Option (St)) (u : St) (v2 : Int32) (v3 : Int32) (v4 : Int32) (v5 : Int32) : Option (St) := k31 v4 (v5 + 1)
theorem wX12_findRow_b100 {X : Cx} {V : Vx} {q : Nat → Nat} {res : St} (h : Run X cX12_findRow 7 RX12 rmX12_findRow V none (rEq none (wM V q res))) (hE : ZOK (vZ V)) {u : St} {v2 : Int32} {v3 : Int32} {v4 : Int32} {v5 : Int32} {k11 : St → Int32 → Option (St)} (hk11 : ∀ (u : St) (v2 : Int32), k11 u v2 = some res → At X 7 0 0 (wM V q u) 11 [(0, .ref (q 0)), (2, .int v2)] []) {k17 : St → Int32 → Option (St)} (hk17 : ∀ (u : St) (v3 : Int32), k17 u v3 = some res → At X 7 0 0 (wM V q u) 17 [(0, .ref (q 0)), (2, .int v2), (3, .int v3)] []) {k31 : Int32 → Int32 → Option (St)} (hk31 : ∀ (v4 : Int32) (v5 : Int32), k31 v4 v5 = some res → At X 7 0 0 (wM V q u) 31 [(0, .ref (q 0)), (2, .int v2), (3, .int v3), (4, .int v4), (5, .int v5)] []) (hf : fX12_findRow_b100  k11 k17 k31 u v2 v3 v4 v5 = some res) : At X 7 0 0 (wM V q u) 100 [(0, .ref (q 0)), (2, .int v2), (3, .int v3), (4, .int v4), (5, .int v5)] [] := by
  obtain ⟨hX, hT, hF⟩ := id h
  unfold fX12_findRow_b100 at hf
  refine a_iinc (v := v5 + 1) (lv' := [(5, .int (v5 + 1)), (0, .ref (q 0)), (2, .int v2), (3, .int v3), (4, .int v4)]) hX dX12_findRow_100 4 rfl rfl (by decide) rfl rfl ?_
  refine a_goto (pc' := 31) hX dX12_findRow_103 rfl ?_
  refine a_lv (lv' := [(0, .ref (q 0)), (2, .int v2), (3, .int v3), (4, .int v4), (5, .int (v5 + 1))]) [1, 2, 3, 4, 0] rfl ?_
  exact hk31 v4 (v5 + 1) hf
def fX12_findRow_b98  (k11 : St → Int32 → Option (St)) (k17 : St → Int32 → Option (St)) (k31 : Int32 → Int32 → Option (St)) (u : St) (v2 : Int32) (v3 : Int32) (v5 : Int32) (s0 : Int32) : Option (St) := fX12_findRow_b100 k11 k17 k31 u v2 v3 s0 v5
theorem wX12_findRow_b98 {X : Cx} {V : Vx} {q : Nat → Nat} {res : St} (h : Run X cX12_findRow 7 RX12 rmX12_findRow V none (rEq none (wM V q res))) (hE : ZOK (vZ V)) {u : St} {v2 : Int32} {v3 : Int32} {v5 : Int32} {s0 : Int32} {k11 : St → Int32 → Option (St)} (hk11 : ∀ (u : St) (v2 : Int32), k11 u v2 = some res → At X 7 0 0 (wM V q u) 11 [(0, .ref (q 0)), (2, .int v2)] []) {k17 : St → Int32 → Option (St)} (hk17 : ∀ (u : St) (v3 : Int32), k17 u v3 = some res → At X 7 0 0 (wM V q u) 17 [(0, .ref (q 0)), (2, .int v2), (3, .int v3)] []) {k31 : Int32 → Int32 → Option (St)} (hk31 : ∀ (v4 : Int32) (v5 : Int32), k31 v4 v5 = some res → At X 7 0 0 (wM V q u) 31 [(0, .ref (q 0)), (2, .int v2), (3, .int v3), (4, .int v4), (5, .int v5)] []) (hf : fX12_findRow_b98  k11 k17 k31 u v2 v3 v5 s0 = some res) : At X 7 0 0 (wM V q u) 98 [(0, .ref (q 0)), (2, .int v2), (3, .int v3), (5, .int v5)] [.int s0] := by
  obtain ⟨hX, hT, hF⟩ := id h
  unfold fX12_findRow_b98 at hf
  refine a_istore (lv' := [(4, .int s0), (0, .ref (q 0)), (2, .int v2), (3, .int v3), (5, .int v5)]) hX dX12_findRow_98 (by decide) rfl rfl ?_
  refine a_lv (lv' := [(0, .ref (q 0)), (2, .int v2), (3, .int v3), (4, .int s0), (5, .int v5)]) [1, 2, 3, 0, 4] rfl ?_
  exact wX12_findRow_b100 h hE hk11 hk17 hk31 hf
def fX12_findRow_l31b  (k11 : St → Int32 → Option (St)) (k17 : St → Int32 → Option (St)) (k31 : Int32 → Int32 → Option (St)) (u : St) (v2 : Int32) (v3 : Int32) (v4 : Int32) (v5 : Int32) : Option (St) := if gZ u 47 ≤ v5 then stI u 52 2048 ((8 * v2) + v3) v4 (fun u2 => k17 u2 (v3 + 1)) else (if (v2 >>> (v5 &&& 31)) &&& 1 = 1 then fX12_findRow_b100 k11 k17 k31 u v2 v3 v4 v5 else (cl1 (fX12_isJoined u v3 v5) (fun x3 => if x3 = 0 then fX12_findRow_b100 k11 k17 k31 u v2 v3 v4 v5 else (ldI (gA u 52) 2048 ((8 * (v2 ||| (1 >>> (v5 &&& 31)))) + v5) (fun x4 => nmI (1 + x4) (fun x5 => if x5 ≤ v4 then fX12_findRow_b98 k11 k17 k31 u v2 v3 v5 v4 else (fX12_findRow_b98 k11 k17 k31 u v2 v3 v5 x5)))))))
theorem wX12_findRow_l31b {X : Cx} {V : Vx} {q : Nat → Nat} {res : St} (h : Run X cX12_findRow 7 RX12 rmX12_findRow V none (rEq none (wM V q res))) (hE : ZOK (vZ V)) {u : St} {v2 : Int32} {v3 : Int32} {v4 : Int32} {v5 : Int32} {k11 : St → Int32 → Option (St)} (hk11 : ∀ (u : St) (v2 : Int32), k11 u v2 = some res → At X 7 0 0 (wM V q u) 11 [(0, .ref (q 0)), (2, .int v2)] []) {k17 : St → Int32 → Option (St)} (hk17 : ∀ (u : St) (v3 : Int32), k17 u v3 = some res → At X 7 0 0 (wM V q u) 17 [(0, .ref (q 0)), (2, .int v2), (3, .int v3)] []) {k31 : Int32 → Int32 → Option (St)} (hk31 : ∀ (v4 : Int32) (v5 : Int32), k31 v4 v5 = some res → At X 7 0 0 (wM V q u) 31 [(0, .ref (q 0)), (2, .int v2), (3, .int v3), (4, .int v4), (5, .int v5)] []) (hf : fX12_findRow_l31b  k11 k17 k31 u v2 v3 v4 v5 = some res) : At X 7 0 0 (wM V q u) 31 [(0, .ref (q 0)), (2, .int v2), (3, .int v3), (4, .int v4), (5, .int v5)] [] := by
  obtain ⟨hX, hT, hF⟩ := id h
  unfold fX12_findRow_l31b at hf
  refine a_iload hX dX12_findRow_31 4 rfl rfl ?_
  refine a_aload_n hX dX12_findRow_33 rfl 0 rfl rfl ?_
  refine gX12_47 hX F_X12_364 dX12_findRow_34 rfl ?_
  refine a_icmp_ge (tgt := 106) hX dX12_findRow_37 rfl rfl hf (fun hf => ?_) (fun hf => ?_)
  · refine a_aload_n hX dX12_findRow_106 rfl 0 rfl rfl ?_
    refine gX12_52 hX F_X12_100 dX12_findRow_107 rfl ?_
    refine a_bipush (v := 8) hX dX12_findRow_110 (by decide) rfl ?_
    refine a_iload_n hX dX12_findRow_112 rfl 1 rfl rfl ?_
    refine a_imul hX dX12_findRow_113 rfl ?_
    refine a_iload_n hX dX12_findRow_114 rfl 2 rfl rfl ?_
    refine a_iadd hX dX12_findRow_115 rfl ?_
    refine a_iload hX dX12_findRow_116 3 rfl rfl ?_
    refine sX12_52 hX dX12_findRow_118 rfl hf (fun u2 hf => ?_)
    refine a_iinc (v := v3 + 1) (lv' := [(3, .int (v3 + 1)), (0, .ref (q 0)), (2, .int v2), (4, .int v4), (5, .int v5)]) hX dX12_findRow_119 2 rfl rfl (by decide) rfl rfl ?_
    refine a_goto (pc' := 17) hX dX12_findRow_122 rfl ?_
    refine a_lv (lv' := [(0, .ref (q 0)), (2, .int v2), (3, .int (v3 + 1))]) [1, 2, 0] rfl ?_
    exact hk17 u2 (v3 + 1) hf
  · refine a_iload_n hX dX12_findRow_40 rfl 1 rfl rfl ?_
    refine a_iload hX dX12_findRow_41 4 rfl rfl ?_
    refine a_ishr hX dX12_findRow_43 rfl ?_
    refine a_iconst (v := 1) hX dX12_findRow_44 (by decide) rfl ?_
    refine a_iand hX dX12_findRow_45 rfl ?_
    refine a_iconst (v := 1) hX dX12_findRow_46 (by decide) rfl ?_
    refine a_icmp_eq (tgt := 100) hX dX12_findRow_47 rfl rfl hf (fun hf => ?_) (fun hf => ?_)
    · exact wX12_findRow_b100 h hE hk11 hk17 hk31 hf
    · refine a_aload_n hX dX12_findRow_50 rfl 0 rfl rfl ?_
      refine a_iload_n hX dX12_findRow_51 rfl 2 rfl rfl ?_
      refine a_iload hX dX12_findRow_52 4 rfl rfl ?_
      obtain ⟨x3, hg3, hf⟩ := cl1_some hf
      refine a_cVsi (q0 := 0) (rest := []) hX hE (cX12_isJoined (q := q) hE hg3) K_X12_370 ⟨rfl, rfl⟩ ⟨rfl, rfl, by decide, by decide⟩ ⟨Nat.zero_le _, Nat.zero_le _⟩ (Nat.le_of_ble_eq_true rfl) dX12_findRow_54 rfl rfl ?_
      refine a_if_ne (tgt := 63) hX dX12_findRow_57 rfl rfl hf (fun hf => ?_) (fun hf => ?_)
      · refine a_iconst (v := 1) hX dX12_findRow_63 (by decide) rfl ?_
        refine a_aload_n hX dX12_findRow_64 rfl 0 rfl rfl ?_
        refine gX12_52 hX F_X12_100 dX12_findRow_65 rfl ?_
        refine a_bipush (v := 8) hX dX12_findRow_68 (by decide) rfl ?_
        refine a_iload_n hX dX12_findRow_70 rfl 1 rfl rfl ?_
        refine a_iconst (v := 1) hX dX12_findRow_71 (by decide) rfl ?_
        refine a_iload hX dX12_findRow_72 4 rfl rfl ?_
        refine a_ishl hX dX12_findRow_74 rfl ?_
        refine a_ior hX dX12_findRow_75 rfl ?_
        refine a_imul hX dX12_findRow_76 rfl ?_
        refine a_iload hX dX12_findRow_77 4 rfl rfl ?_
        refine a_iadd hX dX12_findRow_79 rfl ?_
        refine lX12_52 hX dX12_findRow_80 rfl hf (fun x4 hf => ?_)
        refine a_iadd hX dX12_findRow_81 rfl ?_
        refine a_nmI hf (fun x5 hf => ?_)
        refine a_istore (lv' := [(6, .int x5), (0, .ref (q 0)), (2, .int v2), (3, .int v3), (4, .int v4), (5, .int v5)]) hX dX12_findRow_82 (by decide) rfl rfl ?_
        refine a_iload hX dX12_findRow_84 0 rfl rfl ?_
        refine a_iload hX dX12_findRow_86 4 rfl rfl ?_
        refine a_icmp_le (tgt := 96) hX dX12_findRow_88 rfl rfl hf (fun hf => ?_) (fun hf => ?_)
        · refine a_iload hX dX12_findRow_96 4 rfl rfl ?_
          refine a_lv (lv' := [(0, .ref (q 0)), (2, .int v2), (3, .int v3), (5, .int v5)]) [1, 2, 3, 5] rfl ?_
          exact wX12_findRow_b98 h hE hk11 hk17 hk31 hf
        · refine a_iload hX dX12_findRow_91 0 rfl rfl ?_
          refine a_goto (pc' := 98) hX dX12_findRow_93 rfl ?_
          refine a_lv (lv' := [(0, .ref (q 0)), (2, .int v2), (3, .int v3), (5, .int v5)]) [1, 2, 3, 5] rfl ?_
          exact wX12_findRow_b98 h hE hk11 hk17 hk31 hf
      · refine a_goto (pc' := 100) hX dX12_findRow_60 rfl ?_
        exact wX12_findRow_b100 h hE hk11 hk17 hk31 hf
def fX12_findRow_l31  (k11 : St → Int32 → Option (St)) (k17 : St → Int32 → Option (St)) (u : St) (v2 : Int32) (v3 : Int32) : Nat → Int32 → Int32 → Option (St)
  | 0, _, _ => none
  | m + 1, v4, v5 => fX12_findRow_l31b  k11 k17 (fX12_findRow_l31  k11 k17 u v2 v3 m) u v2 v3 v4 v5
theorem wX12_findRow_l31 {X : Cx} {V : Vx} {q : Nat → Nat} {res : St} (h : Run X cX12_findRow 7 RX12 rmX12_findRow V none (rEq none (wM V q res))) (hE : ZOK (vZ V)) {u : St} {v2 : Int32} {v3 : Int32} {k11 : St → Int32 → Option (St)} (hk11 : ∀ (u : St) (v2 : Int32), k11 u v2 = some res → At X 7 0 0 (wM V q u) 11 [(0, .ref (q 0)), (2, .int v2)] []) {k17 : St → Int32 → Option (St)} (hk17 : ∀ (u : St) (v3 : Int32), k17 u v3 = some res → At X 7 0 0 (wM V q u) 17 [(0, .ref (q 0)), (2, .int v2), (3, .int v3)] []) : ∀ (m : Nat) (v4 : Int32) (v5 : Int32), fX12_findRow_l31  k11 k17 u v2 v3 m v4 v5 = some res → At X 7 0 0 (wM V q u) 31 [(0, .ref (q 0)), (2, .int v2), (3, .int v3), (4, .int v4), (5, .int v5)] [] := by
  intro m
  induction m with
  | zero => intro v4 v5 hf; cases hf
  | succ m ih => intro v4 v5 hf; exact wX12_findRow_l31b h hE hk11 hk17 ih hf
def fX12_findRow_l17b  (k11 : St → Int32 → Option (St)) (k17 : St → Int32 → Option (St)) (u : St) (v2 : Int32) (v3 : Int32) : Option (St) := if gZ u 47 ≤ v3 then k11 u (v2 + (-1)) else (fX12_findRow_l31 k11 k17 u v2 v3 NF 0 0)
theorem wX12_findRow_l17b {X : Cx} {V : Vx} {q : Nat → Nat} {res : St} (h : Run X cX12_findRow 7 RX12 rmX12_findRow V none (rEq none (wM V q res))) (hE : ZOK (vZ V)) {u : St} {v2 : Int32} {v3 : Int32} {k11 : St → Int32 → Option (St)} (hk11 : ∀ (u : St) (v2 : Int32), k11 u v2 = some res → At X 7 0 0 (wM V q u) 11 [(0, .ref (q 0)), (2, .int v2)] []) {k17 : St → Int32 → Option (St)} (hk17 : ∀ (u : St) (v3 : Int32), k17 u v3 = some res → At X 7 0 0 (wM V q u) 17 [(0, .ref (q 0)), (2, .int v2), (3, .int v3)] []) (hf : fX12_findRow_l17b  k11 k17 u v2 v3 = some res) : At X 7 0 0 (wM V q u) 17 [(0, .ref (q 0)), (2, .int v2), (3, .int v3)] [] := by
  obtain ⟨hX, hT, hF⟩ := id h
  unfold fX12_findRow_l17b at hf
  refine a_iload_n hX dX12_findRow_17 rfl 2 rfl rfl ?_
  refine a_aload_n hX dX12_findRow_18 rfl 0 rfl rfl ?_
  refine gX12_47 hX F_X12_364 dX12_findRow_19 rfl ?_
  refine a_icmp_ge (tgt := 125) hX dX12_findRow_22 rfl rfl hf (fun hf => ?_) (fun hf => ?_)
  · refine a_iinc (v := v2 + (-1)) (lv' := [(2, .int (v2 + (-1))), (0, .ref (q 0)), (3, .int v3)]) hX dX12_findRow_125 1 rfl rfl (by decide) rfl rfl ?_
    refine a_goto (pc' := 11) hX dX12_findRow_128 rfl ?_
    refine a_lv (lv' := [(0, .ref (q 0)), (2, .int (v2 + (-1)))]) [1, 0] rfl ?_
    exact hk11 u (v2 + (-1)) hf
  · refine a_iconst (v := 0) hX dX12_findRow_25 (by decide) rfl ?_
    refine a_istore (lv' := [(4, .int 0), (0, .ref (q 0)), (2, .int v2), (3, .int v3)]) hX dX12_findRow_26 (by decide) rfl rfl ?_
    refine a_iconst (v := 0) hX dX12_findRow_28 (by decide) rfl ?_
    refine a_istore (lv' := [(5, .int 0), (4, .int 0), (0, .ref (q 0)), (2, .int v2), (3, .int v3)]) hX dX12_findRow_29 (by decide) rfl rfl ?_
    refine a_lv (lv' := [(0, .ref (q 0)), (2, .int v2), (3, .int v3), (4, .int 0), (5, .int 0)]) [2, 3, 4, 1, 0] rfl ?_
    exact wX12_findRow_l31 h hE hk11 hk17 NF 0 0 hf
def fX12_findRow_l17  (k11 : St → Int32 → Option (St)) (v2 : Int32) : Nat → St → Int32 → Option (St)
  | 0, _, _ => none
  | m + 1, u, v3 => fX12_findRow_l17b  k11 (fX12_findRow_l17  k11 v2 m) u v2 v3
theorem wX12_findRow_l17 {X : Cx} {V : Vx} {q : Nat → Nat} {res : St} (h : Run X cX12_findRow 7 RX12 rmX12_findRow V none (rEq none (wM V q res))) (hE : ZOK (vZ V)) {v2 : Int32} {k11 : St → Int32 → Option (St)} (hk11 : ∀ (u : St) (v2 : Int32), k11 u v2 = some res → At X 7 0 0 (wM V q u) 11 [(0, .ref (q 0)), (2, .int v2)] []) : ∀ (m : Nat) (u : St) (v3 : Int32), fX12_findRow_l17  k11 v2 m u v3 = some res → At X 7 0 0 (wM V q u) 17 [(0, .ref (q 0)), (2, .int v2), (3, .int v3)] [] := by
  intro m
  induction m with
  | zero => intro u v3 hf; cases hf
  | succ m ih => intro u v3 hf; exact wX12_findRow_l17b h hE hk11 ih hf
def fX12_findRow_l11b  (k11 : St → Int32 → Option (St)) (u : St) (v2 : Int32) : Option (St) := if v2 ≤ 0 then some u else (fX12_findRow_l17 k11 v2 NF u 0)
theorem wX12_findRow_l11b {X : Cx} {V : Vx} {q : Nat → Nat} {res : St} (h : Run X cX12_findRow 7 RX12 rmX12_findRow V none (rEq none (wM V q res))) (hE : ZOK (vZ V)) {u : St} {v2 : Int32} {k11 : St → Int32 → Option (St)} (hk11 : ∀ (u : St) (v2 : Int32), k11 u v2 = some res → At X 7 0 0 (wM V q u) 11 [(0, .ref (q 0)), (2, .int v2)] []) (hf : fX12_findRow_l11b  k11 u v2 = some res) : At X 7 0 0 (wM V q u) 11 [(0, .ref (q 0)), (2, .int v2)] [] := by
  obtain ⟨hX, hT, hF⟩ := id h
  unfold fX12_findRow_l11b at hf
  refine a_iload_n hX dX12_findRow_11 rfl 1 rfl rfl ?_
  refine a_if_le (tgt := 131) hX dX12_findRow_12 rfl rfl hf (fun hf => ?_) (fun hf => ?_)
  · exact a_ret hX hT hF (r_vS (wf := (wM V q)) hf) dX12_findRow_131
  · refine a_iconst (v := 0) hX dX12_findRow_15 (by decide) rfl ?_
    refine a_istore_n (lv' := [(3, .int 0), (0, .ref (q 0)), (2, .int v2)]) hX dX12_findRow_16 rfl (by decide) rfl rfl ?_
    refine a_lv (lv' := [(0, .ref (q 0)), (2, .int v2), (3, .int 0)]) [1, 2, 0] rfl ?_
    exact wX12_findRow_l17 h hE hk11 NF u 0 hf
def fX12_findRow_l11    : Nat → St → Int32 → Option (St)
  | 0, _, _ => none
  | m + 1, u, v2 => fX12_findRow_l11b  (fX12_findRow_l11    m) u v2
theorem wX12_findRow_l11 {X : Cx} {V : Vx} {q : Nat → Nat} {res : St} (h : Run X cX12_findRow 7 RX12 rmX12_findRow V none (rEq none (wM V q res))) (hE : ZOK (vZ V))  : ∀ (m : Nat) (u : St) (v2 : Int32), fX12_findRow_l11    m u v2 = some res → At X 7 0 0 (wM V q u) 11 [(0, .ref (q 0)), (2, .int v2)] [] := by
  intro m
  induction m with
  | zero => intro u v2 hf; cases hf
  | succ m ih => intro u v2 hf; exact wX12_findRow_l11b h hE ih hf
def fX12_findRow (u : St) : Option (St) := nmI ((1 >>> ((gZ u 47) &&& 31)) - 1) (fun x1 => fX12_findRow_l11 NF u x1)
theorem wX12_findRow {X : Cx} {V : Vx} {q : Nat → Nat} {res : St} (h : Run X cX12_findRow 7 RX12 rmX12_findRow V none (rEq none (wM V q res))) (hE : ZOK (vZ V)) {u : St} (hf : fX12_findRow u = some res) : At X 7 0 0 (wM V q u) 0 [(0, .ref (q 0))] [] := by
  obtain ⟨hX, hT, hF⟩ := id h
  unfold fX12_findRow at hf
  refine a_iconst (v := 1) hX dX12_findRow_0 (by decide) rfl ?_
  refine a_aload_n hX dX12_findRow_1 rfl 0 rfl rfl ?_
  refine gX12_47 hX F_X12_364 dX12_findRow_2 rfl ?_
  refine a_ishl hX dX12_findRow_5 rfl ?_
  refine a_iconst (v := 1) hX dX12_findRow_6 (by decide) rfl ?_
  refine a_isub hX dX12_findRow_7 rfl ?_
  refine a_nmI hf (fun x1 hf => ?_)
  refine a_istore_n (lv' := [(1, .int x1), (0, .ref (q 0))]) hX dX12_findRow_8 rfl (by decide) rfl rfl ?_
  refine a_iload_n hX dX12_findRow_9 rfl 0 rfl rfl ?_
  refine a_istore_n (lv' := [(2, .int x1), (1, .int x1), (0, .ref (q 0))]) hX dX12_findRow_10 rfl (by decide) rfl rfl ?_
  refine a_lv (lv' := [(0, .ref (q 0)), (2, .int x1)]) [2, 0] rfl ?_
  exact wX12_findRow_l11 h hE NF u x1 hf
theorem cX12_findRow {V : Vx} {q : Nat → Nat} {u : St} {res : St} (hE : ZOK (vZ V))  (hf : fX12_findRow u = some res) : Ct V yX12_findRow (.code yX12_findRow cX12_findRow 7 none) rmX12_findRow 0 0 [.ref (q 0)] (wM V q u) (rEq none (wM V q res)) :=
  Ct_of (by decide) (Nat.le_of_ble_eq_true rfl) rfl (fun X hX hT _ hF => wX12_findRow ⟨hX, hT, hF⟩ hE hf)
def rmX12_row : Room := { frames := 2, cells := 0, slots := 0, locals := 52 }
def fX12_row_b45  (k8 : Int32 → Int32 → Option (Int32 × St)) (u : St) (v1 : Int32) (v3 : Int32) (s0 : Int32) : Option (Int32 × St) := k8 s0 (v3 + 1)
theorem wX12_row_b45 {X : Cx} {V : Vx} {q : Nat → Nat} {res : Int32 × St} (h : Run X cX12_row 7 RX12 rmX12_row V (some .int) (rEq (some (.int res.1)) (wM V q res.2))) (hE : ZOK (vZ V)) {u : St} {v1 : Int32} {v3 : Int32} {s0 : Int32} {k8 : Int32 → Int32 → Option (Int32 × St)} (hk8 : ∀ (v2 : Int32) (v3 : Int32), k8 v2 v3 = some res → At X 7 0 0 (wM V q u) 8 [(0, .ref (q 0)), (1, .int v1), (2, .int v2), (3, .int v3)] []) (hf : fX12_row_b45  k8 u v1 v3 s0 = some res) : At X 7 0 0 (wM V q u) 45 [(0, .ref (q 0)), (1, .int v1), (3, .int v3)] [.int s0] := by
  obtain ⟨hX, hT, hF⟩ := id h
  unfold fX12_row_b45 at hf
  refine a_istore_n (lv' := [(2, .int s0), (0, .ref (q 0)), (1, .int v1), (3, .int v3)]) hX dX12_row_45 rfl (by decide) rfl rfl ?_
  refine a_iinc (v := v3 + 1) (lv' := [(3, .int (v3 + 1)), (2, .int s0), (0, .ref (q 0)), (1, .int v1)]) hX dX12_row_46 3 rfl rfl (by decide) rfl rfl ?_
  refine a_goto (pc' := 8) hX dX12_row_49 rfl ?_
  refine a_lv (lv' := [(0, .ref (q 0)), (1, .int v1), (2, .int s0), (3, .int (v3 + 1))]) [2, 3, 1, 0] rfl ?_
  exact hk8 s0 (v3 + 1) hf
def fX12_row_b141  (k80 : Int32 → Int32 → Int32 → Option (Int32 × St)) (k89 : Int32 → Option (Int32 × St)) (u : St) (v1 : Int32) (v2 : Int32) (v3 : Int32) (v4 : Int32) (v5 : Int32) (v6 : Int32) : Option (Int32 × St) := k89 (v6 + 1)
theorem wX12_row_b141 {X : Cx} {V : Vx} {q : Nat → Nat} {res : Int32 × St} (h : Run X cX12_row 7 RX12 rmX12_row V (some .int) (rEq (some (.int res.1)) (wM V q res.2))) (hE : ZOK (vZ V)) {u : St} {v1 : Int32} {v2 : Int32} {v3 : Int32} {v4 : Int32} {v5 : Int32} {v6 : Int32} {k80 : Int32 → Int32 → Int32 → Option (Int32 × St)} (hk80 : ∀ (v3 : Int32) (v4 : Int32) (v5 : Int32), k80 v3 v4 v5 = some res → At X 7 0 0 (wM V q u) 80 [(0, .ref (q 0)), (1, .int v1), (2, .int v2), (3, .int v3), (4, .int v4), (5, .int v5)] []) {k89 : Int32 → Option (Int32 × St)} (hk89 : ∀ (v6 : Int32), k89 v6 = some res → At X 7 0 0 (wM V q u) 89 [(0, .ref (q 0)), (1, .int v1), (2, .int v2), (3, .int v3), (4, .int v4), (5, .int v5), (6, .int v6)] []) (hf : fX12_row_b141  k80 k89 u v1 v2 v3 v4 v5 v6 = some res) : At X 7 0 0 (wM V q u) 141 [(0, .ref (q 0)), (1, .int v1), (2, .int v2), (3, .int v3), (4, .int v4), (5, .int v5), (6, .int v6)] [] := by
  obtain ⟨hX, hT, hF⟩ := id h
  unfold fX12_row_b141 at hf
  refine a_iinc (v := v6 + 1) (lv' := [(6, .int (v6 + 1)), (0, .ref (q 0)), (1, .int v1), (2, .int v2), (3, .int v3), (4, .int v4), (5, .int v5)]) hX dX12_row_141 6 rfl rfl (by decide) rfl rfl ?_
  refine a_goto (pc' := 89) hX dX12_row_144 rfl ?_
  refine a_lv (lv' := [(0, .ref (q 0)), (1, .int v1), (2, .int v2), (3, .int v3), (4, .int v4), (5, .int v5), (6, .int (v6 + 1))]) [1, 2, 3, 4, 5, 6, 0] rfl ?_
  exact hk89 (v6 + 1) hf
def fX12_row_b115  (k80 : Int32 → Int32 → Int32 → Option (Int32 × St)) (k89 : Int32 → Option (Int32 × St)) (u : St) (v1 : Int32) (v2 : Int32) (v3 : Int32) (v4 : Int32) (v5 : Int32) (v6 : Int32) : Option (Int32 × St) := ldI (gA u 52) 2048 ((8 * (v3 ||| (1 >>> (v6 &&& 31)))) + v6) (fun x7 => if x7 = (v2 - v5) - 1 then nmI (v3 ||| (1 >>> (v6 &&& 31))) (fun x8 => k80 x8 v6 (v5 + 1)) else (fX12_row_b141 k80 k89 u v1 v2 v3 v4 v5 v6))
theorem wX12_row_b115 {X : Cx} {V : Vx} {q : Nat → Nat} {res : Int32 × St} (h : Run X cX12_row 7 RX12 rmX12_row V (some .int) (rEq (some (.int res.1)) (wM V q res.2))) (hE : ZOK (vZ V)) {u : St} {v1 : Int32} {v2 : Int32} {v3 : Int32} {v4 : Int32} {v5 : Int32} {v6 : Int32} {k80 : Int32 → Int32 → Int32 → Option (Int32 × St)} (hk80 : ∀ (v3 : Int32) (v4 : Int32) (v5 : Int32), k80 v3 v4 v5 = some res → At X 7 0 0 (wM V q u) 80 [(0, .ref (q 0)), (1, .int v1), (2, .int v2), (3, .int v3), (4, .int v4), (5, .int v5)] []) {k89 : Int32 → Option (Int32 × St)} (hk89 : ∀ (v6 : Int32), k89 v6 = some res → At X 7 0 0 (wM V q u) 89 [(0, .ref (q 0)), (1, .int v1), (2, .int v2), (3, .int v3), (4, .int v4), (5, .int v5), (6, .int v6)] []) (hf : fX12_row_b115  k80 k89 u v1 v2 v3 v4 v5 v6 = some res) : At X 7 0 0 (wM V q u) 115 [(0, .ref (q 0)), (1, .int v1), (2, .int v2), (3, .int v3), (4, .int v4), (5, .int v5), (6, .int v6)] [] := by
  obtain ⟨hX, hT, hF⟩ := id h
  unfold fX12_row_b115 at hf
  refine a_aload_n hX dX12_row_115 rfl 0 rfl rfl ?_
  refine gX12_52 hX F_X12_100 dX12_row_116 rfl ?_
  refine a_bipush (v := 8) hX dX12_row_119 (by decide) rfl ?_
  refine a_iload_n hX dX12_row_121 rfl 3 rfl rfl ?_
  refine a_iconst (v := 1) hX dX12_row_122 (by decide) rfl ?_
  refine a_iload hX dX12_row_123 6 rfl rfl ?_
  refine a_ishl hX dX12_row_125 rfl ?_
  refine a_ior hX dX12_row_126 rfl ?_
  refine a_imul hX dX12_row_127 rfl ?_
  refine a_iload hX dX12_row_128 6 rfl rfl ?_
  refine a_iadd hX dX12_row_130 rfl ?_
  refine lX12_52 hX dX12_row_131 rfl hf (fun x7 hf => ?_)
  refine a_iload_n hX dX12_row_132 rfl 2 rfl rfl ?_
  refine a_iload hX dX12_row_133 5 rfl rfl ?_
  refine a_isub hX dX12_row_135 rfl ?_
  refine a_iconst (v := 1) hX dX12_row_136 (by decide) rfl ?_
  refine a_isub hX dX12_row_137 rfl ?_
  refine a_icmp_eq (tgt := 147) hX dX12_row_138 rfl rfl hf (fun hf => ?_) (fun hf => ?_)
  · refine a_iload_n hX dX12_row_147 rfl 3 rfl rfl ?_
    refine a_iconst (v := 1) hX dX12_row_148 (by decide) rfl ?_
    refine a_iload hX dX12_row_149 6 rfl rfl ?_
    refine a_ishl hX dX12_row_151 rfl ?_
    refine a_ior hX dX12_row_152 rfl ?_
    refine a_nmI hf (fun x8 hf => ?_)
    refine a_istore_n (lv' := [(3, .int x8), (0, .ref (q 0)), (1, .int v1), (2, .int v2), (4, .int v4), (5, .int v5), (6, .int v6)]) hX dX12_row_153 rfl (by decide) rfl rfl ?_
    refine a_iload hX dX12_row_154 6 rfl rfl ?_
    refine a_istore (lv' := [(4, .int v6), (3, .int x8), (0, .ref (q 0)), (1, .int v1), (2, .int v2), (5, .int v5), (6, .int v6)]) hX dX12_row_156 (by decide) rfl rfl ?_
    refine a_iinc (v := v5 + 1) (lv' := [(5, .int (v5 + 1)), (4, .int v6), (3, .int x8), (0, .ref (q 0)), (1, .int v1), (2, .int v2), (6, .int v6)]) hX dX12_row_158 5 rfl rfl (by decide) rfl rfl ?_
    refine a_goto (pc' := 80) hX dX12_row_161 rfl ?_
    refine a_lv (lv' := [(0, .ref (q 0)), (1, .int v1), (2, .int v2), (3, .int x8), (4, .int v6), (5, .int (v5 + 1))]) [3, 4, 5, 2, 1, 0] rfl ?_
    exact hk80 x8 v6 (v5 + 1) hf
  · exact wX12_row_b141 h hE hk80 hk89 hf
def fX12_row_l89b  (k80 : Int32 → Int32 → Int32 → Option (Int32 × St)) (k89 : Int32 → Option (Int32 × St)) (u : St) (v1 : Int32) (v2 : Int32) (v3 : Int32) (v4 : Int32) (v5 : Int32) (v6 : Int32) : Option (Int32 × St) := if (v3 >>> (v6 &&& 31)) &&& 1 = 1 then fX12_row_b141 k80 k89 u v1 v2 v3 v4 v5 v6 else (if v5 ≤ 0 then fX12_row_b115 k80 k89 u v1 v2 v3 v4 v5 v6 else (cl1 (fX12_isJoined u v4 v6) (fun x6 => if x6 = 0 then fX12_row_b141 k80 k89 u v1 v2 v3 v4 v5 v6 else (fX12_row_b115 k80 k89 u v1 v2 v3 v4 v5 v6))))
theorem wX12_row_l89b {X : Cx} {V : Vx} {q : Nat → Nat} {res : Int32 × St} (h : Run X cX12_row 7 RX12 rmX12_row V (some .int) (rEq (some (.int res.1)) (wM V q res.2))) (hE : ZOK (vZ V)) {u : St} {v1 : Int32} {v2 : Int32} {v3 : Int32} {v4 : Int32} {v5 : Int32} {v6 : Int32} {k80 : Int32 → Int32 → Int32 → Option (Int32 × St)} (hk80 : ∀ (v3 : Int32) (v4 : Int32) (v5 : Int32), k80 v3 v4 v5 = some res → At X 7 0 0 (wM V q u) 80 [(0, .ref (q 0)), (1, .int v1), (2, .int v2), (3, .int v3), (4, .int v4), (5, .int v5)] []) {k89 : Int32 → Option (Int32 × St)} (hk89 : ∀ (v6 : Int32), k89 v6 = some res → At X 7 0 0 (wM V q u) 89 [(0, .ref (q 0)), (1, .int v1), (2, .int v2), (3, .int v3), (4, .int v4), (5, .int v5), (6, .int v6)] []) (hf : fX12_row_l89b  k80 k89 u v1 v2 v3 v4 v5 v6 = some res) : At X 7 0 0 (wM V q u) 89 [(0, .ref (q 0)), (1, .int v1), (2, .int v2), (3, .int v3), (4, .int v4), (5, .int v5), (6, .int v6)] [] := by
  obtain ⟨hX, hT, hF⟩ := id h
  unfold fX12_row_l89b at hf
  refine a_iload_n hX dX12_row_89 rfl 3 rfl rfl ?_
  refine a_iload hX dX12_row_90 6 rfl rfl ?_
  refine a_ishr hX dX12_row_92 rfl ?_
  refine a_iconst (v := 1) hX dX12_row_93 (by decide) rfl ?_
  refine a_iand hX dX12_row_94 rfl ?_
  refine a_iconst (v := 1) hX dX12_row_95 (by decide) rfl ?_
  refine a_icmp_eq (tgt := 141) hX dX12_row_96 rfl rfl hf (fun hf => ?_) (fun hf => ?_)
  · exact wX12_row_b141 h hE hk80 hk89 hf
  · refine a_iload hX dX12_row_99 5 rfl rfl ?_
    refine a_if_le (tgt := 115) hX dX12_row_101 rfl rfl hf (fun hf => ?_) (fun hf => ?_)
    · exact wX12_row_b115 h hE hk80 hk89 hf
    · refine a_aload_n hX dX12_row_104 rfl 0 rfl rfl ?_
      refine a_iload hX dX12_row_105 4 rfl rfl ?_
      refine a_iload hX dX12_row_107 6 rfl rfl ?_
      obtain ⟨x6, hg6, hf⟩ := cl1_some hf
      refine a_cVsi (q0 := 0) (rest := []) hX hE (cX12_isJoined (q := q) hE hg6) K_X12_370 ⟨rfl, rfl⟩ ⟨rfl, rfl, by decide, by decide⟩ ⟨Nat.zero_le _, Nat.zero_le _⟩ (Nat.le_of_ble_eq_true rfl) dX12_row_109 rfl rfl ?_
      refine a_if_eq (tgt := 141) hX dX12_row_112 rfl rfl hf (fun hf => ?_) (fun hf => ?_)
      · exact wX12_row_b141 h hE hk80 hk89 hf
      · exact wX12_row_b115 h hE hk80 hk89 hf
def fX12_row_l89  (k80 : Int32 → Int32 → Int32 → Option (Int32 × St)) (u : St) (v1 : Int32) (v2 : Int32) (v3 : Int32) (v4 : Int32) (v5 : Int32) : Nat → Int32 → Option (Int32 × St)
  | 0, _ => none
  | m + 1, v6 => fX12_row_l89b  k80 (fX12_row_l89  k80 u v1 v2 v3 v4 v5 m) u v1 v2 v3 v4 v5 v6
theorem wX12_row_l89 {X : Cx} {V : Vx} {q : Nat → Nat} {res : Int32 × St} (h : Run X cX12_row 7 RX12 rmX12_row V (some .int) (rEq (some (.int res.1)) (wM V q res.2))) (hE : ZOK (vZ V)) {u : St} {v1 : Int32} {v2 : Int32} {v3 : Int32} {v4 : Int32} {v5 : Int32} {k80 : Int32 → Int32 → Int32 → Option (Int32 × St)} (hk80 : ∀ (v3 : Int32) (v4 : Int32) (v5 : Int32), k80 v3 v4 v5 = some res → At X 7 0 0 (wM V q u) 80 [(0, .ref (q 0)), (1, .int v1), (2, .int v2), (3, .int v3), (4, .int v4), (5, .int v5)] []) : ∀ (m : Nat) (v6 : Int32), fX12_row_l89  k80 u v1 v2 v3 v4 v5 m v6 = some res → At X 7 0 0 (wM V q u) 89 [(0, .ref (q 0)), (1, .int v1), (2, .int v2), (3, .int v3), (4, .int v4), (5, .int v5), (6, .int v6)] [] := by
  intro m
  induction m with
  | zero => intro v6 hf; cases hf
  | succ m ih => intro v6 hf; exact wX12_row_l89b h hE hk80 ih hf
def fX12_row_l80b  (k80 : Int32 → Int32 → Int32 → Option (Int32 × St)) (u : St) (v1 : Int32) (v2 : Int32) (v3 : Int32) (v4 : Int32) (v5 : Int32) : Option (Int32 × St) := if v1 < v5 then some (v4, u) else (fX12_row_l89 k80 u v1 v2 v3 v4 v5 NF 0)
theorem wX12_row_l80b {X : Cx} {V : Vx} {q : Nat → Nat} {res : Int32 × St} (h : Run X cX12_row 7 RX12 rmX12_row V (some .int) (rEq (some (.int res.1)) (wM V q res.2))) (hE : ZOK (vZ V)) {u : St} {v1 : Int32} {v2 : Int32} {v3 : Int32} {v4 : Int32} {v5 : Int32} {k80 : Int32 → Int32 → Int32 → Option (Int32 × St)} (hk80 : ∀ (v3 : Int32) (v4 : Int32) (v5 : Int32), k80 v3 v4 v5 = some res → At X 7 0 0 (wM V q u) 80 [(0, .ref (q 0)), (1, .int v1), (2, .int v2), (3, .int v3), (4, .int v4), (5, .int v5)] []) (hf : fX12_row_l80b  k80 u v1 v2 v3 v4 v5 = some res) : At X 7 0 0 (wM V q u) 80 [(0, .ref (q 0)), (1, .int v1), (2, .int v2), (3, .int v3), (4, .int v4), (5, .int v5)] [] := by
  obtain ⟨hX, hT, hF⟩ := id h
  unfold fX12_row_l80b at hf
  refine a_iload hX dX12_row_80 5 rfl rfl ?_
  refine a_iload_n hX dX12_row_82 rfl 1 rfl rfl ?_
  refine a_icmp_gt (tgt := 164) hX dX12_row_83 rfl rfl hf (fun hf => ?_) (fun hf => ?_)
  · refine a_iload hX dX12_row_164 4 rfl rfl ?_
    exact a_iret hX hT hF (r_iS (wf := (wM V q)) hf) dX12_row_166
  · refine a_iconst (v := 0) hX dX12_row_86 (by decide) rfl ?_
    refine a_istore (lv' := [(6, .int 0), (0, .ref (q 0)), (1, .int v1), (2, .int v2), (3, .int v3), (4, .int v4), (5, .int v5)]) hX dX12_row_87 (by decide) rfl rfl ?_
    refine a_lv (lv' := [(0, .ref (q 0)), (1, .int v1), (2, .int v2), (3, .int v3), (4, .int v4), (5, .int v5), (6, .int 0)]) [1, 2, 3, 4, 5, 6, 0] rfl ?_
    exact wX12_row_l89 h hE hk80 NF 0 hf
def fX12_row_l80   (u : St) (v1 : Int32) (v2 : Int32) : Nat → Int32 → Int32 → Int32 → Option (Int32 × St)
  | 0, _, _, _ => none
  | m + 1, v3, v4, v5 => fX12_row_l80b  (fX12_row_l80   u v1 v2 m) u v1 v2 v3 v4 v5
theorem wX12_row_l80 {X : Cx} {V : Vx} {q : Nat → Nat} {res : Int32 × St} (h : Run X cX12_row 7 RX12 rmX12_row V (some .int) (rEq (some (.int res.1)) (wM V q res.2))) (hE : ZOK (vZ V)) {u : St} {v1 : Int32} {v2 : Int32} : ∀ (m : Nat) (v3 : Int32) (v4 : Int32) (v5 : Int32), fX12_row_l80   u v1 v2 m v3 v4 v5 = some res → At X 7 0 0 (wM V q u) 80 [(0, .ref (q 0)), (1, .int v1), (2, .int v2), (3, .int v3), (4, .int v4), (5, .int v5)] [] := by
  intro m
  induction m with
  | zero => intro v3 v4 v5 hf; cases hf
  | succ m ih => intro v3 v4 v5 hf; exact wX12_row_l80b h hE ih hf
def fX12_row_l8b  (k8 : Int32 → Int32 → Option (Int32 × St)) (u : St) (v1 : Int32) (v2 : Int32) (v3 : Int32) : Option (Int32 × St) := if gZ u 47 ≤ v3 then if v1 = (-1) then some (v2, u) else (cl1 (fX12_in v1 0 (v2 - 1)) (fun x3 => if x3 = 0 then some ((-1), u) else (fX12_row_l80 u v1 v2 NF 0 (-1) 0))) else (ldI (gA u 52) 2048 ((8 * (1 >>> (v3 &&& 31))) + v3) (fun x4 => nmI (1 + x4) (fun x5 => if x5 ≤ v2 then fX12_row_b45 k8 u v1 v3 v2 else (fX12_row_b45 k8 u v1 v3 x5))))
theorem wX12_row_l8b {X : Cx} {V : Vx} {q : Nat → Nat} {res : Int32 × St} (h : Run X cX12_row 7 RX12 rmX12_row V (some .int) (rEq (some (.int res.1)) (wM V q res.2))) (hE : ZOK (vZ V)) {u : St} {v1 : Int32} {v2 : Int32} {v3 : Int32} {k8 : Int32 → Int32 → Option (Int32 × St)} (hk8 : ∀ (v2 : Int32) (v3 : Int32), k8 v2 v3 = some res → At X 7 0 0 (wM V q u) 8 [(0, .ref (q 0)), (1, .int v1), (2, .int v2), (3, .int v3)] []) (hf : fX12_row_l8b  k8 u v1 v2 v3 = some res) : At X 7 0 0 (wM V q u) 8 [(0, .ref (q 0)), (1, .int v1), (2, .int v2), (3, .int v3)] [] := by
  obtain ⟨hX, hT, hF⟩ := id h
  unfold fX12_row_l8b at hf
  refine a_iload_n hX dX12_row_8 rfl 3 rfl rfl ?_
  refine a_aload_n hX dX12_row_9 rfl 0 rfl rfl ?_
  refine gX12_47 hX F_X12_364 dX12_row_10 rfl ?_
  refine a_icmp_ge (tgt := 52) hX dX12_row_13 rfl rfl hf (fun hf => ?_) (fun hf => ?_)
  · refine a_iload_n hX dX12_row_52 rfl 1 rfl rfl ?_
    refine a_iconst (v := (-1)) hX dX12_row_53 (by decide) rfl ?_
    refine a_icmp_ne (tgt := 59) hX dX12_row_54 rfl rfl hf (fun hf => ?_) (fun hf => ?_)
    · refine a_iload_n hX dX12_row_59 rfl 1 rfl rfl ?_
      refine a_iconst (v := 0) hX dX12_row_60 (by decide) rfl ?_
      refine a_iload_n hX dX12_row_61 rfl 2 rfl rfl ?_
      refine a_iconst (v := 1) hX dX12_row_62 (by decide) rfl ?_
      refine a_isub hX dX12_row_63 rfl ?_
      obtain ⟨x3, hg3, hf⟩ := cl1_some hf
      refine a_cSpi (rest := []) hX hE (cX12_in hE hg3) K_X12_148 ⟨rfl, rfl, by decide, by decide⟩ ⟨Nat.zero_le _, Nat.zero_le _⟩ (Nat.le_of_ble_eq_true rfl) dX12_row_64 rfl rfl ?_
      refine a_if_ne (tgt := 72) hX dX12_row_67 rfl rfl hf (fun hf => ?_) (fun hf => ?_)
      · refine a_iconst (v := 0) hX dX12_row_72 (by decide) rfl ?_
        refine a_istore_n (lv' := [(3, .int 0), (0, .ref (q 0)), (1, .int v1), (2, .int v2)]) hX dX12_row_73 rfl (by decide) rfl rfl ?_
        refine a_iconst (v := (-1)) hX dX12_row_74 (by decide) rfl ?_
        refine a_istore (lv' := [(4, .int (-1)), (3, .int 0), (0, .ref (q 0)), (1, .int v1), (2, .int v2)]) hX dX12_row_75 (by decide) rfl rfl ?_
        refine a_iconst (v := 0) hX dX12_row_77 (by decide) rfl ?_
        refine a_istore (lv' := [(5, .int 0), (4, .int (-1)), (3, .int 0), (0, .ref (q 0)), (1, .int v1), (2, .int v2)]) hX dX12_row_78 (by decide) rfl rfl ?_
        refine a_lv (lv' := [(0, .ref (q 0)), (1, .int v1), (2, .int v2), (3, .int 0), (4, .int (-1)), (5, .int 0)]) [3, 4, 5, 2, 1, 0] rfl ?_
        exact wX12_row_l80 h hE NF 0 (-1) 0 hf
      · refine a_iconst (v := (-1)) hX dX12_row_70 (by decide) rfl ?_
        exact a_iret hX hT hF (r_iS (wf := (wM V q)) hf) dX12_row_71
    · refine a_iload_n hX dX12_row_57 rfl 2 rfl rfl ?_
      exact a_iret hX hT hF (r_iS (wf := (wM V q)) hf) dX12_row_58
  · refine a_iconst (v := 1) hX dX12_row_16 (by decide) rfl ?_
    refine a_aload_n hX dX12_row_17 rfl 0 rfl rfl ?_
    refine gX12_52 hX F_X12_100 dX12_row_18 rfl ?_
    refine a_bipush (v := 8) hX dX12_row_21 (by decide) rfl ?_
    refine a_iconst (v := 1) hX dX12_row_23 (by decide) rfl ?_
    refine a_iload_n hX dX12_row_24 rfl 3 rfl rfl ?_
    refine a_ishl hX dX12_row_25 rfl ?_
    refine a_imul hX dX12_row_26 rfl ?_
    refine a_iload_n hX dX12_row_27 rfl 3 rfl rfl ?_
    refine a_iadd hX dX12_row_28 rfl ?_
    refine lX12_52 hX dX12_row_29 rfl hf (fun x4 hf => ?_)
    refine a_iadd hX dX12_row_30 rfl ?_
    refine a_nmI hf (fun x5 hf => ?_)
    refine a_istore (lv' := [(4, .int x5), (0, .ref (q 0)), (1, .int v1), (2, .int v2), (3, .int v3)]) hX dX12_row_31 (by decide) rfl rfl ?_
    refine a_iload hX dX12_row_33 0 rfl rfl ?_
    refine a_iload_n hX dX12_row_35 rfl 3 rfl rfl ?_
    refine a_icmp_le (tgt := 44) hX dX12_row_36 rfl rfl hf (fun hf => ?_) (fun hf => ?_)
    · refine a_iload_n hX dX12_row_44 rfl 3 rfl rfl ?_
      refine a_lv (lv' := [(0, .ref (q 0)), (1, .int v1), (3, .int v3)]) [1, 2, 4] rfl ?_
      exact wX12_row_b45 h hE hk8 hf
    · refine a_iload hX dX12_row_39 0 rfl rfl ?_
      refine a_goto (pc' := 45) hX dX12_row_41 rfl ?_
      refine a_lv (lv' := [(0, .ref (q 0)), (1, .int v1), (3, .int v3)]) [1, 2, 4] rfl ?_
      exact wX12_row_b45 h hE hk8 hf
def fX12_row_l8   (u : St) (v1 : Int32) : Nat → Int32 → Int32 → Option (Int32 × St)
  | 0, _, _ => none
  | m + 1, v2, v3 => fX12_row_l8b  (fX12_row_l8   u v1 m) u v1 v2 v3
theorem wX12_row_l8 {X : Cx} {V : Vx} {q : Nat → Nat} {res : Int32 × St} (h : Run X cX12_row 7 RX12 rmX12_row V (some .int) (rEq (some (.int res.1)) (wM V q res.2))) (hE : ZOK (vZ V)) {u : St} {v1 : Int32} : ∀ (m : Nat) (v2 : Int32) (v3 : Int32), fX12_row_l8   u v1 m v2 v3 = some res → At X 7 0 0 (wM V q u) 8 [(0, .ref (q 0)), (1, .int v1), (2, .int v2), (3, .int v3)] [] := by
  intro m
  induction m with
  | zero => intro v2 v3 hf; cases hf
  | succ m ih => intro v2 v3 hf; exact wX12_row_l8b h hE ih hf
def fX12_row (u : St) (v1 : Int32) : Option (Int32 × St) := cl1 (fX12_findRow u) (fun u2 => fX12_row_l8 u2 v1 NF 0 0)
theorem wX12_row {X : Cx} {V : Vx} {q : Nat → Nat} {res : Int32 × St} (h : Run X cX12_row 7 RX12 rmX12_row V (some .int) (rEq (some (.int res.1)) (wM V q res.2))) (hE : ZOK (vZ V)) {u : St} {v1 : Int32} (hf : fX12_row u v1 = some res) : At X 7 0 0 (wM V q u) 0 [(0, .ref (q 0)), (1, .int v1)] [] := by
  obtain ⟨hX, hT, hF⟩ := id h
  unfold fX12_row at hf
  refine a_aload_n hX dX12_row_0 rfl 0 rfl rfl ?_
  obtain ⟨u2, hg1, hf⟩ := cl1_some hf
  refine a_cVsv (q0 := 0) (rest := []) hX hE (cX12_findRow (q := q) hE hg1) K_X12_373 ⟨rfl, rfl⟩ ⟨rfl, rfl, by decide, by decide⟩ ⟨Nat.zero_le _, Nat.zero_le _⟩ (Nat.le_of_ble_eq_true rfl) dX12_row_1 rfl rfl ?_
  refine a_iconst (v := 0) hX dX12_row_4 (by decide) rfl ?_
  refine a_istore_n (lv' := [(2, .int 0), (0, .ref (q 0)), (1, .int v1)]) hX dX12_row_5 rfl (by decide) rfl rfl ?_
  refine a_iconst (v := 0) hX dX12_row_6 (by decide) rfl ?_
  refine a_istore_n (lv' := [(3, .int 0), (2, .int 0), (0, .ref (q 0)), (1, .int v1)]) hX dX12_row_7 rfl (by decide) rfl rfl ?_
  refine a_lv (lv' := [(0, .ref (q 0)), (1, .int v1), (2, .int 0), (3, .int 0)]) [2, 3, 1, 0] rfl ?_
  exact wX12_row_l8 h hE NF 0 0 hf
theorem cX12_row {V : Vx} {q : Nat → Nat} {u : St} {res : Int32 × St} (hE : ZOK (vZ V)) {v1 : Int32} (hf : fX12_row u v1 = some res) : Ct V yX12_row (.code yX12_row cX12_row 7 (some .int)) rmX12_row 0 0 [.ref (q 0), .int v1] (wM V q u) (rEq (some (.int res.1)) (wM V q res.2)) :=
  Ct_of (by decide) (Nat.le_of_ble_eq_true rfl) rfl (fun X hX hT _ hF => wX12_row ⟨hX, hT, hF⟩ hE hf)
def rmX12_record : Room := { frames := 1, cells := 0, slots := 0, locals := 22 }
def fX12_record (u : St) (v1 : Int32) (v2 : Int32) : Option (Int32 × St) := cl1 (fX12_in v1 0 1023) (fun x1 => if x1 = 0 then some ((-2), u) else (cl1 (fX12_in v2 0 1023) (fun x2 => if x2 = 0 then some ((-2), u) else (if gZ u 53 = 10 then some ((-4), u) else (stI u 54 10 (gZ u 53) (v1 &&& v2) (fun u3 => stI u3 55 10 (gZ u3 53) v2 (fun u4 => nmS (setZ u4 53 ((gZ u4 53) + 1)) (fun u5 => some ((gZ u5 53) - 1, u5)))))))))
theorem wX12_record {X : Cx} {V : Vx} {q : Nat → Nat} {res : Int32 × St} (h : Run X cX12_record 3 RX12 rmX12_record V (some .int) (rEq (some (.int res.1)) (wM V q res.2))) (hE : ZOK (vZ V)) {u : St} {v1 : Int32} {v2 : Int32} (hf : fX12_record u v1 v2 = some res) : At X 3 0 0 (wM V q u) 0 [(0, .ref (q 0)), (1, .int v1), (2, .int v2)] [] := by
  obtain ⟨hX, hT, hF⟩ := id h
  unfold fX12_record at hf
  refine a_iload_n hX dX12_record_0 rfl 1 rfl rfl ?_
  refine a_iconst (v := 0) hX dX12_record_1 (by decide) rfl ?_
  refine a_sipush (v := 1023) hX dX12_record_2 (by decide) rfl ?_
  obtain ⟨x1, hg1, hf⟩ := cl1_some hf
  refine a_cSpi (rest := []) hX hE (cX12_in hE hg1) K_X12_148 ⟨rfl, rfl, by decide, by decide⟩ ⟨Nat.zero_le _, Nat.zero_le _⟩ (Nat.le_of_ble_eq_true rfl) dX12_record_5 rfl rfl ?_
  refine a_if_eq (tgt := 22) hX dX12_record_8 rfl rfl hf (fun hf => ?_) (fun hf => ?_)
  · refine a_bipush (v := (-2)) hX dX12_record_22 (by decide) rfl ?_
    exact a_iret hX hT hF (r_iS (wf := (wM V q)) hf) dX12_record_24
  · refine a_iload_n hX dX12_record_11 rfl 2 rfl rfl ?_
    refine a_iconst (v := 0) hX dX12_record_12 (by decide) rfl ?_
    refine a_sipush (v := 1023) hX dX12_record_13 (by decide) rfl ?_
    obtain ⟨x2, hg2, hf⟩ := cl1_some hf
    refine a_cSpi (rest := []) hX hE (cX12_in hE hg2) K_X12_148 ⟨rfl, rfl, by decide, by decide⟩ ⟨Nat.zero_le _, Nat.zero_le _⟩ (Nat.le_of_ble_eq_true rfl) dX12_record_16 rfl rfl ?_
    refine a_if_ne (tgt := 25) hX dX12_record_19 rfl rfl hf (fun hf => ?_) (fun hf => ?_)
    · refine a_aload_n hX dX12_record_25 rfl 0 rfl rfl ?_
      refine gX12_53 hX F_X12_376 dX12_record_26 rfl ?_
      refine a_bipush (v := 10) hX dX12_record_29 (by decide) rfl ?_
      refine a_icmp_ne (tgt := 37) hX dX12_record_31 rfl rfl hf (fun hf => ?_) (fun hf => ?_)
      · refine a_aload_n hX dX12_record_37 rfl 0 rfl rfl ?_
        refine gX12_54 hX F_X12_103 dX12_record_38 rfl ?_
        refine a_aload_n hX dX12_record_41 rfl 0 rfl rfl ?_
        refine gX12_53 hX F_X12_376 dX12_record_42 rfl ?_
        refine a_iload_n hX dX12_record_45 rfl 1 rfl rfl ?_
        refine a_iload_n hX dX12_record_46 rfl 2 rfl rfl ?_
        refine a_iand hX dX12_record_47 rfl ?_
        refine sX12_54 hX dX12_record_48 rfl hf (fun u3 hf => ?_)
        refine a_aload_n hX dX12_record_49 rfl 0 rfl rfl ?_
        refine gX12_55 hX F_X12_106 dX12_record_50 rfl ?_
        refine a_aload_n hX dX12_record_53 rfl 0 rfl rfl ?_
        refine gX12_53 hX F_X12_376 dX12_record_54 rfl ?_
        refine a_iload_n hX dX12_record_57 rfl 2 rfl rfl ?_
        refine sX12_55 hX dX12_record_58 rfl hf (fun u4 hf => ?_)
        refine a_aload_n hX dX12_record_59 rfl 0 rfl rfl ?_
        refine a_dup hX dX12_record_60 rfl rfl ?_
        refine gX12_53 hX F_X12_376 dX12_record_61 rfl ?_
        refine a_iconst (v := 1) hX dX12_record_64 (by decide) rfl ?_
        refine a_iadd hX dX12_record_65 rfl ?_
        refine pX12_53 hX F_X12_376 dX12_record_66 rfl hf (fun u5 hf => ?_)
        refine a_aload_n hX dX12_record_69 rfl 0 rfl rfl ?_
        refine gX12_53 hX F_X12_376 dX12_record_70 rfl ?_
        refine a_iconst (v := 1) hX dX12_record_73 (by decide) rfl ?_
        refine a_isub hX dX12_record_74 rfl ?_
        exact a_iret hX hT hF (r_iS (wf := (wM V q)) hf) dX12_record_75
      · refine a_bipush (v := (-4)) hX dX12_record_34 (by decide) rfl ?_
        exact a_iret hX hT hF (r_iS (wf := (wM V q)) hf) dX12_record_36
    · refine a_bipush (v := (-2)) hX dX12_record_22 (by decide) rfl ?_
      exact a_iret hX hT hF (r_iS (wf := (wM V q)) hf) dX12_record_24
theorem cX12_record {V : Vx} {q : Nat → Nat} {u : St} {res : Int32 × St} (hE : ZOK (vZ V)) {v1 : Int32} {v2 : Int32} (hf : fX12_record u v1 v2 = some res) : Ct V yX12_record (.code yX12_record cX12_record 3 (some .int)) rmX12_record 0 0 [.ref (q 0), .int v1, .int v2] (wM V q u) (rEq (some (.int res.1)) (wM V q res.2)) :=
  Ct_of (by decide) (Nat.le_of_ble_eq_true rfl) rfl (fun X hX hT _ hF => wX12_record ⟨hX, hT, hF⟩ hE hf)
def rmX12_areAtOdds : Room := { frames := 0, cells := 0, slots := 0, locals := 0 }
def fX12_areAtOdds (u : St) (v1 : Int32) (v2 : Int32) : Option (Int32) := ldI (gA u 54) 10 v1 (fun x1 => ldI (gA u 54) 10 v2 (fun x2 => ldI (gA u 55) 10 v1 (fun x3 => ldI (gA u 55) 10 v2 (fun x4 => if ((x1 ^^^ x2) &&& x3) &&& x4 = 0 then some 0 else (some 1)))))
theorem wX12_areAtOdds {X : Cx} {V : Vx} {q : Nat → Nat} {u : St} {res : Int32} (h : Run X cX12_areAtOdds 3 RX12 rmX12_areAtOdds V (some .boolean) (rEq (some (.int res)) (wM V q u))) (hE : ZOK (vZ V)) {v1 : Int32} {v2 : Int32} (hf : fX12_areAtOdds u v1 v2 = some res) : At X 3 0 0 (wM V q u) 0 [(0, .ref (q 0)), (1, .int v1), (2, .int v2)] [] := by
  obtain ⟨hX, hT, hF⟩ := id h
  unfold fX12_areAtOdds at hf
  refine a_aload_n hX dX12_areAtOdds_0 rfl 0 rfl rfl ?_
  refine gX12_54 hX F_X12_103 dX12_areAtOdds_1 rfl ?_
  refine a_iload_n hX dX12_areAtOdds_4 rfl 1 rfl rfl ?_
  refine lX12_54 hX dX12_areAtOdds_5 rfl hf (fun x1 hf => ?_)
  refine a_aload_n hX dX12_areAtOdds_6 rfl 0 rfl rfl ?_
  refine gX12_54 hX F_X12_103 dX12_areAtOdds_7 rfl ?_
  refine a_iload_n hX dX12_areAtOdds_10 rfl 2 rfl rfl ?_
  refine lX12_54 hX dX12_areAtOdds_11 rfl hf (fun x2 hf => ?_)
  refine a_ixor hX dX12_areAtOdds_12 rfl ?_
  refine a_aload_n hX dX12_areAtOdds_13 rfl 0 rfl rfl ?_
  refine gX12_55 hX F_X12_106 dX12_areAtOdds_14 rfl ?_
  refine a_iload_n hX dX12_areAtOdds_17 rfl 1 rfl rfl ?_
  refine lX12_55 hX dX12_areAtOdds_18 rfl hf (fun x3 hf => ?_)
  refine a_iand hX dX12_areAtOdds_19 rfl ?_
  refine a_aload_n hX dX12_areAtOdds_20 rfl 0 rfl rfl ?_
  refine gX12_55 hX F_X12_106 dX12_areAtOdds_21 rfl ?_
  refine a_iload_n hX dX12_areAtOdds_24 rfl 2 rfl rfl ?_
  refine lX12_55 hX dX12_areAtOdds_25 rfl hf (fun x4 hf => ?_)
  refine a_iand hX dX12_areAtOdds_26 rfl ?_
  refine a_if_eq (tgt := 34) hX dX12_areAtOdds_27 rfl rfl hf (fun hf => ?_) (fun hf => ?_)
  · refine a_iconst (v := 0) hX dX12_areAtOdds_34 (by decide) rfl ?_
    exact a_zret hX hT (by decide) hF (r_i hf) dX12_areAtOdds_35
  · refine a_iconst (v := 1) hX dX12_areAtOdds_30 (by decide) rfl ?_
    refine a_goto (pc' := 35) hX dX12_areAtOdds_31 rfl ?_
    exact a_zret hX hT (by decide) hF (r_i hf) dX12_areAtOdds_35
theorem cX12_areAtOdds {V : Vx} {q : Nat → Nat} {u : St} {res : Int32} (hE : ZOK (vZ V)) {v1 : Int32} {v2 : Int32} (hf : fX12_areAtOdds u v1 v2 = some res) : Ct V yX12_areAtOdds (.code yX12_areAtOdds cX12_areAtOdds 3 (some .boolean)) rmX12_areAtOdds 0 0 [.ref (q 0), .int v1, .int v2] (wM V q u) (rEq (some (.int res)) (wM V q u)) :=
  Ct_of (by decide) (Nat.le_of_ble_eq_true rfl) rfl (fun X hX hT _ hF => wX12_areAtOdds ⟨hX, hT, hF⟩ hE hf)
def rmX12_match : Room := { frames := 1, cells := 0, slots := 0, locals := 22 }
def fX12_match (u : St) (v1 : Int32) (v2 : Int32) : Option (Int32) := cl1 (fX12_areAtOdds u v1 v2) (fun x1 => if x1 = 0 then ldI (gA u 55) 10 v1 (fun x2 => ldI (gA u 55) 10 v2 (fun x3 => cl1 (fX12_bitsOf (x2 &&& x3)) (fun x4 => if x4 < gZ u 51 then some 0 else (some 1)))) else (some 0))
theorem wX12_match {X : Cx} {V : Vx} {q : Nat → Nat} {u : St} {res : Int32} (h : Run X cX12_match 3 RX12 rmX12_match V (some .boolean) (rEq (some (.int res)) (wM V q u))) (hE : ZOK (vZ V)) {v1 : Int32} {v2 : Int32} (hf : fX12_match u v1 v2 = some res) : At X 3 0 0 (wM V q u) 0 [(0, .ref (q 0)), (1, .int v1), (2, .int v2)] [] := by
  obtain ⟨hX, hT, hF⟩ := id h
  unfold fX12_match at hf
  refine a_aload_n hX dX12_match_0 rfl 0 rfl rfl ?_
  refine a_iload_n hX dX12_match_1 rfl 1 rfl rfl ?_
  refine a_iload_n hX dX12_match_2 rfl 2 rfl rfl ?_
  obtain ⟨x1, hg1, hf⟩ := cl1_some hf
  refine a_cVsi (q0 := 0) (rest := []) hX hE (cX12_areAtOdds (q := q) hE hg1) K_X12_379 ⟨rfl, rfl⟩ ⟨rfl, rfl, by decide, by decide⟩ ⟨Nat.zero_le _, Nat.zero_le _⟩ (Nat.le_of_ble_eq_true rfl) dX12_match_3 rfl rfl ?_
  refine a_if_ne (tgt := 36) hX dX12_match_6 rfl rfl hf (fun hf => ?_) (fun hf => ?_)
  · refine a_iconst (v := 0) hX dX12_match_36 (by decide) rfl ?_
    exact a_zret hX hT (by decide) hF (r_i hf) dX12_match_37
  · refine a_aload_n hX dX12_match_9 rfl 0 rfl rfl ?_
    refine gX12_55 hX F_X12_106 dX12_match_10 rfl ?_
    refine a_iload_n hX dX12_match_13 rfl 1 rfl rfl ?_
    refine lX12_55 hX dX12_match_14 rfl hf (fun x2 hf => ?_)
    refine a_aload_n hX dX12_match_15 rfl 0 rfl rfl ?_
    refine gX12_55 hX F_X12_106 dX12_match_16 rfl ?_
    refine a_iload_n hX dX12_match_19 rfl 2 rfl rfl ?_
    refine lX12_55 hX dX12_match_20 rfl hf (fun x3 hf => ?_)
    refine a_iand hX dX12_match_21 rfl ?_
    obtain ⟨x4, hg4, hf⟩ := cl1_some hf
    refine a_cSpi (rest := []) hX hE (cX12_bitsOf hE hg4) K_X12_179 ⟨rfl, rfl, by decide, by decide⟩ ⟨Nat.zero_le _, Nat.zero_le _⟩ (Nat.le_of_ble_eq_true rfl) dX12_match_22 rfl rfl ?_
    refine a_aload_n hX dX12_match_25 rfl 0 rfl rfl ?_
    refine gX12_51 hX F_X12_143 dX12_match_26 rfl ?_
    refine a_icmp_lt (tgt := 36) hX dX12_match_29 rfl rfl hf (fun hf => ?_) (fun hf => ?_)
    · refine a_iconst (v := 0) hX dX12_match_36 (by decide) rfl ?_
      exact a_zret hX hT (by decide) hF (r_i hf) dX12_match_37
    · refine a_iconst (v := 1) hX dX12_match_32 (by decide) rfl ?_
      refine a_goto (pc' := 37) hX dX12_match_33 rfl ?_
      exact a_zret hX hT (by decide) hF (r_i hf) dX12_match_37
theorem cX12_match {V : Vx} {q : Nat → Nat} {u : St} {res : Int32} (hE : ZOK (vZ V)) {v1 : Int32} {v2 : Int32} (hf : fX12_match u v1 v2 = some res) : Ct V yX12_match (.code yX12_match cX12_match 3 (some .boolean)) rmX12_match 0 0 [.ref (q 0), .int v1, .int v2] (wM V q u) (rEq (some (.int res)) (wM V q u)) :=
  Ct_of (by decide) (Nat.le_of_ble_eq_true rfl) rfl (fun X hX hT _ hF => wX12_match ⟨hX, hT, hF⟩ hE hf)
def rmX12_findThings : Room := { frames := 2, cells := 0, slots := 0, locals := 44 }
def fX12_findThings_b89  (k25 : St → Int32 → Option (St)) (k33 : St → Int32 → Int32 → Option (St)) (k43 : St → Int32 → Int32 → Option (St)) (u : St) (v1 : Int32) (v2 : Int32) (v3 : Int32) : Option (St) := k43 u v1 (v3 + 1)
theorem wX12_findThings_b89 {X : Cx} {V : Vx} {q : Nat → Nat} {res : St} (h : Run X cX12_findThings 4 RX12 rmX12_findThings V none (rEq none (wM V q res))) (hE : ZOK (vZ V)) {u : St} {v1 : Int32} {v2 : Int32} {v3 : Int32} {k25 : St → Int32 → Option (St)} (hk25 : ∀ (u : St) (v1 : Int32), k25 u v1 = some res → At X 4 0 0 (wM V q u) 25 [(0, .ref (q 0)), (1, .int v1)] []) {k33 : St → Int32 → Int32 → Option (St)} (hk33 : ∀ (u : St) (v1 : Int32) (v2 : Int32), k33 u v1 v2 = some res → At X 4 0 0 (wM V q u) 33 [(0, .ref (q 0)), (1, .int v1), (2, .int v2)] []) {k43 : St → Int32 → Int32 → Option (St)} (hk43 : ∀ (u : St) (v1 : Int32) (v3 : Int32), k43 u v1 v3 = some res → At X 4 0 0 (wM V q u) 43 [(0, .ref (q 0)), (1, .int v1), (2, .int v2), (3, .int v3)] []) (hf : fX12_findThings_b89  k25 k33 k43 u v1 v2 v3 = some res) : At X 4 0 0 (wM V q u) 89 [(0, .ref (q 0)), (1, .int v1), (2, .int v2), (3, .int v3)] [] := by
  obtain ⟨hX, hT, hF⟩ := id h
  unfold fX12_findThings_b89 at hf
  refine a_iinc (v := v3 + 1) (lv' := [(3, .int (v3 + 1)), (0, .ref (q 0)), (1, .int v1), (2, .int v2)]) hX dX12_findThings_89 3 rfl rfl (by decide) rfl rfl ?_
  refine a_goto (pc' := 43) hX dX12_findThings_92 rfl ?_
  refine a_lv (lv' := [(0, .ref (q 0)), (1, .int v1), (2, .int v2), (3, .int (v3 + 1))]) [1, 2, 3, 0] rfl ?_
  exact hk43 u v1 (v3 + 1) hf
def fX12_findThings_l43b  (k25 : St → Int32 → Option (St)) (k33 : St → Int32 → Int32 → Option (St)) (k43 : St → Int32 → Int32 → Option (St)) (u : St) (v1 : Int32) (v2 : Int32) (v3 : Int32) : Option (St) := if gZ u 53 ≤ v3 then k33 u v1 (v2 + 1) else (ldI (gA u 56) 10 v3 (fun x2 => ldI (gA u 56) 10 v2 (fun x3 => if x3 ≤ x2 then fX12_findThings_b89 k25 k33 k43 u v1 v2 v3 else (cl1 (fX12_match u v2 v3) (fun x4 => if x4 = 0 then fX12_findThings_b89 k25 k33 k43 u v1 v2 v3 else (ldI (gA u 56) 10 v3 (fun x5 => stI u 56 10 v2 x5 (fun u6 => fX12_findThings_b89 k25 k33 k43 u6 1 v2 v3))))))))
theorem wX12_findThings_l43b {X : Cx} {V : Vx} {q : Nat → Nat} {res : St} (h : Run X cX12_findThings 4 RX12 rmX12_findThings V none (rEq none (wM V q res))) (hE : ZOK (vZ V)) {u : St} {v1 : Int32} {v2 : Int32} {v3 : Int32} {k25 : St → Int32 → Option (St)} (hk25 : ∀ (u : St) (v1 : Int32), k25 u v1 = some res → At X 4 0 0 (wM V q u) 25 [(0, .ref (q 0)), (1, .int v1)] []) {k33 : St → Int32 → Int32 → Option (St)} (hk33 : ∀ (u : St) (v1 : Int32) (v2 : Int32), k33 u v1 v2 = some res → At X 4 0 0 (wM V q u) 33 [(0, .ref (q 0)), (1, .int v1), (2, .int v2)] []) {k43 : St → Int32 → Int32 → Option (St)} (hk43 : ∀ (u : St) (v1 : Int32) (v3 : Int32), k43 u v1 v3 = some res → At X 4 0 0 (wM V q u) 43 [(0, .ref (q 0)), (1, .int v1), (2, .int v2), (3, .int v3)] []) (hf : fX12_findThings_l43b  k25 k33 k43 u v1 v2 v3 = some res) : At X 4 0 0 (wM V q u) 43 [(0, .ref (q 0)), (1, .int v1), (2, .int v2), (3, .int v3)] [] := by
  obtain ⟨hX, hT, hF⟩ := id h
  unfold fX12_findThings_l43b at hf
  refine a_iload_n hX dX12_findThings_43 rfl 3 rfl rfl ?_
  refine a_aload_n hX dX12_findThings_44 rfl 0 rfl rfl ?_
  refine gX12_53 hX F_X12_376 dX12_findThings_45 rfl ?_
  refine a_icmp_ge (tgt := 95) hX dX12_findThings_48 rfl rfl hf (fun hf => ?_) (fun hf => ?_)
  · refine a_iinc (v := v2 + 1) (lv' := [(2, .int (v2 + 1)), (0, .ref (q 0)), (1, .int v1), (3, .int v3)]) hX dX12_findThings_95 2 rfl rfl (by decide) rfl rfl ?_
    refine a_goto (pc' := 33) hX dX12_findThings_98 rfl ?_
    refine a_lv (lv' := [(0, .ref (q 0)), (1, .int v1), (2, .int (v2 + 1))]) [1, 2, 0] rfl ?_
    exact hk33 u v1 (v2 + 1) hf
  · refine a_aload_n hX dX12_findThings_51 rfl 0 rfl rfl ?_
    refine gX12_56 hX F_X12_109 dX12_findThings_52 rfl ?_
    refine a_iload_n hX dX12_findThings_55 rfl 3 rfl rfl ?_
    refine lX12_56 hX dX12_findThings_56 rfl hf (fun x2 hf => ?_)
    refine a_aload_n hX dX12_findThings_57 rfl 0 rfl rfl ?_
    refine gX12_56 hX F_X12_109 dX12_findThings_58 rfl ?_
    refine a_iload_n hX dX12_findThings_61 rfl 2 rfl rfl ?_
    refine lX12_56 hX dX12_findThings_62 rfl hf (fun x3 hf => ?_)
    refine a_icmp_ge (tgt := 89) hX dX12_findThings_63 rfl rfl hf (fun hf => ?_) (fun hf => ?_)
    · exact wX12_findThings_b89 h hE hk25 hk33 hk43 hf
    · refine a_aload_n hX dX12_findThings_66 rfl 0 rfl rfl ?_
      refine a_iload_n hX dX12_findThings_67 rfl 2 rfl rfl ?_
      refine a_iload_n hX dX12_findThings_68 rfl 3 rfl rfl ?_
      obtain ⟨x4, hg4, hf⟩ := cl1_some hf
      refine a_cVsi (q0 := 0) (rest := []) hX hE (cX12_match (q := q) hE hg4) K_X12_382 ⟨rfl, rfl⟩ ⟨rfl, rfl, by decide, by decide⟩ ⟨Nat.zero_le _, Nat.zero_le _⟩ (Nat.le_of_ble_eq_true rfl) dX12_findThings_69 rfl rfl ?_
      refine a_if_eq (tgt := 89) hX dX12_findThings_72 rfl rfl hf (fun hf => ?_) (fun hf => ?_)
      · exact wX12_findThings_b89 h hE hk25 hk33 hk43 hf
      · refine a_aload_n hX dX12_findThings_75 rfl 0 rfl rfl ?_
        refine gX12_56 hX F_X12_109 dX12_findThings_76 rfl ?_
        refine a_iload_n hX dX12_findThings_79 rfl 2 rfl rfl ?_
        refine a_aload_n hX dX12_findThings_80 rfl 0 rfl rfl ?_
        refine gX12_56 hX F_X12_109 dX12_findThings_81 rfl ?_
        refine a_iload_n hX dX12_findThings_84 rfl 3 rfl rfl ?_
        refine lX12_56 hX dX12_findThings_85 rfl hf (fun x5 hf => ?_)
        refine sX12_56 hX dX12_findThings_86 rfl hf (fun u6 hf => ?_)
        refine a_iconst (v := 1) hX dX12_findThings_87 (by decide) rfl ?_
        refine a_istore_n (lv' := [(1, .int 1), (0, .ref (q 0)), (2, .int v2), (3, .int v3)]) hX dX12_findThings_88 rfl (by decide) rfl rfl ?_
        refine a_lv (lv' := [(0, .ref (q 0)), (1, .int 1), (2, .int v2), (3, .int v3)]) [1, 0, 2, 3] rfl ?_
        exact wX12_findThings_b89 h hE hk25 hk33 hk43 hf
def fX12_findThings_l43  (k25 : St → Int32 → Option (St)) (k33 : St → Int32 → Int32 → Option (St)) (v2 : Int32) : Nat → St → Int32 → Int32 → Option (St)
  | 0, _, _, _ => none
  | m + 1, u, v1, v3 => fX12_findThings_l43b  k25 k33 (fX12_findThings_l43  k25 k33 v2 m) u v1 v2 v3
theorem wX12_findThings_l43 {X : Cx} {V : Vx} {q : Nat → Nat} {res : St} (h : Run X cX12_findThings 4 RX12 rmX12_findThings V none (rEq none (wM V q res))) (hE : ZOK (vZ V)) {v2 : Int32} {k25 : St → Int32 → Option (St)} (hk25 : ∀ (u : St) (v1 : Int32), k25 u v1 = some res → At X 4 0 0 (wM V q u) 25 [(0, .ref (q 0)), (1, .int v1)] []) {k33 : St → Int32 → Int32 → Option (St)} (hk33 : ∀ (u : St) (v1 : Int32) (v2 : Int32), k33 u v1 v2 = some res → At X 4 0 0 (wM V q u) 33 [(0, .ref (q 0)), (1, .int v1), (2, .int v2)] []) : ∀ (m : Nat) (u : St) (v1 : Int32) (v3 : Int32), fX12_findThings_l43  k25 k33 v2 m u v1 v3 = some res → At X 4 0 0 (wM V q u) 43 [(0, .ref (q 0)), (1, .int v1), (2, .int v2), (3, .int v3)] [] := by
  intro m
  induction m with
  | zero => intro u v1 v3 hf; cases hf
  | succ m ih => intro u v1 v3 hf; exact wX12_findThings_l43b h hE hk25 hk33 ih hf
def fX12_findThings_l33b  (k25 : St → Int32 → Option (St)) (k33 : St → Int32 → Int32 → Option (St)) (u : St) (v1 : Int32) (v2 : Int32) : Option (St) := if gZ u 53 ≤ v2 then k25 u v1 else (fX12_findThings_l43 k25 k33 v2 NF u v1 0)
theorem wX12_findThings_l33b {X : Cx} {V : Vx} {q : Nat → Nat} {res : St} (h : Run X cX12_findThings 4 RX12 rmX12_findThings V none (rEq none (wM V q res))) (hE : ZOK (vZ V)) {u : St} {v1 : Int32} {v2 : Int32} {k25 : St → Int32 → Option (St)} (hk25 : ∀ (u : St) (v1 : Int32), k25 u v1 = some res → At X 4 0 0 (wM V q u) 25 [(0, .ref (q 0)), (1, .int v1)] []) {k33 : St → Int32 → Int32 → Option (St)} (hk33 : ∀ (u : St) (v1 : Int32) (v2 : Int32), k33 u v1 v2 = some res → At X 4 0 0 (wM V q u) 33 [(0, .ref (q 0)), (1, .int v1), (2, .int v2)] []) (hf : fX12_findThings_l33b  k25 k33 u v1 v2 = some res) : At X 4 0 0 (wM V q u) 33 [(0, .ref (q 0)), (1, .int v1), (2, .int v2)] [] := by
  obtain ⟨hX, hT, hF⟩ := id h
  unfold fX12_findThings_l33b at hf
  refine a_iload_n hX dX12_findThings_33 rfl 2 rfl rfl ?_
  refine a_aload_n hX dX12_findThings_34 rfl 0 rfl rfl ?_
  refine gX12_53 hX F_X12_376 dX12_findThings_35 rfl ?_
  refine a_icmp_ge (tgt := 101) hX dX12_findThings_38 rfl rfl hf (fun hf => ?_) (fun hf => ?_)
  · refine a_goto (pc' := 25) hX dX12_findThings_101 rfl ?_
    refine a_lv (lv' := [(0, .ref (q 0)), (1, .int v1)]) [0, 1] rfl ?_
    exact hk25 u v1 hf
  · refine a_iconst (v := 0) hX dX12_findThings_41 (by decide) rfl ?_
    refine a_istore_n (lv' := [(3, .int 0), (0, .ref (q 0)), (1, .int v1), (2, .int v2)]) hX dX12_findThings_42 rfl (by decide) rfl rfl ?_
    refine a_lv (lv' := [(0, .ref (q 0)), (1, .int v1), (2, .int v2), (3, .int 0)]) [1, 2, 3, 0] rfl ?_
    exact wX12_findThings_l43 h hE hk25 hk33 NF u v1 0 hf
def fX12_findThings_l33  (k25 : St → Int32 → Option (St))  : Nat → St → Int32 → Int32 → Option (St)
  | 0, _, _, _ => none
  | m + 1, u, v1, v2 => fX12_findThings_l33b  k25 (fX12_findThings_l33  k25  m) u v1 v2
theorem wX12_findThings_l33 {X : Cx} {V : Vx} {q : Nat → Nat} {res : St} (h : Run X cX12_findThings 4 RX12 rmX12_findThings V none (rEq none (wM V q res))) (hE : ZOK (vZ V))  {k25 : St → Int32 → Option (St)} (hk25 : ∀ (u : St) (v1 : Int32), k25 u v1 = some res → At X 4 0 0 (wM V q u) 25 [(0, .ref (q 0)), (1, .int v1)] []) : ∀ (m : Nat) (u : St) (v1 : Int32) (v2 : Int32), fX12_findThings_l33  k25  m u v1 v2 = some res → At X 4 0 0 (wM V q u) 33 [(0, .ref (q 0)), (1, .int v1), (2, .int v2)] [] := by
  intro m
  induction m with
  | zero => intro u v1 v2 hf; cases hf
  | succ m ih => intro u v1 v2 hf; exact wX12_findThings_l33b h hE hk25 ih hf
def fX12_findThings_l25b  (k25 : St → Int32 → Option (St)) (u : St) (v1 : Int32) : Option (St) := if v1 = 0 then some u else (fX12_findThings_l33 k25 NF u 0 0)
theorem wX12_findThings_l25b {X : Cx} {V : Vx} {q : Nat → Nat} {res : St} (h : Run X cX12_findThings 4 RX12 rmX12_findThings V none (rEq none (wM V q res))) (hE : ZOK (vZ V)) {u : St} {v1 : Int32} {k25 : St → Int32 → Option (St)} (hk25 : ∀ (u : St) (v1 : Int32), k25 u v1 = some res → At X 4 0 0 (wM V q u) 25 [(0, .ref (q 0)), (1, .int v1)] []) (hf : fX12_findThings_l25b  k25 u v1 = some res) : At X 4 0 0 (wM V q u) 25 [(0, .ref (q 0)), (1, .int v1)] [] := by
  obtain ⟨hX, hT, hF⟩ := id h
  unfold fX12_findThings_l25b at hf
  refine a_iload_n hX dX12_findThings_25 rfl 1 rfl rfl ?_
  refine a_if_eq (tgt := 104) hX dX12_findThings_26 rfl rfl hf (fun hf => ?_) (fun hf => ?_)
  · exact a_ret hX hT hF (r_vS (wf := (wM V q)) hf) dX12_findThings_104
  · refine a_iconst (v := 0) hX dX12_findThings_29 (by decide) rfl ?_
    refine a_istore_n (lv' := [(1, .int 0), (0, .ref (q 0))]) hX dX12_findThings_30 rfl (by decide) rfl rfl ?_
    refine a_iconst (v := 0) hX dX12_findThings_31 (by decide) rfl ?_
    refine a_istore_n (lv' := [(2, .int 0), (1, .int 0), (0, .ref (q 0))]) hX dX12_findThings_32 rfl (by decide) rfl rfl ?_
    refine a_lv (lv' := [(0, .ref (q 0)), (1, .int 0), (2, .int 0)]) [2, 1, 0] rfl ?_
    exact wX12_findThings_l33 h hE hk25 NF u 0 0 hf
def fX12_findThings_l25    : Nat → St → Int32 → Option (St)
  | 0, _, _ => none
  | m + 1, u, v1 => fX12_findThings_l25b  (fX12_findThings_l25    m) u v1
theorem wX12_findThings_l25 {X : Cx} {V : Vx} {q : Nat → Nat} {res : St} (h : Run X cX12_findThings 4 RX12 rmX12_findThings V none (rEq none (wM V q res))) (hE : ZOK (vZ V))  : ∀ (m : Nat) (u : St) (v1 : Int32), fX12_findThings_l25    m u v1 = some res → At X 4 0 0 (wM V q u) 25 [(0, .ref (q 0)), (1, .int v1)] [] := by
  intro m
  induction m with
  | zero => intro u v1 hf; cases hf
  | succ m ih => intro u v1 hf; exact wX12_findThings_l25b h hE ih hf
def fX12_findThings_l2b  (k2 : St → Int32 → Option (St)) (u : St) (v1 : Int32) : Option (St) := if gZ u 53 ≤ v1 then fX12_findThings_l25 NF u 1 else (stI u 56 10 v1 v1 (fun u1 => k2 u1 (v1 + 1)))
theorem wX12_findThings_l2b {X : Cx} {V : Vx} {q : Nat → Nat} {res : St} (h : Run X cX12_findThings 4 RX12 rmX12_findThings V none (rEq none (wM V q res))) (hE : ZOK (vZ V)) {u : St} {v1 : Int32} {k2 : St → Int32 → Option (St)} (hk2 : ∀ (u : St) (v1 : Int32), k2 u v1 = some res → At X 4 0 0 (wM V q u) 2 [(0, .ref (q 0)), (1, .int v1)] []) (hf : fX12_findThings_l2b  k2 u v1 = some res) : At X 4 0 0 (wM V q u) 2 [(0, .ref (q 0)), (1, .int v1)] [] := by
  obtain ⟨hX, hT, hF⟩ := id h
  unfold fX12_findThings_l2b at hf
  refine a_iload_n hX dX12_findThings_2 rfl 1 rfl rfl ?_
  refine a_aload_n hX dX12_findThings_3 rfl 0 rfl rfl ?_
  refine gX12_53 hX F_X12_376 dX12_findThings_4 rfl ?_
  refine a_icmp_ge (tgt := 23) hX dX12_findThings_7 rfl rfl hf (fun hf => ?_) (fun hf => ?_)
  · refine a_iconst (v := 1) hX dX12_findThings_23 (by decide) rfl ?_
    refine a_istore_n (lv' := [(1, .int 1), (0, .ref (q 0))]) hX dX12_findThings_24 rfl (by decide) rfl rfl ?_
    refine a_lv (lv' := [(0, .ref (q 0)), (1, .int 1)]) [1, 0] rfl ?_
    exact wX12_findThings_l25 h hE NF u 1 hf
  · refine a_aload_n hX dX12_findThings_10 rfl 0 rfl rfl ?_
    refine gX12_56 hX F_X12_109 dX12_findThings_11 rfl ?_
    refine a_iload_n hX dX12_findThings_14 rfl 1 rfl rfl ?_
    refine a_iload_n hX dX12_findThings_15 rfl 1 rfl rfl ?_
    refine sX12_56 hX dX12_findThings_16 rfl hf (fun u1 hf => ?_)
    refine a_iinc (v := v1 + 1) (lv' := [(1, .int (v1 + 1)), (0, .ref (q 0))]) hX dX12_findThings_17 1 rfl rfl (by decide) rfl rfl ?_
    refine a_goto (pc' := 2) hX dX12_findThings_20 rfl ?_
    refine a_lv (lv' := [(0, .ref (q 0)), (1, .int (v1 + 1))]) [1, 0] rfl ?_
    exact hk2 u1 (v1 + 1) hf
def fX12_findThings_l2    : Nat → St → Int32 → Option (St)
  | 0, _, _ => none
  | m + 1, u, v1 => fX12_findThings_l2b  (fX12_findThings_l2    m) u v1
theorem wX12_findThings_l2 {X : Cx} {V : Vx} {q : Nat → Nat} {res : St} (h : Run X cX12_findThings 4 RX12 rmX12_findThings V none (rEq none (wM V q res))) (hE : ZOK (vZ V))  : ∀ (m : Nat) (u : St) (v1 : Int32), fX12_findThings_l2    m u v1 = some res → At X 4 0 0 (wM V q u) 2 [(0, .ref (q 0)), (1, .int v1)] [] := by
  intro m
  induction m with
  | zero => intro u v1 hf; cases hf
  | succ m ih => intro u v1 hf; exact wX12_findThings_l2b h hE ih hf
def fX12_findThings (u : St) : Option (St) := fX12_findThings_l2 NF u 0
theorem wX12_findThings {X : Cx} {V : Vx} {q : Nat → Nat} {res : St} (h : Run X cX12_findThings 4 RX12 rmX12_findThings V none (rEq none (wM V q res))) (hE : ZOK (vZ V)) {u : St} (hf : fX12_findThings u = some res) : At X 4 0 0 (wM V q u) 0 [(0, .ref (q 0))] [] := by
  obtain ⟨hX, hT, hF⟩ := id h
  unfold fX12_findThings at hf
  refine a_iconst (v := 0) hX dX12_findThings_0 (by decide) rfl ?_
  refine a_istore_n (lv' := [(1, .int 0), (0, .ref (q 0))]) hX dX12_findThings_1 rfl (by decide) rfl rfl ?_
  refine a_lv (lv' := [(0, .ref (q 0)), (1, .int 0)]) [1, 0] rfl ?_
  exact wX12_findThings_l2 h hE NF u 0 hf
theorem cX12_findThings {V : Vx} {q : Nat → Nat} {u : St} {res : St} (hE : ZOK (vZ V))  (hf : fX12_findThings u = some res) : Ct V yX12_findThings (.code yX12_findThings cX12_findThings 4 none) rmX12_findThings 0 0 [.ref (q 0)] (wM V q u) (rEq none (wM V q res)) :=
  Ct_of (by decide) (Nat.le_of_ble_eq_true rfl) rfl (fun X hX hT _ hF => wX12_findThings ⟨hX, hT, hF⟩ hE hf)
def rmX12_same : Room := { frames := 3, cells := 0, slots := 0, locals := 67 }
def fX12_same_b92   (u : St) : Option (Int32 × St) := some (1, u)
theorem wX12_same_b92 {X : Cx} {V : Vx} {q : Nat → Nat} {res : Int32 × St} (h : Run X cX12_same 4 RX12 rmX12_same V (some .int) (rEq (some (.int res.1)) (wM V q res.2))) (hE : ZOK (vZ V)) {u : St} (hf : fX12_same_b92   u = some res) : At X 4 0 0 (wM V q u) 92 [] [] := by
  obtain ⟨hX, hT, hF⟩ := id h
  unfold fX12_same_b92 at hf
  refine a_iconst (v := 1) hX dX12_same_92 (by decide) rfl ?_
  refine a_goto (pc' := 97) hX dX12_same_93 rfl ?_
  exact a_iret hX hT hF (r_iS (wf := (wM V q)) hf) dX12_same_97
def fX12_same (u : St) (v1 : Int32) (v2 : Int32) (v3 : Int32) : Option (Int32 × St) := cl1 (fX12_in v1 0 ((gZ u 53) - 1)) (fun x1 => if x1 = 0 then some ((-2), u) else (cl1 (fX12_in v2 0 ((gZ u 53) - 1)) (fun x2 => if x2 = 0 then some ((-2), u) else (cl1 (fX12_in v3 0 2) (fun x3 => if x3 = 0 then some ((-2), u) else (cl1 (fX12_findThings u) (fun u5 => if v3 = 0 then cl1 (fX12_match u5 v1 v2) (fun x9 => if x9 = 0 then some (0, u5) else (fX12_same_b92 u5)) else (if v3 = 1 then cl1 (fX12_areAtOdds u5 v1 v2) (fun x8 => if x8 = 0 then some (0, u5) else (fX12_same_b92 u5)) else (ldI (gA u5 56) 10 v1 (fun x6 => ldI (gA u5 56) 10 v2 (fun x7 => if x6 = x7 then fX12_same_b92 u5 else (some (0, u5)))))))))))))
theorem wX12_same {X : Cx} {V : Vx} {q : Nat → Nat} {res : Int32 × St} (h : Run X cX12_same 4 RX12 rmX12_same V (some .int) (rEq (some (.int res.1)) (wM V q res.2))) (hE : ZOK (vZ V)) {u : St} {v1 : Int32} {v2 : Int32} {v3 : Int32} (hf : fX12_same u v1 v2 v3 = some res) : At X 4 0 0 (wM V q u) 0 [(0, .ref (q 0)), (1, .int v1), (2, .int v2), (3, .int v3)] [] := by
  obtain ⟨hX, hT, hF⟩ := id h
  unfold fX12_same at hf
  refine a_iload_n hX dX12_same_0 rfl 1 rfl rfl ?_
  refine a_iconst (v := 0) hX dX12_same_1 (by decide) rfl ?_
  refine a_aload_n hX dX12_same_2 rfl 0 rfl rfl ?_
  refine gX12_53 hX F_X12_376 dX12_same_3 rfl ?_
  refine a_iconst (v := 1) hX dX12_same_6 (by decide) rfl ?_
  refine a_isub hX dX12_same_7 rfl ?_
  obtain ⟨x1, hg1, hf⟩ := cl1_some hf
  refine a_cSpi (rest := []) hX hE (cX12_in hE hg1) K_X12_148 ⟨rfl, rfl, by decide, by decide⟩ ⟨Nat.zero_le _, Nat.zero_le _⟩ (Nat.le_of_ble_eq_true rfl) dX12_same_8 rfl rfl ?_
  refine a_if_eq (tgt := 37) hX dX12_same_11 rfl rfl hf (fun hf => ?_) (fun hf => ?_)
  · refine a_bipush (v := (-2)) hX dX12_same_37 (by decide) rfl ?_
    exact a_iret hX hT hF (r_iS (wf := (wM V q)) hf) dX12_same_39
  · refine a_iload_n hX dX12_same_14 rfl 2 rfl rfl ?_
    refine a_iconst (v := 0) hX dX12_same_15 (by decide) rfl ?_
    refine a_aload_n hX dX12_same_16 rfl 0 rfl rfl ?_
    refine gX12_53 hX F_X12_376 dX12_same_17 rfl ?_
    refine a_iconst (v := 1) hX dX12_same_20 (by decide) rfl ?_
    refine a_isub hX dX12_same_21 rfl ?_
    obtain ⟨x2, hg2, hf⟩ := cl1_some hf
    refine a_cSpi (rest := []) hX hE (cX12_in hE hg2) K_X12_148 ⟨rfl, rfl, by decide, by decide⟩ ⟨Nat.zero_le _, Nat.zero_le _⟩ (Nat.le_of_ble_eq_true rfl) dX12_same_22 rfl rfl ?_
    refine a_if_eq (tgt := 37) hX dX12_same_25 rfl rfl hf (fun hf => ?_) (fun hf => ?_)
    · refine a_bipush (v := (-2)) hX dX12_same_37 (by decide) rfl ?_
      exact a_iret hX hT hF (r_iS (wf := (wM V q)) hf) dX12_same_39
    · refine a_iload_n hX dX12_same_28 rfl 3 rfl rfl ?_
      refine a_iconst (v := 0) hX dX12_same_29 (by decide) rfl ?_
      refine a_iconst (v := 2) hX dX12_same_30 (by decide) rfl ?_
      obtain ⟨x3, hg3, hf⟩ := cl1_some hf
      refine a_cSpi (rest := []) hX hE (cX12_in hE hg3) K_X12_148 ⟨rfl, rfl, by decide, by decide⟩ ⟨Nat.zero_le _, Nat.zero_le _⟩ (Nat.le_of_ble_eq_true rfl) dX12_same_31 rfl rfl ?_
      refine a_if_ne (tgt := 40) hX dX12_same_34 rfl rfl hf (fun hf => ?_) (fun hf => ?_)
      · refine a_aload_n hX dX12_same_40 rfl 0 rfl rfl ?_
        obtain ⟨u5, hg4, hf⟩ := cl1_some hf
        refine a_cVsv (q0 := 0) (rest := []) hX hE (cX12_findThings (q := q) hE hg4) K_X12_385 ⟨rfl, rfl⟩ ⟨rfl, rfl, by decide, by decide⟩ ⟨Nat.zero_le _, Nat.zero_le _⟩ (Nat.le_of_ble_eq_true rfl) dX12_same_41 rfl rfl ?_
        refine a_iload_n hX dX12_same_44 rfl 3 rfl rfl ?_
        refine a_if_ne (tgt := 60) hX dX12_same_45 rfl rfl hf (fun hf => ?_) (fun hf => ?_)
        · refine a_iload_n hX dX12_same_60 rfl 3 rfl rfl ?_
          refine a_iconst (v := 1) hX dX12_same_61 (by decide) rfl ?_
          refine a_icmp_ne (tgt := 77) hX dX12_same_62 rfl rfl hf (fun hf => ?_) (fun hf => ?_)
          · refine a_aload_n hX dX12_same_77 rfl 0 rfl rfl ?_
            refine gX12_56 hX F_X12_109 dX12_same_78 rfl ?_
            refine a_iload_n hX dX12_same_81 rfl 1 rfl rfl ?_
            refine lX12_56 hX dX12_same_82 rfl hf (fun x6 hf => ?_)
            refine a_aload_n hX dX12_same_83 rfl 0 rfl rfl ?_
            refine gX12_56 hX F_X12_109 dX12_same_84 rfl ?_
            refine a_iload_n hX dX12_same_87 rfl 2 rfl rfl ?_
            refine lX12_56 hX dX12_same_88 rfl hf (fun x7 hf => ?_)
            refine a_icmp_ne (tgt := 96) hX dX12_same_89 rfl rfl hf (fun hf => ?_) (fun hf => ?_)
            · refine a_iconst (v := 0) hX dX12_same_96 (by decide) rfl ?_
              exact a_iret hX hT hF (r_iS (wf := (wM V q)) hf) dX12_same_97
            · refine a_lv (lv' := []) [] rfl ?_
              exact wX12_same_b92 h hE hf
          · refine a_aload_n hX dX12_same_65 rfl 0 rfl rfl ?_
            refine a_iload_n hX dX12_same_66 rfl 1 rfl rfl ?_
            refine a_iload_n hX dX12_same_67 rfl 2 rfl rfl ?_
            obtain ⟨x8, hg8, hf⟩ := cl1_some hf
            refine a_cVsi (q0 := 0) (rest := []) hX hE (cX12_areAtOdds (q := q) hE hg8) K_X12_379 ⟨rfl, rfl⟩ ⟨rfl, rfl, by decide, by decide⟩ ⟨Nat.zero_le _, Nat.zero_le _⟩ (Nat.le_of_ble_eq_true rfl) dX12_same_68 rfl rfl ?_
            refine a_if_eq (tgt := 96) hX dX12_same_71 rfl rfl hf (fun hf => ?_) (fun hf => ?_)
            · refine a_iconst (v := 0) hX dX12_same_96 (by decide) rfl ?_
              exact a_iret hX hT hF (r_iS (wf := (wM V q)) hf) dX12_same_97
            · refine a_goto (pc' := 92) hX dX12_same_74 rfl ?_
              refine a_lv (lv' := []) [] rfl ?_
              exact wX12_same_b92 h hE hf
        · refine a_aload_n hX dX12_same_48 rfl 0 rfl rfl ?_
          refine a_iload_n hX dX12_same_49 rfl 1 rfl rfl ?_
          refine a_iload_n hX dX12_same_50 rfl 2 rfl rfl ?_
          obtain ⟨x9, hg9, hf⟩ := cl1_some hf
          refine a_cVsi (q0 := 0) (rest := []) hX hE (cX12_match (q := q) hE hg9) K_X12_382 ⟨rfl, rfl⟩ ⟨rfl, rfl, by decide, by decide⟩ ⟨Nat.zero_le _, Nat.zero_le _⟩ (Nat.le_of_ble_eq_true rfl) dX12_same_51 rfl rfl ?_
          refine a_if_eq (tgt := 96) hX dX12_same_54 rfl rfl hf (fun hf => ?_) (fun hf => ?_)
          · refine a_iconst (v := 0) hX dX12_same_96 (by decide) rfl ?_
            exact a_iret hX hT hF (r_iS (wf := (wM V q)) hf) dX12_same_97
          · refine a_goto (pc' := 92) hX dX12_same_57 rfl ?_
            refine a_lv (lv' := []) [] rfl ?_
            exact wX12_same_b92 h hE hf
      · refine a_bipush (v := (-2)) hX dX12_same_37 (by decide) rfl ?_
        exact a_iret hX hT hF (r_iS (wf := (wM V q)) hf) dX12_same_39
theorem cX12_same {V : Vx} {q : Nat → Nat} {u : St} {res : Int32 × St} (hE : ZOK (vZ V)) {v1 : Int32} {v2 : Int32} {v3 : Int32} (hf : fX12_same u v1 v2 v3 = some res) : Ct V yX12_same (.code yX12_same cX12_same 4 (some .int)) rmX12_same 0 0 [.ref (q 0), .int v1, .int v2, .int v3] (wM V q u) (rEq (some (.int res.1)) (wM V q res.2)) :=
  Ct_of (by decide) (Nat.le_of_ble_eq_true rfl) rfl (fun X hX hT _ hF => wX12_same ⟨hX, hT, hF⟩ hE hf)
def rmX12_hasCopy : Room := { frames := 1, cells := 0, slots := 0, locals := 22 }
def fX12_hasCopy_b53 (u : St) (k2 : Int32 → Option (Int32)) (k14 : Int32 → Option (Int32)) (v1 : Int32) (v2 : Int32) (v3 : Int32) : Option (Int32) := k14 (v3 + 1)
theorem wX12_hasCopy_b53 {X : Cx} {V : Vx} {q : Nat → Nat} {u : St} {res : Int32} (h : Run X cX12_hasCopy 4 RX12 rmX12_hasCopy V (some .boolean) (rEq (some (.int res)) (wM V q u))) (hE : ZOK (vZ V)) {v1 : Int32} {v2 : Int32} {v3 : Int32} {k2 : Int32 → Option (Int32)} (hk2 : ∀ (v2 : Int32), k2 v2 = some res → At X 4 0 0 (wM V q u) 2 [(0, .ref (q 0)), (1, .int v1), (2, .int v2)] []) {k14 : Int32 → Option (Int32)} (hk14 : ∀ (v3 : Int32), k14 v3 = some res → At X 4 0 0 (wM V q u) 14 [(0, .ref (q 0)), (1, .int v1), (2, .int v2), (3, .int v3)] []) (hf : fX12_hasCopy_b53 u k2 k14 v1 v2 v3 = some res) : At X 4 0 0 (wM V q u) 53 [(0, .ref (q 0)), (1, .int v1), (2, .int v2), (3, .int v3)] [] := by
  obtain ⟨hX, hT, hF⟩ := id h
  unfold fX12_hasCopy_b53 at hf
  refine a_iinc (v := v3 + 1) (lv' := [(3, .int (v3 + 1)), (0, .ref (q 0)), (1, .int v1), (2, .int v2)]) hX dX12_hasCopy_53 3 rfl rfl (by decide) rfl rfl ?_
  refine a_goto (pc' := 14) hX dX12_hasCopy_56 rfl ?_
  refine a_lv (lv' := [(0, .ref (q 0)), (1, .int v1), (2, .int v2), (3, .int (v3 + 1))]) [1, 2, 3, 0] rfl ?_
  exact hk14 (v3 + 1) hf
def fX12_hasCopy_l14b (u : St) (k2 : Int32 → Option (Int32)) (k14 : Int32 → Option (Int32)) (v1 : Int32) (v2 : Int32) (v3 : Int32) : Option (Int32) := if gZ u 53 ≤ v3 then k2 (v2 + 1) else (ldI (gA u 56) 10 v2 (fun x2 => if x2 = v1 then ldI (gA u 56) 10 v3 (fun x3 => if x3 = v1 then cl1 (fX12_areAtOdds u v2 v3) (fun x4 => if x4 = 0 then fX12_hasCopy_b53 u k2 k14 v1 v2 v3 else (some 1)) else (fX12_hasCopy_b53 u k2 k14 v1 v2 v3)) else (fX12_hasCopy_b53 u k2 k14 v1 v2 v3)))
theorem wX12_hasCopy_l14b {X : Cx} {V : Vx} {q : Nat → Nat} {u : St} {res : Int32} (h : Run X cX12_hasCopy 4 RX12 rmX12_hasCopy V (some .boolean) (rEq (some (.int res)) (wM V q u))) (hE : ZOK (vZ V)) {v1 : Int32} {v2 : Int32} {v3 : Int32} {k2 : Int32 → Option (Int32)} (hk2 : ∀ (v2 : Int32), k2 v2 = some res → At X 4 0 0 (wM V q u) 2 [(0, .ref (q 0)), (1, .int v1), (2, .int v2)] []) {k14 : Int32 → Option (Int32)} (hk14 : ∀ (v3 : Int32), k14 v3 = some res → At X 4 0 0 (wM V q u) 14 [(0, .ref (q 0)), (1, .int v1), (2, .int v2), (3, .int v3)] []) (hf : fX12_hasCopy_l14b u k2 k14 v1 v2 v3 = some res) : At X 4 0 0 (wM V q u) 14 [(0, .ref (q 0)), (1, .int v1), (2, .int v2), (3, .int v3)] [] := by
  obtain ⟨hX, hT, hF⟩ := id h
  unfold fX12_hasCopy_l14b at hf
  refine a_iload_n hX dX12_hasCopy_14 rfl 3 rfl rfl ?_
  refine a_aload_n hX dX12_hasCopy_15 rfl 0 rfl rfl ?_
  refine gX12_53 hX F_X12_376 dX12_hasCopy_16 rfl ?_
  refine a_icmp_ge (tgt := 59) hX dX12_hasCopy_19 rfl rfl hf (fun hf => ?_) (fun hf => ?_)
  · refine a_iinc (v := v2 + 1) (lv' := [(2, .int (v2 + 1)), (0, .ref (q 0)), (1, .int v1), (3, .int v3)]) hX dX12_hasCopy_59 2 rfl rfl (by decide) rfl rfl ?_
    refine a_goto (pc' := 2) hX dX12_hasCopy_62 rfl ?_
    refine a_lv (lv' := [(0, .ref (q 0)), (1, .int v1), (2, .int (v2 + 1))]) [1, 2, 0] rfl ?_
    exact hk2 (v2 + 1) hf
  · refine a_aload_n hX dX12_hasCopy_22 rfl 0 rfl rfl ?_
    refine gX12_56 hX F_X12_109 dX12_hasCopy_23 rfl ?_
    refine a_iload_n hX dX12_hasCopy_26 rfl 2 rfl rfl ?_
    refine lX12_56 hX dX12_hasCopy_27 rfl hf (fun x2 hf => ?_)
    refine a_iload_n hX dX12_hasCopy_28 rfl 1 rfl rfl ?_
    refine a_icmp_ne (tgt := 53) hX dX12_hasCopy_29 rfl rfl hf (fun hf => ?_) (fun hf => ?_)
    · exact wX12_hasCopy_b53 h hE hk2 hk14 hf
    · refine a_aload_n hX dX12_hasCopy_32 rfl 0 rfl rfl ?_
      refine gX12_56 hX F_X12_109 dX12_hasCopy_33 rfl ?_
      refine a_iload_n hX dX12_hasCopy_36 rfl 3 rfl rfl ?_
      refine lX12_56 hX dX12_hasCopy_37 rfl hf (fun x3 hf => ?_)
      refine a_iload_n hX dX12_hasCopy_38 rfl 1 rfl rfl ?_
      refine a_icmp_ne (tgt := 53) hX dX12_hasCopy_39 rfl rfl hf (fun hf => ?_) (fun hf => ?_)
      · exact wX12_hasCopy_b53 h hE hk2 hk14 hf
      · refine a_aload_n hX dX12_hasCopy_42 rfl 0 rfl rfl ?_
        refine a_iload_n hX dX12_hasCopy_43 rfl 2 rfl rfl ?_
        refine a_iload_n hX dX12_hasCopy_44 rfl 3 rfl rfl ?_
        obtain ⟨x4, hg4, hf⟩ := cl1_some hf
        refine a_cVsi (q0 := 0) (rest := []) hX hE (cX12_areAtOdds (q := q) hE hg4) K_X12_379 ⟨rfl, rfl⟩ ⟨rfl, rfl, by decide, by decide⟩ ⟨Nat.zero_le _, Nat.zero_le _⟩ (Nat.le_of_ble_eq_true rfl) dX12_hasCopy_45 rfl rfl ?_
        refine a_if_eq (tgt := 53) hX dX12_hasCopy_48 rfl rfl hf (fun hf => ?_) (fun hf => ?_)
        · exact wX12_hasCopy_b53 h hE hk2 hk14 hf
        · refine a_iconst (v := 1) hX dX12_hasCopy_51 (by decide) rfl ?_
          exact a_zret hX hT (by decide) hF (r_i hf) dX12_hasCopy_52
def fX12_hasCopy_l14 (u : St) (k2 : Int32 → Option (Int32)) (v1 : Int32) (v2 : Int32) : Nat → Int32 → Option (Int32)
  | 0, _ => none
  | m + 1, v3 => fX12_hasCopy_l14b u k2 (fX12_hasCopy_l14 u k2 v1 v2 m) v1 v2 v3
theorem wX12_hasCopy_l14 {X : Cx} {V : Vx} {q : Nat → Nat} {u : St} {res : Int32} (h : Run X cX12_hasCopy 4 RX12 rmX12_hasCopy V (some .boolean) (rEq (some (.int res)) (wM V q u))) (hE : ZOK (vZ V)) {v1 : Int32} {v2 : Int32} {k2 : Int32 → Option (Int32)} (hk2 : ∀ (v2 : Int32), k2 v2 = some res → At X 4 0 0 (wM V q u) 2 [(0, .ref (q 0)), (1, .int v1), (2, .int v2)] []) : ∀ (m : Nat) (v3 : Int32), fX12_hasCopy_l14 u k2 v1 v2 m v3 = some res → At X 4 0 0 (wM V q u) 14 [(0, .ref (q 0)), (1, .int v1), (2, .int v2), (3, .int v3)] [] := by
  intro m
  induction m with
  | zero => intro v3 hf; cases hf
  | succ m ih => intro v3 hf; exact wX12_hasCopy_l14b h hE hk2 ih hf
def fX12_hasCopy_l2b (u : St) (k2 : Int32 → Option (Int32)) (v1 : Int32) (v2 : Int32) : Option (Int32) := if gZ u 53 ≤ v2 then some 0 else (nmI (v2 + 1) (fun x1 => fX12_hasCopy_l14 u k2 v1 v2 NF x1))
theorem wX12_hasCopy_l2b {X : Cx} {V : Vx} {q : Nat → Nat} {u : St} {res : Int32} (h : Run X cX12_hasCopy 4 RX12 rmX12_hasCopy V (some .boolean) (rEq (some (.int res)) (wM V q u))) (hE : ZOK (vZ V)) {v1 : Int32} {v2 : Int32} {k2 : Int32 → Option (Int32)} (hk2 : ∀ (v2 : Int32), k2 v2 = some res → At X 4 0 0 (wM V q u) 2 [(0, .ref (q 0)), (1, .int v1), (2, .int v2)] []) (hf : fX12_hasCopy_l2b u k2 v1 v2 = some res) : At X 4 0 0 (wM V q u) 2 [(0, .ref (q 0)), (1, .int v1), (2, .int v2)] [] := by
  obtain ⟨hX, hT, hF⟩ := id h
  unfold fX12_hasCopy_l2b at hf
  refine a_iload_n hX dX12_hasCopy_2 rfl 2 rfl rfl ?_
  refine a_aload_n hX dX12_hasCopy_3 rfl 0 rfl rfl ?_
  refine gX12_53 hX F_X12_376 dX12_hasCopy_4 rfl ?_
  refine a_icmp_ge (tgt := 65) hX dX12_hasCopy_7 rfl rfl hf (fun hf => ?_) (fun hf => ?_)
  · refine a_iconst (v := 0) hX dX12_hasCopy_65 (by decide) rfl ?_
    exact a_zret hX hT (by decide) hF (r_i hf) dX12_hasCopy_66
  · refine a_iload_n hX dX12_hasCopy_10 rfl 2 rfl rfl ?_
    refine a_iconst (v := 1) hX dX12_hasCopy_11 (by decide) rfl ?_
    refine a_iadd hX dX12_hasCopy_12 rfl ?_
    refine a_nmI hf (fun x1 hf => ?_)
    refine a_istore_n (lv' := [(3, .int x1), (0, .ref (q 0)), (1, .int v1), (2, .int v2)]) hX dX12_hasCopy_13 rfl (by decide) rfl rfl ?_
    refine a_lv (lv' := [(0, .ref (q 0)), (1, .int v1), (2, .int v2), (3, .int x1)]) [1, 2, 3, 0] rfl ?_
    exact wX12_hasCopy_l14 h hE hk2 NF x1 hf
def fX12_hasCopy_l2 (u : St)  (v1 : Int32) : Nat → Int32 → Option (Int32)
  | 0, _ => none
  | m + 1, v2 => fX12_hasCopy_l2b u (fX12_hasCopy_l2 u  v1 m) v1 v2
theorem wX12_hasCopy_l2 {X : Cx} {V : Vx} {q : Nat → Nat} {u : St} {res : Int32} (h : Run X cX12_hasCopy 4 RX12 rmX12_hasCopy V (some .boolean) (rEq (some (.int res)) (wM V q u))) (hE : ZOK (vZ V)) {v1 : Int32} : ∀ (m : Nat) (v2 : Int32), fX12_hasCopy_l2 u  v1 m v2 = some res → At X 4 0 0 (wM V q u) 2 [(0, .ref (q 0)), (1, .int v1), (2, .int v2)] [] := by
  intro m
  induction m with
  | zero => intro v2 hf; cases hf
  | succ m ih => intro v2 hf; exact wX12_hasCopy_l2b h hE ih hf
def fX12_hasCopy (u : St) (v1 : Int32) : Option (Int32) := fX12_hasCopy_l2 u v1 NF 0
theorem wX12_hasCopy {X : Cx} {V : Vx} {q : Nat → Nat} {u : St} {res : Int32} (h : Run X cX12_hasCopy 4 RX12 rmX12_hasCopy V (some .boolean) (rEq (some (.int res)) (wM V q u))) (hE : ZOK (vZ V)) {v1 : Int32} (hf : fX12_hasCopy u v1 = some res) : At X 4 0 0 (wM V q u) 0 [(0, .ref (q 0)), (1, .int v1)] [] := by
  obtain ⟨hX, hT, hF⟩ := id h
  unfold fX12_hasCopy at hf
  refine a_iconst (v := 0) hX dX12_hasCopy_0 (by decide) rfl ?_
  refine a_istore_n (lv' := [(2, .int 0), (0, .ref (q 0)), (1, .int v1)]) hX dX12_hasCopy_1 rfl (by decide) rfl rfl ?_
  refine a_lv (lv' := [(0, .ref (q 0)), (1, .int v1), (2, .int 0)]) [1, 2, 0] rfl ?_
  exact wX12_hasCopy_l2 h hE NF 0 hf
theorem cX12_hasCopy {V : Vx} {q : Nat → Nat} {u : St} {res : Int32} (hE : ZOK (vZ V)) {v1 : Int32} (hf : fX12_hasCopy u v1 = some res) : Ct V yX12_hasCopy (.code yX12_hasCopy cX12_hasCopy 4 (some .boolean)) rmX12_hasCopy 0 0 [.ref (q 0), .int v1] (wM V q u) (rEq (some (.int res)) (wM V q u)) :=
  Ct_of (by decide) (Nat.le_of_ble_eq_true rfl) rfl (fun X hX hT _ hF => wX12_hasCopy ⟨hX, hT, hF⟩ hE hf)
def rmX12_things : Room := { frames := 3, cells := 0, slots := 0, locals := 67 }
def fX12_things_b59  (k22 : Int32 → Int32 → Option (Int32 × St)) (u : St) (v1 : Int32) (v3 : Int32) (s0 : Int32) (s1 : Int32) : Option (Int32 × St) := nmI (s1 + s0) (fun x5 => k22 x5 (v3 + 1))
theorem wX12_things_b59 {X : Cx} {V : Vx} {q : Nat → Nat} {res : Int32 × St} (h : Run X cX12_things 4 RX12 rmX12_things V (some .int) (rEq (some (.int res.1)) (wM V q res.2))) (hE : ZOK (vZ V)) {u : St} {v1 : Int32} {v3 : Int32} {s0 : Int32} {s1 : Int32} {k22 : Int32 → Int32 → Option (Int32 × St)} (hk22 : ∀ (v2 : Int32) (v3 : Int32), k22 v2 v3 = some res → At X 4 0 0 (wM V q u) 22 [(0, .ref (q 0)), (1, .int v1), (2, .int v2), (3, .int v3)] []) (hf : fX12_things_b59  k22 u v1 v3 s0 s1 = some res) : At X 4 0 0 (wM V q u) 59 [(0, .ref (q 0)), (1, .int v1), (3, .int v3)] [.int s0, .int s1] := by
  obtain ⟨hX, hT, hF⟩ := id h
  unfold fX12_things_b59 at hf
  refine a_iadd hX dX12_things_59 rfl ?_
  refine a_nmI hf (fun x5 hf => ?_)
  refine a_istore_n (lv' := [(2, .int x5), (0, .ref (q 0)), (1, .int v1), (3, .int v3)]) hX dX12_things_60 rfl (by decide) rfl rfl ?_
  refine a_iinc (v := v3 + 1) (lv' := [(3, .int (v3 + 1)), (2, .int x5), (0, .ref (q 0)), (1, .int v1)]) hX dX12_things_61 3 rfl rfl (by decide) rfl rfl ?_
  refine a_goto (pc' := 22) hX dX12_things_64 rfl ?_
  refine a_lv (lv' := [(0, .ref (q 0)), (1, .int v1), (2, .int x5), (3, .int (v3 + 1))]) [2, 3, 1, 0] rfl ?_
  exact hk22 x5 (v3 + 1) hf
def fX12_things_b54  (k22 : Int32 → Int32 → Option (Int32 × St)) (u : St) (v1 : Int32) (v3 : Int32) (s0 : Int32) : Option (Int32 × St) := fX12_things_b59 k22 u v1 v3 1 s0
theorem wX12_things_b54 {X : Cx} {V : Vx} {q : Nat → Nat} {res : Int32 × St} (h : Run X cX12_things 4 RX12 rmX12_things V (some .int) (rEq (some (.int res.1)) (wM V q res.2))) (hE : ZOK (vZ V)) {u : St} {v1 : Int32} {v3 : Int32} {s0 : Int32} {k22 : Int32 → Int32 → Option (Int32 × St)} (hk22 : ∀ (v2 : Int32) (v3 : Int32), k22 v2 v3 = some res → At X 4 0 0 (wM V q u) 22 [(0, .ref (q 0)), (1, .int v1), (2, .int v2), (3, .int v3)] []) (hf : fX12_things_b54  k22 u v1 v3 s0 = some res) : At X 4 0 0 (wM V q u) 54 [(0, .ref (q 0)), (1, .int v1), (3, .int v3)] [.int s0] := by
  obtain ⟨hX, hT, hF⟩ := id h
  unfold fX12_things_b54 at hf
  refine a_iconst (v := 1) hX dX12_things_54 (by decide) rfl ?_
  refine a_goto (pc' := 59) hX dX12_things_55 rfl ?_
  exact wX12_things_b59 h hE hk22 hf
def fX12_things_b58  (k22 : Int32 → Int32 → Option (Int32 × St)) (u : St) (v1 : Int32) (v3 : Int32) (s0 : Int32) : Option (Int32 × St) := fX12_things_b59 k22 u v1 v3 0 s0
theorem wX12_things_b58 {X : Cx} {V : Vx} {q : Nat → Nat} {res : Int32 × St} (h : Run X cX12_things 4 RX12 rmX12_things V (some .int) (rEq (some (.int res.1)) (wM V q res.2))) (hE : ZOK (vZ V)) {u : St} {v1 : Int32} {v3 : Int32} {s0 : Int32} {k22 : Int32 → Int32 → Option (Int32 × St)} (hk22 : ∀ (v2 : Int32) (v3 : Int32), k22 v2 v3 = some res → At X 4 0 0 (wM V q u) 22 [(0, .ref (q 0)), (1, .int v1), (2, .int v2), (3, .int v3)] []) (hf : fX12_things_b58  k22 u v1 v3 s0 = some res) : At X 4 0 0 (wM V q u) 58 [(0, .ref (q 0)), (1, .int v1), (3, .int v3)] [.int s0] := by
  obtain ⟨hX, hT, hF⟩ := id h
  unfold fX12_things_b58 at hf
  refine a_iconst (v := 0) hX dX12_things_58 (by decide) rfl ?_
  exact wX12_things_b59 h hE hk22 hf
def fX12_things_l22b  (k22 : Int32 → Int32 → Option (Int32 × St)) (u : St) (v1 : Int32) (v2 : Int32) (v3 : Int32) : Option (Int32 × St) := if gZ u 53 ≤ v3 then some (v2, u) else (ldI (gA u 56) 10 v3 (fun x3 => if x3 = v3 then if v1 = (-1) then fX12_things_b54 k22 u v1 v3 v2 else (cl1 (fX12_hasCopy u v3) (fun x4 => if x4 = 0 then fX12_things_b58 k22 u v1 v3 v2 else (fX12_things_b54 k22 u v1 v3 v2))) else (fX12_things_b58 k22 u v1 v3 v2)))
theorem wX12_things_l22b {X : Cx} {V : Vx} {q : Nat → Nat} {res : Int32 × St} (h : Run X cX12_things 4 RX12 rmX12_things V (some .int) (rEq (some (.int res.1)) (wM V q res.2))) (hE : ZOK (vZ V)) {u : St} {v1 : Int32} {v2 : Int32} {v3 : Int32} {k22 : Int32 → Int32 → Option (Int32 × St)} (hk22 : ∀ (v2 : Int32) (v3 : Int32), k22 v2 v3 = some res → At X 4 0 0 (wM V q u) 22 [(0, .ref (q 0)), (1, .int v1), (2, .int v2), (3, .int v3)] []) (hf : fX12_things_l22b  k22 u v1 v2 v3 = some res) : At X 4 0 0 (wM V q u) 22 [(0, .ref (q 0)), (1, .int v1), (2, .int v2), (3, .int v3)] [] := by
  obtain ⟨hX, hT, hF⟩ := id h
  unfold fX12_things_l22b at hf
  refine a_iload_n hX dX12_things_22 rfl 3 rfl rfl ?_
  refine a_aload_n hX dX12_things_23 rfl 0 rfl rfl ?_
  refine gX12_53 hX F_X12_376 dX12_things_24 rfl ?_
  refine a_icmp_ge (tgt := 67) hX dX12_things_27 rfl rfl hf (fun hf => ?_) (fun hf => ?_)
  · refine a_iload_n hX dX12_things_67 rfl 2 rfl rfl ?_
    exact a_iret hX hT hF (r_iS (wf := (wM V q)) hf) dX12_things_68
  · refine a_iload_n hX dX12_things_30 rfl 2 rfl rfl ?_
    refine a_aload_n hX dX12_things_31 rfl 0 rfl rfl ?_
    refine gX12_56 hX F_X12_109 dX12_things_32 rfl ?_
    refine a_iload_n hX dX12_things_35 rfl 3 rfl rfl ?_
    refine lX12_56 hX dX12_things_36 rfl hf (fun x3 hf => ?_)
    refine a_iload_n hX dX12_things_37 rfl 3 rfl rfl ?_
    refine a_icmp_ne (tgt := 58) hX dX12_things_38 rfl rfl hf (fun hf => ?_) (fun hf => ?_)
    · refine a_lv (lv' := [(0, .ref (q 0)), (1, .int v1), (3, .int v3)]) [0, 1, 3] rfl ?_
      exact wX12_things_b58 h hE hk22 hf
    · refine a_iload_n hX dX12_things_41 rfl 1 rfl rfl ?_
      refine a_iconst (v := (-1)) hX dX12_things_42 (by decide) rfl ?_
      refine a_icmp_eq (tgt := 54) hX dX12_things_43 rfl rfl hf (fun hf => ?_) (fun hf => ?_)
      · refine a_lv (lv' := [(0, .ref (q 0)), (1, .int v1), (3, .int v3)]) [0, 1, 3] rfl ?_
        exact wX12_things_b54 h hE hk22 hf
      · refine a_aload_n hX dX12_things_46 rfl 0 rfl rfl ?_
        refine a_iload_n hX dX12_things_47 rfl 3 rfl rfl ?_
        obtain ⟨x4, hg4, hf⟩ := cl1_some hf
        refine a_cVsi (q0 := 0) (rest := [.int v2]) hX hE (cX12_hasCopy (q := q) hE hg4) K_X12_388 ⟨rfl, rfl⟩ ⟨rfl, rfl, by decide, by decide⟩ ⟨Nat.zero_le _, Nat.zero_le _⟩ (Nat.le_of_ble_eq_true rfl) dX12_things_48 rfl rfl ?_
        refine a_if_eq (tgt := 58) hX dX12_things_51 rfl rfl hf (fun hf => ?_) (fun hf => ?_)
        · refine a_lv (lv' := [(0, .ref (q 0)), (1, .int v1), (3, .int v3)]) [0, 1, 3] rfl ?_
          exact wX12_things_b58 h hE hk22 hf
        · refine a_lv (lv' := [(0, .ref (q 0)), (1, .int v1), (3, .int v3)]) [0, 1, 3] rfl ?_
          exact wX12_things_b54 h hE hk22 hf
def fX12_things_l22   (u : St) (v1 : Int32) : Nat → Int32 → Int32 → Option (Int32 × St)
  | 0, _, _ => none
  | m + 1, v2, v3 => fX12_things_l22b  (fX12_things_l22   u v1 m) u v1 v2 v3
theorem wX12_things_l22 {X : Cx} {V : Vx} {q : Nat → Nat} {res : Int32 × St} (h : Run X cX12_things 4 RX12 rmX12_things V (some .int) (rEq (some (.int res.1)) (wM V q res.2))) (hE : ZOK (vZ V)) {u : St} {v1 : Int32} : ∀ (m : Nat) (v2 : Int32) (v3 : Int32), fX12_things_l22   u v1 m v2 v3 = some res → At X 4 0 0 (wM V q u) 22 [(0, .ref (q 0)), (1, .int v1), (2, .int v2), (3, .int v3)] [] := by
  intro m
  induction m with
  | zero => intro v2 v3 hf; cases hf
  | succ m ih => intro v2 v3 hf; exact wX12_things_l22b h hE ih hf
def fX12_things_b14   (u : St) (v1 : Int32) : Option (Int32 × St) := cl1 (fX12_findThings u) (fun u2 => fX12_things_l22 u2 v1 NF 0 0)
theorem wX12_things_b14 {X : Cx} {V : Vx} {q : Nat → Nat} {res : Int32 × St} (h : Run X cX12_things 4 RX12 rmX12_things V (some .int) (rEq (some (.int res.1)) (wM V q res.2))) (hE : ZOK (vZ V)) {u : St} {v1 : Int32} (hf : fX12_things_b14   u v1 = some res) : At X 4 0 0 (wM V q u) 14 [(0, .ref (q 0)), (1, .int v1)] [] := by
  obtain ⟨hX, hT, hF⟩ := id h
  unfold fX12_things_b14 at hf
  refine a_aload_n hX dX12_things_14 rfl 0 rfl rfl ?_
  obtain ⟨u2, hg1, hf⟩ := cl1_some hf
  refine a_cVsv (q0 := 0) (rest := []) hX hE (cX12_findThings (q := q) hE hg1) K_X12_385 ⟨rfl, rfl⟩ ⟨rfl, rfl, by decide, by decide⟩ ⟨Nat.zero_le _, Nat.zero_le _⟩ (Nat.le_of_ble_eq_true rfl) dX12_things_15 rfl rfl ?_
  refine a_iconst (v := 0) hX dX12_things_18 (by decide) rfl ?_
  refine a_istore_n (lv' := [(2, .int 0), (0, .ref (q 0)), (1, .int v1)]) hX dX12_things_19 rfl (by decide) rfl rfl ?_
  refine a_iconst (v := 0) hX dX12_things_20 (by decide) rfl ?_
  refine a_istore_n (lv' := [(3, .int 0), (2, .int 0), (0, .ref (q 0)), (1, .int v1)]) hX dX12_things_21 rfl (by decide) rfl rfl ?_
  refine a_lv (lv' := [(0, .ref (q 0)), (1, .int v1), (2, .int 0), (3, .int 0)]) [2, 3, 1, 0] rfl ?_
  exact wX12_things_l22 h hE NF 0 0 hf
def fX12_things (u : St) (v1 : Int32) : Option (Int32 × St) := if v1 = (-1) then fX12_things_b14 u v1 else (if v1 = (-2) then fX12_things_b14 u v1 else (some ((-2), u)))
theorem wX12_things {X : Cx} {V : Vx} {q : Nat → Nat} {res : Int32 × St} (h : Run X cX12_things 4 RX12 rmX12_things V (some .int) (rEq (some (.int res.1)) (wM V q res.2))) (hE : ZOK (vZ V)) {u : St} {v1 : Int32} (hf : fX12_things u v1 = some res) : At X 4 0 0 (wM V q u) 0 [(0, .ref (q 0)), (1, .int v1)] [] := by
  obtain ⟨hX, hT, hF⟩ := id h
  unfold fX12_things at hf
  refine a_iload_n hX dX12_things_0 rfl 1 rfl rfl ?_
  refine a_iconst (v := (-1)) hX dX12_things_1 (by decide) rfl ?_
  refine a_icmp_eq (tgt := 14) hX dX12_things_2 rfl rfl hf (fun hf => ?_) (fun hf => ?_)
  · exact wX12_things_b14 h hE hf
  · refine a_iload_n hX dX12_things_5 rfl 1 rfl rfl ?_
    refine a_bipush (v := (-2)) hX dX12_things_6 (by decide) rfl ?_
    refine a_icmp_eq (tgt := 14) hX dX12_things_8 rfl rfl hf (fun hf => ?_) (fun hf => ?_)
    · exact wX12_things_b14 h hE hf
    · refine a_bipush (v := (-2)) hX dX12_things_11 (by decide) rfl ?_
      exact a_iret hX hT hF (r_iS (wf := (wM V q)) hf) dX12_things_13
theorem cX12_things {V : Vx} {q : Nat → Nat} {u : St} {res : Int32 × St} (hE : ZOK (vZ V)) {v1 : Int32} (hf : fX12_things u v1 = some res) : Ct V yX12_things (.code yX12_things cX12_things 4 (some .int)) rmX12_things 0 0 [.ref (q 0), .int v1] (wM V q u) (rEq (some (.int res.1)) (wM V q res.2)) :=
  Ct_of (by decide) (Nat.le_of_ble_eq_true rfl) rfl (fun X hX hT _ hF => wX12_things ⟨hX, hT, hF⟩ hE hf)
def rmX12_count : Room := { frames := 1, cells := 0, slots := 0, locals := 23 }
def fX12_count (u : St) (v1 : Int32) : Option (Int32) := if v1 = 0 then some (gZ u 1) else (if v1 = 1 then some (gZ u 3) else (if v1 = 2 then some (gZ u 8) else (if v1 = 3 then cl1 (fX12_standing u (-1)) (fun x1 => cl1 (fX12_bitsOf x1) (fun x2 => some x2)) else (if v1 = 4 then some (gZ u 38) else (if v1 = 5 then some (gZ u 45) else (if v1 = 6 then some (gZ u 47) else (if v1 = 7 then some (gZ u 53) else (if v1 = 8 then some (gZ u 23) else (if v1 = 9 then some (gZ u 25) else (if v1 = 10 then some (gZ u 2) else (some (-2))))))))))))
theorem wX12_count {X : Cx} {V : Vx} {q : Nat → Nat} {u : St} {res : Int32} (h : Run X cX12_count 2 RX12 rmX12_count V (some .int) (rEq (some (.int res)) (wM V q u))) (hE : ZOK (vZ V)) {v1 : Int32} (hf : fX12_count u v1 = some res) : At X 2 0 0 (wM V q u) 0 [(0, .ref (q 0)), (1, .int v1)] [] := by
  obtain ⟨hX, hT, hF⟩ := id h
  unfold fX12_count at hf
  refine a_iload_n hX dX12_count_0 rfl 1 rfl rfl ?_
  by_cases hs0 : v1 = 0
  · rw [if_pos hs0] at hf
    refine a_tsw (pc' := 60) hX dX12_count_1 0 hs0 (by decide) (by decide) rfl rfl ?_
    refine a_aload_n hX dX12_count_60 rfl 0 rfl rfl ?_
    refine gX12_1 hX F_X12_124 dX12_count_61 rfl ?_
    exact a_iret hX hT hF (r_i hf) dX12_count_64
  · rw [if_neg hs0] at hf
    by_cases hs1 : v1 = 1
    · rw [if_pos hs1] at hf
      refine a_tsw (pc' := 65) hX dX12_count_1 1 hs1 (by decide) (by decide) rfl rfl ?_
      refine a_aload_n hX dX12_count_65 rfl 0 rfl rfl ?_
      refine gX12_3 hX F_X12_159 dX12_count_66 rfl ?_
      exact a_iret hX hT hF (r_i hf) dX12_count_69
    · rw [if_neg hs1] at hf
      by_cases hs2 : v1 = 2
      · rw [if_pos hs2] at hf
        refine a_tsw (pc' := 70) hX dX12_count_1 2 hs2 (by decide) (by decide) rfl rfl ?_
        refine a_aload_n hX dX12_count_70 rfl 0 rfl rfl ?_
        refine gX12_8 hX F_X12_162 dX12_count_71 rfl ?_
        exact a_iret hX hT hF (r_i hf) dX12_count_74
      · rw [if_neg hs2] at hf
        by_cases hs3 : v1 = 3
        · rw [if_pos hs3] at hf
          refine a_tsw (pc' := 75) hX dX12_count_1 3 hs3 (by decide) (by decide) rfl rfl ?_
          refine a_aload_n hX dX12_count_75 rfl 0 rfl rfl ?_
          refine a_iconst (v := (-1)) hX dX12_count_76 (by decide) rfl ?_
          obtain ⟨x1, hg1, hf⟩ := cl1_some hf
          refine a_cVsi (q0 := 0) (rest := []) hX hE (cX12_standing (q := q) hE hg1) K_X12_168 ⟨rfl, rfl⟩ ⟨rfl, rfl, by decide, by decide⟩ ⟨Nat.zero_le _, Nat.zero_le _⟩ (Nat.le_of_ble_eq_true rfl) dX12_count_77 rfl rfl ?_
          obtain ⟨x2, hg2, hf⟩ := cl1_some hf
          refine a_cSpi (rest := []) hX hE (cX12_bitsOf hE hg2) K_X12_179 ⟨rfl, rfl, by decide, by decide⟩ ⟨Nat.zero_le _, Nat.zero_le _⟩ (Nat.le_of_ble_eq_true rfl) dX12_count_80 rfl rfl ?_
          exact a_iret hX hT hF (r_i hf) dX12_count_83
        · rw [if_neg hs3] at hf
          by_cases hs4 : v1 = 4
          · rw [if_pos hs4] at hf
            refine a_tsw (pc' := 84) hX dX12_count_1 4 hs4 (by decide) (by decide) rfl rfl ?_
            refine a_aload_n hX dX12_count_84 rfl 0 rfl rfl ?_
            refine gX12_38 hX F_X12_333 dX12_count_85 rfl ?_
            exact a_iret hX hT hF (r_i hf) dX12_count_88
          · rw [if_neg hs4] at hf
            by_cases hs5 : v1 = 5
            · rw [if_pos hs5] at hf
              refine a_tsw (pc' := 89) hX dX12_count_1 5 hs5 (by decide) (by decide) rfl rfl ?_
              refine a_aload_n hX dX12_count_89 rfl 0 rfl rfl ?_
              refine gX12_45 hX F_X12_346 dX12_count_90 rfl ?_
              exact a_iret hX hT hF (r_i hf) dX12_count_93
            · rw [if_neg hs5] at hf
              by_cases hs6 : v1 = 6
              · rw [if_pos hs6] at hf
                refine a_tsw (pc' := 94) hX dX12_count_1 6 hs6 (by decide) (by decide) rfl rfl ?_
                refine a_aload_n hX dX12_count_94 rfl 0 rfl rfl ?_
                refine gX12_47 hX F_X12_364 dX12_count_95 rfl ?_
                exact a_iret hX hT hF (r_i hf) dX12_count_98
              · rw [if_neg hs6] at hf
                by_cases hs7 : v1 = 7
                · rw [if_pos hs7] at hf
                  refine a_tsw (pc' := 99) hX dX12_count_1 7 hs7 (by decide) (by decide) rfl rfl ?_
                  refine a_aload_n hX dX12_count_99 rfl 0 rfl rfl ?_
                  refine gX12_53 hX F_X12_376 dX12_count_100 rfl ?_
                  exact a_iret hX hT hF (r_i hf) dX12_count_103
                · rw [if_neg hs7] at hf
                  by_cases hs8 : v1 = 8
                  · rw [if_pos hs8] at hf
                    refine a_tsw (pc' := 104) hX dX12_count_1 8 hs8 (by decide) (by decide) rfl rfl ?_
                    refine a_aload_n hX dX12_count_104 rfl 0 rfl rfl ?_
                    refine gX12_23 hX F_X12_137 dX12_count_105 rfl ?_
                    exact a_iret hX hT hF (r_i hf) dX12_count_108
                  · rw [if_neg hs8] at hf
                    by_cases hs9 : v1 = 9
                    · rw [if_pos hs9] at hf
                      refine a_tsw (pc' := 109) hX dX12_count_1 9 hs9 (by decide) (by decide) rfl rfl ?_
                      refine a_aload_n hX dX12_count_109 rfl 0 rfl rfl ?_
                      refine gX12_25 hX F_X12_206 dX12_count_110 rfl ?_
                      exact a_iret hX hT hF (r_i hf) dX12_count_113
                    · rw [if_neg hs9] at hf
                      by_cases hs10 : v1 = 10
                      · rw [if_pos hs10] at hf
                        refine a_tsw (pc' := 114) hX dX12_count_1 10 hs10 (by decide) (by decide) rfl rfl ?_
                        refine a_aload_n hX dX12_count_114 rfl 0 rfl rfl ?_
                        refine gX12_2 hX F_X12_140 dX12_count_115 rfl ?_
                        exact a_iret hX hT hF (r_i hf) dX12_count_118
                      · rw [if_neg hs10] at hf
                        have hs0 : ¬ Int32.toInt v1 = 0 := ne_toInt hs0
                        have hs1 : ¬ Int32.toInt v1 = 1 := ne_toInt hs1
                        have hs2 : ¬ Int32.toInt v1 = 2 := ne_toInt hs2
                        have hs3 : ¬ Int32.toInt v1 = 3 := ne_toInt hs3
                        have hs4 : ¬ Int32.toInt v1 = 4 := ne_toInt hs4
                        have hs5 : ¬ Int32.toInt v1 = 5 := ne_toInt hs5
                        have hs6 : ¬ Int32.toInt v1 = 6 := ne_toInt hs6
                        have hs7 : ¬ Int32.toInt v1 = 7 := ne_toInt hs7
                        have hs8 : ¬ Int32.toInt v1 = 8 := ne_toInt hs8
                        have hs9 : ¬ Int32.toInt v1 = 9 := ne_toInt hs9
                        have hs10 : ¬ Int32.toInt v1 = 10 := ne_toInt hs10
                        refine a_tswO (pc' := 119) hX dX12_count_1 (by omega) rfl ?_
                        refine a_bipush (v := (-2)) hX dX12_count_119 (by decide) rfl ?_
                        exact a_iret hX hT hF (r_i hf) dX12_count_121
theorem cX12_count {V : Vx} {q : Nat → Nat} {u : St} {res : Int32} (hE : ZOK (vZ V)) {v1 : Int32} (hf : fX12_count u v1 = some res) : Ct V yX12_count (.code yX12_count cX12_count 2 (some .int)) rmX12_count 0 0 [.ref (q 0), .int v1] (wM V q u) (rEq (some (.int res)) (wM V q u)) :=
  Ct_of (by decide) (Nat.le_of_ble_eq_true rfl) rfl (fun X hX hT _ hF => wX12_count ⟨hX, hT, hF⟩ hE hf)
