def rmX11_history : Room := { frames := 5, cells := 0, slots := 0, locals := 117 }
def fX11_history (u : St) (v1 : Int32) (v2 : Int32) : Option (Int32 × St) := if v1 < 0 then some ((-2), u) else (if 10000 ≤ v1 then some ((-2), u) else (cl1 (fX11_isPeriod u v2) (fun x1 => if x1 = 0 then some ((-2), u) else (cl1 (fX1_recount u) (fun u3 => cl1 (fX1_total u3) (fun x4 => if Int32.toInt64 v1 < x4 then cl1 (fX1_landOf u3 v1 v2) (fun x5 => some (x5, u3)) else (some ((-1), u3))))))))
theorem wX11_history {X : Cx} {V : Vx} {q : Nat → Nat} {g : Nat → Nat} {ts : List Tx} {res : Int32 × St} (h : Run X cX11_history 3 RX11 rmX11_history V (some .int) (rEq (some (.int res.1)) (wC V q ts res.2))) (hE : EnvC V g) {u : St} {v1 : Int32} {v2 : Int32} (hf : fX11_history u v1 v2 = some res) : At X 3 0 0 (wC V q ts u) 0 [(0, .ref (q 11)), (1, .int v1), (2, .int v2)] [] := by
  obtain ⟨hX, hT, hF⟩ := id h
  unfold fX11_history at hf
  refine a_iload_n hX dX11_history_0 rfl 1 rfl rfl ?_
  refine a_if_lt (tgt := 19) hX dX11_history_1 rfl rfl hf (fun hf => ?_) (fun hf => ?_)
  · refine a_bipush (v := (-2)) hX dX11_history_19 (by decide) rfl ?_
    exact a_iret hX hT hF (r_iS (wf := (wC V q ts)) hf) dX11_history_21
  · refine a_iload_n hX dX11_history_4 rfl 1 rfl rfl ?_
    refine a_sipush (v := 10000) hX dX11_history_5 (by decide) rfl ?_
    refine a_icmp_ge (tgt := 19) hX dX11_history_8 rfl rfl hf (fun hf => ?_) (fun hf => ?_)
    · refine a_bipush (v := (-2)) hX dX11_history_19 (by decide) rfl ?_
      exact a_iret hX hT hF (r_iS (wf := (wC V q ts)) hf) dX11_history_21
    · refine a_aload_n hX dX11_history_11 rfl 0 rfl rfl ?_
      refine a_iload_n hX dX11_history_12 rfl 2 rfl rfl ?_
      obtain ⟨x1, hg1, hf⟩ := cl1_some hf
      refine a_cVsi (q0 := 0) (rest := []) hX hE.1 (ctX11_isPeriod (q := q) hE hg1) K_X11_112 ⟨rfl, rfl⟩ ⟨rfl, rfl, by decide, by decide⟩ ⟨Nat.zero_le _, Nat.zero_le _⟩ (Nat.le_of_ble_eq_true rfl) dX11_history_13 rfl rfl ?_
      refine a_if_ne (tgt := 22) hX dX11_history_16 rfl rfl hf (fun hf => ?_) (fun hf => ?_)
      · refine a_aload_n hX dX11_history_22 rfl 0 rfl rfl ?_
        refine gX11_3 hX F_X11_38 dX11_history_23 rfl ?_
        obtain ⟨u3, hg2, hf⟩ := cl1_some hf
        refine a_cVsv (q0 := 3) (rest := []) hX hE.1 (ctX1_recount (q := q) hE hg2) K_X11_169 ⟨rfl, rfl⟩ ⟨rfl, rfl, by decide, by decide⟩ ⟨Nat.zero_le _, Nat.zero_le _⟩ (Nat.le_of_ble_eq_true rfl) dX11_history_26 rfl rfl ?_
        refine a_iload_n hX dX11_history_29 rfl 1 rfl rfl ?_
        refine a_i2l hX dX11_history_30 rfl ?_
        refine a_aload_n hX dX11_history_31 rfl 0 rfl rfl ?_
        refine gX11_3 hX F_X11_38 dX11_history_32 rfl ?_
        obtain ⟨x4, hg4, hf⟩ := cl1_some hf
        refine a_cVsl (q0 := 3) (rest := [.long (Int32.toInt64 v1)]) hX hE.1 (ctX1_total (q := q) hE hg4) K_X11_172 ⟨rfl, rfl⟩ ⟨rfl, rfl, by decide, by decide⟩ ⟨Nat.zero_le _, Nat.zero_le _⟩ (Nat.le_of_ble_eq_true rfl) dX11_history_35 rfl rfl ?_
        refine a_lcmp_lt (tgt := 44) hX dX11_history_38 rfl dX11_history_39 rfl rfl hf (fun hf => ?_) (fun hf => ?_)
        · refine a_aload_n hX dX11_history_44 rfl 0 rfl rfl ?_
          refine gX11_3 hX F_X11_38 dX11_history_45 rfl ?_
          refine a_iload_n hX dX11_history_48 rfl 1 rfl rfl ?_
          refine a_iload_n hX dX11_history_49 rfl 2 rfl rfl ?_
          obtain ⟨x5, hg5, hf⟩ := cl1_some hf
          refine a_cVsi (q0 := 3) (rest := []) hX hE.1 (ctX1_landOf (q := q) hE hg5) K_X11_193 ⟨rfl, rfl⟩ ⟨rfl, rfl, by decide, by decide⟩ ⟨Nat.zero_le _, Nat.zero_le _⟩ (Nat.le_of_ble_eq_true rfl) dX11_history_50 rfl rfl ?_
          exact a_iret hX hT hF (r_iS (wf := (wC V q ts)) hf) dX11_history_53
        · refine a_iconst (v := (-1)) hX dX11_history_42 (by decide) rfl ?_
          exact a_iret hX hT hF (r_iS (wf := (wC V q ts)) hf) dX11_history_43
      · refine a_bipush (v := (-2)) hX dX11_history_19 (by decide) rfl ?_
        exact a_iret hX hT hF (r_iS (wf := (wC V q ts)) hf) dX11_history_21
theorem ctX11_history {V : Vx} {q : Nat → Nat} {u : St} {g : Nat → Nat} {ts : List Tx} {res : Int32 × St} (hE : EnvC V g) {v1 : Int32} {v2 : Int32} (hf : fX11_history u v1 v2 = some res) : Ct V yX11_history (.code yX11_history cX11_history 3 (some .int)) rmX11_history 0 0 [.ref (q 11), .int v1, .int v2] (wC V q ts u) (rEq (some (.int res.1)) (wC V q ts res.2)) :=
  Ct_of (by decide) (Nat.le_of_ble_eq_true rfl) rfl (fun X hX hT _ hF => wX11_history ⟨hX, hT, hF⟩ hE hf)
def rmX11_feed : Room := { frames := 1, cells := 0, slots := 0, locals := 24 }
def fX11_feed (u : St) (v1 : Int32) (v2 : Int64) : Option (Int32 × St) := if v1 < 1 then some ((-2), u) else (if v1 ≤ 8 then if v1 ≤ 160 - (gZ u 100) then cl2 (fX5_take u v1 v2) (fun x1 u2 => some (x1, u2)) else (some ((-4), u)) else (some ((-2), u)))
theorem wX11_feed {X : Cx} {V : Vx} {q : Nat → Nat} {g : Nat → Nat} {ts : List Tx} {res : Int32 × St} (h : Run X cX11_feed 4 RX11 rmX11_feed V (some .int) (rEq (some (.int res.1)) (wC V q ts res.2))) (hE : EnvC V g) {u : St} {v1 : Int32} {v2 : Int64} (hf : fX11_feed u v1 v2 = some res) : At X 4 0 0 (wC V q ts u) 0 [(0, .ref (q 11)), (1, .int v1), (2, .long v2)] [] := by
  obtain ⟨hX, hT, hF⟩ := id h
  unfold fX11_feed at hf
  refine a_iload_n hX dX11_feed_0 rfl 1 rfl rfl ?_
  refine a_iconst (v := 1) hX dX11_feed_1 (by decide) rfl ?_
  refine a_icmp_lt (tgt := 11) hX dX11_feed_2 rfl rfl hf (fun hf => ?_) (fun hf => ?_)
  · refine a_bipush (v := (-2)) hX dX11_feed_11 (by decide) rfl ?_
    exact a_iret hX hT hF (r_iS (wf := (wC V q ts)) hf) dX11_feed_13
  · refine a_iload_n hX dX11_feed_5 rfl 1 rfl rfl ?_
    refine a_bipush (v := 8) hX dX11_feed_6 (by decide) rfl ?_
    refine a_icmp_le (tgt := 14) hX dX11_feed_8 rfl rfl hf (fun hf => ?_) (fun hf => ?_)
    · refine a_iload_n hX dX11_feed_14 rfl 1 rfl rfl ?_
      refine a_sipush (v := 160) hX dX11_feed_15 (by decide) rfl ?_
      refine a_aload_n hX dX11_feed_18 rfl 0 rfl rfl ?_
      refine gX11_4 hX F_X11_45 dX11_feed_19 rfl ?_
      refine gX5_0 hX F_X11_196 dX11_feed_22 rfl ?_
      refine a_isub hX dX11_feed_25 rfl ?_
      refine a_icmp_le (tgt := 32) hX dX11_feed_26 rfl rfl hf (fun hf => ?_) (fun hf => ?_)
      · refine a_aload_n hX dX11_feed_32 rfl 0 rfl rfl ?_
        refine gX11_4 hX F_X11_45 dX11_feed_33 rfl ?_
        refine a_iload_n hX dX11_feed_36 rfl 1 rfl rfl ?_
        refine a_lload_n hX dX11_feed_37 rfl 2 rfl rfl ?_
        obtain ⟨x1, u2, hg1, hf⟩ := cl2_some hf
        refine a_cVsi (q0 := 4) (rest := []) hX hE.1 (ctX5_take (q := q) hE hg1) K_X11_197 ⟨rfl, rfl⟩ ⟨rfl, rfl, by decide, by decide⟩ ⟨Nat.zero_le _, Nat.zero_le _⟩ (Nat.le_of_ble_eq_true rfl) dX11_feed_38 rfl rfl ?_
        exact a_iret hX hT hF (r_iS (wf := (wC V q ts)) hf) dX11_feed_41
      · refine a_bipush (v := (-4)) hX dX11_feed_29 (by decide) rfl ?_
        exact a_iret hX hT hF (r_iS (wf := (wC V q ts)) hf) dX11_feed_31
    · refine a_bipush (v := (-2)) hX dX11_feed_11 (by decide) rfl ?_
      exact a_iret hX hT hF (r_iS (wf := (wC V q ts)) hf) dX11_feed_13
theorem ctX11_feed {V : Vx} {q : Nat → Nat} {u : St} {g : Nat → Nat} {ts : List Tx} {res : Int32 × St} (hE : EnvC V g) {v1 : Int32} {v2 : Int64} (hf : fX11_feed u v1 v2 = some res) : Ct V yX11_feed (.code yX11_feed cX11_feed 4 (some .int)) rmX11_feed 0 0 [.ref (q 11), .int v1, .long v2] (wC V q ts u) (rEq (some (.int res.1)) (wC V q ts res.2)) :=
  Ct_of (by decide) (Nat.le_of_ble_eq_true rfl) rfl (fun X hX hT _ hF => wX11_feed ⟨hX, hT, hF⟩ hE hf)
def rmX11_law : Room := { frames := 2, cells := 0, slots := 0, locals := 43 }
def fX11_law (u : St) (v1 : Int32) (v2 : Int32) (v3 : Int32) : Option (Int32 × St) := cl1 (fX11_isPlace u v1 v2) (fun x1 => if x1 = 0 then some ((-2), u) else (if v3 < 0 then some ((-2), u) else (if v3 < gZ u 61 then if gZ u 60 = 20 then some ((-4), u) else (cl2 (fX3_add u v1 v2 v3) (fun x2 u3 => some (x2, u3))) else (some ((-2), u)))))
theorem wX11_law {X : Cx} {V : Vx} {q : Nat → Nat} {g : Nat → Nat} {ts : List Tx} {res : Int32 × St} (h : Run X cX11_law 4 RX11 rmX11_law V (some .int) (rEq (some (.int res.1)) (wC V q ts res.2))) (hE : EnvC V g) {u : St} {v1 : Int32} {v2 : Int32} {v3 : Int32} (hf : fX11_law u v1 v2 v3 = some res) : At X 4 0 0 (wC V q ts u) 0 [(0, .ref (q 11)), (1, .int v1), (2, .int v2), (3, .int v3)] [] := by
  obtain ⟨hX, hT, hF⟩ := id h
  unfold fX11_law at hf
  refine a_aload_n hX dX11_law_0 rfl 0 rfl rfl ?_
  refine a_iload_n hX dX11_law_1 rfl 1 rfl rfl ?_
  refine a_iload_n hX dX11_law_2 rfl 2 rfl rfl ?_
  obtain ⟨x1, hg1, hf⟩ := cl1_some hf
  refine a_cVsi (q0 := 0) (rest := []) hX hE.1 (ctX11_isPlace (q := q) hE hg1) K_X11_151 ⟨rfl, rfl⟩ ⟨rfl, rfl, by decide, by decide⟩ ⟨Nat.zero_le _, Nat.zero_le _⟩ (Nat.le_of_ble_eq_true rfl) dX11_law_3 rfl rfl ?_
  refine a_if_eq (tgt := 24) hX dX11_law_6 rfl rfl hf (fun hf => ?_) (fun hf => ?_)
  · refine a_bipush (v := (-2)) hX dX11_law_24 (by decide) rfl ?_
    exact a_iret hX hT hF (r_iS (wf := (wC V q ts)) hf) dX11_law_26
  · refine a_iload_n hX dX11_law_9 rfl 3 rfl rfl ?_
    refine a_if_lt (tgt := 24) hX dX11_law_10 rfl rfl hf (fun hf => ?_) (fun hf => ?_)
    · refine a_bipush (v := (-2)) hX dX11_law_24 (by decide) rfl ?_
      exact a_iret hX hT hF (r_iS (wf := (wC V q ts)) hf) dX11_law_26
    · refine a_iload_n hX dX11_law_13 rfl 3 rfl rfl ?_
      refine a_aload_n hX dX11_law_14 rfl 0 rfl rfl ?_
      refine gX11_5 hX F_X11_52 dX11_law_15 rfl ?_
      refine gX3_1 hX F_X11_201 dX11_law_18 rfl ?_
      refine a_icmp_lt (tgt := 27) hX dX11_law_21 rfl rfl hf (fun hf => ?_) (fun hf => ?_)
      · refine a_aload_n hX dX11_law_27 rfl 0 rfl rfl ?_
        refine gX11_5 hX F_X11_52 dX11_law_28 rfl ?_
        refine gX3_0 hX F_X11_218 dX11_law_31 rfl ?_
        refine a_bipush (v := 20) hX dX11_law_34 (by decide) rfl ?_
        refine a_icmp_ne (tgt := 42) hX dX11_law_36 rfl rfl hf (fun hf => ?_) (fun hf => ?_)
        · refine a_aload_n hX dX11_law_42 rfl 0 rfl rfl ?_
          refine gX11_5 hX F_X11_52 dX11_law_43 rfl ?_
          refine a_iload_n hX dX11_law_46 rfl 1 rfl rfl ?_
          refine a_iload_n hX dX11_law_47 rfl 2 rfl rfl ?_
          refine a_iload_n hX dX11_law_48 rfl 3 rfl rfl ?_
          obtain ⟨x2, u3, hg2, hf⟩ := cl2_some hf
          refine a_cVsi (q0 := 5) (rest := []) hX hE.1 (ctX3_add (q := q) hE hg2) K_X11_219 ⟨rfl, rfl⟩ ⟨rfl, rfl, by decide, by decide⟩ ⟨Nat.zero_le _, Nat.zero_le _⟩ (Nat.le_of_ble_eq_true rfl) dX11_law_49 rfl rfl ?_
          exact a_iret hX hT hF (r_iS (wf := (wC V q ts)) hf) dX11_law_52
        · refine a_bipush (v := (-4)) hX dX11_law_39 (by decide) rfl ?_
          exact a_iret hX hT hF (r_iS (wf := (wC V q ts)) hf) dX11_law_41
      · refine a_bipush (v := (-2)) hX dX11_law_24 (by decide) rfl ?_
        exact a_iret hX hT hF (r_iS (wf := (wC V q ts)) hf) dX11_law_26
theorem ctX11_law {V : Vx} {q : Nat → Nat} {u : St} {g : Nat → Nat} {ts : List Tx} {res : Int32 × St} (hE : EnvC V g) {v1 : Int32} {v2 : Int32} {v3 : Int32} (hf : fX11_law u v1 v2 v3 = some res) : Ct V yX11_law (.code yX11_law cX11_law 4 (some .int)) rmX11_law 0 0 [.ref (q 11), .int v1, .int v2, .int v3] (wC V q ts u) (rEq (some (.int res.1)) (wC V q ts res.2)) :=
  Ct_of (by decide) (Nat.le_of_ble_eq_true rfl) rfl (fun X hX hT _ hF => wX11_law ⟨hX, hT, hF⟩ hE hf)
def rmX11_lawOf : Room := { frames := 2, cells := 0, slots := 0, locals := 43 }
def fX11_lawOf (u : St) (v1 : Int32) (v2 : Int32) : Option (Int32) := cl1 (fX11_isPlace u v1 v2) (fun x1 => if x1 = 0 then some (-2) else (cl1 (fX3_textFor u v1 v2) (fun x2 => some x2)))
theorem wX11_lawOf {X : Cx} {V : Vx} {q : Nat → Nat} {g : Nat → Nat} {ts : List Tx} {u : St} {res : Int32} (h : Run X cX11_lawOf 3 RX11 rmX11_lawOf V (some .int) (rEq (some (.int res)) (wC V q ts u))) (hE : EnvC V g) {v1 : Int32} {v2 : Int32} (hf : fX11_lawOf u v1 v2 = some res) : At X 3 0 0 (wC V q ts u) 0 [(0, .ref (q 11)), (1, .int v1), (2, .int v2)] [] := by
  obtain ⟨hX, hT, hF⟩ := id h
  unfold fX11_lawOf at hf
  refine a_aload_n hX dX11_lawOf_0 rfl 0 rfl rfl ?_
  refine a_iload_n hX dX11_lawOf_1 rfl 1 rfl rfl ?_
  refine a_iload_n hX dX11_lawOf_2 rfl 2 rfl rfl ?_
  obtain ⟨x1, hg1, hf⟩ := cl1_some hf
  refine a_cVsi (q0 := 0) (rest := []) hX hE.1 (ctX11_isPlace (q := q) hE hg1) K_X11_151 ⟨rfl, rfl⟩ ⟨rfl, rfl, by decide, by decide⟩ ⟨Nat.zero_le _, Nat.zero_le _⟩ (Nat.le_of_ble_eq_true rfl) dX11_lawOf_3 rfl rfl ?_
  refine a_if_ne (tgt := 12) hX dX11_lawOf_6 rfl rfl hf (fun hf => ?_) (fun hf => ?_)
  · refine a_aload_n hX dX11_lawOf_12 rfl 0 rfl rfl ?_
    refine gX11_5 hX F_X11_52 dX11_lawOf_13 rfl ?_
    refine a_iload_n hX dX11_lawOf_16 rfl 1 rfl rfl ?_
    refine a_iload_n hX dX11_lawOf_17 rfl 2 rfl rfl ?_
    obtain ⟨x2, hg2, hf⟩ := cl1_some hf
    refine a_cVsi (q0 := 5) (rest := []) hX hE.1 (ctX3_textFor (q := q) hE hg2) K_X11_222 ⟨rfl, rfl⟩ ⟨rfl, rfl, by decide, by decide⟩ ⟨Nat.zero_le _, Nat.zero_le _⟩ (Nat.le_of_ble_eq_true rfl) dX11_lawOf_18 rfl rfl ?_
    exact a_iret hX hT hF (r_i hf) dX11_lawOf_21
  · refine a_bipush (v := (-2)) hX dX11_lawOf_9 (by decide) rfl ?_
    exact a_iret hX hT hF (r_i hf) dX11_lawOf_11
theorem ctX11_lawOf {V : Vx} {q : Nat → Nat} {u : St} {g : Nat → Nat} {ts : List Tx} {res : Int32} (hE : EnvC V g) {v1 : Int32} {v2 : Int32} (hf : fX11_lawOf u v1 v2 = some res) : Ct V yX11_lawOf (.code yX11_lawOf cX11_lawOf 3 (some .int)) rmX11_lawOf 0 0 [.ref (q 11), .int v1, .int v2] (wC V q ts u) (rEq (some (.int res)) (wC V q ts u)) :=
  Ct_of (by decide) (Nat.le_of_ble_eq_true rfl) rfl (fun X hX hT _ hF => wX11_lawOf ⟨hX, hT, hF⟩ hE hf)
def rmX11_says : Room := { frames := 3, cells := 0, slots := 0, locals := 72 }
def fX11_says (ts : List Tx) (u : St) (v1 : Int32) (v2 : Int32) (v3 : Int32) (v4 : Int32) : Option (Int64 × St) := cl1 (fX11_isLand v1) (fun x1 => if x1 = 0 then some ((-4611686018427387904), u) else (cl1 (fX11_isLand v2) (fun x2 => if x2 = 0 then some ((-4611686018427387904), u) else (if v1 = v2 then some ((-4611686018427387904), u) else (cl1 (fX11_isMovePeriod u v3) (fun x3 => if x3 = 0 then some ((-4611686018427387904), u) else (if v4 < 0 then some ((-4611686018427387904), u) else (if v4 ≤ 1 then if v4 = 0 then cl2 (fX3_hold ts u v1 v2 v3) (fun x6 u7 => some (Int32.toInt64 x6, u7)) else (cl2 (fX3_limit ts u v1 v2 v3) (fun x4 u5 => some (Int32.toInt64 x4, u5))) else (some ((-4611686018427387904), u))))))))))
theorem wX11_says {X : Cx} {V : Vx} {q : Nat → Nat} {g : Nat → Nat} {ts : List Tx} {res : Int64 × St} (h : Run X cX11_says 5 RX11 rmX11_says V (some .long) (rEq (some (.long res.1)) (wC V q ts res.2))) (hE : EnvC V g) {u : St} {v1 : Int32} {v2 : Int32} {v3 : Int32} {v4 : Int32} (hf : fX11_says ts u v1 v2 v3 v4 = some res) : At X 5 0 0 (wC V q ts u) 0 [(0, .ref (q 11)), (1, .int v1), (2, .int v2), (3, .int v3), (4, .int v4)] [] := by
  obtain ⟨hX, hT, hF⟩ := id h
  unfold fX11_says at hf
  refine a_iload_n hX dX11_says_0 rfl 1 rfl rfl ?_
  obtain ⟨x1, hg1, hf⟩ := cl1_some hf
  refine a_cSpi (rest := []) hX hE.1 (ctX11_isLand hE.1 hg1) K_X11_95 ⟨rfl, rfl, by decide, by decide⟩ ⟨Nat.zero_le _, Nat.zero_le _⟩ (Nat.le_of_ble_eq_true rfl) dX11_says_1 rfl rfl ?_
  refine a_if_eq (tgt := 19) hX dX11_says_4 rfl rfl hf (fun hf => ?_) (fun hf => ?_)
  · refine a_ldc2 hX dX11_says_19 N_X11_176 rfl ?_
    exact a_lret hX hT hF (r_lS (wf := (wC V q ts)) hf) dX11_says_22
  · refine a_iload_n hX dX11_says_7 rfl 2 rfl rfl ?_
    obtain ⟨x2, hg2, hf⟩ := cl1_some hf
    refine a_cSpi (rest := []) hX hE.1 (ctX11_isLand hE.1 hg2) K_X11_95 ⟨rfl, rfl, by decide, by decide⟩ ⟨Nat.zero_le _, Nat.zero_le _⟩ (Nat.le_of_ble_eq_true rfl) dX11_says_8 rfl rfl ?_
    refine a_if_eq (tgt := 19) hX dX11_says_11 rfl rfl hf (fun hf => ?_) (fun hf => ?_)
    · refine a_ldc2 hX dX11_says_19 N_X11_176 rfl ?_
      exact a_lret hX hT hF (r_lS (wf := (wC V q ts)) hf) dX11_says_22
    · refine a_iload_n hX dX11_says_14 rfl 1 rfl rfl ?_
      refine a_iload_n hX dX11_says_15 rfl 2 rfl rfl ?_
      refine a_icmp_ne (tgt := 23) hX dX11_says_16 rfl rfl hf (fun hf => ?_) (fun hf => ?_)
      · refine a_aload_n hX dX11_says_23 rfl 0 rfl rfl ?_
        refine a_iload_n hX dX11_says_24 rfl 3 rfl rfl ?_
        obtain ⟨x3, hg3, hf⟩ := cl1_some hf
        refine a_cVsi (q0 := 0) (rest := []) hX hE.1 (ctX11_isMovePeriod (q := q) hE hg3) K_X11_99 ⟨rfl, rfl⟩ ⟨rfl, rfl, by decide, by decide⟩ ⟨Nat.zero_le _, Nat.zero_le _⟩ (Nat.le_of_ble_eq_true rfl) dX11_says_25 rfl rfl ?_
        refine a_if_eq (tgt := 42) hX dX11_says_28 rfl rfl hf (fun hf => ?_) (fun hf => ?_)
        · refine a_ldc2 hX dX11_says_42 N_X11_176 rfl ?_
          exact a_lret hX hT hF (r_lS (wf := (wC V q ts)) hf) dX11_says_45
        · refine a_iload hX dX11_says_31 4 rfl rfl ?_
          refine a_if_lt (tgt := 42) hX dX11_says_33 rfl rfl hf (fun hf => ?_) (fun hf => ?_)
          · refine a_ldc2 hX dX11_says_42 N_X11_176 rfl ?_
            exact a_lret hX hT hF (r_lS (wf := (wC V q ts)) hf) dX11_says_45
          · refine a_iload hX dX11_says_36 4 rfl rfl ?_
            refine a_iconst (v := 1) hX dX11_says_38 (by decide) rfl ?_
            refine a_icmp_le (tgt := 46) hX dX11_says_39 rfl rfl hf (fun hf => ?_) (fun hf => ?_)
            · refine a_iload hX dX11_says_46 4 rfl rfl ?_
              refine a_if_ne (tgt := 65) hX dX11_says_48 rfl rfl hf (fun hf => ?_) (fun hf => ?_)
              · refine a_aload_n hX dX11_says_65 rfl 0 rfl rfl ?_
                refine gX11_5 hX F_X11_52 dX11_says_66 rfl ?_
                refine a_iload_n hX dX11_says_69 rfl 1 rfl rfl ?_
                refine a_iload_n hX dX11_says_70 rfl 2 rfl rfl ?_
                refine a_iload_n hX dX11_says_71 rfl 3 rfl rfl ?_
                obtain ⟨x4, u5, hg4, hf⟩ := cl2_some hf
                refine a_cVsi (q0 := 5) (rest := []) hX hE.1 (ctX3_limit (q := q) hE hg4) K_X11_228 ⟨rfl, rfl⟩ ⟨rfl, rfl, by decide, by decide⟩ ⟨Nat.zero_le _, Nat.zero_le _⟩ (Nat.le_of_ble_eq_true rfl) dX11_says_72 rfl rfl ?_
                refine a_i2l hX dX11_says_75 rfl ?_
                exact a_lret hX hT hF (r_lS (wf := (wC V q ts)) hf) dX11_says_76
              · refine a_aload_n hX dX11_says_51 rfl 0 rfl rfl ?_
                refine gX11_5 hX F_X11_52 dX11_says_52 rfl ?_
                refine a_iload_n hX dX11_says_55 rfl 1 rfl rfl ?_
                refine a_iload_n hX dX11_says_56 rfl 2 rfl rfl ?_
                refine a_iload_n hX dX11_says_57 rfl 3 rfl rfl ?_
                obtain ⟨x6, u7, hg6, hf⟩ := cl2_some hf
                refine a_cVsi (q0 := 5) (rest := []) hX hE.1 (ctX3_hold (q := q) hE hg6) K_X11_225 ⟨rfl, rfl⟩ ⟨rfl, rfl, by decide, by decide⟩ ⟨Nat.zero_le _, Nat.zero_le _⟩ (Nat.le_of_ble_eq_true rfl) dX11_says_58 rfl rfl ?_
                refine a_i2l hX dX11_says_61 rfl ?_
                refine a_goto (pc' := 76) hX dX11_says_62 rfl ?_
                exact a_lret hX hT hF (r_lS (wf := (wC V q ts)) hf) dX11_says_76
            · refine a_ldc2 hX dX11_says_42 N_X11_176 rfl ?_
              exact a_lret hX hT hF (r_lS (wf := (wC V q ts)) hf) dX11_says_45
      · refine a_ldc2 hX dX11_says_19 N_X11_176 rfl ?_
        exact a_lret hX hT hF (r_lS (wf := (wC V q ts)) hf) dX11_says_22
theorem ctX11_says {V : Vx} {q : Nat → Nat} {u : St} {g : Nat → Nat} {ts : List Tx} {res : Int64 × St} (hE : EnvC V g) {v1 : Int32} {v2 : Int32} {v3 : Int32} {v4 : Int32} (hf : fX11_says ts u v1 v2 v3 v4 = some res) : Ct V yX11_says (.code yX11_says cX11_says 5 (some .long)) rmX11_says 0 0 [.ref (q 11), .int v1, .int v2, .int v3, .int v4] (wC V q ts u) (rEq (some (.long res.1)) (wC V q ts res.2)) :=
  Ct_of (by decide) (Nat.le_of_ble_eq_true rfl) rfl (fun X hX hT _ hF => wX11_says ⟨hX, hT, hF⟩ hE hf)
def rmX11_giveAll : Room := { frames := 6, cells := 0, slots := 0, locals := 146 }
def fX11_giveAll (ts : List Tx) (u : St) : Option (St) := cl1 (fX1_recount u) (fun u2 => cl1 (fX0_giveBack ts u2 (-1)) (fun u4 => some u4))
theorem wX11_giveAll {X : Cx} {V : Vx} {q : Nat → Nat} {g : Nat → Nat} {ts : List Tx} {res : St} (h : Run X cX11_giveAll 1 RX11 rmX11_giveAll V none (rEq none (wC V q ts res))) (hE : EnvC V g) {u : St} (hf : fX11_giveAll ts u = some res) : At X 1 0 0 (wC V q ts u) 0 [(0, .ref (q 11))] [] := by
  obtain ⟨hX, hT, hF⟩ := id h
  unfold fX11_giveAll at hf
  refine a_aload_n hX dX11_giveAll_0 rfl 0 rfl rfl ?_
  refine gX11_3 hX F_X11_38 dX11_giveAll_1 rfl ?_
  obtain ⟨u2, hg1, hf⟩ := cl1_some hf
  refine a_cVsv (q0 := 3) (rest := []) hX hE.1 (ctX1_recount (q := q) hE hg1) K_X11_169 ⟨rfl, rfl⟩ ⟨rfl, rfl, by decide, by decide⟩ ⟨Nat.zero_le _, Nat.zero_le _⟩ (Nat.le_of_ble_eq_true rfl) dX11_giveAll_4 rfl rfl ?_
  refine a_aload_n hX dX11_giveAll_7 rfl 0 rfl rfl ?_
  refine gX11_6 hX F_X11_61 dX11_giveAll_8 rfl ?_
  refine a_iconst (v := (-1)) hX dX11_giveAll_11 (by decide) rfl ?_
  obtain ⟨u4, hg3, hf⟩ := cl1_some hf
  refine a_cVsv (q0 := 6) (rest := []) hX hE.1 (ctX0_giveBack (q := q) hE hg3) K_X11_339 ⟨rfl, rfl⟩ ⟨rfl, rfl, by decide, by decide⟩ ⟨Nat.zero_le _, Nat.zero_le _⟩ (Nat.le_of_ble_eq_true rfl) dX11_giveAll_12 rfl rfl ?_
  exact a_ret hX hT hF (r_vS (wf := (wC V q ts)) hf) dX11_giveAll_15
theorem ctX11_giveAll {V : Vx} {q : Nat → Nat} {u : St} {g : Nat → Nat} {ts : List Tx} {res : St} (hE : EnvC V g)  (hf : fX11_giveAll ts u = some res) : Ct V yX11_giveAll (.code yX11_giveAll cX11_giveAll 1 none) rmX11_giveAll 0 0 [.ref (q 11)] (wC V q ts u) (rEq none (wC V q ts res)) :=
  Ct_of (by decide) (Nat.le_of_ble_eq_true rfl) rfl (fun X hX hT _ hF => wX11_giveAll ⟨hX, hT, hF⟩ hE hf)
def rmX11_given : Room := { frames := 7, cells := 0, slots := 0, locals := 166 }
def fX11_given (ts : List Tx) (u : St) (v1 : Int32) : Option (Int64 × St) := cl1 (fX11_isLand v1) (fun x1 => if x1 = 0 then some ((-4611686018427387904), u) else (cl1 (fX11_giveAll ts u) (fun u3 => cl1 (fX0_givenTo u3 v1) (fun x4 => some (x4, u3)))))
theorem wX11_given {X : Cx} {V : Vx} {q : Nat → Nat} {g : Nat → Nat} {ts : List Tx} {res : Int64 × St} (h : Run X cX11_given 2 RX11 rmX11_given V (some .long) (rEq (some (.long res.1)) (wC V q ts res.2))) (hE : EnvC V g) {u : St} {v1 : Int32} (hf : fX11_given ts u v1 = some res) : At X 2 0 0 (wC V q ts u) 0 [(0, .ref (q 11)), (1, .int v1)] [] := by
  obtain ⟨hX, hT, hF⟩ := id h
  unfold fX11_given at hf
  refine a_iload_n hX dX11_given_0 rfl 1 rfl rfl ?_
  obtain ⟨x1, hg1, hf⟩ := cl1_some hf
  refine a_cSpi (rest := []) hX hE.1 (ctX11_isLand hE.1 hg1) K_X11_95 ⟨rfl, rfl, by decide, by decide⟩ ⟨Nat.zero_le _, Nat.zero_le _⟩ (Nat.le_of_ble_eq_true rfl) dX11_given_1 rfl rfl ?_
  refine a_if_ne (tgt := 11) hX dX11_given_4 rfl rfl hf (fun hf => ?_) (fun hf => ?_)
  · refine a_aload_n hX dX11_given_11 rfl 0 rfl rfl ?_
    obtain ⟨u3, hg2, hf⟩ := cl1_some hf
    refine a_cVsv (q0 := 0) (rest := []) hX hE.1 (ctX11_giveAll (q := q) hE hg2) K_X11_231 ⟨rfl, rfl⟩ ⟨rfl, rfl, by decide, by decide⟩ ⟨Nat.zero_le _, Nat.zero_le _⟩ (Nat.le_of_ble_eq_true rfl) dX11_given_12 rfl rfl ?_
    refine a_aload_n hX dX11_given_15 rfl 0 rfl rfl ?_
    refine gX11_6 hX F_X11_61 dX11_given_16 rfl ?_
    refine a_iload_n hX dX11_given_19 rfl 1 rfl rfl ?_
    obtain ⟨x4, hg4, hf⟩ := cl1_some hf
    refine a_cVsl (q0 := 6) (rest := []) hX hE.1 (ctX0_givenTo (q := q) hE hg4) K_X11_234 ⟨rfl, rfl⟩ ⟨rfl, rfl, by decide, by decide⟩ ⟨Nat.zero_le _, Nat.zero_le _⟩ (Nat.le_of_ble_eq_true rfl) dX11_given_20 rfl rfl ?_
    exact a_lret hX hT hF (r_lS (wf := (wC V q ts)) hf) dX11_given_23
  · refine a_ldc2 hX dX11_given_7 N_X11_176 rfl ?_
    exact a_lret hX hT hF (r_lS (wf := (wC V q ts)) hf) dX11_given_10
theorem ctX11_given {V : Vx} {q : Nat → Nat} {u : St} {g : Nat → Nat} {ts : List Tx} {res : Int64 × St} (hE : EnvC V g) {v1 : Int32} (hf : fX11_given ts u v1 = some res) : Ct V yX11_given (.code yX11_given cX11_given 2 (some .long)) rmX11_given 0 0 [.ref (q 11), .int v1] (wC V q ts u) (rEq (some (.long res.1)) (wC V q ts res.2)) :=
  Ct_of (by decide) (Nat.le_of_ble_eq_true rfl) rfl (fun X hX hT _ hF => wX11_given ⟨hX, hT, hF⟩ hE hf)
def rmX11_claim : Room := { frames := 7, cells := 0, slots := 0, locals := 167 }
def fX11_claim (ts : List Tx) (u : St) (v1 : Int32) : Option (Int64 × St) := cl1 (fX11_isLand v1) (fun x1 => if x1 = 0 then some ((-4611686018427387904), u) else (cl1 (fX1_recount u) (fun u3 => cl2 (fX0_claimsOf ts u3 v1) (fun x4 u5 => some (x4, u5)))))
theorem wX11_claim {X : Cx} {V : Vx} {q : Nat → Nat} {g : Nat → Nat} {ts : List Tx} {res : Int64 × St} (h : Run X cX11_claim 2 RX11 rmX11_claim V (some .long) (rEq (some (.long res.1)) (wC V q ts res.2))) (hE : EnvC V g) {u : St} {v1 : Int32} (hf : fX11_claim ts u v1 = some res) : At X 2 0 0 (wC V q ts u) 0 [(0, .ref (q 11)), (1, .int v1)] [] := by
  obtain ⟨hX, hT, hF⟩ := id h
  unfold fX11_claim at hf
  refine a_iload_n hX dX11_claim_0 rfl 1 rfl rfl ?_
  obtain ⟨x1, hg1, hf⟩ := cl1_some hf
  refine a_cSpi (rest := []) hX hE.1 (ctX11_isLand hE.1 hg1) K_X11_95 ⟨rfl, rfl, by decide, by decide⟩ ⟨Nat.zero_le _, Nat.zero_le _⟩ (Nat.le_of_ble_eq_true rfl) dX11_claim_1 rfl rfl ?_
  refine a_if_ne (tgt := 11) hX dX11_claim_4 rfl rfl hf (fun hf => ?_) (fun hf => ?_)
  · refine a_aload_n hX dX11_claim_11 rfl 0 rfl rfl ?_
    refine gX11_3 hX F_X11_38 dX11_claim_12 rfl ?_
    obtain ⟨u3, hg2, hf⟩ := cl1_some hf
    refine a_cVsv (q0 := 3) (rest := []) hX hE.1 (ctX1_recount (q := q) hE hg2) K_X11_169 ⟨rfl, rfl⟩ ⟨rfl, rfl, by decide, by decide⟩ ⟨Nat.zero_le _, Nat.zero_le _⟩ (Nat.le_of_ble_eq_true rfl) dX11_claim_15 rfl rfl ?_
    refine a_aload_n hX dX11_claim_18 rfl 0 rfl rfl ?_
    refine gX11_6 hX F_X11_61 dX11_claim_19 rfl ?_
    refine a_iload_n hX dX11_claim_22 rfl 1 rfl rfl ?_
    obtain ⟨x4, u5, hg4, hf⟩ := cl2_some hf
    refine a_cVsl (q0 := 6) (rest := []) hX hE.1 (ctX0_claimsOf (q := q) hE hg4) K_X11_237 ⟨rfl, rfl⟩ ⟨rfl, rfl, by decide, by decide⟩ ⟨Nat.zero_le _, Nat.zero_le _⟩ (Nat.le_of_ble_eq_true rfl) dX11_claim_23 rfl rfl ?_
    exact a_lret hX hT hF (r_lS (wf := (wC V q ts)) hf) dX11_claim_26
  · refine a_ldc2 hX dX11_claim_7 N_X11_176 rfl ?_
    exact a_lret hX hT hF (r_lS (wf := (wC V q ts)) hf) dX11_claim_10
theorem ctX11_claim {V : Vx} {q : Nat → Nat} {u : St} {g : Nat → Nat} {ts : List Tx} {res : Int64 × St} (hE : EnvC V g) {v1 : Int32} (hf : fX11_claim ts u v1 = some res) : Ct V yX11_claim (.code yX11_claim cX11_claim 2 (some .long)) rmX11_claim 0 0 [.ref (q 11), .int v1] (wC V q ts u) (rEq (some (.long res.1)) (wC V q ts res.2)) :=
  Ct_of (by decide) (Nat.le_of_ble_eq_true rfl) rfl (fun X hX hT _ hF => wX11_claim ⟨hX, hT, hF⟩ hE hf)
def rmX11_judge : Room := { frames := 7, cells := 0, slots := 0, locals := 166 }
def fX11_judge (ts : List Tx) (u : St) : Option (Int32 × St) := if gZ u 0 = 12 then some ((-4), u) else (cl1 (fX11_giveAll ts u) (fun u2 => cl2 (fX0_keep u2) (fun x3 u4 => some (x3, u4))))
theorem wX11_judge {X : Cx} {V : Vx} {q : Nat → Nat} {g : Nat → Nat} {ts : List Tx} {res : Int32 × St} (h : Run X cX11_judge 1 RX11 rmX11_judge V (some .int) (rEq (some (.int res.1)) (wC V q ts res.2))) (hE : EnvC V g) {u : St} (hf : fX11_judge ts u = some res) : At X 1 0 0 (wC V q ts u) 0 [(0, .ref (q 11))] [] := by
  obtain ⟨hX, hT, hF⟩ := id h
  unfold fX11_judge at hf
  refine a_aload_n hX dX11_judge_0 rfl 0 rfl rfl ?_
  refine gX11_6 hX F_X11_61 dX11_judge_1 rfl ?_
  refine gX0_0 hX F_X11_240 dX11_judge_4 rfl ?_
  refine a_bipush (v := 12) hX dX11_judge_7 (by decide) rfl ?_
  refine a_icmp_ne (tgt := 15) hX dX11_judge_9 rfl rfl hf (fun hf => ?_) (fun hf => ?_)
  · refine a_aload_n hX dX11_judge_15 rfl 0 rfl rfl ?_
    obtain ⟨u2, hg1, hf⟩ := cl1_some hf
    refine a_cVsv (q0 := 0) (rest := []) hX hE.1 (ctX11_giveAll (q := q) hE hg1) K_X11_231 ⟨rfl, rfl⟩ ⟨rfl, rfl, by decide, by decide⟩ ⟨Nat.zero_le _, Nat.zero_le _⟩ (Nat.le_of_ble_eq_true rfl) dX11_judge_16 rfl rfl ?_
    refine a_aload_n hX dX11_judge_19 rfl 0 rfl rfl ?_
    refine gX11_6 hX F_X11_61 dX11_judge_20 rfl ?_
    obtain ⟨x3, u4, hg3, hf⟩ := cl2_some hf
    refine a_cVsi (q0 := 6) (rest := []) hX hE.1 (ctX0_keep (q := q) hE hg3) K_X11_241 ⟨rfl, rfl⟩ ⟨rfl, rfl, by decide, by decide⟩ ⟨Nat.zero_le _, Nat.zero_le _⟩ (Nat.le_of_ble_eq_true rfl) dX11_judge_23 rfl rfl ?_
    exact a_iret hX hT hF (r_iS (wf := (wC V q ts)) hf) dX11_judge_26
  · refine a_bipush (v := (-4)) hX dX11_judge_12 (by decide) rfl ?_
    exact a_iret hX hT hF (r_iS (wf := (wC V q ts)) hf) dX11_judge_14
theorem ctX11_judge {V : Vx} {q : Nat → Nat} {u : St} {g : Nat → Nat} {ts : List Tx} {res : Int32 × St} (hE : EnvC V g)  (hf : fX11_judge ts u = some res) : Ct V yX11_judge (.code yX11_judge cX11_judge 1 (some .int)) rmX11_judge 0 0 [.ref (q 11)] (wC V q ts u) (rEq (some (.int res.1)) (wC V q ts res.2)) :=
  Ct_of (by decide) (Nat.le_of_ble_eq_true rfl) rfl (fun X hX hT _ hF => wX11_judge ⟨hX, hT, hF⟩ hE hf)
def rmX11_judged : Room := { frames := 1, cells := 0, slots := 0, locals := 22 }
def fX11_judged (u : St) (v1 : Int32) (v2 : Int32) : Option (Int64) := cl1 (fX0_has u v1) (fun x1 => if x1 = 0 then some (-4611686018427387904) else (cl1 (fX11_isLand v2) (fun x2 => if x2 = 0 then some (-4611686018427387904) else (cl1 (fX0_keptFor u v1 v2) (fun x3 => some x3)))))
theorem wX11_judged {X : Cx} {V : Vx} {q : Nat → Nat} {g : Nat → Nat} {ts : List Tx} {u : St} {res : Int64} (h : Run X cX11_judged 3 RX11 rmX11_judged V (some .long) (rEq (some (.long res)) (wC V q ts u))) (hE : EnvC V g) {v1 : Int32} {v2 : Int32} (hf : fX11_judged u v1 v2 = some res) : At X 3 0 0 (wC V q ts u) 0 [(0, .ref (q 11)), (1, .int v1), (2, .int v2)] [] := by
  obtain ⟨hX, hT, hF⟩ := id h
  unfold fX11_judged at hf
  refine a_aload_n hX dX11_judged_0 rfl 0 rfl rfl ?_
  refine gX11_6 hX F_X11_61 dX11_judged_1 rfl ?_
  refine a_iload_n hX dX11_judged_4 rfl 1 rfl rfl ?_
  obtain ⟨x1, hg1, hf⟩ := cl1_some hf
  refine a_cVsi (q0 := 6) (rest := []) hX hE.1 (ctX0_has (q := q) hE hg1) K_X11_244 ⟨rfl, rfl⟩ ⟨rfl, rfl, by decide, by decide⟩ ⟨Nat.zero_le _, Nat.zero_le _⟩ (Nat.le_of_ble_eq_true rfl) dX11_judged_5 rfl rfl ?_
  refine a_if_eq (tgt := 18) hX dX11_judged_8 rfl rfl hf (fun hf => ?_) (fun hf => ?_)
  · refine a_ldc2 hX dX11_judged_18 N_X11_176 rfl ?_
    exact a_lret hX hT hF (r_l hf) dX11_judged_21
  · refine a_iload_n hX dX11_judged_11 rfl 2 rfl rfl ?_
    obtain ⟨x2, hg2, hf⟩ := cl1_some hf
    refine a_cSpi (rest := []) hX hE.1 (ctX11_isLand hE.1 hg2) K_X11_95 ⟨rfl, rfl, by decide, by decide⟩ ⟨Nat.zero_le _, Nat.zero_le _⟩ (Nat.le_of_ble_eq_true rfl) dX11_judged_12 rfl rfl ?_
    refine a_if_ne (tgt := 22) hX dX11_judged_15 rfl rfl hf (fun hf => ?_) (fun hf => ?_)
    · refine a_aload_n hX dX11_judged_22 rfl 0 rfl rfl ?_
      refine gX11_6 hX F_X11_61 dX11_judged_23 rfl ?_
      refine a_iload_n hX dX11_judged_26 rfl 1 rfl rfl ?_
      refine a_iload_n hX dX11_judged_27 rfl 2 rfl rfl ?_
      obtain ⟨x3, hg3, hf⟩ := cl1_some hf
      refine a_cVsl (q0 := 6) (rest := []) hX hE.1 (ctX0_keptFor (q := q) hE hg3) K_X11_245 ⟨rfl, rfl⟩ ⟨rfl, rfl, by decide, by decide⟩ ⟨Nat.zero_le _, Nat.zero_le _⟩ (Nat.le_of_ble_eq_true rfl) dX11_judged_28 rfl rfl ?_
      exact a_lret hX hT hF (r_l hf) dX11_judged_31
    · refine a_ldc2 hX dX11_judged_18 N_X11_176 rfl ?_
      exact a_lret hX hT hF (r_l hf) dX11_judged_21
theorem ctX11_judged {V : Vx} {q : Nat → Nat} {u : St} {g : Nat → Nat} {ts : List Tx} {res : Int64} (hE : EnvC V g) {v1 : Int32} {v2 : Int32} (hf : fX11_judged u v1 v2 = some res) : Ct V yX11_judged (.code yX11_judged cX11_judged 3 (some .long)) rmX11_judged 0 0 [.ref (q 11), .int v1, .int v2] (wC V q ts u) (rEq (some (.long res)) (wC V q ts u)) :=
  Ct_of (by decide) (Nat.le_of_ble_eq_true rfl) rfl (fun X hX hT _ hF => wX11_judged ⟨hX, hT, hF⟩ hE hf)
def rmX11_changed : Room := { frames := 7, cells := 0, slots := 0, locals := 166 }
def fX11_changed (ts : List Tx) (u : St) (v1 : Int32) : Option (Int32 × St) := cl1 (fX0_has u v1) (fun x1 => if x1 = 0 then some ((-2), u) else (cl1 (fX11_giveAll ts u) (fun u3 => cl1 (fX0_changedLands u3 v1) (fun x4 => some (x4, u3)))))
theorem wX11_changed {X : Cx} {V : Vx} {q : Nat → Nat} {g : Nat → Nat} {ts : List Tx} {res : Int32 × St} (h : Run X cX11_changed 2 RX11 rmX11_changed V (some .int) (rEq (some (.int res.1)) (wC V q ts res.2))) (hE : EnvC V g) {u : St} {v1 : Int32} (hf : fX11_changed ts u v1 = some res) : At X 2 0 0 (wC V q ts u) 0 [(0, .ref (q 11)), (1, .int v1)] [] := by
  obtain ⟨hX, hT, hF⟩ := id h
  unfold fX11_changed at hf
  refine a_aload_n hX dX11_changed_0 rfl 0 rfl rfl ?_
  refine gX11_6 hX F_X11_61 dX11_changed_1 rfl ?_
  refine a_iload_n hX dX11_changed_4 rfl 1 rfl rfl ?_
  obtain ⟨x1, hg1, hf⟩ := cl1_some hf
  refine a_cVsi (q0 := 6) (rest := []) hX hE.1 (ctX0_has (q := q) hE hg1) K_X11_244 ⟨rfl, rfl⟩ ⟨rfl, rfl, by decide, by decide⟩ ⟨Nat.zero_le _, Nat.zero_le _⟩ (Nat.le_of_ble_eq_true rfl) dX11_changed_5 rfl rfl ?_
  refine a_if_ne (tgt := 14) hX dX11_changed_8 rfl rfl hf (fun hf => ?_) (fun hf => ?_)
  · refine a_aload_n hX dX11_changed_14 rfl 0 rfl rfl ?_
    obtain ⟨u3, hg2, hf⟩ := cl1_some hf
    refine a_cVsv (q0 := 0) (rest := []) hX hE.1 (ctX11_giveAll (q := q) hE hg2) K_X11_231 ⟨rfl, rfl⟩ ⟨rfl, rfl, by decide, by decide⟩ ⟨Nat.zero_le _, Nat.zero_le _⟩ (Nat.le_of_ble_eq_true rfl) dX11_changed_15 rfl rfl ?_
    refine a_aload_n hX dX11_changed_18 rfl 0 rfl rfl ?_
    refine gX11_6 hX F_X11_61 dX11_changed_19 rfl ?_
    refine a_iload_n hX dX11_changed_22 rfl 1 rfl rfl ?_
    obtain ⟨x4, hg4, hf⟩ := cl1_some hf
    refine a_cVsi (q0 := 6) (rest := []) hX hE.1 (ctX0_changedLands (q := q) hE hg4) K_X11_249 ⟨rfl, rfl⟩ ⟨rfl, rfl, by decide, by decide⟩ ⟨Nat.zero_le _, Nat.zero_le _⟩ (Nat.le_of_ble_eq_true rfl) dX11_changed_23 rfl rfl ?_
    exact a_iret hX hT hF (r_iS (wf := (wC V q ts)) hf) dX11_changed_26
  · refine a_bipush (v := (-2)) hX dX11_changed_11 (by decide) rfl ?_
    exact a_iret hX hT hF (r_iS (wf := (wC V q ts)) hf) dX11_changed_13
theorem ctX11_changed {V : Vx} {q : Nat → Nat} {u : St} {g : Nat → Nat} {ts : List Tx} {res : Int32 × St} (hE : EnvC V g) {v1 : Int32} (hf : fX11_changed ts u v1 = some res) : Ct V yX11_changed (.code yX11_changed cX11_changed 2 (some .int)) rmX11_changed 0 0 [.ref (q 11), .int v1] (wC V q ts u) (rEq (some (.int res.1)) (wC V q ts res.2)) :=
  Ct_of (by decide) (Nat.le_of_ble_eq_true rfl) rfl (fun X hX hT _ hF => wX11_changed ⟨hX, hT, hF⟩ hE hf)
def rmX11_worst : Room := { frames := 5, cells := 0, slots := 0, locals := 117 }
def fX11_worst (u : St) (v1 : Int32) (v2 : Int32) : Option (Int64 × St) := cl1 (fX11_isPlace u v1 v2) (fun x1 => if x1 = 0 then some ((-4611686018427387904), u) else (cl1 (fX1_recount u) (fun u3 => cl1 (fX11_place v1 v2) (fun x4 => cl1 (fX2_worstOf u3 x4) (fun x5 => some (x5, u3))))))
theorem wX11_worst {X : Cx} {V : Vx} {q : Nat → Nat} {g : Nat → Nat} {ts : List Tx} {res : Int64 × St} (h : Run X cX11_worst 3 RX11 rmX11_worst V (some .long) (rEq (some (.long res.1)) (wC V q ts res.2))) (hE : EnvC V g) {u : St} {v1 : Int32} {v2 : Int32} (hf : fX11_worst u v1 v2 = some res) : At X 3 0 0 (wC V q ts u) 0 [(0, .ref (q 11)), (1, .int v1), (2, .int v2)] [] := by
  obtain ⟨hX, hT, hF⟩ := id h
  unfold fX11_worst at hf
  refine a_aload_n hX dX11_worst_0 rfl 0 rfl rfl ?_
  refine a_iload_n hX dX11_worst_1 rfl 1 rfl rfl ?_
  refine a_iload_n hX dX11_worst_2 rfl 2 rfl rfl ?_
  obtain ⟨x1, hg1, hf⟩ := cl1_some hf
  refine a_cVsi (q0 := 0) (rest := []) hX hE.1 (ctX11_isPlace (q := q) hE hg1) K_X11_151 ⟨rfl, rfl⟩ ⟨rfl, rfl, by decide, by decide⟩ ⟨Nat.zero_le _, Nat.zero_le _⟩ (Nat.le_of_ble_eq_true rfl) dX11_worst_3 rfl rfl ?_
  refine a_if_ne (tgt := 13) hX dX11_worst_6 rfl rfl hf (fun hf => ?_) (fun hf => ?_)
  · refine a_aload_n hX dX11_worst_13 rfl 0 rfl rfl ?_
    refine gX11_3 hX F_X11_38 dX11_worst_14 rfl ?_
    obtain ⟨u3, hg2, hf⟩ := cl1_some hf
    refine a_cVsv (q0 := 3) (rest := []) hX hE.1 (ctX1_recount (q := q) hE hg2) K_X11_169 ⟨rfl, rfl⟩ ⟨rfl, rfl, by decide, by decide⟩ ⟨Nat.zero_le _, Nat.zero_le _⟩ (Nat.le_of_ble_eq_true rfl) dX11_worst_17 rfl rfl ?_
    refine a_aload_n hX dX11_worst_20 rfl 0 rfl rfl ?_
    refine gX11_7 hX F_X11_70 dX11_worst_21 rfl ?_
    refine a_iload_n hX dX11_worst_24 rfl 1 rfl rfl ?_
    refine a_iload_n hX dX11_worst_25 rfl 2 rfl rfl ?_
    obtain ⟨x4, hg4, hf⟩ := cl1_some hf
    refine a_cSpi (rest := [.ref (q 2)]) hX hE.1 (ctX11_place hE.1 hg4) K_X11_178 ⟨rfl, rfl, by decide, by decide⟩ ⟨Nat.zero_le _, Nat.zero_le _⟩ (Nat.le_of_ble_eq_true rfl) dX11_worst_26 rfl rfl ?_
    obtain ⟨x5, hg5, hf⟩ := cl1_some hf
    refine a_cVsl (q0 := 7) (rest := []) hX hE.1 (ctX2_worstOf (q := q) hE hg5) K_X11_252 ⟨rfl, rfl⟩ ⟨rfl, rfl, by decide, by decide⟩ ⟨Nat.zero_le _, Nat.zero_le _⟩ (Nat.le_of_ble_eq_true rfl) dX11_worst_29 rfl rfl ?_
    exact a_lret hX hT hF (r_lS (wf := (wC V q ts)) hf) dX11_worst_32
  · refine a_ldc2 hX dX11_worst_9 N_X11_176 rfl ?_
    exact a_lret hX hT hF (r_lS (wf := (wC V q ts)) hf) dX11_worst_12
theorem ctX11_worst {V : Vx} {q : Nat → Nat} {u : St} {g : Nat → Nat} {ts : List Tx} {res : Int64 × St} (hE : EnvC V g) {v1 : Int32} {v2 : Int32} (hf : fX11_worst u v1 v2 = some res) : Ct V yX11_worst (.code yX11_worst cX11_worst 3 (some .long)) rmX11_worst 0 0 [.ref (q 11), .int v1, .int v2] (wC V q ts u) (rEq (some (.long res.1)) (wC V q ts res.2)) :=
  Ct_of (by decide) (Nat.le_of_ble_eq_true rfl) rfl (fun X hX hT _ hF => wX11_worst ⟨hX, hT, hF⟩ hE hf)
def rmX11_question : Room := { frames := 5, cells := 0, slots := 0, locals := 117 }
def fX11_question (u : St) : Option (Int32 × St) := cl1 (fX1_recount u) (fun u2 => cl1 (fX2_best u2) (fun x3 => some (x3, u2)))
theorem wX11_question {X : Cx} {V : Vx} {q : Nat → Nat} {g : Nat → Nat} {ts : List Tx} {res : Int32 × St} (h : Run X cX11_question 1 RX11 rmX11_question V (some .int) (rEq (some (.int res.1)) (wC V q ts res.2))) (hE : EnvC V g) {u : St} (hf : fX11_question u = some res) : At X 1 0 0 (wC V q ts u) 0 [(0, .ref (q 11))] [] := by
  obtain ⟨hX, hT, hF⟩ := id h
  unfold fX11_question at hf
  refine a_aload_n hX dX11_question_0 rfl 0 rfl rfl ?_
  refine gX11_3 hX F_X11_38 dX11_question_1 rfl ?_
  obtain ⟨u2, hg1, hf⟩ := cl1_some hf
  refine a_cVsv (q0 := 3) (rest := []) hX hE.1 (ctX1_recount (q := q) hE hg1) K_X11_169 ⟨rfl, rfl⟩ ⟨rfl, rfl, by decide, by decide⟩ ⟨Nat.zero_le _, Nat.zero_le _⟩ (Nat.le_of_ble_eq_true rfl) dX11_question_4 rfl rfl ?_
  refine a_aload_n hX dX11_question_7 rfl 0 rfl rfl ?_
  refine gX11_7 hX F_X11_70 dX11_question_8 rfl ?_
  obtain ⟨x3, hg3, hf⟩ := cl1_some hf
  refine a_cVsi (q0 := 7) (rest := []) hX hE.1 (ctX2_best (q := q) hE hg3) K_X11_255 ⟨rfl, rfl⟩ ⟨rfl, rfl, by decide, by decide⟩ ⟨Nat.zero_le _, Nat.zero_le _⟩ (Nat.le_of_ble_eq_true rfl) dX11_question_11 rfl rfl ?_
  exact a_iret hX hT hF (r_iS (wf := (wC V q ts)) hf) dX11_question_14
theorem ctX11_question {V : Vx} {q : Nat → Nat} {u : St} {g : Nat → Nat} {ts : List Tx} {res : Int32 × St} (hE : EnvC V g)  (hf : fX11_question u = some res) : Ct V yX11_question (.code yX11_question cX11_question 1 (some .int)) rmX11_question 0 0 [.ref (q 11)] (wC V q ts u) (rEq (some (.int res.1)) (wC V q ts res.2)) :=
  Ct_of (by decide) (Nat.le_of_ble_eq_true rfl) rfl (fun X hX hT _ hF => wX11_question ⟨hX, hT, hF⟩ hE hf)
def rmX11_worstOfTwo : Room := { frames := 5, cells := 0, slots := 0, locals := 133 }
def fX11_worstOfTwo (u : St) (v1 : Int32) (v2 : Int32) : Option (Int64 × St) := cl1 (fX11_isPlace u v1 v2) (fun x1 => if x1 = 0 then some ((-4611686018427387904), u) else (cl1 (fX1_recount u) (fun u3 => cl2 (fX2_worstWithNext u3 v1 v2) (fun x4 u5 => some (x4, u5)))))
theorem wX11_worstOfTwo {X : Cx} {V : Vx} {q : Nat → Nat} {g : Nat → Nat} {ts : List Tx} {res : Int64 × St} (h : Run X cX11_worstOfTwo 3 RX11 rmX11_worstOfTwo V (some .long) (rEq (some (.long res.1)) (wC V q ts res.2))) (hE : EnvC V g) {u : St} {v1 : Int32} {v2 : Int32} (hf : fX11_worstOfTwo u v1 v2 = some res) : At X 3 0 0 (wC V q ts u) 0 [(0, .ref (q 11)), (1, .int v1), (2, .int v2)] [] := by
  obtain ⟨hX, hT, hF⟩ := id h
  unfold fX11_worstOfTwo at hf
  refine a_aload_n hX dX11_worstOfTwo_0 rfl 0 rfl rfl ?_
  refine a_iload_n hX dX11_worstOfTwo_1 rfl 1 rfl rfl ?_
  refine a_iload_n hX dX11_worstOfTwo_2 rfl 2 rfl rfl ?_
  obtain ⟨x1, hg1, hf⟩ := cl1_some hf
  refine a_cVsi (q0 := 0) (rest := []) hX hE.1 (ctX11_isPlace (q := q) hE hg1) K_X11_151 ⟨rfl, rfl⟩ ⟨rfl, rfl, by decide, by decide⟩ ⟨Nat.zero_le _, Nat.zero_le _⟩ (Nat.le_of_ble_eq_true rfl) dX11_worstOfTwo_3 rfl rfl ?_
  refine a_if_ne (tgt := 13) hX dX11_worstOfTwo_6 rfl rfl hf (fun hf => ?_) (fun hf => ?_)
  · refine a_aload_n hX dX11_worstOfTwo_13 rfl 0 rfl rfl ?_
    refine gX11_3 hX F_X11_38 dX11_worstOfTwo_14 rfl ?_
    obtain ⟨u3, hg2, hf⟩ := cl1_some hf
    refine a_cVsv (q0 := 3) (rest := []) hX hE.1 (ctX1_recount (q := q) hE hg2) K_X11_169 ⟨rfl, rfl⟩ ⟨rfl, rfl, by decide, by decide⟩ ⟨Nat.zero_le _, Nat.zero_le _⟩ (Nat.le_of_ble_eq_true rfl) dX11_worstOfTwo_17 rfl rfl ?_
    refine a_aload_n hX dX11_worstOfTwo_20 rfl 0 rfl rfl ?_
    refine gX11_7 hX F_X11_70 dX11_worstOfTwo_21 rfl ?_
    refine a_iload_n hX dX11_worstOfTwo_24 rfl 1 rfl rfl ?_
    refine a_iload_n hX dX11_worstOfTwo_25 rfl 2 rfl rfl ?_
    obtain ⟨x4, u5, hg4, hf⟩ := cl2_some hf
    refine a_cVsl (q0 := 7) (rest := []) hX hE.1 (ctX2_worstWithNext (q := q) hE hg4) K_X11_258 ⟨rfl, rfl⟩ ⟨rfl, rfl, by decide, by decide⟩ ⟨Nat.zero_le _, Nat.zero_le _⟩ (Nat.le_of_ble_eq_true rfl) dX11_worstOfTwo_26 rfl rfl ?_
    exact a_lret hX hT hF (r_lS (wf := (wC V q ts)) hf) dX11_worstOfTwo_29
  · refine a_ldc2 hX dX11_worstOfTwo_9 N_X11_176 rfl ?_
    exact a_lret hX hT hF (r_lS (wf := (wC V q ts)) hf) dX11_worstOfTwo_12
theorem ctX11_worstOfTwo {V : Vx} {q : Nat → Nat} {u : St} {g : Nat → Nat} {ts : List Tx} {res : Int64 × St} (hE : EnvC V g) {v1 : Int32} {v2 : Int32} (hf : fX11_worstOfTwo u v1 v2 = some res) : Ct V yX11_worstOfTwo (.code yX11_worstOfTwo cX11_worstOfTwo 3 (some .long)) rmX11_worstOfTwo 0 0 [.ref (q 11), .int v1, .int v2] (wC V q ts u) (rEq (some (.long res.1)) (wC V q ts res.2)) :=
  Ct_of (by decide) (Nat.le_of_ble_eq_true rfl) rfl (fun X hX hT _ hF => wX11_worstOfTwo ⟨hX, hT, hF⟩ hE hf)
def rmX11_firstOfTwo : Room := { frames := 6, cells := 0, slots := 0, locals := 160 }
def fX11_firstOfTwo (u : St) : Option (Int32 × St) := cl1 (fX1_recount u) (fun u2 => cl2 (fX2_bestWithNext u2) (fun x3 u4 => some (x3, u4)))
theorem wX11_firstOfTwo {X : Cx} {V : Vx} {q : Nat → Nat} {g : Nat → Nat} {ts : List Tx} {res : Int32 × St} (h : Run X cX11_firstOfTwo 1 RX11 rmX11_firstOfTwo V (some .int) (rEq (some (.int res.1)) (wC V q ts res.2))) (hE : EnvC V g) {u : St} (hf : fX11_firstOfTwo u = some res) : At X 1 0 0 (wC V q ts u) 0 [(0, .ref (q 11))] [] := by
  obtain ⟨hX, hT, hF⟩ := id h
  unfold fX11_firstOfTwo at hf
  refine a_aload_n hX dX11_firstOfTwo_0 rfl 0 rfl rfl ?_
  refine gX11_3 hX F_X11_38 dX11_firstOfTwo_1 rfl ?_
  obtain ⟨u2, hg1, hf⟩ := cl1_some hf
  refine a_cVsv (q0 := 3) (rest := []) hX hE.1 (ctX1_recount (q := q) hE hg1) K_X11_169 ⟨rfl, rfl⟩ ⟨rfl, rfl, by decide, by decide⟩ ⟨Nat.zero_le _, Nat.zero_le _⟩ (Nat.le_of_ble_eq_true rfl) dX11_firstOfTwo_4 rfl rfl ?_
  refine a_aload_n hX dX11_firstOfTwo_7 rfl 0 rfl rfl ?_
  refine gX11_7 hX F_X11_70 dX11_firstOfTwo_8 rfl ?_
  obtain ⟨x3, u4, hg3, hf⟩ := cl2_some hf
  refine a_cVsi (q0 := 7) (rest := []) hX hE.1 (ctX2_bestWithNext (q := q) hE hg3) K_X11_261 ⟨rfl, rfl⟩ ⟨rfl, rfl, by decide, by decide⟩ ⟨Nat.zero_le _, Nat.zero_le _⟩ (Nat.le_of_ble_eq_true rfl) dX11_firstOfTwo_11 rfl rfl ?_
  exact a_iret hX hT hF (r_iS (wf := (wC V q ts)) hf) dX11_firstOfTwo_14
theorem ctX11_firstOfTwo {V : Vx} {q : Nat → Nat} {u : St} {g : Nat → Nat} {ts : List Tx} {res : Int32 × St} (hE : EnvC V g)  (hf : fX11_firstOfTwo u = some res) : Ct V yX11_firstOfTwo (.code yX11_firstOfTwo cX11_firstOfTwo 1 (some .int)) rmX11_firstOfTwo 0 0 [.ref (q 11)] (wC V q ts u) (rEq (some (.int res.1)) (wC V q ts res.2)) :=
  Ct_of (by decide) (Nat.le_of_ble_eq_true rfl) rfl (fun X hX hT _ hF => wX11_firstOfTwo ⟨hX, hT, hF⟩ hE hf)
def rmX11_sherd : Room := { frames := 1, cells := 0, slots := 0, locals := 22 }
def fX11_sherd (u : St) (v1 : Int32) (v2 : Int32) : Option (Int32 × St) := cl1 (fX8_isEdge v1) (fun x1 => if x1 = 0 then some ((-2), u) else (cl1 (fX8_isEdge v2) (fun x2 => if x2 = 0 then some ((-2), u) else (if gZ u 160 = 8 then some ((-4), u) else (cl2 (fX8_add u v1 v2) (fun x3 u4 => some (x3, u4)))))))
theorem wX11_sherd {X : Cx} {V : Vx} {q : Nat → Nat} {g : Nat → Nat} {ts : List Tx} {res : Int32 × St} (h : Run X cX11_sherd 3 RX11 rmX11_sherd V (some .int) (rEq (some (.int res.1)) (wC V q ts res.2))) (hE : EnvC V g) {u : St} {v1 : Int32} {v2 : Int32} (hf : fX11_sherd u v1 v2 = some res) : At X 3 0 0 (wC V q ts u) 0 [(0, .ref (q 11)), (1, .int v1), (2, .int v2)] [] := by
  obtain ⟨hX, hT, hF⟩ := id h
  unfold fX11_sherd at hf
  refine a_iload_n hX dX11_sherd_0 rfl 1 rfl rfl ?_
  obtain ⟨x1, hg1, hf⟩ := cl1_some hf
  refine a_cSpi (rest := []) hX hE.1 (ctX8_isEdge hE.1 hg1) K_X11_264 ⟨rfl, rfl, by decide, by decide⟩ ⟨Nat.zero_le _, Nat.zero_le _⟩ (Nat.le_of_ble_eq_true rfl) dX11_sherd_1 rfl rfl ?_
  refine a_if_eq (tgt := 14) hX dX11_sherd_4 rfl rfl hf (fun hf => ?_) (fun hf => ?_)
  · refine a_bipush (v := (-2)) hX dX11_sherd_14 (by decide) rfl ?_
    exact a_iret hX hT hF (r_iS (wf := (wC V q ts)) hf) dX11_sherd_16
  · refine a_iload_n hX dX11_sherd_7 rfl 2 rfl rfl ?_
    obtain ⟨x2, hg2, hf⟩ := cl1_some hf
    refine a_cSpi (rest := []) hX hE.1 (ctX8_isEdge hE.1 hg2) K_X11_264 ⟨rfl, rfl, by decide, by decide⟩ ⟨Nat.zero_le _, Nat.zero_le _⟩ (Nat.le_of_ble_eq_true rfl) dX11_sherd_8 rfl rfl ?_
    refine a_if_ne (tgt := 17) hX dX11_sherd_11 rfl rfl hf (fun hf => ?_) (fun hf => ?_)
    · refine a_aload_n hX dX11_sherd_17 rfl 0 rfl rfl ?_
      refine gX11_8 hX F_X11_77 dX11_sherd_18 rfl ?_
      refine gX8_0 hX F_X11_267 dX11_sherd_21 rfl ?_
      refine a_bipush (v := 8) hX dX11_sherd_24 (by decide) rfl ?_
      refine a_icmp_ne (tgt := 32) hX dX11_sherd_26 rfl rfl hf (fun hf => ?_) (fun hf => ?_)
      · refine a_aload_n hX dX11_sherd_32 rfl 0 rfl rfl ?_
        refine gX11_8 hX F_X11_77 dX11_sherd_33 rfl ?_
        refine a_iload_n hX dX11_sherd_36 rfl 1 rfl rfl ?_
        refine a_iload_n hX dX11_sherd_37 rfl 2 rfl rfl ?_
        obtain ⟨x3, u4, hg3, hf⟩ := cl2_some hf
        refine a_cVsi (q0 := 8) (rest := []) hX hE.1 (ctX8_add (q := q) hE hg3) K_X11_268 ⟨rfl, rfl⟩ ⟨rfl, rfl, by decide, by decide⟩ ⟨Nat.zero_le _, Nat.zero_le _⟩ (Nat.le_of_ble_eq_true rfl) dX11_sherd_38 rfl rfl ?_
        exact a_iret hX hT hF (r_iS (wf := (wC V q ts)) hf) dX11_sherd_41
      · refine a_bipush (v := (-4)) hX dX11_sherd_29 (by decide) rfl ?_
        exact a_iret hX hT hF (r_iS (wf := (wC V q ts)) hf) dX11_sherd_31
    · refine a_bipush (v := (-2)) hX dX11_sherd_14 (by decide) rfl ?_
      exact a_iret hX hT hF (r_iS (wf := (wC V q ts)) hf) dX11_sherd_16
theorem ctX11_sherd {V : Vx} {q : Nat → Nat} {u : St} {g : Nat → Nat} {ts : List Tx} {res : Int32 × St} (hE : EnvC V g) {v1 : Int32} {v2 : Int32} (hf : fX11_sherd u v1 v2 = some res) : Ct V yX11_sherd (.code yX11_sherd cX11_sherd 3 (some .int)) rmX11_sherd 0 0 [.ref (q 11), .int v1, .int v2] (wC V q ts u) (rEq (some (.int res.1)) (wC V q ts res.2)) :=
  Ct_of (by decide) (Nat.le_of_ble_eq_true rfl) rfl (fun X hX hT _ hF => wX11_sherd ⟨hX, hT, hF⟩ hE hf)
def rmX11_set : Room := { frames := 0, cells := 0, slots := 0, locals := 0 }
def fX11_set (u : St) (v1 : Int32) (v2 : Int32) : Option (Int32 × St) := if v1 = 0 then if v2 < 0 then some ((-2), u) else (if v2 ≤ 4 then nmI (gZ u 161) (fun x3 => nmS (setZ u 161 v2) (fun u4 => some (x3, u4))) else (some ((-2), u))) else (if v1 = 1 then if v2 < 1 then some ((-2), u) else (if v2 ≤ 10 then nmI (gZ u 121) (fun x1 => nmS (setZ u 121 v2) (fun u2 => some (x1, u2))) else (some ((-2), u))) else (some ((-2), u)))
theorem wX11_set {X : Cx} {V : Vx} {q : Nat → Nat} {g : Nat → Nat} {ts : List Tx} {res : Int32 × St} (h : Run X cX11_set 4 RX11 rmX11_set V (some .int) (rEq (some (.int res.1)) (wC V q ts res.2))) (hE : EnvC V g) {u : St} {v1 : Int32} {v2 : Int32} (hf : fX11_set u v1 v2 = some res) : At X 4 0 0 (wC V q ts u) 0 [(0, .ref (q 11)), (1, .int v1), (2, .int v2)] [] := by
  obtain ⟨hX, hT, hF⟩ := id h
  unfold fX11_set at hf
  refine a_iload_n hX dX11_set_0 rfl 1 rfl rfl ?_
  refine a_if_ne (tgt := 34) hX dX11_set_1 rfl rfl hf (fun hf => ?_) (fun hf => ?_)
  · refine a_iload_n hX dX11_set_34 rfl 1 rfl rfl ?_
    refine a_iconst (v := 1) hX dX11_set_35 (by decide) rfl ?_
    refine a_icmp_ne (tgt := 50) hX dX11_set_36 rfl rfl hf (fun hf => ?_) (fun hf => ?_)
    · refine a_bipush (v := (-2)) hX dX11_set_50 (by decide) rfl ?_
      exact a_iret hX hT hF (r_iS (wf := (wC V q ts)) hf) dX11_set_52
    · refine a_iload_n hX dX11_set_39 rfl 2 rfl rfl ?_
      refine a_iconst (v := 1) hX dX11_set_40 (by decide) rfl ?_
      refine a_icmp_lt (tgt := 50) hX dX11_set_41 rfl rfl hf (fun hf => ?_) (fun hf => ?_)
      · refine a_bipush (v := (-2)) hX dX11_set_50 (by decide) rfl ?_
        exact a_iret hX hT hF (r_iS (wf := (wC V q ts)) hf) dX11_set_52
      · refine a_iload_n hX dX11_set_44 rfl 2 rfl rfl ?_
        refine a_bipush (v := 10) hX dX11_set_45 (by decide) rfl ?_
        refine a_icmp_le (tgt := 53) hX dX11_set_47 rfl rfl hf (fun hf => ?_) (fun hf => ?_)
        · refine a_aload_n hX dX11_set_53 rfl 0 rfl rfl ?_
          refine gX11_9 hX F_X11_84 dX11_set_54 rfl ?_
          refine gX6_1 hX F_X11_273 dX11_set_57 rfl ?_
          refine a_nmI hf (fun x1 hf => ?_)
          refine a_istore_n (lv' := [(3, .int x1), (0, .ref (q 11)), (1, .int v1), (2, .int v2)]) hX dX11_set_60 rfl (by decide) rfl rfl ?_
          refine a_aload_n hX dX11_set_61 rfl 1 rfl rfl ?_
          refine gX11_9 hX F_X11_84 dX11_set_62 rfl ?_
          refine a_iload_n hX dX11_set_65 rfl 3 rfl rfl ?_
          refine pX6_1 hX F_X11_273 dX11_set_66 rfl hf (fun u2 hf => ?_)
          refine a_iload_n hX dX11_set_69 rfl 0 rfl rfl ?_
          exact a_iret hX hT hF (r_iS (wf := (wC V q ts)) hf) dX11_set_70
        · refine a_bipush (v := (-2)) hX dX11_set_50 (by decide) rfl ?_
          exact a_iret hX hT hF (r_iS (wf := (wC V q ts)) hf) dX11_set_52
  · refine a_iload_n hX dX11_set_4 rfl 2 rfl rfl ?_
    refine a_if_lt (tgt := 13) hX dX11_set_5 rfl rfl hf (fun hf => ?_) (fun hf => ?_)
    · refine a_bipush (v := (-2)) hX dX11_set_13 (by decide) rfl ?_
      exact a_iret hX hT hF (r_iS (wf := (wC V q ts)) hf) dX11_set_15
    · refine a_iload_n hX dX11_set_8 rfl 2 rfl rfl ?_
      refine a_iconst (v := 4) hX dX11_set_9 (by decide) rfl ?_
      refine a_icmp_le (tgt := 16) hX dX11_set_10 rfl rfl hf (fun hf => ?_) (fun hf => ?_)
      · refine a_aload_n hX dX11_set_16 rfl 0 rfl rfl ?_
        refine gX11_8 hX F_X11_77 dX11_set_17 rfl ?_
        refine gX8_1 hX F_X11_270 dX11_set_20 rfl ?_
        refine a_nmI hf (fun x3 hf => ?_)
        refine a_istore_n (lv' := [(3, .int x3), (0, .ref (q 11)), (1, .int v1), (2, .int v2)]) hX dX11_set_23 rfl (by decide) rfl rfl ?_
        refine a_aload_n hX dX11_set_24 rfl 1 rfl rfl ?_
        refine gX11_8 hX F_X11_77 dX11_set_25 rfl ?_
        refine a_iload_n hX dX11_set_28 rfl 3 rfl rfl ?_
        refine pX8_1 hX F_X11_270 dX11_set_29 rfl hf (fun u4 hf => ?_)
        refine a_iload_n hX dX11_set_32 rfl 0 rfl rfl ?_
        exact a_iret hX hT hF (r_iS (wf := (wC V q ts)) hf) dX11_set_33
      · refine a_bipush (v := (-2)) hX dX11_set_13 (by decide) rfl ?_
        exact a_iret hX hT hF (r_iS (wf := (wC V q ts)) hf) dX11_set_15
theorem ctX11_set {V : Vx} {q : Nat → Nat} {u : St} {g : Nat → Nat} {ts : List Tx} {res : Int32 × St} (hE : EnvC V g) {v1 : Int32} {v2 : Int32} (hf : fX11_set u v1 v2 = some res) : Ct V yX11_set (.code yX11_set cX11_set 4 (some .int)) rmX11_set 0 0 [.ref (q 11), .int v1, .int v2] (wC V q ts u) (rEq (some (.int res.1)) (wC V q ts res.2)) :=
  Ct_of (by decide) (Nat.le_of_ble_eq_true rfl) rfl (fun X hX hT _ hF => wX11_set ⟨hX, hT, hF⟩ hE hf)
def rmX11_joined : Room := { frames := 1, cells := 0, slots := 0, locals := 26 }
def fX11_joined (u : St) (v1 : Int32) (v2 : Int32) : Option (Int32) := cl1 (fX8_has u v1) (fun x1 => if x1 = 0 then some (-2) else (cl1 (fX8_has u v2) (fun x2 => if x2 = 0 then some (-2) else (if v1 = v2 then some (-2) else (cl1 (fX8_fits u v1 v2) (fun x3 => if x3 = 0 then some 0 else (some 1)))))))
theorem wX11_joined {X : Cx} {V : Vx} {q : Nat → Nat} {g : Nat → Nat} {ts : List Tx} {u : St} {res : Int32} (h : Run X cX11_joined 3 RX11 rmX11_joined V (some .int) (rEq (some (.int res)) (wC V q ts u))) (hE : EnvC V g) {v1 : Int32} {v2 : Int32} (hf : fX11_joined u v1 v2 = some res) : At X 3 0 0 (wC V q ts u) 0 [(0, .ref (q 11)), (1, .int v1), (2, .int v2)] [] := by
  obtain ⟨hX, hT, hF⟩ := id h
  unfold fX11_joined at hf
  refine a_aload_n hX dX11_joined_0 rfl 0 rfl rfl ?_
  refine gX11_8 hX F_X11_77 dX11_joined_1 rfl ?_
  refine a_iload_n hX dX11_joined_4 rfl 1 rfl rfl ?_
  obtain ⟨x1, hg1, hf⟩ := cl1_some hf
  refine a_cVsi (q0 := 8) (rest := []) hX hE.1 (ctX8_has (q := q) hE hg1) K_X11_276 ⟨rfl, rfl⟩ ⟨rfl, rfl, by decide, by decide⟩ ⟨Nat.zero_le _, Nat.zero_le _⟩ (Nat.le_of_ble_eq_true rfl) dX11_joined_5 rfl rfl ?_
  refine a_if_eq (tgt := 27) hX dX11_joined_8 rfl rfl hf (fun hf => ?_) (fun hf => ?_)
  · refine a_bipush (v := (-2)) hX dX11_joined_27 (by decide) rfl ?_
    exact a_iret hX hT hF (r_i hf) dX11_joined_29
  · refine a_aload_n hX dX11_joined_11 rfl 0 rfl rfl ?_
    refine gX11_8 hX F_X11_77 dX11_joined_12 rfl ?_
    refine a_iload_n hX dX11_joined_15 rfl 2 rfl rfl ?_
    obtain ⟨x2, hg2, hf⟩ := cl1_some hf
    refine a_cVsi (q0 := 8) (rest := []) hX hE.1 (ctX8_has (q := q) hE hg2) K_X11_276 ⟨rfl, rfl⟩ ⟨rfl, rfl, by decide, by decide⟩ ⟨Nat.zero_le _, Nat.zero_le _⟩ (Nat.le_of_ble_eq_true rfl) dX11_joined_16 rfl rfl ?_
    refine a_if_eq (tgt := 27) hX dX11_joined_19 rfl rfl hf (fun hf => ?_) (fun hf => ?_)
    · refine a_bipush (v := (-2)) hX dX11_joined_27 (by decide) rfl ?_
      exact a_iret hX hT hF (r_i hf) dX11_joined_29
    · refine a_iload_n hX dX11_joined_22 rfl 1 rfl rfl ?_
      refine a_iload_n hX dX11_joined_23 rfl 2 rfl rfl ?_
      refine a_icmp_ne (tgt := 30) hX dX11_joined_24 rfl rfl hf (fun hf => ?_) (fun hf => ?_)
      · refine a_aload_n hX dX11_joined_30 rfl 0 rfl rfl ?_
        refine gX11_8 hX F_X11_77 dX11_joined_31 rfl ?_
        refine a_iload_n hX dX11_joined_34 rfl 1 rfl rfl ?_
        refine a_iload_n hX dX11_joined_35 rfl 2 rfl rfl ?_
        obtain ⟨x3, hg3, hf⟩ := cl1_some hf
        refine a_cVsi (q0 := 8) (rest := []) hX hE.1 (ctX8_fits (q := q) hE hg3) K_X11_277 ⟨rfl, rfl⟩ ⟨rfl, rfl, by decide, by decide⟩ ⟨Nat.zero_le _, Nat.zero_le _⟩ (Nat.le_of_ble_eq_true rfl) dX11_joined_36 rfl rfl ?_
        refine a_if_eq (tgt := 46) hX dX11_joined_39 rfl rfl hf (fun hf => ?_) (fun hf => ?_)
        · refine a_iconst (v := 0) hX dX11_joined_46 (by decide) rfl ?_
          exact a_iret hX hT hF (r_i hf) dX11_joined_47
        · refine a_iconst (v := 1) hX dX11_joined_42 (by decide) rfl ?_
          refine a_goto (pc' := 47) hX dX11_joined_43 rfl ?_
          exact a_iret hX hT hF (r_i hf) dX11_joined_47
      · refine a_bipush (v := (-2)) hX dX11_joined_27 (by decide) rfl ?_
        exact a_iret hX hT hF (r_i hf) dX11_joined_29
theorem ctX11_joined {V : Vx} {q : Nat → Nat} {u : St} {g : Nat → Nat} {ts : List Tx} {res : Int32} (hE : EnvC V g) {v1 : Int32} {v2 : Int32} (hf : fX11_joined u v1 v2 = some res) : Ct V yX11_joined (.code yX11_joined cX11_joined 3 (some .int)) rmX11_joined 0 0 [.ref (q 11), .int v1, .int v2] (wC V q ts u) (rEq (some (.int res)) (wC V q ts u)) :=
  Ct_of (by decide) (Nat.le_of_ble_eq_true rfl) rfl (fun X hX hT _ hF => wX11_joined ⟨hX, hT, hF⟩ hE hf)
def rmX11_row : Room := { frames := 3, cells := 0, slots := 0, locals := 80 }
def fX11_row (u : St) (v1 : Int32) : Option (Int32 × St) := if v1 < (-1) then some ((-1), u) else (if v1 < gZ u 160 then cl2 (fX8_findRow u) (fun x1 u2 => if v1 = (-1) then some (x1, u2) else (if x1 ≤ v1 then some ((-1), u2) else (cl1 (fX8_inRow u2 v1 x1) (fun x3 => some (x3, u2))))) else (some ((-1), u)))
theorem wX11_row {X : Cx} {V : Vx} {q : Nat → Nat} {g : Nat → Nat} {ts : List Tx} {res : Int32 × St} (h : Run X cX11_row 3 RX11 rmX11_row V (some .int) (rEq (some (.int res.1)) (wC V q ts res.2))) (hE : EnvC V g) {u : St} {v1 : Int32} (hf : fX11_row u v1 = some res) : At X 3 0 0 (wC V q ts u) 0 [(0, .ref (q 11)), (1, .int v1)] [] := by
  obtain ⟨hX, hT, hF⟩ := id h
  unfold fX11_row at hf
  refine a_iload_n hX dX11_row_0 rfl 1 rfl rfl ?_
  refine a_iconst (v := (-1)) hX dX11_row_1 (by decide) rfl ?_
  refine a_icmp_lt (tgt := 16) hX dX11_row_2 rfl rfl hf (fun hf => ?_) (fun hf => ?_)
  · refine a_iconst (v := (-1)) hX dX11_row_16 (by decide) rfl ?_
    exact a_iret hX hT hF (r_iS (wf := (wC V q ts)) hf) dX11_row_17
  · refine a_iload_n hX dX11_row_5 rfl 1 rfl rfl ?_
    refine a_aload_n hX dX11_row_6 rfl 0 rfl rfl ?_
    refine gX11_8 hX F_X11_77 dX11_row_7 rfl ?_
    refine gX8_0 hX F_X11_267 dX11_row_10 rfl ?_
    refine a_icmp_lt (tgt := 18) hX dX11_row_13 rfl rfl hf (fun hf => ?_) (fun hf => ?_)
    · refine a_aload_n hX dX11_row_18 rfl 0 rfl rfl ?_
      refine gX11_8 hX F_X11_77 dX11_row_19 rfl ?_
      obtain ⟨x1, u2, hg1, hf⟩ := cl2_some hf
      refine a_cVsi (q0 := 8) (rest := []) hX hE.1 (ctX8_findRow (q := q) hE hg1) K_X11_280 ⟨rfl, rfl⟩ ⟨rfl, rfl, by decide, by decide⟩ ⟨Nat.zero_le _, Nat.zero_le _⟩ (Nat.le_of_ble_eq_true rfl) dX11_row_22 rfl rfl ?_
      refine a_istore_n (lv' := [(2, .int x1), (0, .ref (q 11)), (1, .int v1)]) hX dX11_row_25 rfl (by decide) rfl rfl ?_
      refine a_iload_n hX dX11_row_26 rfl 2 rfl rfl ?_
      refine a_iconst (v := (-1)) hX dX11_row_27 (by decide) rfl ?_
      refine a_icmp_ne (tgt := 33) hX dX11_row_28 rfl rfl hf (fun hf => ?_) (fun hf => ?_)
      · refine a_iload_n hX dX11_row_33 rfl 2 rfl rfl ?_
        refine a_iload_n hX dX11_row_34 rfl 0 rfl rfl ?_
        refine a_icmp_ge (tgt := 50) hX dX11_row_35 rfl rfl hf (fun hf => ?_) (fun hf => ?_)
        · refine a_iconst (v := (-1)) hX dX11_row_50 (by decide) rfl ?_
          exact a_iret hX hT hF (r_iS (wf := (wC V q ts)) hf) dX11_row_51
        · refine a_aload_n hX dX11_row_38 rfl 1 rfl rfl ?_
          refine gX11_8 hX F_X11_77 dX11_row_39 rfl ?_
          refine a_iload_n hX dX11_row_42 rfl 2 rfl rfl ?_
          refine a_iload_n hX dX11_row_43 rfl 0 rfl rfl ?_
          obtain ⟨x3, hg3, hf⟩ := cl1_some hf
          refine a_cVsi (q0 := 8) (rest := []) hX hE.1 (ctX8_inRow (q := q) hE hg3) K_X11_283 ⟨rfl, rfl⟩ ⟨rfl, rfl, by decide, by decide⟩ ⟨Nat.zero_le _, Nat.zero_le _⟩ (Nat.le_of_ble_eq_true rfl) dX11_row_44 rfl rfl ?_
          refine a_goto (pc' := 51) hX dX11_row_47 rfl ?_
          exact a_iret hX hT hF (r_iS (wf := (wC V q ts)) hf) dX11_row_51
      · refine a_iload_n hX dX11_row_31 rfl 0 rfl rfl ?_
        exact a_iret hX hT hF (r_iS (wf := (wC V q ts)) hf) dX11_row_32
    · refine a_iconst (v := (-1)) hX dX11_row_16 (by decide) rfl ?_
      exact a_iret hX hT hF (r_iS (wf := (wC V q ts)) hf) dX11_row_17
theorem ctX11_row {V : Vx} {q : Nat → Nat} {u : St} {g : Nat → Nat} {ts : List Tx} {res : Int32 × St} (hE : EnvC V g) {v1 : Int32} (hf : fX11_row u v1 = some res) : Ct V yX11_row (.code yX11_row cX11_row 3 (some .int)) rmX11_row 0 0 [.ref (q 11), .int v1] (wC V q ts u) (rEq (some (.int res.1)) (wC V q ts res.2)) :=
  Ct_of (by decide) (Nat.le_of_ble_eq_true rfl) rfl (fun X hX hT _ hF => wX11_row ⟨hX, hT, hF⟩ hE hf)
def rmX11_record : Room := { frames := 1, cells := 0, slots := 0, locals := 22 }
def fX11_record (u : St) (v1 : Int32) (v2 : Int32) : Option (Int32 × St) := cl1 (fX6_isMarks v1) (fun x1 => if x1 = 0 then some ((-2), u) else (cl1 (fX6_isMarks v2) (fun x2 => if x2 = 0 then some ((-2), u) else (if gZ u 120 = 10 then some ((-4), u) else (cl2 (fX6_add u v1 v2) (fun x3 u4 => some (x3, u4)))))))
theorem wX11_record {X : Cx} {V : Vx} {q : Nat → Nat} {g : Nat → Nat} {ts : List Tx} {res : Int32 × St} (h : Run X cX11_record 3 RX11 rmX11_record V (some .int) (rEq (some (.int res.1)) (wC V q ts res.2))) (hE : EnvC V g) {u : St} {v1 : Int32} {v2 : Int32} (hf : fX11_record u v1 v2 = some res) : At X 3 0 0 (wC V q ts u) 0 [(0, .ref (q 11)), (1, .int v1), (2, .int v2)] [] := by
  obtain ⟨hX, hT, hF⟩ := id h
  unfold fX11_record at hf
  refine a_iload_n hX dX11_record_0 rfl 1 rfl rfl ?_
  obtain ⟨x1, hg1, hf⟩ := cl1_some hf
  refine a_cSpi (rest := []) hX hE.1 (ctX6_isMarks hE.1 hg1) K_X11_286 ⟨rfl, rfl, by decide, by decide⟩ ⟨Nat.zero_le _, Nat.zero_le _⟩ (Nat.le_of_ble_eq_true rfl) dX11_record_1 rfl rfl ?_
  refine a_if_eq (tgt := 14) hX dX11_record_4 rfl rfl hf (fun hf => ?_) (fun hf => ?_)
  · refine a_bipush (v := (-2)) hX dX11_record_14 (by decide) rfl ?_
    exact a_iret hX hT hF (r_iS (wf := (wC V q ts)) hf) dX11_record_16
  · refine a_iload_n hX dX11_record_7 rfl 2 rfl rfl ?_
    obtain ⟨x2, hg2, hf⟩ := cl1_some hf
    refine a_cSpi (rest := []) hX hE.1 (ctX6_isMarks hE.1 hg2) K_X11_286 ⟨rfl, rfl, by decide, by decide⟩ ⟨Nat.zero_le _, Nat.zero_le _⟩ (Nat.le_of_ble_eq_true rfl) dX11_record_8 rfl rfl ?_
    refine a_if_ne (tgt := 17) hX dX11_record_11 rfl rfl hf (fun hf => ?_) (fun hf => ?_)
    · refine a_aload_n hX dX11_record_17 rfl 0 rfl rfl ?_
      refine gX11_9 hX F_X11_84 dX11_record_18 rfl ?_
      refine gX6_0 hX F_X11_289 dX11_record_21 rfl ?_
      refine a_bipush (v := 10) hX dX11_record_24 (by decide) rfl ?_
      refine a_icmp_ne (tgt := 32) hX dX11_record_26 rfl rfl hf (fun hf => ?_) (fun hf => ?_)
      · refine a_aload_n hX dX11_record_32 rfl 0 rfl rfl ?_
        refine gX11_9 hX F_X11_84 dX11_record_33 rfl ?_
        refine a_iload_n hX dX11_record_36 rfl 1 rfl rfl ?_
        refine a_iload_n hX dX11_record_37 rfl 2 rfl rfl ?_
        obtain ⟨x3, u4, hg3, hf⟩ := cl2_some hf
        refine a_cVsi (q0 := 9) (rest := []) hX hE.1 (ctX6_add (q := q) hE hg3) K_X11_290 ⟨rfl, rfl⟩ ⟨rfl, rfl, by decide, by decide⟩ ⟨Nat.zero_le _, Nat.zero_le _⟩ (Nat.le_of_ble_eq_true rfl) dX11_record_38 rfl rfl ?_
        exact a_iret hX hT hF (r_iS (wf := (wC V q ts)) hf) dX11_record_41
      · refine a_bipush (v := (-4)) hX dX11_record_29 (by decide) rfl ?_
        exact a_iret hX hT hF (r_iS (wf := (wC V q ts)) hf) dX11_record_31
    · refine a_bipush (v := (-2)) hX dX11_record_14 (by decide) rfl ?_
      exact a_iret hX hT hF (r_iS (wf := (wC V q ts)) hf) dX11_record_16
theorem ctX11_record {V : Vx} {q : Nat → Nat} {u : St} {g : Nat → Nat} {ts : List Tx} {res : Int32 × St} (hE : EnvC V g) {v1 : Int32} {v2 : Int32} (hf : fX11_record u v1 v2 = some res) : Ct V yX11_record (.code yX11_record cX11_record 3 (some .int)) rmX11_record 0 0 [.ref (q 11), .int v1, .int v2] (wC V q ts u) (rEq (some (.int res.1)) (wC V q ts res.2)) :=
  Ct_of (by decide) (Nat.le_of_ble_eq_true rfl) rfl (fun X hX hT _ hF => wX11_record ⟨hX, hT, hF⟩ hE hf)
def rmX11_same : Room := { frames := 4, cells := 0, slots := 0, locals := 92 }
def fX11_same (u : St) (v1 : Int32) (v2 : Int32) (v3 : Int32) : Option (Int32) := cl1 (fX6_has u v1) (fun x1 => if x1 = 0 then some (-2) else (cl1 (fX6_has u v2) (fun x2 => if x2 = 0 then some (-2) else (if v3 = 0 then cl1 (fX6_match u v1 v2) (fun x3 => if x3 = 0 then some 0 else (some 1)) else (if v3 = 1 then cl1 (fX6_atOdds u v1 v2) (fun x4 => if x4 = 0 then some 0 else (some 1)) else (if v3 = 2 then cl1 (fX6_thingOf u v1) (fun x5 => cl1 (fX11_isIn x5 v2) (fun x6 => if x6 = 0 then some 0 else (some 1))) else (some (-2))))))))
theorem wX11_same {X : Cx} {V : Vx} {q : Nat → Nat} {g : Nat → Nat} {ts : List Tx} {u : St} {res : Int32} (h : Run X cX11_same 4 RX11 rmX11_same V (some .int) (rEq (some (.int res)) (wC V q ts u))) (hE : EnvC V g) {v1 : Int32} {v2 : Int32} {v3 : Int32} (hf : fX11_same u v1 v2 v3 = some res) : At X 4 0 0 (wC V q ts u) 0 [(0, .ref (q 11)), (1, .int v1), (2, .int v2), (3, .int v3)] [] := by
  obtain ⟨hX, hT, hF⟩ := id h
  unfold fX11_same at hf
  refine a_aload_n hX dX11_same_0 rfl 0 rfl rfl ?_
  refine gX11_9 hX F_X11_84 dX11_same_1 rfl ?_
  refine a_iload_n hX dX11_same_4 rfl 1 rfl rfl ?_
  obtain ⟨x1, hg1, hf⟩ := cl1_some hf
  refine a_cVsi (q0 := 9) (rest := []) hX hE.1 (ctX6_has (q := q) hE hg1) K_X11_291 ⟨rfl, rfl⟩ ⟨rfl, rfl, by decide, by decide⟩ ⟨Nat.zero_le _, Nat.zero_le _⟩ (Nat.le_of_ble_eq_true rfl) dX11_same_5 rfl rfl ?_
  refine a_if_eq (tgt := 22) hX dX11_same_8 rfl rfl hf (fun hf => ?_) (fun hf => ?_)
  · refine a_bipush (v := (-2)) hX dX11_same_22 (by decide) rfl ?_
    exact a_iret hX hT hF (r_i hf) dX11_same_24
  · refine a_aload_n hX dX11_same_11 rfl 0 rfl rfl ?_
    refine gX11_9 hX F_X11_84 dX11_same_12 rfl ?_
    refine a_iload_n hX dX11_same_15 rfl 2 rfl rfl ?_
    obtain ⟨x2, hg2, hf⟩ := cl1_some hf
    refine a_cVsi (q0 := 9) (rest := []) hX hE.1 (ctX6_has (q := q) hE hg2) K_X11_291 ⟨rfl, rfl⟩ ⟨rfl, rfl, by decide, by decide⟩ ⟨Nat.zero_le _, Nat.zero_le _⟩ (Nat.le_of_ble_eq_true rfl) dX11_same_16 rfl rfl ?_
    refine a_if_ne (tgt := 25) hX dX11_same_19 rfl rfl hf (fun hf => ?_) (fun hf => ?_)
    · refine a_iload_n hX dX11_same_25 rfl 3 rfl rfl ?_
      by_cases hs0 : v3 = 0
      · rw [if_pos hs0] at hf
        refine a_tsw (pc' := 52) hX dX11_same_26 0 hs0 (by decide) (by decide) rfl rfl ?_
        refine a_aload_n hX dX11_same_52 rfl 0 rfl rfl ?_
        refine gX11_9 hX F_X11_84 dX11_same_53 rfl ?_
        refine a_iload_n hX dX11_same_56 rfl 1 rfl rfl ?_
        refine a_iload_n hX dX11_same_57 rfl 2 rfl rfl ?_
        obtain ⟨x3, hg3, hf⟩ := cl1_some hf
        refine a_cVsi (q0 := 9) (rest := []) hX hE.1 (ctX6_match (q := q) hE hg3) K_X11_292 ⟨rfl, rfl⟩ ⟨rfl, rfl, by decide, by decide⟩ ⟨Nat.zero_le _, Nat.zero_le _⟩ (Nat.le_of_ble_eq_true rfl) dX11_same_58 rfl rfl ?_
        refine a_if_eq (tgt := 68) hX dX11_same_61 rfl rfl hf (fun hf => ?_) (fun hf => ?_)
        · refine a_iconst (v := 0) hX dX11_same_68 (by decide) rfl ?_
          exact a_iret hX hT hF (r_i hf) dX11_same_69
        · refine a_iconst (v := 1) hX dX11_same_64 (by decide) rfl ?_
          refine a_goto (pc' := 69) hX dX11_same_65 rfl ?_
          exact a_iret hX hT hF (r_i hf) dX11_same_69
      · rw [if_neg hs0] at hf
        by_cases hs1 : v3 = 1
        · rw [if_pos hs1] at hf
          refine a_tsw (pc' := 70) hX dX11_same_26 1 hs1 (by decide) (by decide) rfl rfl ?_
          refine a_aload_n hX dX11_same_70 rfl 0 rfl rfl ?_
          refine gX11_9 hX F_X11_84 dX11_same_71 rfl ?_
          refine a_iload_n hX dX11_same_74 rfl 1 rfl rfl ?_
          refine a_iload_n hX dX11_same_75 rfl 2 rfl rfl ?_
          obtain ⟨x4, hg4, hf⟩ := cl1_some hf
          refine a_cVsi (q0 := 9) (rest := []) hX hE.1 (ctX6_atOdds (q := q) hE hg4) K_X11_295 ⟨rfl, rfl⟩ ⟨rfl, rfl, by decide, by decide⟩ ⟨Nat.zero_le _, Nat.zero_le _⟩ (Nat.le_of_ble_eq_true rfl) dX11_same_76 rfl rfl ?_
          refine a_if_eq (tgt := 86) hX dX11_same_79 rfl rfl hf (fun hf => ?_) (fun hf => ?_)
          · refine a_iconst (v := 0) hX dX11_same_86 (by decide) rfl ?_
            exact a_iret hX hT hF (r_i hf) dX11_same_87
          · refine a_iconst (v := 1) hX dX11_same_82 (by decide) rfl ?_
            refine a_goto (pc' := 87) hX dX11_same_83 rfl ?_
            exact a_iret hX hT hF (r_i hf) dX11_same_87
        · rw [if_neg hs1] at hf
          by_cases hs2 : v3 = 2
          · rw [if_pos hs2] at hf
            refine a_tsw (pc' := 88) hX dX11_same_26 2 hs2 (by decide) (by decide) rfl rfl ?_
            refine a_aload_n hX dX11_same_88 rfl 0 rfl rfl ?_
            refine gX11_9 hX F_X11_84 dX11_same_89 rfl ?_
            refine a_iload_n hX dX11_same_92 rfl 1 rfl rfl ?_
            obtain ⟨x5, hg5, hf⟩ := cl1_some hf
            refine a_cVsi (q0 := 9) (rest := []) hX hE.1 (ctX6_thingOf (q := q) hE hg5) K_X11_298 ⟨rfl, rfl⟩ ⟨rfl, rfl, by decide, by decide⟩ ⟨Nat.zero_le _, Nat.zero_le _⟩ (Nat.le_of_ble_eq_true rfl) dX11_same_93 rfl rfl ?_
            refine a_iload_n hX dX11_same_96 rfl 2 rfl rfl ?_
            obtain ⟨x6, hg6, hf⟩ := cl1_some hf
            refine a_cSpi (rest := []) hX hE.1 (ctX11_isIn hE.1 hg6) K_X11_144 ⟨rfl, rfl, by decide, by decide⟩ ⟨Nat.zero_le _, Nat.zero_le _⟩ (Nat.le_of_ble_eq_true rfl) dX11_same_97 rfl rfl ?_
            refine a_if_eq (tgt := 107) hX dX11_same_100 rfl rfl hf (fun hf => ?_) (fun hf => ?_)
            · refine a_iconst (v := 0) hX dX11_same_107 (by decide) rfl ?_
              exact a_iret hX hT hF (r_i hf) dX11_same_108
            · refine a_iconst (v := 1) hX dX11_same_103 (by decide) rfl ?_
              refine a_goto (pc' := 108) hX dX11_same_104 rfl ?_
              exact a_iret hX hT hF (r_i hf) dX11_same_108
          · rw [if_neg hs2] at hf
            have hs0 : ¬ Int32.toInt v3 = 0 := ne_toInt hs0
            have hs1 : ¬ Int32.toInt v3 = 1 := ne_toInt hs1
            have hs2 : ¬ Int32.toInt v3 = 2 := ne_toInt hs2
            refine a_tswO (pc' := 109) hX dX11_same_26 (by omega) rfl ?_
            refine a_bipush (v := (-2)) hX dX11_same_109 (by decide) rfl ?_
            exact a_iret hX hT hF (r_i hf) dX11_same_111
    · refine a_bipush (v := (-2)) hX dX11_same_22 (by decide) rfl ?_
      exact a_iret hX hT hF (r_i hf) dX11_same_24
theorem ctX11_same {V : Vx} {q : Nat → Nat} {u : St} {g : Nat → Nat} {ts : List Tx} {res : Int32} (hE : EnvC V g) {v1 : Int32} {v2 : Int32} {v3 : Int32} (hf : fX11_same u v1 v2 v3 = some res) : Ct V yX11_same (.code yX11_same cX11_same 4 (some .int)) rmX11_same 0 0 [.ref (q 11), .int v1, .int v2, .int v3] (wC V q ts u) (rEq (some (.int res)) (wC V q ts u)) :=
  Ct_of (by decide) (Nat.le_of_ble_eq_true rfl) rfl (fun X hX hT _ hF => wX11_same ⟨hX, hT, hF⟩ hE hf)
def rmX11_things : Room := { frames := 5, cells := 0, slots := 0, locals := 117 }
def fX11_things_b29 (u : St)  (s0 : Int32) : Option (Int32) := cl1 (fX6_countThings u s0) (fun x1 => some x1)
theorem wX11_things_b29 {X : Cx} {V : Vx} {q : Nat → Nat} {g : Nat → Nat} {ts : List Tx} {u : St} {res : Int32} (h : Run X cX11_things 2 RX11 rmX11_things V (some .int) (rEq (some (.int res)) (wC V q ts u))) (hE : EnvC V g) {s0 : Int32} (hf : fX11_things_b29 u  s0 = some res) : At X 2 0 0 (wC V q ts u) 29 [] [.int s0, .ref (q 6)] := by
  obtain ⟨hX, hT, hF⟩ := id h
  unfold fX11_things_b29 at hf
  obtain ⟨x1, hg1, hf⟩ := cl1_some hf
  refine a_cVsi (q0 := 9) (rest := []) hX hE.1 (ctX6_countThings (q := q) hE hg1) K_X11_301 ⟨rfl, rfl⟩ ⟨rfl, rfl, by decide, by decide⟩ ⟨Nat.zero_le _, Nat.zero_le _⟩ (Nat.le_of_ble_eq_true rfl) dX11_things_29 rfl rfl ?_
  exact a_iret hX hT hF (r_i hf) dX11_things_32
def fX11_things_b14 (u : St)  (v1 : Int32) : Option (Int32) := if v1 = (-2) then fX11_things_b29 u 1 else (fX11_things_b29 u 0)
theorem wX11_things_b14 {X : Cx} {V : Vx} {q : Nat → Nat} {g : Nat → Nat} {ts : List Tx} {u : St} {res : Int32} (h : Run X cX11_things 2 RX11 rmX11_things V (some .int) (rEq (some (.int res)) (wC V q ts u))) (hE : EnvC V g) {v1 : Int32} (hf : fX11_things_b14 u  v1 = some res) : At X 2 0 0 (wC V q ts u) 14 [(0, .ref (q 11)), (1, .int v1)] [] := by
  obtain ⟨hX, hT, hF⟩ := id h
  unfold fX11_things_b14 at hf
  refine a_aload_n hX dX11_things_14 rfl 0 rfl rfl ?_
  refine gX11_9 hX F_X11_84 dX11_things_15 rfl ?_
  refine a_iload_n hX dX11_things_18 rfl 1 rfl rfl ?_
  refine a_bipush (v := (-2)) hX dX11_things_19 (by decide) rfl ?_
  refine a_icmp_ne (tgt := 28) hX dX11_things_21 rfl rfl hf (fun hf => ?_) (fun hf => ?_)
  · refine a_iconst (v := 0) hX dX11_things_28 (by decide) rfl ?_
    refine a_lv (lv' := []) [] rfl ?_
    exact wX11_things_b29 h hE hf
  · refine a_iconst (v := 1) hX dX11_things_24 (by decide) rfl ?_
    refine a_goto (pc' := 29) hX dX11_things_25 rfl ?_
    refine a_lv (lv' := []) [] rfl ?_
    exact wX11_things_b29 h hE hf
def fX11_things (u : St) (v1 : Int32) : Option (Int32) := if v1 = (-1) then fX11_things_b14 u v1 else (if v1 = (-2) then fX11_things_b14 u v1 else (some (-2)))
theorem wX11_things {X : Cx} {V : Vx} {q : Nat → Nat} {g : Nat → Nat} {ts : List Tx} {u : St} {res : Int32} (h : Run X cX11_things 2 RX11 rmX11_things V (some .int) (rEq (some (.int res)) (wC V q ts u))) (hE : EnvC V g) {v1 : Int32} (hf : fX11_things u v1 = some res) : At X 2 0 0 (wC V q ts u) 0 [(0, .ref (q 11)), (1, .int v1)] [] := by
  obtain ⟨hX, hT, hF⟩ := id h
  unfold fX11_things at hf
  refine a_iload_n hX dX11_things_0 rfl 1 rfl rfl ?_
  refine a_iconst (v := (-1)) hX dX11_things_1 (by decide) rfl ?_
  refine a_icmp_eq (tgt := 14) hX dX11_things_2 rfl rfl hf (fun hf => ?_) (fun hf => ?_)
  · exact wX11_things_b14 h hE hf
  · refine a_iload_n hX dX11_things_5 rfl 1 rfl rfl ?_
    refine a_bipush (v := (-2)) hX dX11_things_6 (by decide) rfl ?_
    refine a_icmp_eq (tgt := 14) hX dX11_things_8 rfl rfl hf (fun hf => ?_) (fun hf => ?_)
    · exact wX11_things_b14 h hE hf
    · refine a_bipush (v := (-2)) hX dX11_things_11 (by decide) rfl ?_
      exact a_iret hX hT hF (r_i hf) dX11_things_13
theorem ctX11_things {V : Vx} {q : Nat → Nat} {u : St} {g : Nat → Nat} {ts : List Tx} {res : Int32} (hE : EnvC V g) {v1 : Int32} (hf : fX11_things u v1 = some res) : Ct V yX11_things (.code yX11_things cX11_things 2 (some .int)) rmX11_things 0 0 [.ref (q 11), .int v1] (wC V q ts u) (rEq (some (.int res)) (wC V q ts u)) :=
  Ct_of (by decide) (Nat.le_of_ble_eq_true rfl) rfl (fun X hX hT _ hF => wX11_things ⟨hX, hT, hF⟩ hE hf)
def rmX11_count : Room := { frames := 2, cells := 0, slots := 0, locals := 40 }
def fX11_count (u : St) (v1 : Int32) : Option (Int32) := if v1 = 0 then some (gZ u 220) else (if v1 = 1 then some (gZ u 200) else (if v1 = 2 then some (gZ u 80) else (if v1 = 3 then cl1 (fX4_standingCount u) (fun x1 => some x1) else (if v1 = 4 then some (gZ u 60) else (if v1 = 5 then some (gZ u 0) else (if v1 = 6 then some (gZ u 160) else (if v1 = 7 then some (gZ u 120) else (if v1 = 8 then some (gZ u 61) else (if v1 = 9 then some (gZ u 100) else (if v1 = 10 then some (gZ u 20) else (some (-2))))))))))))
theorem wX11_count {X : Cx} {V : Vx} {q : Nat → Nat} {g : Nat → Nat} {ts : List Tx} {u : St} {res : Int32} (h : Run X cX11_count 2 RX11 rmX11_count V (some .int) (rEq (some (.int res)) (wC V q ts u))) (hE : EnvC V g) {v1 : Int32} (hf : fX11_count u v1 = some res) : At X 2 0 0 (wC V q ts u) 0 [(0, .ref (q 11)), (1, .int v1)] [] := by
  obtain ⟨hX, hT, hF⟩ := id h
  unfold fX11_count at hf
  refine a_iload_n hX dX11_count_0 rfl 1 rfl rfl ?_
  by_cases hs0 : v1 = 0
  · rw [if_pos hs0] at hf
    refine a_tsw (pc' := 60) hX dX11_count_1 0 hs0 (by decide) (by decide) rfl rfl ?_
    refine a_aload_n hX dX11_count_60 rfl 0 rfl rfl ?_
    refine gX11_0 hX F_X11_15 dX11_count_61 rfl ?_
    exact a_iret hX hT hF (r_i hf) dX11_count_64
  · rw [if_neg hs0] at hf
    by_cases hs1 : v1 = 1
    · rw [if_pos hs1] at hf
      refine a_tsw (pc' := 65) hX dX11_count_1 1 hs1 (by decide) (by decide) rfl rfl ?_
      refine a_aload_n hX dX11_count_65 rfl 0 rfl rfl ?_
      refine gX11_1 hX F_X11_22 dX11_count_66 rfl ?_
      refine gX10_0 hX F_X11_102 dX11_count_69 rfl ?_
      exact a_iret hX hT hF (r_i hf) dX11_count_72
    · rw [if_neg hs1] at hf
      by_cases hs2 : v1 = 2
      · rw [if_pos hs2] at hf
        refine a_tsw (pc' := 73) hX dX11_count_1 2 hs2 (by decide) (by decide) rfl rfl ?_
        refine a_aload_n hX dX11_count_73 rfl 0 rfl rfl ?_
        refine gX11_2 hX F_X11_29 dX11_count_74 rfl ?_
        refine gX4_0 hX F_X11_118 dX11_count_77 rfl ?_
        exact a_iret hX hT hF (r_i hf) dX11_count_80
      · rw [if_neg hs2] at hf
        by_cases hs3 : v1 = 3
        · rw [if_pos hs3] at hf
          refine a_tsw (pc' := 81) hX dX11_count_1 3 hs3 (by decide) (by decide) rfl rfl ?_
          refine a_aload_n hX dX11_count_81 rfl 0 rfl rfl ?_
          refine gX11_2 hX F_X11_29 dX11_count_82 rfl ?_
          obtain ⟨x1, hg1, hf⟩ := cl1_some hf
          refine a_cVsi (q0 := 2) (rest := []) hX hE.1 (ctX4_standingCount (q := q) hE hg1) K_X11_161 ⟨rfl, rfl⟩ ⟨rfl, rfl, by decide, by decide⟩ ⟨Nat.zero_le _, Nat.zero_le _⟩ (Nat.le_of_ble_eq_true rfl) dX11_count_85 rfl rfl ?_
          exact a_iret hX hT hF (r_i hf) dX11_count_88
        · rw [if_neg hs3] at hf
          by_cases hs4 : v1 = 4
          · rw [if_pos hs4] at hf
            refine a_tsw (pc' := 89) hX dX11_count_1 4 hs4 (by decide) (by decide) rfl rfl ?_
            refine a_aload_n hX dX11_count_89 rfl 0 rfl rfl ?_
            refine gX11_5 hX F_X11_52 dX11_count_90 rfl ?_
            refine gX3_0 hX F_X11_218 dX11_count_93 rfl ?_
            exact a_iret hX hT hF (r_i hf) dX11_count_96
          · rw [if_neg hs4] at hf
            by_cases hs5 : v1 = 5
            · rw [if_pos hs5] at hf
              refine a_tsw (pc' := 97) hX dX11_count_1 5 hs5 (by decide) (by decide) rfl rfl ?_
              refine a_aload_n hX dX11_count_97 rfl 0 rfl rfl ?_
              refine gX11_6 hX F_X11_61 dX11_count_98 rfl ?_
              refine gX0_0 hX F_X11_240 dX11_count_101 rfl ?_
              exact a_iret hX hT hF (r_i hf) dX11_count_104
            · rw [if_neg hs5] at hf
              by_cases hs6 : v1 = 6
              · rw [if_pos hs6] at hf
                refine a_tsw (pc' := 105) hX dX11_count_1 6 hs6 (by decide) (by decide) rfl rfl ?_
                refine a_aload_n hX dX11_count_105 rfl 0 rfl rfl ?_
                refine gX11_8 hX F_X11_77 dX11_count_106 rfl ?_
                refine gX8_0 hX F_X11_267 dX11_count_109 rfl ?_
                exact a_iret hX hT hF (r_i hf) dX11_count_112
              · rw [if_neg hs6] at hf
                by_cases hs7 : v1 = 7
                · rw [if_pos hs7] at hf
                  refine a_tsw (pc' := 113) hX dX11_count_1 7 hs7 (by decide) (by decide) rfl rfl ?_
                  refine a_aload_n hX dX11_count_113 rfl 0 rfl rfl ?_
                  refine gX11_9 hX F_X11_84 dX11_count_114 rfl ?_
                  refine gX6_0 hX F_X11_289 dX11_count_117 rfl ?_
                  exact a_iret hX hT hF (r_i hf) dX11_count_120
                · rw [if_neg hs7] at hf
                  by_cases hs8 : v1 = 8
                  · rw [if_pos hs8] at hf
                    refine a_tsw (pc' := 121) hX dX11_count_1 8 hs8 (by decide) (by decide) rfl rfl ?_
                    refine a_aload_n hX dX11_count_121 rfl 0 rfl rfl ?_
                    refine gX11_5 hX F_X11_52 dX11_count_122 rfl ?_
                    refine gX3_1 hX F_X11_201 dX11_count_125 rfl ?_
                    exact a_iret hX hT hF (r_i hf) dX11_count_128
                  · rw [if_neg hs8] at hf
                    by_cases hs9 : v1 = 9
                    · rw [if_pos hs9] at hf
                      refine a_tsw (pc' := 129) hX dX11_count_1 9 hs9 (by decide) (by decide) rfl rfl ?_
                      refine a_aload_n hX dX11_count_129 rfl 0 rfl rfl ?_
                      refine gX11_4 hX F_X11_45 dX11_count_130 rfl ?_
                      refine gX5_0 hX F_X11_196 dX11_count_133 rfl ?_
                      exact a_iret hX hT hF (r_i hf) dX11_count_136
                    · rw [if_neg hs9] at hf
                      by_cases hs10 : v1 = 10
                      · rw [if_pos hs10] at hf
                        refine a_tsw (pc' := 137) hX dX11_count_1 10 hs10 (by decide) (by decide) rfl rfl ?_
                        refine a_aload_n hX dX11_count_137 rfl 0 rfl rfl ?_
                        refine gX11_3 hX F_X11_38 dX11_count_138 rfl ?_
                        refine gX1_0 hX F_X11_109 dX11_count_141 rfl ?_
                        exact a_iret hX hT hF (r_i hf) dX11_count_144
                      · rw [if_neg hs10] at hf
                        have hs0 : ¬ Int32.toInt v1 = 0 := ne_toInt hs0
                        have hs1 : ¬ Int32.toInt v1 = 1 := ne_toInt hs1
                        have hs2 : ¬ Int32.toInt v1 = 2 := ne_toInt hs2
                        have hs3 : ¬ Int32.toInt v1 = 3 := ne_toInt hs3
                        have hs4 : ¬ Int32.toInt v1 = 4 := ne_toInt hs4
                        have hs5 : ¬ Int32.toInt v1 = 5 := ne_toInt hs5
                        have hs6 : ¬ Int32.toInt v1 = 6 := ne_toInt hs6
                        have hs7 : ¬ Int32.toInt v1 = 7 := ne_toInt hs7
                        have hs8 : ¬ Int32.toInt v1 = 8 := ne_toInt hs8
                        have hs9 : ¬ Int32.toInt v1 = 9 := ne_toInt hs9
                        have hs10 : ¬ Int32.toInt v1 = 10 := ne_toInt hs10
                        refine a_tswO (pc' := 145) hX dX11_count_1 (by omega) rfl ?_
                        refine a_bipush (v := (-2)) hX dX11_count_145 (by decide) rfl ?_
                        exact a_iret hX hT hF (r_i hf) dX11_count_147
theorem ctX11_count {V : Vx} {q : Nat → Nat} {u : St} {g : Nat → Nat} {ts : List Tx} {res : Int32} (hE : EnvC V g) {v1 : Int32} (hf : fX11_count u v1 = some res) : Ct V yX11_count (.code yX11_count cX11_count 2 (some .int)) rmX11_count 0 0 [.ref (q 11), .int v1] (wC V q ts u) (rEq (some (.int res)) (wC V q ts u)) :=
  Ct_of (by decide) (Nat.le_of_ble_eq_true rfl) rfl (fun X hX hT _ hF => wX11_count ⟨hX, hT, hF⟩ hE hf)
def rmX11_sheet : Room := { frames := 1, cells := 0, slots := 0, locals := 24 }
def fX11_sheet (u : St) (v1 : Int32) (v2 : Int32) (v3 : Int32) : Option (Int32 × St) := cl1 (fX7_isSheet v1) (fun x1 => if x1 = 0 then some ((-2), u) else (if v2 = (-1) then cl2 (fX7_lose u v1) (fun x5 u6 => some (x5, u6)) else (cl1 (fX7_isSort v2) (fun x2 => if x2 = 0 then some ((-2), u) else (if v3 ≤ 40 then if 0 ≤ v3 then cl2 (fX7_lay u v1 v2 v3) (fun x3 u4 => some (x3, u4)) else (some ((-14), u)) else (some ((-2), u)))))))
theorem wX11_sheet {X : Cx} {V : Vx} {q : Nat → Nat} {g : Nat → Nat} {ts : List Tx} {res : Int32 × St} (h : Run X cX11_sheet 4 RX11 rmX11_sheet V (some .int) (rEq (some (.int res.1)) (wC V q ts res.2))) (hE : EnvC V g) {u : St} {v1 : Int32} {v2 : Int32} {v3 : Int32} (hf : fX11_sheet u v1 v2 v3 = some res) : At X 4 0 0 (wC V q ts u) 0 [(0, .ref (q 11)), (1, .int v1), (2, .int v2), (3, .int v3)] [] := by
  obtain ⟨hX, hT, hF⟩ := id h
  unfold fX11_sheet at hf
  refine a_iload_n hX dX11_sheet_0 rfl 1 rfl rfl ?_
  obtain ⟨x1, hg1, hf⟩ := cl1_some hf
  refine a_cSpi (rest := []) hX hE.1 (ctX7_isSheet hE.1 hg1) K_X11_305 ⟨rfl, rfl, by decide, by decide⟩ ⟨Nat.zero_le _, Nat.zero_le _⟩ (Nat.le_of_ble_eq_true rfl) dX11_sheet_1 rfl rfl ?_
  refine a_if_ne (tgt := 10) hX dX11_sheet_4 rfl rfl hf (fun hf => ?_) (fun hf => ?_)
  · refine a_iload_n hX dX11_sheet_10 rfl 2 rfl rfl ?_
    refine a_iconst (v := (-1)) hX dX11_sheet_11 (by decide) rfl ?_
    refine a_icmp_ne (tgt := 24) hX dX11_sheet_12 rfl rfl hf (fun hf => ?_) (fun hf => ?_)
    · refine a_iload_n hX dX11_sheet_24 rfl 2 rfl rfl ?_
      obtain ⟨x2, hg2, hf⟩ := cl1_some hf
      refine a_cSpi (rest := []) hX hE.1 (ctX7_isSort hE.1 hg2) K_X11_311 ⟨rfl, rfl, by decide, by decide⟩ ⟨Nat.zero_le _, Nat.zero_le _⟩ (Nat.le_of_ble_eq_true rfl) dX11_sheet_25 rfl rfl ?_
      refine a_if_eq (tgt := 37) hX dX11_sheet_28 rfl rfl hf (fun hf => ?_) (fun hf => ?_)
      · refine a_bipush (v := (-2)) hX dX11_sheet_37 (by decide) rfl ?_
        exact a_iret hX hT hF (r_iS (wf := (wC V q ts)) hf) dX11_sheet_39
      · refine a_iload_n hX dX11_sheet_31 rfl 3 rfl rfl ?_
        refine a_bipush (v := 40) hX dX11_sheet_32 (by decide) rfl ?_
        refine a_icmp_le (tgt := 40) hX dX11_sheet_34 rfl rfl hf (fun hf => ?_) (fun hf => ?_)
        · refine a_iload_n hX dX11_sheet_40 rfl 3 rfl rfl ?_
          refine a_if_ge (tgt := 47) hX dX11_sheet_41 rfl rfl hf (fun hf => ?_) (fun hf => ?_)
          · refine a_aload_n hX dX11_sheet_47 rfl 0 rfl rfl ?_
            refine gX11_10 hX F_X11_91 dX11_sheet_48 rfl ?_
            refine a_iload_n hX dX11_sheet_51 rfl 1 rfl rfl ?_
            refine a_iload_n hX dX11_sheet_52 rfl 2 rfl rfl ?_
            refine a_iload_n hX dX11_sheet_53 rfl 3 rfl rfl ?_
            obtain ⟨x3, u4, hg3, hf⟩ := cl2_some hf
            refine a_cVsi (q0 := 10) (rest := []) hX hE.1 (ctX7_lay (q := q) hE hg3) K_X11_314 ⟨rfl, rfl⟩ ⟨rfl, rfl, by decide, by decide⟩ ⟨Nat.zero_le _, Nat.zero_le _⟩ (Nat.le_of_ble_eq_true rfl) dX11_sheet_54 rfl rfl ?_
            exact a_iret hX hT hF (r_iS (wf := (wC V q ts)) hf) dX11_sheet_57
          · refine a_bipush (v := (-14)) hX dX11_sheet_44 (by decide) rfl ?_
            exact a_iret hX hT hF (r_iS (wf := (wC V q ts)) hf) dX11_sheet_46
        · refine a_bipush (v := (-2)) hX dX11_sheet_37 (by decide) rfl ?_
          exact a_iret hX hT hF (r_iS (wf := (wC V q ts)) hf) dX11_sheet_39
    · refine a_aload_n hX dX11_sheet_15 rfl 0 rfl rfl ?_
      refine gX11_10 hX F_X11_91 dX11_sheet_16 rfl ?_
      refine a_iload_n hX dX11_sheet_19 rfl 1 rfl rfl ?_
      obtain ⟨x5, u6, hg5, hf⟩ := cl2_some hf
      refine a_cVsi (q0 := 10) (rest := []) hX hE.1 (ctX7_lose (q := q) hE hg5) K_X11_308 ⟨rfl, rfl⟩ ⟨rfl, rfl, by decide, by decide⟩ ⟨Nat.zero_le _, Nat.zero_le _⟩ (Nat.le_of_ble_eq_true rfl) dX11_sheet_20 rfl rfl ?_
      exact a_iret hX hT hF (r_iS (wf := (wC V q ts)) hf) dX11_sheet_23
  · refine a_bipush (v := (-2)) hX dX11_sheet_7 (by decide) rfl ?_
    exact a_iret hX hT hF (r_iS (wf := (wC V q ts)) hf) dX11_sheet_9
theorem ctX11_sheet {V : Vx} {q : Nat → Nat} {u : St} {g : Nat → Nat} {ts : List Tx} {res : Int32 × St} (hE : EnvC V g) {v1 : Int32} {v2 : Int32} {v3 : Int32} (hf : fX11_sheet u v1 v2 v3 = some res) : Ct V yX11_sheet (.code yX11_sheet cX11_sheet 4 (some .int)) rmX11_sheet 0 0 [.ref (q 11), .int v1, .int v2, .int v3] (wC V q ts u) (rEq (some (.int res.1)) (wC V q ts res.2)) :=
  Ct_of (by decide) (Nat.le_of_ble_eq_true rfl) rfl (fun X hX hT _ hF => wX11_sheet ⟨hX, hT, hF⟩ hE hf)
def rmX11_cell : Room := { frames := 2, cells := 0, slots := 0, locals := 44 }
def fX11_cell (u : St) (v1 : Int32) (v2 : Int32) (v3 : Int32) : Option (Int32 × St) := cl1 (fX7_isSheet v1) (fun x1 => if x1 = 0 then some ((-2), u) else (cl1 (fX7_isMissing u v1) (fun x2 => if x2 = 0 then cl1 (fX7_holds u v1 v2 1) (fun x3 => if x3 = 0 then some ((-12), u) else (cl2 (fX7_write u v1 v2 v3) (fun x4 u5 => some (x4, u5)))) else (some ((-11), u)))))
theorem wX11_cell {X : Cx} {V : Vx} {q : Nat → Nat} {g : Nat → Nat} {ts : List Tx} {res : Int32 × St} (h : Run X cX11_cell 4 RX11 rmX11_cell V (some .int) (rEq (some (.int res.1)) (wC V q ts res.2))) (hE : EnvC V g) {u : St} {v1 : Int32} {v2 : Int32} {v3 : Int32} (hf : fX11_cell u v1 v2 v3 = some res) : At X 4 0 0 (wC V q ts u) 0 [(0, .ref (q 11)), (1, .int v1), (2, .int v2), (3, .int v3)] [] := by
  obtain ⟨hX, hT, hF⟩ := id h
  unfold fX11_cell at hf
  refine a_iload_n hX dX11_cell_0 rfl 1 rfl rfl ?_
  obtain ⟨x1, hg1, hf⟩ := cl1_some hf
  refine a_cSpi (rest := []) hX hE.1 (ctX7_isSheet hE.1 hg1) K_X11_305 ⟨rfl, rfl, by decide, by decide⟩ ⟨Nat.zero_le _, Nat.zero_le _⟩ (Nat.le_of_ble_eq_true rfl) dX11_cell_1 rfl rfl ?_
  refine a_if_ne (tgt := 10) hX dX11_cell_4 rfl rfl hf (fun hf => ?_) (fun hf => ?_)
  · refine a_aload_n hX dX11_cell_10 rfl 0 rfl rfl ?_
    refine gX11_10 hX F_X11_91 dX11_cell_11 rfl ?_
    refine a_iload_n hX dX11_cell_14 rfl 1 rfl rfl ?_
    obtain ⟨x2, hg2, hf⟩ := cl1_some hf
    refine a_cVsi (q0 := 10) (rest := []) hX hE.1 (ctX7_isMissing (q := q) hE hg2) K_X11_317 ⟨rfl, rfl⟩ ⟨rfl, rfl, by decide, by decide⟩ ⟨Nat.zero_le _, Nat.zero_le _⟩ (Nat.le_of_ble_eq_true rfl) dX11_cell_15 rfl rfl ?_
    refine a_if_eq (tgt := 24) hX dX11_cell_18 rfl rfl hf (fun hf => ?_) (fun hf => ?_)
    · refine a_aload_n hX dX11_cell_24 rfl 0 rfl rfl ?_
      refine gX11_10 hX F_X11_91 dX11_cell_25 rfl ?_
      refine a_iload_n hX dX11_cell_28 rfl 1 rfl rfl ?_
      refine a_iload_n hX dX11_cell_29 rfl 2 rfl rfl ?_
      refine a_iconst (v := 1) hX dX11_cell_30 (by decide) rfl ?_
      obtain ⟨x3, hg3, hf⟩ := cl1_some hf
      refine a_cVsi (q0 := 10) (rest := []) hX hE.1 (ctX7_holds (q := q) hE hg3) K_X11_320 ⟨rfl, rfl⟩ ⟨rfl, rfl, by decide, by decide⟩ ⟨Nat.zero_le _, Nat.zero_le _⟩ (Nat.le_of_ble_eq_true rfl) dX11_cell_31 rfl rfl ?_
      refine a_if_ne (tgt := 40) hX dX11_cell_34 rfl rfl hf (fun hf => ?_) (fun hf => ?_)
      · refine a_aload_n hX dX11_cell_40 rfl 0 rfl rfl ?_
        refine gX11_10 hX F_X11_91 dX11_cell_41 rfl ?_
        refine a_iload_n hX dX11_cell_44 rfl 1 rfl rfl ?_
        refine a_iload_n hX dX11_cell_45 rfl 2 rfl rfl ?_
        refine a_iload_n hX dX11_cell_46 rfl 3 rfl rfl ?_
        obtain ⟨x4, u5, hg4, hf⟩ := cl2_some hf
        refine a_cVsi (q0 := 10) (rest := []) hX hE.1 (ctX7_write (q := q) hE hg4) K_X11_324 ⟨rfl, rfl⟩ ⟨rfl, rfl, by decide, by decide⟩ ⟨Nat.zero_le _, Nat.zero_le _⟩ (Nat.le_of_ble_eq_true rfl) dX11_cell_47 rfl rfl ?_
        exact a_iret hX hT hF (r_iS (wf := (wC V q ts)) hf) dX11_cell_50
      · refine a_bipush (v := (-12)) hX dX11_cell_37 (by decide) rfl ?_
        exact a_iret hX hT hF (r_iS (wf := (wC V q ts)) hf) dX11_cell_39
    · refine a_bipush (v := (-11)) hX dX11_cell_21 (by decide) rfl ?_
      exact a_iret hX hT hF (r_iS (wf := (wC V q ts)) hf) dX11_cell_23
  · refine a_bipush (v := (-2)) hX dX11_cell_7 (by decide) rfl ?_
    exact a_iret hX hT hF (r_iS (wf := (wC V q ts)) hf) dX11_cell_9
theorem ctX11_cell {V : Vx} {q : Nat → Nat} {u : St} {g : Nat → Nat} {ts : List Tx} {res : Int32 × St} (hE : EnvC V g) {v1 : Int32} {v2 : Int32} {v3 : Int32} (hf : fX11_cell u v1 v2 v3 = some res) : Ct V yX11_cell (.code yX11_cell cX11_cell 4 (some .int)) rmX11_cell 0 0 [.ref (q 11), .int v1, .int v2, .int v3] (wC V q ts u) (rEq (some (.int res.1)) (wC V q ts res.2)) :=
  Ct_of (by decide) (Nat.le_of_ble_eq_true rfl) rfl (fun X hX hT _ hF => wX11_cell ⟨hX, hT, hF⟩ hE hf)
def rmX11_copy : Room := { frames := 2, cells := 0, slots := 0, locals := 85 }
def fX11_copy (u : St) (v1 : Int32) (v2 : Int32) (v3 : Int32) (v4 : Int32) (v5 : Int32) : Option (Int32 × St) := cl1 (fX7_isSheet v1) (fun x1 => if x1 = 0 then some ((-2), u) else (cl1 (fX7_isSheet v3) (fun x2 => if x2 = 0 then some ((-2), u) else (cl1 (fX7_isMissing u v1) (fun x3 => if x3 = 0 then cl1 (fX7_isMissing u v3) (fun x4 => if x4 = 0 then ldI (gA u 140) 4 v1 (fun x5 => ldI (gA u 140) 4 v3 (fun x6 => if x5 = x6 then cl1 (fX7_holds u v1 v2 v5) (fun x7 => if x7 = 0 then some ((-12), u) else (cl1 (fX7_holds u v3 v4 v5) (fun x8 => if x8 = 0 then some ((-12), u) else (cl2 (fX7_move u v1 v2 v3 v4 v5) (fun x9 u10 => some (x9, u10)))))) else (some ((-13), u)))) else (some ((-11), u))) else (some ((-11), u)))))))
theorem wX11_copy {X : Cx} {V : Vx} {q : Nat → Nat} {g : Nat → Nat} {ts : List Tx} {res : Int32 × St} (h : Run X cX11_copy 6 RX11 rmX11_copy V (some .int) (rEq (some (.int res.1)) (wC V q ts res.2))) (hE : EnvC V g) {u : St} {v1 : Int32} {v2 : Int32} {v3 : Int32} {v4 : Int32} {v5 : Int32} (hf : fX11_copy u v1 v2 v3 v4 v5 = some res) : At X 6 0 0 (wC V q ts u) 0 [(0, .ref (q 11)), (1, .int v1), (2, .int v2), (3, .int v3), (4, .int v4), (5, .int v5)] [] := by
  obtain ⟨hX, hT, hF⟩ := id h
  unfold fX11_copy at hf
  refine a_iload_n hX dX11_copy_0 rfl 1 rfl rfl ?_
  obtain ⟨x1, hg1, hf⟩ := cl1_some hf
  refine a_cSpi (rest := []) hX hE.1 (ctX7_isSheet hE.1 hg1) K_X11_305 ⟨rfl, rfl, by decide, by decide⟩ ⟨Nat.zero_le _, Nat.zero_le _⟩ (Nat.le_of_ble_eq_true rfl) dX11_copy_1 rfl rfl ?_
  refine a_if_eq (tgt := 14) hX dX11_copy_4 rfl rfl hf (fun hf => ?_) (fun hf => ?_)
  · refine a_bipush (v := (-2)) hX dX11_copy_14 (by decide) rfl ?_
    exact a_iret hX hT hF (r_iS (wf := (wC V q ts)) hf) dX11_copy_16
  · refine a_iload_n hX dX11_copy_7 rfl 3 rfl rfl ?_
    obtain ⟨x2, hg2, hf⟩ := cl1_some hf
    refine a_cSpi (rest := []) hX hE.1 (ctX7_isSheet hE.1 hg2) K_X11_305 ⟨rfl, rfl, by decide, by decide⟩ ⟨Nat.zero_le _, Nat.zero_le _⟩ (Nat.le_of_ble_eq_true rfl) dX11_copy_8 rfl rfl ?_
    refine a_if_ne (tgt := 17) hX dX11_copy_11 rfl rfl hf (fun hf => ?_) (fun hf => ?_)
    · refine a_aload_n hX dX11_copy_17 rfl 0 rfl rfl ?_
      refine gX11_10 hX F_X11_91 dX11_copy_18 rfl ?_
      refine a_iload_n hX dX11_copy_21 rfl 1 rfl rfl ?_
      obtain ⟨x3, hg3, hf⟩ := cl1_some hf
      refine a_cVsi (q0 := 10) (rest := []) hX hE.1 (ctX7_isMissing (q := q) hE hg3) K_X11_317 ⟨rfl, rfl⟩ ⟨rfl, rfl, by decide, by decide⟩ ⟨Nat.zero_le _, Nat.zero_le _⟩ (Nat.le_of_ble_eq_true rfl) dX11_copy_22 rfl rfl ?_
      refine a_if_ne (tgt := 39) hX dX11_copy_25 rfl rfl hf (fun hf => ?_) (fun hf => ?_)
      · refine a_bipush (v := (-11)) hX dX11_copy_39 (by decide) rfl ?_
        exact a_iret hX hT hF (r_iS (wf := (wC V q ts)) hf) dX11_copy_41
      · refine a_aload_n hX dX11_copy_28 rfl 0 rfl rfl ?_
        refine gX11_10 hX F_X11_91 dX11_copy_29 rfl ?_
        refine a_iload_n hX dX11_copy_32 rfl 3 rfl rfl ?_
        obtain ⟨x4, hg4, hf⟩ := cl1_some hf
        refine a_cVsi (q0 := 10) (rest := []) hX hE.1 (ctX7_isMissing (q := q) hE hg4) K_X11_317 ⟨rfl, rfl⟩ ⟨rfl, rfl, by decide, by decide⟩ ⟨Nat.zero_le _, Nat.zero_le _⟩ (Nat.le_of_ble_eq_true rfl) dX11_copy_33 rfl rfl ?_
        refine a_if_eq (tgt := 42) hX dX11_copy_36 rfl rfl hf (fun hf => ?_) (fun hf => ?_)
        · refine a_aload_n hX dX11_copy_42 rfl 0 rfl rfl ?_
          refine gX11_10 hX F_X11_91 dX11_copy_43 rfl ?_
          refine gX7_0 hX F_X11_327 dX11_copy_46 rfl ?_
          refine a_iload_n hX dX11_copy_49 rfl 1 rfl rfl ?_
          refine lX7_0 hX dX11_copy_50 rfl hf (fun x5 hf => ?_)
          refine a_aload_n hX dX11_copy_51 rfl 0 rfl rfl ?_
          refine gX11_10 hX F_X11_91 dX11_copy_52 rfl ?_
          refine gX7_0 hX F_X11_327 dX11_copy_55 rfl ?_
          refine a_iload_n hX dX11_copy_58 rfl 3 rfl rfl ?_
          refine lX7_0 hX dX11_copy_59 rfl hf (fun x6 hf => ?_)
          refine a_icmp_eq (tgt := 66) hX dX11_copy_60 rfl rfl hf (fun hf => ?_) (fun hf => ?_)
          · refine a_aload_n hX dX11_copy_66 rfl 0 rfl rfl ?_
            refine gX11_10 hX F_X11_91 dX11_copy_67 rfl ?_
            refine a_iload_n hX dX11_copy_70 rfl 1 rfl rfl ?_
            refine a_iload_n hX dX11_copy_71 rfl 2 rfl rfl ?_
            refine a_iload hX dX11_copy_72 5 rfl rfl ?_
            obtain ⟨x7, hg7, hf⟩ := cl1_some hf
            refine a_cVsi (q0 := 10) (rest := []) hX hE.1 (ctX7_holds (q := q) hE hg7) K_X11_320 ⟨rfl, rfl⟩ ⟨rfl, rfl, by decide, by decide⟩ ⟨Nat.zero_le _, Nat.zero_le _⟩ (Nat.le_of_ble_eq_true rfl) dX11_copy_74 rfl rfl ?_
            refine a_if_eq (tgt := 95) hX dX11_copy_77 rfl rfl hf (fun hf => ?_) (fun hf => ?_)
            · refine a_bipush (v := (-12)) hX dX11_copy_95 (by decide) rfl ?_
              exact a_iret hX hT hF (r_iS (wf := (wC V q ts)) hf) dX11_copy_97
            · refine a_aload_n hX dX11_copy_80 rfl 0 rfl rfl ?_
              refine gX11_10 hX F_X11_91 dX11_copy_81 rfl ?_
              refine a_iload_n hX dX11_copy_84 rfl 3 rfl rfl ?_
              refine a_iload hX dX11_copy_85 4 rfl rfl ?_
              refine a_iload hX dX11_copy_87 5 rfl rfl ?_
              obtain ⟨x8, hg8, hf⟩ := cl1_some hf
              refine a_cVsi (q0 := 10) (rest := []) hX hE.1 (ctX7_holds (q := q) hE hg8) K_X11_320 ⟨rfl, rfl⟩ ⟨rfl, rfl, by decide, by decide⟩ ⟨Nat.zero_le _, Nat.zero_le _⟩ (Nat.le_of_ble_eq_true rfl) dX11_copy_89 rfl rfl ?_
              refine a_if_ne (tgt := 98) hX dX11_copy_92 rfl rfl hf (fun hf => ?_) (fun hf => ?_)
              · refine a_aload_n hX dX11_copy_98 rfl 0 rfl rfl ?_
                refine gX11_10 hX F_X11_91 dX11_copy_99 rfl ?_
                refine a_iload_n hX dX11_copy_102 rfl 1 rfl rfl ?_
                refine a_iload_n hX dX11_copy_103 rfl 2 rfl rfl ?_
                refine a_iload_n hX dX11_copy_104 rfl 3 rfl rfl ?_
                refine a_iload hX dX11_copy_105 4 rfl rfl ?_
                refine a_iload hX dX11_copy_107 5 rfl rfl ?_
                obtain ⟨x9, u10, hg9, hf⟩ := cl2_some hf
                refine a_cVsi (q0 := 10) (rest := []) hX hE.1 (ctX7_move (q := q) hE hg9) K_X11_330 ⟨rfl, rfl⟩ ⟨rfl, rfl, by decide, by decide⟩ ⟨Nat.zero_le _, Nat.zero_le _⟩ (Nat.le_of_ble_eq_true rfl) dX11_copy_109 rfl rfl ?_
                exact a_iret hX hT hF (r_iS (wf := (wC V q ts)) hf) dX11_copy_112
              · refine a_bipush (v := (-12)) hX dX11_copy_95 (by decide) rfl ?_
                exact a_iret hX hT hF (r_iS (wf := (wC V q ts)) hf) dX11_copy_97
          · refine a_bipush (v := (-13)) hX dX11_copy_63 (by decide) rfl ?_
            exact a_iret hX hT hF (r_iS (wf := (wC V q ts)) hf) dX11_copy_65
        · refine a_bipush (v := (-11)) hX dX11_copy_39 (by decide) rfl ?_
          exact a_iret hX hT hF (r_iS (wf := (wC V q ts)) hf) dX11_copy_41
    · refine a_bipush (v := (-2)) hX dX11_copy_14 (by decide) rfl ?_
      exact a_iret hX hT hF (r_iS (wf := (wC V q ts)) hf) dX11_copy_16
theorem ctX11_copy {V : Vx} {q : Nat → Nat} {u : St} {g : Nat → Nat} {ts : List Tx} {res : Int32 × St} (hE : EnvC V g) {v1 : Int32} {v2 : Int32} {v3 : Int32} {v4 : Int32} {v5 : Int32} (hf : fX11_copy u v1 v2 v3 v4 v5 = some res) : Ct V yX11_copy (.code yX11_copy cX11_copy 6 (some .int)) rmX11_copy 0 0 [.ref (q 11), .int v1, .int v2, .int v3, .int v4, .int v5] (wC V q ts u) (rEq (some (.int res.1)) (wC V q ts res.2)) :=
  Ct_of (by decide) (Nat.le_of_ble_eq_true rfl) rfl (fun X hX hT _ hF => wX11_copy ⟨hX, hT, hF⟩ hE hf)
def rmX11_paperFrom : Room := { frames := 4, cells := 0, slots := 0, locals := 94 }
def fX11_paperFrom (u : St) (v1 : Int32) (v2 : Int32) : Option (Int32 × St) := cl1 (fX7_read u v1 v2) (fun x1 => cl1 (fX7_read u v1 (v2 + 1)) (fun x2 => cl1 (fX7_read u v1 (v2 + 2)) (fun x3 => cl1 (fX7_read u v1 (v2 + 3)) (fun x4 => cl1 (fX7_read u v1 (v2 + 4)) (fun x5 => cl2 (fX11_paper u x1 x2 x3 x4 x5) (fun x6 u7 => some (x6, u7)))))))
theorem wX11_paperFrom {X : Cx} {V : Vx} {q : Nat → Nat} {g : Nat → Nat} {ts : List Tx} {res : Int32 × St} (h : Run X cX11_paperFrom 3 RX11 rmX11_paperFrom V (some .int) (rEq (some (.int res.1)) (wC V q ts res.2))) (hE : EnvC V g) {u : St} {v1 : Int32} {v2 : Int32} (hf : fX11_paperFrom u v1 v2 = some res) : At X 3 0 0 (wC V q ts u) 0 [(0, .ref (q 11)), (1, .int v1), (2, .int v2)] [] := by
  obtain ⟨hX, hT, hF⟩ := id h
  unfold fX11_paperFrom at hf
  refine a_aload_n hX dX11_paperFrom_0 rfl 0 rfl rfl ?_
  refine a_aload_n hX dX11_paperFrom_1 rfl 0 rfl rfl ?_
  refine gX11_10 hX F_X11_91 dX11_paperFrom_2 rfl ?_
  refine a_iload_n hX dX11_paperFrom_5 rfl 1 rfl rfl ?_
  refine a_iload_n hX dX11_paperFrom_6 rfl 2 rfl rfl ?_
  obtain ⟨x1, hg1, hf⟩ := cl1_some hf
  refine a_cVsi (q0 := 10) (rest := [.ref (q 11)]) hX hE.1 (ctX7_read (q := q) hE hg1) K_X11_343 ⟨rfl, rfl⟩ ⟨rfl, rfl, by decide, by decide⟩ ⟨Nat.zero_le _, Nat.zero_le _⟩ (Nat.le_of_ble_eq_true rfl) dX11_paperFrom_7 rfl rfl ?_
  refine a_aload_n hX dX11_paperFrom_10 rfl 0 rfl rfl ?_
  refine gX11_10 hX F_X11_91 dX11_paperFrom_11 rfl ?_
  refine a_iload_n hX dX11_paperFrom_14 rfl 1 rfl rfl ?_
  refine a_iload_n hX dX11_paperFrom_15 rfl 2 rfl rfl ?_
  refine a_iconst (v := 1) hX dX11_paperFrom_16 (by decide) rfl ?_
  refine a_iadd hX dX11_paperFrom_17 rfl ?_
  obtain ⟨x2, hg2, hf⟩ := cl1_some hf
  refine a_cVsi (q0 := 10) (rest := [.int x1, .ref (q 11)]) hX hE.1 (ctX7_read (q := q) hE hg2) K_X11_343 ⟨rfl, rfl⟩ ⟨rfl, rfl, by decide, by decide⟩ ⟨Nat.zero_le _, Nat.zero_le _⟩ (Nat.le_of_ble_eq_true rfl) dX11_paperFrom_18 rfl rfl ?_
  refine a_aload_n hX dX11_paperFrom_21 rfl 0 rfl rfl ?_
  refine gX11_10 hX F_X11_91 dX11_paperFrom_22 rfl ?_
  refine a_iload_n hX dX11_paperFrom_25 rfl 1 rfl rfl ?_
  refine a_iload_n hX dX11_paperFrom_26 rfl 2 rfl rfl ?_
  refine a_iconst (v := 2) hX dX11_paperFrom_27 (by decide) rfl ?_
  refine a_iadd hX dX11_paperFrom_28 rfl ?_
  obtain ⟨x3, hg3, hf⟩ := cl1_some hf
  refine a_cVsi (q0 := 10) (rest := [.int x2, .int x1, .ref (q 11)]) hX hE.1 (ctX7_read (q := q) hE hg3) K_X11_343 ⟨rfl, rfl⟩ ⟨rfl, rfl, by decide, by decide⟩ ⟨Nat.zero_le _, Nat.zero_le _⟩ (Nat.le_of_ble_eq_true rfl) dX11_paperFrom_29 rfl rfl ?_
  refine a_aload_n hX dX11_paperFrom_32 rfl 0 rfl rfl ?_
  refine gX11_10 hX F_X11_91 dX11_paperFrom_33 rfl ?_
  refine a_iload_n hX dX11_paperFrom_36 rfl 1 rfl rfl ?_
  refine a_iload_n hX dX11_paperFrom_37 rfl 2 rfl rfl ?_
  refine a_iconst (v := 3) hX dX11_paperFrom_38 (by decide) rfl ?_
  refine a_iadd hX dX11_paperFrom_39 rfl ?_
  obtain ⟨x4, hg4, hf⟩ := cl1_some hf
  refine a_cVsi (q0 := 10) (rest := [.int x3, .int x2, .int x1, .ref (q 11)]) hX hE.1 (ctX7_read (q := q) hE hg4) K_X11_343 ⟨rfl, rfl⟩ ⟨rfl, rfl, by decide, by decide⟩ ⟨Nat.zero_le _, Nat.zero_le _⟩ (Nat.le_of_ble_eq_true rfl) dX11_paperFrom_40 rfl rfl ?_
  refine a_aload_n hX dX11_paperFrom_43 rfl 0 rfl rfl ?_
  refine gX11_10 hX F_X11_91 dX11_paperFrom_44 rfl ?_
  refine a_iload_n hX dX11_paperFrom_47 rfl 1 rfl rfl ?_
  refine a_iload_n hX dX11_paperFrom_48 rfl 2 rfl rfl ?_
  refine a_iconst (v := 4) hX dX11_paperFrom_49 (by decide) rfl ?_
  refine a_iadd hX dX11_paperFrom_50 rfl ?_
  obtain ⟨x5, hg5, hf⟩ := cl1_some hf
  refine a_cVsi (q0 := 10) (rest := [.int x4, .int x3, .int x2, .int x1, .ref (q 11)]) hX hE.1 (ctX7_read (q := q) hE hg5) K_X11_343 ⟨rfl, rfl⟩ ⟨rfl, rfl, by decide, by decide⟩ ⟨Nat.zero_le _, Nat.zero_le _⟩ (Nat.le_of_ble_eq_true rfl) dX11_paperFrom_51 rfl rfl ?_
  obtain ⟨x6, u7, hg6, hf⟩ := cl2_some hf
  refine a_cVsi (q0 := 0) (rest := []) hX hE.1 (ctX11_paper (q := q) hE hg6) K_X11_346 ⟨rfl, rfl⟩ ⟨rfl, rfl, by decide, by decide⟩ ⟨Nat.zero_le _, Nat.zero_le _⟩ (Nat.le_of_ble_eq_true rfl) dX11_paperFrom_54 rfl rfl ?_
  exact a_iret hX hT hF (r_iS (wf := (wC V q ts)) hf) dX11_paperFrom_57
theorem ctX11_paperFrom {V : Vx} {q : Nat → Nat} {u : St} {g : Nat → Nat} {ts : List Tx} {res : Int32 × St} (hE : EnvC V g) {v1 : Int32} {v2 : Int32} (hf : fX11_paperFrom u v1 v2 = some res) : Ct V yX11_paperFrom (.code yX11_paperFrom cX11_paperFrom 3 (some .int)) rmX11_paperFrom 0 0 [.ref (q 11), .int v1, .int v2] (wC V q ts u) (rEq (some (.int res.1)) (wC V q ts res.2)) :=
  Ct_of (by decide) (Nat.le_of_ble_eq_true rfl) rfl (fun X hX hT _ hF => wX11_paperFrom ⟨hX, hT, hF⟩ hE hf)
def rmX11_papers : Room := { frames := 5, cells := 0, slots := 0, locals := 116 }
def fX11_papers_b108  (k71 : St → Int32 → Int32 → Int32 → Option (Int32 × St)) (u : St) (v1 : Int32) (v4 : Int32) (v5 : Int32) (v6 : Int32) (v7 : Int32) : Option (Int32 × St) := k71 u v5 (v6 + 5) (v7 + 1)
theorem wX11_papers_b108 {X : Cx} {V : Vx} {q : Nat → Nat} {g : Nat → Nat} {ts : List Tx} {res : Int32 × St} (h : Run X cX11_papers 8 RX11 rmX11_papers V (some .int) (rEq (some (.int res.1)) (wC V q ts res.2))) (hE : EnvC V g) {u : St} {v1 : Int32} {v4 : Int32} {v5 : Int32} {v6 : Int32} {v7 : Int32} {k71 : St → Int32 → Int32 → Int32 → Option (Int32 × St)} (hk71 : ∀ (u : St) (v5 : Int32) (v6 : Int32) (v7 : Int32), k71 u v5 v6 v7 = some res → At X 8 0 0 (wC V q ts u) 71 [(0, .ref (q 11)), (1, .int v1), (4, .int v4), (5, .int v5), (6, .int v6), (7, .int v7)] []) (hf : fX11_papers_b108  k71 u v1 v4 v5 v6 v7 = some res) : At X 8 0 0 (wC V q ts u) 108 [(0, .ref (q 11)), (1, .int v1), (4, .int v4), (5, .int v5), (6, .int v6), (7, .int v7)] [] := by
  obtain ⟨hX, hT, hF⟩ := id h
  unfold fX11_papers_b108 at hf
  refine a_iinc (v := v6 + 5) (lv' := [(6, .int (v6 + 5)), (0, .ref (q 11)), (1, .int v1), (4, .int v4), (5, .int v5), (7, .int v7)]) hX dX11_papers_108 4 rfl rfl (by decide) rfl rfl ?_
  refine a_iinc (v := v7 + 1) (lv' := [(7, .int (v7 + 1)), (6, .int (v6 + 5)), (0, .ref (q 11)), (1, .int v1), (4, .int v4), (5, .int v5)]) hX dX11_papers_111 5 rfl rfl (by decide) rfl rfl ?_
  refine a_goto (pc' := 71) hX dX11_papers_114 rfl ?_
  refine a_lv (lv' := [(0, .ref (q 11)), (1, .int v1), (4, .int v4), (5, .int v5), (6, .int (v6 + 5)), (7, .int (v7 + 1))]) [2, 3, 4, 5, 1, 0] rfl ?_
  exact hk71 u v5 (v6 + 5) (v7 + 1) hf
def fX11_papers_l71b  (k71 : St → Int32 → Int32 → Int32 → Option (Int32 × St)) (u : St) (v1 : Int32) (v4 : Int32) (v5 : Int32) (v6 : Int32) (v7 : Int32) : Option (Int32 × St) := if v4 ≤ v7 then some (v5, u) else (cl1 (fX7_holds u v1 v6 5) (fun x5 => if x5 = 0 then some ((-12), u) else (cl2 (fX11_paperFrom u v1 v6) (fun x6 u7 => if x6 < 0 then fX11_papers_b108 k71 u7 v1 v4 v5 v6 v7 else (fX11_papers_b108 k71 u7 v1 v4 (v5 + 1) v6 v7)))))
theorem wX11_papers_l71b {X : Cx} {V : Vx} {q : Nat → Nat} {g : Nat → Nat} {ts : List Tx} {res : Int32 × St} (h : Run X cX11_papers 8 RX11 rmX11_papers V (some .int) (rEq (some (.int res.1)) (wC V q ts res.2))) (hE : EnvC V g) {u : St} {v1 : Int32} {v4 : Int32} {v5 : Int32} {v6 : Int32} {v7 : Int32} {k71 : St → Int32 → Int32 → Int32 → Option (Int32 × St)} (hk71 : ∀ (u : St) (v5 : Int32) (v6 : Int32) (v7 : Int32), k71 u v5 v6 v7 = some res → At X 8 0 0 (wC V q ts u) 71 [(0, .ref (q 11)), (1, .int v1), (4, .int v4), (5, .int v5), (6, .int v6), (7, .int v7)] []) (hf : fX11_papers_l71b  k71 u v1 v4 v5 v6 v7 = some res) : At X 8 0 0 (wC V q ts u) 71 [(0, .ref (q 11)), (1, .int v1), (4, .int v4), (5, .int v5), (6, .int v6), (7, .int v7)] [] := by
  obtain ⟨hX, hT, hF⟩ := id h
  unfold fX11_papers_l71b at hf
  refine a_iload hX dX11_papers_71 5 rfl rfl ?_
  refine a_iload hX dX11_papers_73 2 rfl rfl ?_
  refine a_icmp_ge (tgt := 117) hX dX11_papers_75 rfl rfl hf (fun hf => ?_) (fun hf => ?_)
  · refine a_iload hX dX11_papers_117 3 rfl rfl ?_
    exact a_iret hX hT hF (r_iS (wf := (wC V q ts)) hf) dX11_papers_119
  · refine a_aload_n hX dX11_papers_78 rfl 0 rfl rfl ?_
    refine gX11_10 hX F_X11_91 dX11_papers_79 rfl ?_
    refine a_iload_n hX dX11_papers_82 rfl 1 rfl rfl ?_
    refine a_iload hX dX11_papers_83 4 rfl rfl ?_
    refine a_iconst (v := 5) hX dX11_papers_85 (by decide) rfl ?_
    obtain ⟨x5, hg5, hf⟩ := cl1_some hf
    refine a_cVsi (q0 := 10) (rest := []) hX hE.1 (ctX7_holds (q := q) hE hg5) K_X11_320 ⟨rfl, rfl⟩ ⟨rfl, rfl, by decide, by decide⟩ ⟨Nat.zero_le _, Nat.zero_le _⟩ (Nat.le_of_ble_eq_true rfl) dX11_papers_86 rfl rfl ?_
    refine a_if_ne (tgt := 95) hX dX11_papers_89 rfl rfl hf (fun hf => ?_) (fun hf => ?_)
    · refine a_aload_n hX dX11_papers_95 rfl 0 rfl rfl ?_
      refine a_iload_n hX dX11_papers_96 rfl 1 rfl rfl ?_
      refine a_iload hX dX11_papers_97 4 rfl rfl ?_
      obtain ⟨x6, u7, hg6, hf⟩ := cl2_some hf
      refine a_cVsi (q0 := 0) (rest := []) hX hE.1 (ctX11_paperFrom (q := q) hE hg6) K_X11_333 ⟨rfl, rfl⟩ ⟨rfl, rfl, by decide, by decide⟩ ⟨Nat.zero_le _, Nat.zero_le _⟩ (Nat.le_of_ble_eq_true rfl) dX11_papers_99 rfl rfl ?_
      refine a_if_lt (tgt := 108) hX dX11_papers_102 rfl rfl hf (fun hf => ?_) (fun hf => ?_)
      · exact wX11_papers_b108 h hE hk71 hf
      · refine a_iinc (v := v5 + 1) (lv' := [(5, .int (v5 + 1)), (0, .ref (q 11)), (1, .int v1), (4, .int v4), (6, .int v6), (7, .int v7)]) hX dX11_papers_105 3 rfl rfl (by decide) rfl rfl ?_
        refine a_lv (lv' := [(0, .ref (q 11)), (1, .int v1), (4, .int v4), (5, .int (v5 + 1)), (6, .int v6), (7, .int v7)]) [1, 2, 3, 0, 4, 5] rfl ?_
        exact wX11_papers_b108 h hE hk71 hf
    · refine a_bipush (v := (-12)) hX dX11_papers_92 (by decide) rfl ?_
      exact a_iret hX hT hF (r_iS (wf := (wC V q ts)) hf) dX11_papers_94
def fX11_papers_l71   (v1 : Int32) (v4 : Int32) : Nat → St → Int32 → Int32 → Int32 → Option (Int32 × St)
  | 0, _, _, _, _ => none
  | m + 1, u, v5, v6, v7 => fX11_papers_l71b  (fX11_papers_l71   v1 v4 m) u v1 v4 v5 v6 v7
theorem wX11_papers_l71 {X : Cx} {V : Vx} {q : Nat → Nat} {g : Nat → Nat} {ts : List Tx} {res : Int32 × St} (h : Run X cX11_papers 8 RX11 rmX11_papers V (some .int) (rEq (some (.int res.1)) (wC V q ts res.2))) (hE : EnvC V g) {v1 : Int32} {v4 : Int32} : ∀ (m : Nat) (u : St) (v5 : Int32) (v6 : Int32) (v7 : Int32), fX11_papers_l71   v1 v4 m u v5 v6 v7 = some res → At X 8 0 0 (wC V q ts u) 71 [(0, .ref (q 11)), (1, .int v1), (4, .int v4), (5, .int v5), (6, .int v6), (7, .int v7)] [] := by
  intro m
  induction m with
  | zero => intro u v5 v6 v7 hf; cases hf
  | succ m ih => intro u v5 v6 v7 hf; exact wX11_papers_l71b h hE ih hf
def fX11_papers (u : St) (v1 : Int32) (v2 : Int32) (v3 : Int32) (v4 : Int32) : Option (Int32 × St) := cl1 (fX7_isSheet v1) (fun x1 => if x1 = 0 then some ((-2), u) else (cl1 (fX7_isSort v2) (fun x2 => if x2 = 0 then some ((-2), u) else (if v4 < 0 then some ((-2), u) else (if v4 ≤ 8 then cl1 (fX7_isMissing u v1) (fun x3 => if x3 = 0 then ldI (gA u 140) 4 v1 (fun x4 => if x4 = v2 then fX11_papers_l71 v1 v4 NF u 0 v3 0 else (some ((-13), u))) else (some ((-11), u))) else (some ((-2), u)))))))
theorem wX11_papers {X : Cx} {V : Vx} {q : Nat → Nat} {g : Nat → Nat} {ts : List Tx} {res : Int32 × St} (h : Run X cX11_papers 8 RX11 rmX11_papers V (some .int) (rEq (some (.int res.1)) (wC V q ts res.2))) (hE : EnvC V g) {u : St} {v1 : Int32} {v2 : Int32} {v3 : Int32} {v4 : Int32} (hf : fX11_papers u v1 v2 v3 v4 = some res) : At X 8 0 0 (wC V q ts u) 0 [(0, .ref (q 11)), (1, .int v1), (2, .int v2), (3, .int v3), (4, .int v4)] [] := by
  obtain ⟨hX, hT, hF⟩ := id h
  unfold fX11_papers at hf
  refine a_iload_n hX dX11_papers_0 rfl 1 rfl rfl ?_
  obtain ⟨x1, hg1, hf⟩ := cl1_some hf
  refine a_cSpi (rest := []) hX hE.1 (ctX7_isSheet hE.1 hg1) K_X11_305 ⟨rfl, rfl, by decide, by decide⟩ ⟨Nat.zero_le _, Nat.zero_le _⟩ (Nat.le_of_ble_eq_true rfl) dX11_papers_1 rfl rfl ?_
  refine a_if_eq (tgt := 14) hX dX11_papers_4 rfl rfl hf (fun hf => ?_) (fun hf => ?_)
  · refine a_bipush (v := (-2)) hX dX11_papers_14 (by decide) rfl ?_
    exact a_iret hX hT hF (r_iS (wf := (wC V q ts)) hf) dX11_papers_16
  · refine a_iload_n hX dX11_papers_7 rfl 2 rfl rfl ?_
    obtain ⟨x2, hg2, hf⟩ := cl1_some hf
    refine a_cSpi (rest := []) hX hE.1 (ctX7_isSort hE.1 hg2) K_X11_311 ⟨rfl, rfl, by decide, by decide⟩ ⟨Nat.zero_le _, Nat.zero_le _⟩ (Nat.le_of_ble_eq_true rfl) dX11_papers_8 rfl rfl ?_
    refine a_if_ne (tgt := 17) hX dX11_papers_11 rfl rfl hf (fun hf => ?_) (fun hf => ?_)
    · refine a_iload hX dX11_papers_17 4 rfl rfl ?_
      refine a_if_lt (tgt := 29) hX dX11_papers_19 rfl rfl hf (fun hf => ?_) (fun hf => ?_)
      · refine a_bipush (v := (-2)) hX dX11_papers_29 (by decide) rfl ?_
        exact a_iret hX hT hF (r_iS (wf := (wC V q ts)) hf) dX11_papers_31
      · refine a_iload hX dX11_papers_22 4 rfl rfl ?_
        refine a_bipush (v := 8) hX dX11_papers_24 (by decide) rfl ?_
        refine a_icmp_le (tgt := 32) hX dX11_papers_26 rfl rfl hf (fun hf => ?_) (fun hf => ?_)
        · refine a_aload_n hX dX11_papers_32 rfl 0 rfl rfl ?_
          refine gX11_10 hX F_X11_91 dX11_papers_33 rfl ?_
          refine a_iload_n hX dX11_papers_36 rfl 1 rfl rfl ?_
          obtain ⟨x3, hg3, hf⟩ := cl1_some hf
          refine a_cVsi (q0 := 10) (rest := []) hX hE.1 (ctX7_isMissing (q := q) hE hg3) K_X11_317 ⟨rfl, rfl⟩ ⟨rfl, rfl, by decide, by decide⟩ ⟨Nat.zero_le _, Nat.zero_le _⟩ (Nat.le_of_ble_eq_true rfl) dX11_papers_37 rfl rfl ?_
          refine a_if_eq (tgt := 46) hX dX11_papers_40 rfl rfl hf (fun hf => ?_) (fun hf => ?_)
          · refine a_aload_n hX dX11_papers_46 rfl 0 rfl rfl ?_
            refine gX11_10 hX F_X11_91 dX11_papers_47 rfl ?_
            refine gX7_0 hX F_X11_327 dX11_papers_50 rfl ?_
            refine a_iload_n hX dX11_papers_53 rfl 1 rfl rfl ?_
            refine lX7_0 hX dX11_papers_54 rfl hf (fun x4 hf => ?_)
            refine a_iload_n hX dX11_papers_55 rfl 2 rfl rfl ?_
            refine a_icmp_eq (tgt := 62) hX dX11_papers_56 rfl rfl hf (fun hf => ?_) (fun hf => ?_)
            · refine a_iconst (v := 0) hX dX11_papers_62 (by decide) rfl ?_
              refine a_istore (lv' := [(5, .int 0), (0, .ref (q 11)), (1, .int v1), (2, .int v2), (3, .int v3), (4, .int v4)]) hX dX11_papers_63 (by decide) rfl rfl ?_
              refine a_iload_n hX dX11_papers_65 rfl 4 rfl rfl ?_
              refine a_istore (lv' := [(6, .int v3), (5, .int 0), (0, .ref (q 11)), (1, .int v1), (2, .int v2), (3, .int v3), (4, .int v4)]) hX dX11_papers_66 (by decide) rfl rfl ?_
              refine a_iconst (v := 0) hX dX11_papers_68 (by decide) rfl ?_
              refine a_istore (lv' := [(7, .int 0), (6, .int v3), (5, .int 0), (0, .ref (q 11)), (1, .int v1), (2, .int v2), (3, .int v3), (4, .int v4)]) hX dX11_papers_69 (by decide) rfl rfl ?_
              refine a_lv (lv' := [(0, .ref (q 11)), (1, .int v1), (4, .int v4), (5, .int 0), (6, .int v3), (7, .int 0)]) [3, 4, 7, 2, 1, 0] rfl ?_
              exact wX11_papers_l71 h hE NF u 0 v3 0 hf
            · refine a_bipush (v := (-13)) hX dX11_papers_59 (by decide) rfl ?_
              exact a_iret hX hT hF (r_iS (wf := (wC V q ts)) hf) dX11_papers_61
          · refine a_bipush (v := (-11)) hX dX11_papers_43 (by decide) rfl ?_
            exact a_iret hX hT hF (r_iS (wf := (wC V q ts)) hf) dX11_papers_45
        · refine a_bipush (v := (-2)) hX dX11_papers_29 (by decide) rfl ?_
          exact a_iret hX hT hF (r_iS (wf := (wC V q ts)) hf) dX11_papers_31
    · refine a_bipush (v := (-2)) hX dX11_papers_14 (by decide) rfl ?_
      exact a_iret hX hT hF (r_iS (wf := (wC V q ts)) hf) dX11_papers_16
theorem ctX11_papers {V : Vx} {q : Nat → Nat} {u : St} {g : Nat → Nat} {ts : List Tx} {res : Int32 × St} (hE : EnvC V g) {v1 : Int32} {v2 : Int32} {v3 : Int32} {v4 : Int32} (hf : fX11_papers u v1 v2 v3 v4 = some res) : Ct V yX11_papers (.code yX11_papers cX11_papers 8 (some .int)) rmX11_papers 0 0 [.ref (q 11), .int v1, .int v2, .int v3, .int v4] (wC V q ts u) (rEq (some (.int res.1)) (wC V q ts res.2)) :=
  Ct_of (by decide) (Nat.le_of_ble_eq_true rfl) rfl (fun X hX hT _ hF => wX11_papers ⟨hX, hT, hF⟩ hE hf)
def rmX11_taken : Room := { frames := 1, cells := 0, slots := 0, locals := 23 }
def fX11_taken (u : St) (v1 : Int32) (v2 : Int32) : Option (Int32) := if v2 < 0 then some (-2) else (if v2 < 6 then cl1 (fX4_has u v1) (fun x1 => if x1 = 0 then some (-11) else (ldI (gA u 83) 16 v1 (fun x2 => cl1 (fX4_isUnder u x2 v2) (fun x3 => if x3 = 0 then some (-13) else (ldI (gA u 84) 16 v1 (fun x4 => some x4)))))) else (some (-2)))
theorem wX11_taken {X : Cx} {V : Vx} {q : Nat → Nat} {g : Nat → Nat} {ts : List Tx} {u : St} {res : Int32} (h : Run X cX11_taken 3 RX11 rmX11_taken V (some .int) (rEq (some (.int res)) (wC V q ts u))) (hE : EnvC V g) {v1 : Int32} {v2 : Int32} (hf : fX11_taken u v1 v2 = some res) : At X 3 0 0 (wC V q ts u) 0 [(0, .ref (q 11)), (1, .int v1), (2, .int v2)] [] := by
  obtain ⟨hX, hT, hF⟩ := id h
  unfold fX11_taken at hf
  refine a_iload_n hX dX11_taken_0 rfl 2 rfl rfl ?_
  refine a_if_lt (tgt := 10) hX dX11_taken_1 rfl rfl hf (fun hf => ?_) (fun hf => ?_)
  · refine a_bipush (v := (-2)) hX dX11_taken_10 (by decide) rfl ?_
    exact a_iret hX hT hF (r_i hf) dX11_taken_12
  · refine a_iload_n hX dX11_taken_4 rfl 2 rfl rfl ?_
    refine a_bipush (v := 6) hX dX11_taken_5 (by decide) rfl ?_
    refine a_icmp_lt (tgt := 13) hX dX11_taken_7 rfl rfl hf (fun hf => ?_) (fun hf => ?_)
    · refine a_aload_n hX dX11_taken_13 rfl 0 rfl rfl ?_
      refine gX11_2 hX F_X11_29 dX11_taken_14 rfl ?_
      refine a_iload_n hX dX11_taken_17 rfl 1 rfl rfl ?_
      obtain ⟨x1, hg1, hf⟩ := cl1_some hf
      refine a_cVsi (q0 := 2) (rest := []) hX hE.1 (ctX4_has (q := q) hE hg1) K_X11_122 ⟨rfl, rfl⟩ ⟨rfl, rfl, by decide, by decide⟩ ⟨Nat.zero_le _, Nat.zero_le _⟩ (Nat.le_of_ble_eq_true rfl) dX11_taken_18 rfl rfl ?_
      refine a_if_ne (tgt := 27) hX dX11_taken_21 rfl rfl hf (fun hf => ?_) (fun hf => ?_)
      · refine a_aload_n hX dX11_taken_27 rfl 0 rfl rfl ?_
        refine gX11_2 hX F_X11_29 dX11_taken_28 rfl ?_
        refine gX4_3 hX F_X11_125 dX11_taken_31 rfl ?_
        refine a_iload_n hX dX11_taken_34 rfl 1 rfl rfl ?_
        refine lX4_3 hX dX11_taken_35 rfl hf (fun x2 hf => ?_)
        refine a_iload_n hX dX11_taken_36 rfl 2 rfl rfl ?_
        obtain ⟨x3, hg3, hf⟩ := cl1_some hf
        refine a_cSsi (rest := []) hX hE.1 (ctX4_isUnder (q := q) hE hg3) K_X11_336 ⟨rfl, rfl, by decide, by decide⟩ ⟨Nat.zero_le _, Nat.zero_le _⟩ (Nat.le_of_ble_eq_true rfl) dX11_taken_37 rfl rfl ?_
        refine a_if_eq (tgt := 55) hX dX11_taken_40 rfl rfl hf (fun hf => ?_) (fun hf => ?_)
        · refine a_bipush (v := (-13)) hX dX11_taken_55 (by decide) rfl ?_
          exact a_iret hX hT hF (r_i hf) dX11_taken_57
        · refine a_aload_n hX dX11_taken_43 rfl 0 rfl rfl ?_
          refine gX11_2 hX F_X11_29 dX11_taken_44 rfl ?_
          refine gX4_4 hX F_X11_129 dX11_taken_47 rfl ?_
          refine a_iload_n hX dX11_taken_50 rfl 1 rfl rfl ?_
          refine lX4_4 hX dX11_taken_51 rfl hf (fun x4 hf => ?_)
          refine a_goto (pc' := 57) hX dX11_taken_52 rfl ?_
          exact a_iret hX hT hF (r_i hf) dX11_taken_57
      · refine a_bipush (v := (-11)) hX dX11_taken_24 (by decide) rfl ?_
        exact a_iret hX hT hF (r_i hf) dX11_taken_26
    · refine a_bipush (v := (-2)) hX dX11_taken_10 (by decide) rfl ?_
      exact a_iret hX hT hF (r_i hf) dX11_taken_12
theorem ctX11_taken {V : Vx} {q : Nat → Nat} {u : St} {g : Nat → Nat} {ts : List Tx} {res : Int32} (hE : EnvC V g) {v1 : Int32} {v2 : Int32} (hf : fX11_taken u v1 v2 = some res) : Ct V yX11_taken (.code yX11_taken cX11_taken 3 (some .int)) rmX11_taken 0 0 [.ref (q 11), .int v1, .int v2] (wC V q ts u) (rEq (some (.int res)) (wC V q ts u)) :=
  Ct_of (by decide) (Nat.le_of_ble_eq_true rfl) rfl (fun X hX hT _ hF => wX11_taken ⟨hX, hT, hF⟩ hE hf)
