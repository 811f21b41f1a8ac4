def rmX5_readPart : Room := { frames := 73, cells := 0, slots := 0, locals := 4022 }
def fX5_readPart (u : St) (v1 : Int32) : Option (Int32 × St) := cl2 (fX5_pass u v1) (fun x1 u2 => if x1 = 0 then some (0, u2) else (cl2 (PGC 60 0 u2 0) (fun x3 u4 => if x3 = 0 then some (0, u4) else (cl2 (fX5_pass u4 59) (fun x5 u6 => if x5 = 0 then some (0, u6) else (some (1, u6)))))))
theorem wX5_readPart {X : Cx} {V : Vx} {q : Nat → Nat} {g : Nat → Nat} {ts : List Tx} {res : Int32 × St} (h : Run X cX5_readPart 2 RX5 rmX5_readPart V (some .boolean) (rEq (some (.int res.1)) (wC V q ts res.2))) (hE : EnvC V g) {u : St} {v1 : Int32} (hf : fX5_readPart u v1 = some res) : At X 2 0 0 (wC V q ts u) 0 [(0, .ref (q 5)), (1, .int v1)] [] := by
  obtain ⟨hX, hT, hF⟩ := id h
  unfold fX5_readPart at hf
  refine a_aload_n hX dX5_readPart_0 rfl 0 rfl rfl ?_
  refine a_iload_n hX dX5_readPart_1 rfl 1 rfl rfl ?_
  obtain ⟨x1, u2, hg1, hf⟩ := cl2_some hf
  refine a_cVsi (q0 := 4) (rest := []) hX hE.1 (ctX5_pass (q := q) hE hg1) K_X5_49 ⟨rfl, rfl⟩ ⟨rfl, rfl, by decide, by decide⟩ ⟨Nat.zero_le _, Nat.zero_le _⟩ (Nat.le_of_ble_eq_true rfl) dX5_readPart_2 rfl rfl ?_
  refine a_if_eq (tgt := 29) hX dX5_readPart_5 rfl rfl hf (fun hf => ?_) (fun hf => ?_)
  · refine a_iconst (v := 0) hX dX5_readPart_29 (by decide) rfl ?_
    exact a_zret hX hT (by decide) hF (r_iS (wf := (wC V q ts)) hf) dX5_readPart_30
  · refine a_aload_n hX dX5_readPart_8 rfl 0 rfl rfl ?_
    refine a_iconst (v := 0) hX dX5_readPart_9 (by decide) rfl ?_
    obtain ⟨x3, u4, hg3, hf⟩ := cl2_some hf
    refine a_cVsi (q0 := 4) (rest := []) hX hE.1 (ctGC0 (q := q) hE hg3) K_X5_52 ⟨rfl, rfl⟩ ⟨rfl, rfl, by decide, by decide⟩ ⟨Nat.zero_le _, Nat.zero_le _⟩ (Nat.le_of_ble_eq_true rfl) dX5_readPart_10 rfl rfl ?_
    refine a_if_eq (tgt := 29) hX dX5_readPart_13 rfl rfl hf (fun hf => ?_) (fun hf => ?_)
    · refine a_iconst (v := 0) hX dX5_readPart_29 (by decide) rfl ?_
      exact a_zret hX hT (by decide) hF (r_iS (wf := (wC V q ts)) hf) dX5_readPart_30
    · refine a_aload_n hX dX5_readPart_16 rfl 0 rfl rfl ?_
      refine a_bipush (v := 59) hX dX5_readPart_17 (by decide) rfl ?_
      obtain ⟨x5, u6, hg5, hf⟩ := cl2_some hf
      refine a_cVsi (q0 := 4) (rest := []) hX hE.1 (ctX5_pass (q := q) hE hg5) K_X5_49 ⟨rfl, rfl⟩ ⟨rfl, rfl, by decide, by decide⟩ ⟨Nat.zero_le _, Nat.zero_le _⟩ (Nat.le_of_ble_eq_true rfl) dX5_readPart_19 rfl rfl ?_
      refine a_if_eq (tgt := 29) hX dX5_readPart_22 rfl rfl hf (fun hf => ?_) (fun hf => ?_)
      · refine a_iconst (v := 0) hX dX5_readPart_29 (by decide) rfl ?_
        exact a_zret hX hT (by decide) hF (r_iS (wf := (wC V q ts)) hf) dX5_readPart_30
      · refine a_iconst (v := 1) hX dX5_readPart_25 (by decide) rfl ?_
        refine a_goto (pc' := 30) hX dX5_readPart_26 rfl ?_
        exact a_zret hX hT (by decide) hF (r_iS (wf := (wC V q ts)) hf) dX5_readPart_30
theorem ctX5_readPart {V : Vx} {q : Nat → Nat} {u : St} {g : Nat → Nat} {ts : List Tx} {res : Int32 × St} (hE : EnvC V g) {v1 : Int32} (hf : fX5_readPart u v1 = some res) : Ct V yX5_readPart (.code yX5_readPart cX5_readPart 2 (some .boolean)) rmX5_readPart 0 0 [.ref (q 5), .int v1] (wC V q ts u) (rEq (some (.int res.1)) (wC V q ts res.2)) :=
  Ct_of (by decide) (Nat.le_of_ble_eq_true rfl) rfl (fun X hX hT _ hF => wX5_readPart ⟨hX, hT, hF⟩ hE hf)
def rmX5_readText : Room := { frames := 74, cells := 0, slots := 0, locals := 4043 }
def fX5_readText (u : St) : Option (Int32 × St) := nmS (setZ u 104 0) (fun u1 => nmS (setZ u1 101 0) (fun u2 => nmS (setZ u2 107 0) (fun u3 => cl1 (fX5_advance u3) (fun u5 => cl2 (fX5_readPart u5 3) (fun x6 u7 => if x6 = 0 then some (gZ u7 106, u7) else (nmS (setZ u7 101 (gZ u7 104)) (fun u8 => cl2 (fX5_readPart u8 4) (fun x9 u10 => if x9 = 0 then some (gZ u10 106, u10) else (if gZ u10 105 = 0 then some ((-1), u10) else (some (gZ u10 106, u10)))))))))))
theorem wX5_readText {X : Cx} {V : Vx} {q : Nat → Nat} {g : Nat → Nat} {ts : List Tx} {res : Int32 × St} (h : Run X cX5_readText 1 RX5 rmX5_readText V (some .int) (rEq (some (.int res.1)) (wC V q ts res.2))) (hE : EnvC V g) {u : St} (hf : fX5_readText u = some res) : At X 1 0 0 (wC V q ts u) 0 [(0, .ref (q 5))] [] := by
  obtain ⟨hX, hT, hF⟩ := id h
  unfold fX5_readText at hf
  refine a_aload_n hX dX5_readText_0 rfl 0 rfl rfl ?_
  refine a_iconst (v := 0) hX dX5_readText_1 (by decide) rfl ?_
  refine pX5_4 hX F_X5_21 dX5_readText_2 rfl hf (fun u1 hf => ?_)
  refine a_aload_n hX dX5_readText_5 rfl 0 rfl rfl ?_
  refine a_iconst (v := 0) hX dX5_readText_6 (by decide) rfl ?_
  refine pX5_1 hX F_X5_30 dX5_readText_7 rfl hf (fun u2 hf => ?_)
  refine a_aload_n hX dX5_readText_10 rfl 0 rfl rfl ?_
  refine a_iconst (v := 0) hX dX5_readText_11 (by decide) rfl ?_
  refine pX5_7 hX F_X5_33 dX5_readText_12 rfl hf (fun u3 hf => ?_)
  refine a_aload_n hX dX5_readText_15 rfl 0 rfl rfl ?_
  obtain ⟨u5, hg4, hf⟩ := cl1_some hf
  refine a_cVsv (q0 := 4) (rest := []) hX hE.1 (ctX5_advance (q := q) hE hg4) K_X5_36 ⟨rfl, rfl⟩ ⟨rfl, rfl, by decide, by decide⟩ ⟨Nat.zero_le _, Nat.zero_le _⟩ (Nat.le_of_ble_eq_true rfl) dX5_readText_16 rfl rfl ?_
  refine a_aload_n hX dX5_readText_19 rfl 0 rfl rfl ?_
  refine a_iconst (v := 3) hX dX5_readText_20 (by decide) rfl ?_
  obtain ⟨x6, u7, hg6, hf⟩ := cl2_some hf
  refine a_cVsi (q0 := 4) (rest := []) hX hE.1 (ctX5_readPart (q := q) hE hg6) K_X5_39 ⟨rfl, rfl⟩ ⟨rfl, rfl, by decide, by decide⟩ ⟨Nat.zero_le _, Nat.zero_le _⟩ (Nat.le_of_ble_eq_true rfl) dX5_readText_21 rfl rfl ?_
  refine a_if_ne (tgt := 32) hX dX5_readText_24 rfl rfl hf (fun hf => ?_) (fun hf => ?_)
  · refine a_aload_n hX dX5_readText_32 rfl 0 rfl rfl ?_
    refine a_aload_n hX dX5_readText_33 rfl 0 rfl rfl ?_
    refine gX5_4 hX F_X5_21 dX5_readText_34 rfl ?_
    refine pX5_1 hX F_X5_30 dX5_readText_37 rfl hf (fun u8 hf => ?_)
    refine a_aload_n hX dX5_readText_40 rfl 0 rfl rfl ?_
    refine a_iconst (v := 4) hX dX5_readText_41 (by decide) rfl ?_
    obtain ⟨x9, u10, hg9, hf⟩ := cl2_some hf
    refine a_cVsi (q0 := 4) (rest := []) hX hE.1 (ctX5_readPart (q := q) hE hg9) K_X5_39 ⟨rfl, rfl⟩ ⟨rfl, rfl, by decide, by decide⟩ ⟨Nat.zero_le _, Nat.zero_le _⟩ (Nat.le_of_ble_eq_true rfl) dX5_readText_42 rfl rfl ?_
    refine a_if_eq (tgt := 55) hX dX5_readText_45 rfl rfl hf (fun hf => ?_) (fun hf => ?_)
    · refine a_aload_n hX dX5_readText_55 rfl 0 rfl rfl ?_
      refine gX5_6 hX F_X5_43 dX5_readText_56 rfl ?_
      exact a_iret hX hT hF (r_iS (wf := (wC V q ts)) hf) dX5_readText_59
    · refine a_aload_n hX dX5_readText_48 rfl 0 rfl rfl ?_
      refine gX5_5 hX F_X5_46 dX5_readText_49 rfl ?_
      refine a_if_eq (tgt := 60) hX dX5_readText_52 rfl rfl hf (fun hf => ?_) (fun hf => ?_)
      · refine a_iconst (v := (-1)) hX dX5_readText_60 (by decide) rfl ?_
        exact a_iret hX hT hF (r_iS (wf := (wC V q ts)) hf) dX5_readText_61
      · refine a_aload_n hX dX5_readText_55 rfl 0 rfl rfl ?_
        refine gX5_6 hX F_X5_43 dX5_readText_56 rfl ?_
        exact a_iret hX hT hF (r_iS (wf := (wC V q ts)) hf) dX5_readText_59
  · refine a_aload_n hX dX5_readText_27 rfl 0 rfl rfl ?_
    refine gX5_6 hX F_X5_43 dX5_readText_28 rfl ?_
    exact a_iret hX hT hF (r_iS (wf := (wC V q ts)) hf) dX5_readText_31
theorem ctX5_readText {V : Vx} {q : Nat → Nat} {u : St} {g : Nat → Nat} {ts : List Tx} {res : Int32 × St} (hE : EnvC V g)  (hf : fX5_readText u = some res) : Ct V yX5_readText (.code yX5_readText cX5_readText 1 (some .int)) rmX5_readText 0 0 [.ref (q 5)] (wC V q ts u) (rEq (some (.int res.1)) (wC V q ts res.2)) :=
  Ct_of (by decide) (Nat.le_of_ble_eq_true rfl) rfl (fun X hX hT _ hF => wX5_readText ⟨hX, hT, hF⟩ hE hf)
def rmX6_isMarks : Room := { frames := 0, cells := 0, slots := 0, locals := 0 }
def fX6_isMarks (v0 : Int32) : Option (Int32) := if v0 < 0 then some 0 else (if 1024 ≤ v0 then some 0 else (some 1))
theorem wX6_isMarks {X : Cx} {V : Vx} {res : Int32} (h : Run X cX6_isMarks 1 RX6 rmX6_isMarks V (some .boolean) (rEq (some (.int res)) [])) (hE : ZOK (vZ V)) {v0 : Int32} (hf : fX6_isMarks v0 = some res) : At X 1 0 0 [] 0 [(0, .int v0)] [] := by
  obtain ⟨hX, hT, hF⟩ := id h
  unfold fX6_isMarks at hf
  refine a_iload_n hX dX6_isMarks_0 rfl 0 rfl rfl ?_
  refine a_if_lt (tgt := 15) hX dX6_isMarks_1 rfl rfl hf (fun hf => ?_) (fun hf => ?_)
  · refine a_iconst (v := 0) hX dX6_isMarks_15 (by decide) rfl ?_
    exact a_zret hX hT (by decide) hF (r_i hf) dX6_isMarks_16
  · refine a_iload_n hX dX6_isMarks_4 rfl 0 rfl rfl ?_
    refine a_sipush (v := 1024) hX dX6_isMarks_5 (by decide) rfl ?_
    refine a_icmp_ge (tgt := 15) hX dX6_isMarks_8 rfl rfl hf (fun hf => ?_) (fun hf => ?_)
    · refine a_iconst (v := 0) hX dX6_isMarks_15 (by decide) rfl ?_
      exact a_zret hX hT (by decide) hF (r_i hf) dX6_isMarks_16
    · refine a_iconst (v := 1) hX dX6_isMarks_11 (by decide) rfl ?_
      refine a_goto (pc' := 16) hX dX6_isMarks_12 rfl ?_
      exact a_zret hX hT (by decide) hF (r_i hf) dX6_isMarks_16
theorem ctX6_isMarks {V : Vx} {res : Int32} (hE : ZOK (vZ V)) {v0 : Int32} (hf : fX6_isMarks v0 = some res) : Ct V yX6_isMarks (.code yX6_isMarks cX6_isMarks 1 (some .boolean)) rmX6_isMarks 0 0 [.int v0] [] (rEq (some (.int res)) []) :=
  Ct_of (by decide) (Nat.le_of_ble_eq_true rfl) rfl (fun X hX hT _ hF => wX6_isMarks ⟨hX, hT, hF⟩ hE hf)
def rmX6_has : Room := { frames := 0, cells := 0, slots := 0, locals := 0 }
def fX6_has (u : St) (v1 : Int32) : Option (Int32) := if v1 < 0 then some 0 else (if gZ u 120 ≤ v1 then some 0 else (some 1))
theorem wX6_has {X : Cx} {V : Vx} {q : Nat → Nat} {g : Nat → Nat} {ts : List Tx} {u : St} {res : Int32} (h : Run X cX6_has 2 RX6 rmX6_has V (some .boolean) (rEq (some (.int res)) (wC V q ts u))) (hE : EnvC V g) {v1 : Int32} (hf : fX6_has u v1 = some res) : At X 2 0 0 (wC V q ts u) 0 [(0, .ref (q 6)), (1, .int v1)] [] := by
  obtain ⟨hX, hT, hF⟩ := id h
  unfold fX6_has at hf
  refine a_iload_n hX dX6_has_0 rfl 1 rfl rfl ?_
  refine a_if_lt (tgt := 16) hX dX6_has_1 rfl rfl hf (fun hf => ?_) (fun hf => ?_)
  · refine a_iconst (v := 0) hX dX6_has_16 (by decide) rfl ?_
    exact a_zret hX hT (by decide) hF (r_i hf) dX6_has_17
  · refine a_iload_n hX dX6_has_4 rfl 1 rfl rfl ?_
    refine a_aload_n hX dX6_has_5 rfl 0 rfl rfl ?_
    refine gX6_0 hX F_X6_20 dX6_has_6 rfl ?_
    refine a_icmp_ge (tgt := 16) hX dX6_has_9 rfl rfl hf (fun hf => ?_) (fun hf => ?_)
    · refine a_iconst (v := 0) hX dX6_has_16 (by decide) rfl ?_
      exact a_zret hX hT (by decide) hF (r_i hf) dX6_has_17
    · refine a_iconst (v := 1) hX dX6_has_12 (by decide) rfl ?_
      refine a_goto (pc' := 17) hX dX6_has_13 rfl ?_
      exact a_zret hX hT (by decide) hF (r_i hf) dX6_has_17
theorem ctX6_has {V : Vx} {q : Nat → Nat} {u : St} {g : Nat → Nat} {ts : List Tx} {res : Int32} (hE : EnvC V g) {v1 : Int32} (hf : fX6_has u v1 = some res) : Ct V yX6_has (.code yX6_has cX6_has 2 (some .boolean)) rmX6_has 0 0 [.ref (q 6), .int v1] (wC V q ts u) (rEq (some (.int res)) (wC V q ts u)) :=
  Ct_of (by decide) (Nat.le_of_ble_eq_true rfl) rfl (fun X hX hT _ hF => wX6_has ⟨hX, hT, hF⟩ hE hf)
def rmX6_add : Room := { frames := 0, cells := 0, slots := 0, locals := 0 }
def fX6_add (u : St) (v1 : Int32) (v2 : Int32) : Option (Int32 × St) := stI u 122 10 (gZ u 120) (v1 &&& v2) (fun u1 => stI u1 123 10 (gZ u1 120) v2 (fun u2 => nmI (gZ u2 120) (fun x3 => nmS (setZ u2 120 (x3 + 1)) (fun u4 => some (x3, u4)))))
theorem wX6_add {X : Cx} {V : Vx} {q : Nat → Nat} {g : Nat → Nat} {ts : List Tx} {res : Int32 × St} (h : Run X cX6_add 3 RX6 rmX6_add V (some .int) (rEq (some (.int res.1)) (wC V q ts res.2))) (hE : EnvC V g) {u : St} {v1 : Int32} {v2 : Int32} (hf : fX6_add u v1 v2 = some res) : At X 3 0 0 (wC V q ts u) 0 [(0, .ref (q 6)), (1, .int v1), (2, .int v2)] [] := by
  obtain ⟨hX, hT, hF⟩ := id h
  unfold fX6_add at hf
  refine a_aload_n hX dX6_add_0 rfl 0 rfl rfl ?_
  refine gX6_2 hX F_X6_13 dX6_add_1 rfl ?_
  refine a_aload_n hX dX6_add_4 rfl 0 rfl rfl ?_
  refine gX6_0 hX F_X6_20 dX6_add_5 rfl ?_
  refine a_iload_n hX dX6_add_8 rfl 1 rfl rfl ?_
  refine a_iload_n hX dX6_add_9 rfl 2 rfl rfl ?_
  refine a_iand hX dX6_add_10 rfl ?_
  refine sX6_2 hX dX6_add_11 rfl hf (fun u1 hf => ?_)
  refine a_aload_n hX dX6_add_12 rfl 0 rfl rfl ?_
  refine gX6_3 hX F_X6_17 dX6_add_13 rfl ?_
  refine a_aload_n hX dX6_add_16 rfl 0 rfl rfl ?_
  refine gX6_0 hX F_X6_20 dX6_add_17 rfl ?_
  refine a_iload_n hX dX6_add_20 rfl 2 rfl rfl ?_
  refine sX6_3 hX dX6_add_21 rfl hf (fun u2 hf => ?_)
  refine a_aload_n hX dX6_add_22 rfl 0 rfl rfl ?_
  refine a_dup hX dX6_add_23 rfl rfl ?_
  refine gX6_0 hX F_X6_20 dX6_add_24 rfl ?_
  refine a_nmI hf (fun x3 hf => ?_)
  refine a_dup_x1 hX dX6_add_27 rfl rfl rfl ?_
  refine a_iconst (v := 1) hX dX6_add_28 (by decide) rfl ?_
  refine a_iadd hX dX6_add_29 rfl ?_
  refine pX6_0 hX F_X6_20 dX6_add_30 rfl hf (fun u4 hf => ?_)
  exact a_iret hX hT hF (r_iS (wf := (wC V q ts)) hf) dX6_add_33
theorem ctX6_add {V : Vx} {q : Nat → Nat} {u : St} {g : Nat → Nat} {ts : List Tx} {res : Int32 × St} (hE : EnvC V g) {v1 : Int32} {v2 : Int32} (hf : fX6_add u v1 v2 = some res) : Ct V yX6_add (.code yX6_add cX6_add 3 (some .int)) rmX6_add 0 0 [.ref (q 6), .int v1, .int v2] (wC V q ts u) (rEq (some (.int res.1)) (wC V q ts res.2)) :=
  Ct_of (by decide) (Nat.le_of_ble_eq_true rfl) rfl (fun X hX hT _ hF => wX6_add ⟨hX, hT, hF⟩ hE hf)
def rmX6_atOdds : Room := { frames := 0, cells := 0, slots := 0, locals := 0 }
def fX6_atOdds (u : St) (v1 : Int32) (v2 : Int32) : Option (Int32) := ldI (gA u 122) 10 v1 (fun x1 => ldI (gA u 122) 10 v2 (fun x2 => ldI (gA u 123) 10 v1 (fun x3 => ldI (gA u 123) 10 v2 (fun x4 => if ((x1 ^^^ x2) &&& x3) &&& x4 = 0 then some 0 else (some 1)))))
theorem wX6_atOdds {X : Cx} {V : Vx} {q : Nat → Nat} {g : Nat → Nat} {ts : List Tx} {u : St} {res : Int32} (h : Run X cX6_atOdds 3 RX6 rmX6_atOdds V (some .boolean) (rEq (some (.int res)) (wC V q ts u))) (hE : EnvC V g) {v1 : Int32} {v2 : Int32} (hf : fX6_atOdds u v1 v2 = some res) : At X 3 0 0 (wC V q ts u) 0 [(0, .ref (q 6)), (1, .int v1), (2, .int v2)] [] := by
  obtain ⟨hX, hT, hF⟩ := id h
  unfold fX6_atOdds at hf
  refine a_aload_n hX dX6_atOdds_0 rfl 0 rfl rfl ?_
  refine gX6_2 hX F_X6_13 dX6_atOdds_1 rfl ?_
  refine a_iload_n hX dX6_atOdds_4 rfl 1 rfl rfl ?_
  refine lX6_2 hX dX6_atOdds_5 rfl hf (fun x1 hf => ?_)
  refine a_aload_n hX dX6_atOdds_6 rfl 0 rfl rfl ?_
  refine gX6_2 hX F_X6_13 dX6_atOdds_7 rfl ?_
  refine a_iload_n hX dX6_atOdds_10 rfl 2 rfl rfl ?_
  refine lX6_2 hX dX6_atOdds_11 rfl hf (fun x2 hf => ?_)
  refine a_ixor hX dX6_atOdds_12 rfl ?_
  refine a_aload_n hX dX6_atOdds_13 rfl 0 rfl rfl ?_
  refine gX6_3 hX F_X6_17 dX6_atOdds_14 rfl ?_
  refine a_iload_n hX dX6_atOdds_17 rfl 1 rfl rfl ?_
  refine lX6_3 hX dX6_atOdds_18 rfl hf (fun x3 hf => ?_)
  refine a_iand hX dX6_atOdds_19 rfl ?_
  refine a_aload_n hX dX6_atOdds_20 rfl 0 rfl rfl ?_
  refine gX6_3 hX F_X6_17 dX6_atOdds_21 rfl ?_
  refine a_iload_n hX dX6_atOdds_24 rfl 2 rfl rfl ?_
  refine lX6_3 hX dX6_atOdds_25 rfl hf (fun x4 hf => ?_)
  refine a_iand hX dX6_atOdds_26 rfl ?_
  refine a_if_eq (tgt := 34) hX dX6_atOdds_27 rfl rfl hf (fun hf => ?_) (fun hf => ?_)
  · refine a_iconst (v := 0) hX dX6_atOdds_34 (by decide) rfl ?_
    exact a_zret hX hT (by decide) hF (r_i hf) dX6_atOdds_35
  · refine a_iconst (v := 1) hX dX6_atOdds_30 (by decide) rfl ?_
    refine a_goto (pc' := 35) hX dX6_atOdds_31 rfl ?_
    exact a_zret hX hT (by decide) hF (r_i hf) dX6_atOdds_35
theorem ctX6_atOdds {V : Vx} {q : Nat → Nat} {u : St} {g : Nat → Nat} {ts : List Tx} {res : Int32} (hE : EnvC V g) {v1 : Int32} {v2 : Int32} (hf : fX6_atOdds u v1 v2 = some res) : Ct V yX6_atOdds (.code yX6_atOdds cX6_atOdds 3 (some .boolean)) rmX6_atOdds 0 0 [.ref (q 6), .int v1, .int v2] (wC V q ts u) (rEq (some (.int res)) (wC V q ts u)) :=
  Ct_of (by decide) (Nat.le_of_ble_eq_true rfl) rfl (fun X hX hT _ hF => wX6_atOdds ⟨hX, hT, hF⟩ hE hf)
def rmX6_match : Room := { frames := 1, cells := 0, slots := 0, locals := 22 }
def fX6_match (u : St) (v1 : Int32) (v2 : Int32) : Option (Int32) := cl1 (fX6_atOdds u v1 v2) (fun x1 => if x1 = 0 then ldI (gA u 123) 10 v1 (fun x2 => ldI (gA u 123) 10 v2 (fun x3 => cl1 (fJ6_bitCount_0f7a4 (x2 &&& x3)) (fun x4 => if x4 < gZ u 121 then some 0 else (some 1)))) else (some 0))
theorem wX6_match {X : Cx} {V : Vx} {q : Nat → Nat} {g : Nat → Nat} {ts : List Tx} {u : St} {res : Int32} (h : Run X cX6_match 3 RX6 rmX6_match V (some .boolean) (rEq (some (.int res)) (wC V q ts u))) (hE : EnvC V g) {v1 : Int32} {v2 : Int32} (hf : fX6_match u v1 v2 = some res) : At X 3 0 0 (wC V q ts u) 0 [(0, .ref (q 6)), (1, .int v1), (2, .int v2)] [] := by
  obtain ⟨hX, hT, hF⟩ := id h
  unfold fX6_match at hf
  refine a_aload_n hX dX6_match_0 rfl 0 rfl rfl ?_
  refine a_iload_n hX dX6_match_1 rfl 1 rfl rfl ?_
  refine a_iload_n hX dX6_match_2 rfl 2 rfl rfl ?_
  obtain ⟨x1, hg1, hf⟩ := cl1_some hf
  refine a_cVsi (q0 := 9) (rest := []) hX hE.1 (ctX6_atOdds (q := q) hE hg1) K_X6_23 ⟨rfl, rfl⟩ ⟨rfl, rfl, by decide, by decide⟩ ⟨Nat.zero_le _, Nat.zero_le _⟩ (Nat.le_of_ble_eq_true rfl) dX6_match_3 rfl rfl ?_
  refine a_if_ne (tgt := 36) hX dX6_match_6 rfl rfl hf (fun hf => ?_) (fun hf => ?_)
  · refine a_iconst (v := 0) hX dX6_match_36 (by decide) rfl ?_
    exact a_zret hX hT (by decide) hF (r_i hf) dX6_match_37
  · refine a_aload_n hX dX6_match_9 rfl 0 rfl rfl ?_
    refine gX6_3 hX F_X6_17 dX6_match_10 rfl ?_
    refine a_iload_n hX dX6_match_13 rfl 1 rfl rfl ?_
    refine lX6_3 hX dX6_match_14 rfl hf (fun x2 hf => ?_)
    refine a_aload_n hX dX6_match_15 rfl 0 rfl rfl ?_
    refine gX6_3 hX F_X6_17 dX6_match_16 rfl ?_
    refine a_iload_n hX dX6_match_19 rfl 2 rfl rfl ?_
    refine lX6_3 hX dX6_match_20 rfl hf (fun x3 hf => ?_)
    refine a_iand hX dX6_match_21 rfl ?_
    obtain ⟨x4, hg4, hf⟩ := cl1_some hf
    refine a_cSpi (rest := []) hX hE.1 (ctJ6_bitCount_0f7a4 hE.1 hg4) K_X6_27 ⟨rfl, rfl, by decide, by decide⟩ ⟨Nat.zero_le _, Nat.zero_le _⟩ (Nat.le_of_ble_eq_true rfl) dX6_match_22 rfl rfl ?_
    refine a_aload_n hX dX6_match_25 rfl 0 rfl rfl ?_
    refine gX6_1 hX F_X6_7 dX6_match_26 rfl ?_
    refine a_icmp_lt (tgt := 36) hX dX6_match_29 rfl rfl hf (fun hf => ?_) (fun hf => ?_)
    · refine a_iconst (v := 0) hX dX6_match_36 (by decide) rfl ?_
      exact a_zret hX hT (by decide) hF (r_i hf) dX6_match_37
    · refine a_iconst (v := 1) hX dX6_match_32 (by decide) rfl ?_
      refine a_goto (pc' := 37) hX dX6_match_33 rfl ?_
      exact a_zret hX hT (by decide) hF (r_i hf) dX6_match_37
theorem ctX6_match {V : Vx} {q : Nat → Nat} {u : St} {g : Nat → Nat} {ts : List Tx} {res : Int32} (hE : EnvC V g) {v1 : Int32} {v2 : Int32} (hf : fX6_match u v1 v2 = some res) : Ct V yX6_match (.code yX6_match cX6_match 3 (some .boolean)) rmX6_match 0 0 [.ref (q 6), .int v1, .int v2] (wC V q ts u) (rEq (some (.int res)) (wC V q ts u)) :=
  Ct_of (by decide) (Nat.le_of_ble_eq_true rfl) rfl (fun X hX hT _ hF => wX6_match ⟨hX, hT, hF⟩ hE hf)
def rmX6_matchesOneOf : Room := { frames := 2, cells := 0, slots := 0, locals := 44 }
def fX6_matchesOneOf_b29 (u : St) (k2 : Int32 → Option (Int32)) (v1 : Int32) (v2 : Int32) (v3 : Int32) : Option (Int32) := k2 (v3 + 1)
theorem wX6_matchesOneOf_b29 {X : Cx} {V : Vx} {q : Nat → Nat} {g : Nat → Nat} {ts : List Tx} {u : St} {res : Int32} (h : Run X cX6_matchesOneOf 4 RX6 rmX6_matchesOneOf V (some .boolean) (rEq (some (.int res)) (wC V q ts u))) (hE : EnvC V g) {v1 : Int32} {v2 : Int32} {v3 : Int32} {k2 : Int32 → Option (Int32)} (hk2 : ∀ (v3 : Int32), k2 v3 = some res → At X 4 0 0 (wC V q ts u) 2 [(0, .ref (q 6)), (1, .int v1), (2, .int v2), (3, .int v3)] []) (hf : fX6_matchesOneOf_b29 u k2 v1 v2 v3 = some res) : At X 4 0 0 (wC V q ts u) 29 [(0, .ref (q 6)), (1, .int v1), (2, .int v2), (3, .int v3)] [] := by
  obtain ⟨hX, hT, hF⟩ := id h
  unfold fX6_matchesOneOf_b29 at hf
  refine a_iinc (v := v3 + 1) (lv' := [(3, .int (v3 + 1)), (0, .ref (q 6)), (1, .int v1), (2, .int v2)]) hX dX6_matchesOneOf_29 3 rfl rfl (by decide) rfl rfl ?_
  refine a_goto (pc' := 2) hX dX6_matchesOneOf_32 rfl ?_
  refine a_lv (lv' := [(0, .ref (q 6)), (1, .int v1), (2, .int v2), (3, .int (v3 + 1))]) [1, 2, 3, 0] rfl ?_
  exact hk2 (v3 + 1) hf
def fX6_matchesOneOf_l2b (u : St) (k2 : Int32 → Option (Int32)) (v1 : Int32) (v2 : Int32) (v3 : Int32) : Option (Int32) := if gZ u 120 ≤ v3 then some 0 else (cl1 (fX11_isIn v1 v3) (fun x1 => if x1 = 0 then fX6_matchesOneOf_b29 u k2 v1 v2 v3 else (cl1 (fX6_match u v3 v2) (fun x2 => if x2 = 0 then fX6_matchesOneOf_b29 u k2 v1 v2 v3 else (some 1)))))
theorem wX6_matchesOneOf_l2b {X : Cx} {V : Vx} {q : Nat → Nat} {g : Nat → Nat} {ts : List Tx} {u : St} {res : Int32} (h : Run X cX6_matchesOneOf 4 RX6 rmX6_matchesOneOf V (some .boolean) (rEq (some (.int res)) (wC V q ts u))) (hE : EnvC V g) {v1 : Int32} {v2 : Int32} {v3 : Int32} {k2 : Int32 → Option (Int32)} (hk2 : ∀ (v3 : Int32), k2 v3 = some res → At X 4 0 0 (wC V q ts u) 2 [(0, .ref (q 6)), (1, .int v1), (2, .int v2), (3, .int v3)] []) (hf : fX6_matchesOneOf_l2b u k2 v1 v2 v3 = some res) : At X 4 0 0 (wC V q ts u) 2 [(0, .ref (q 6)), (1, .int v1), (2, .int v2), (3, .int v3)] [] := by
  obtain ⟨hX, hT, hF⟩ := id h
  unfold fX6_matchesOneOf_l2b at hf
  refine a_iload_n hX dX6_matchesOneOf_2 rfl 3 rfl rfl ?_
  refine a_aload_n hX dX6_matchesOneOf_3 rfl 0 rfl rfl ?_
  refine gX6_0 hX F_X6_20 dX6_matchesOneOf_4 rfl ?_
  refine a_icmp_ge (tgt := 35) hX dX6_matchesOneOf_7 rfl rfl hf (fun hf => ?_) (fun hf => ?_)
  · refine a_iconst (v := 0) hX dX6_matchesOneOf_35 (by decide) rfl ?_
    exact a_zret hX hT (by decide) hF (r_i hf) dX6_matchesOneOf_36
  · refine a_iload_n hX dX6_matchesOneOf_10 rfl 1 rfl rfl ?_
    refine a_iload_n hX dX6_matchesOneOf_11 rfl 3 rfl rfl ?_
    obtain ⟨x1, hg1, hf⟩ := cl1_some hf
    refine a_cNpi (rest := []) hX hE.1 (ctX11_isIn hE.1 hg1) (e_nw hX hE (w := .methodLinkNest "VaseCourt$Records" 33 yX11_isIn "VaseCourt") (List.mem_of_getElem? (i := 12) rfl)) LN_X11_isIn ⟨rfl, rfl, by decide, by decide⟩ ⟨Nat.zero_le _, Nat.zero_le _⟩ (Nat.le_of_ble_eq_true rfl) dX6_matchesOneOf_12 rfl rfl ?_
    refine a_if_eq (tgt := 29) hX dX6_matchesOneOf_15 rfl rfl hf (fun hf => ?_) (fun hf => ?_)
    · exact wX6_matchesOneOf_b29 h hE hk2 hf
    · refine a_aload_n hX dX6_matchesOneOf_18 rfl 0 rfl rfl ?_
      refine a_iload_n hX dX6_matchesOneOf_19 rfl 3 rfl rfl ?_
      refine a_iload_n hX dX6_matchesOneOf_20 rfl 2 rfl rfl ?_
      obtain ⟨x2, hg2, hf⟩ := cl1_some hf
      refine a_cVsi (q0 := 9) (rest := []) hX hE.1 (ctX6_match (q := q) hE hg2) K_X6_41 ⟨rfl, rfl⟩ ⟨rfl, rfl, by decide, by decide⟩ ⟨Nat.zero_le _, Nat.zero_le _⟩ (Nat.le_of_ble_eq_true rfl) dX6_matchesOneOf_21 rfl rfl ?_
      refine a_if_eq (tgt := 29) hX dX6_matchesOneOf_24 rfl rfl hf (fun hf => ?_) (fun hf => ?_)
      · exact wX6_matchesOneOf_b29 h hE hk2 hf
      · refine a_iconst (v := 1) hX dX6_matchesOneOf_27 (by decide) rfl ?_
        exact a_zret hX hT (by decide) hF (r_i hf) dX6_matchesOneOf_28
def fX6_matchesOneOf_l2 (u : St)  (v1 : Int32) (v2 : Int32) : Nat → Int32 → Option (Int32)
  | 0, _ => none
  | m + 1, v3 => fX6_matchesOneOf_l2b u (fX6_matchesOneOf_l2 u  v1 v2 m) v1 v2 v3
theorem wX6_matchesOneOf_l2 {X : Cx} {V : Vx} {q : Nat → Nat} {g : Nat → Nat} {ts : List Tx} {u : St} {res : Int32} (h : Run X cX6_matchesOneOf 4 RX6 rmX6_matchesOneOf V (some .boolean) (rEq (some (.int res)) (wC V q ts u))) (hE : EnvC V g) {v1 : Int32} {v2 : Int32} : ∀ (m : Nat) (v3 : Int32), fX6_matchesOneOf_l2 u  v1 v2 m v3 = some res → At X 4 0 0 (wC V q ts u) 2 [(0, .ref (q 6)), (1, .int v1), (2, .int v2), (3, .int v3)] [] := by
  intro m
  induction m with
  | zero => intro v3 hf; cases hf
  | succ m ih => intro v3 hf; exact wX6_matchesOneOf_l2b h hE ih hf
def fX6_matchesOneOf (u : St) (v1 : Int32) (v2 : Int32) : Option (Int32) := fX6_matchesOneOf_l2 u v1 v2 NF 0
theorem wX6_matchesOneOf {X : Cx} {V : Vx} {q : Nat → Nat} {g : Nat → Nat} {ts : List Tx} {u : St} {res : Int32} (h : Run X cX6_matchesOneOf 4 RX6 rmX6_matchesOneOf V (some .boolean) (rEq (some (.int res)) (wC V q ts u))) (hE : EnvC V g) {v1 : Int32} {v2 : Int32} (hf : fX6_matchesOneOf u v1 v2 = some res) : At X 4 0 0 (wC V q ts u) 0 [(0, .ref (q 6)), (1, .int v1), (2, .int v2)] [] := by
  obtain ⟨hX, hT, hF⟩ := id h
  unfold fX6_matchesOneOf at hf
  refine a_iconst (v := 0) hX dX6_matchesOneOf_0 (by decide) rfl ?_
  refine a_istore_n (lv' := [(3, .int 0), (0, .ref (q 6)), (1, .int v1), (2, .int v2)]) hX dX6_matchesOneOf_1 rfl (by decide) rfl rfl ?_
  refine a_lv (lv' := [(0, .ref (q 6)), (1, .int v1), (2, .int v2), (3, .int 0)]) [1, 2, 3, 0] rfl ?_
  exact wX6_matchesOneOf_l2 h hE NF 0 hf
theorem ctX6_matchesOneOf {V : Vx} {q : Nat → Nat} {u : St} {g : Nat → Nat} {ts : List Tx} {res : Int32} (hE : EnvC V g) {v1 : Int32} {v2 : Int32} (hf : fX6_matchesOneOf u v1 v2 = some res) : Ct V yX6_matchesOneOf (.code yX6_matchesOneOf cX6_matchesOneOf 4 (some .boolean)) rmX6_matchesOneOf 0 0 [.ref (q 6), .int v1, .int v2] (wC V q ts u) (rEq (some (.int res)) (wC V q ts u)) :=
  Ct_of (by decide) (Nat.le_of_ble_eq_true rfl) rfl (fun X hX hT _ hF => wX6_matchesOneOf ⟨hX, hT, hF⟩ hE hf)
def rmX6_thingOf : Room := { frames := 3, cells := 0, slots := 0, locals := 67 }
def fX6_thingOf_b55 (u : St) (k6 : Int32 → Int32 → Option (Int32)) (k20 : Int32 → Int32 → Option (Int32)) (v2 : Int32) (v3 : Int32) (v4 : Int32) (v5 : Int32) : Option (Int32) := k20 v2 (v5 + 1)
theorem wX6_thingOf_b55 {X : Cx} {V : Vx} {q : Nat → Nat} {g : Nat → Nat} {ts : List Tx} {u : St} {res : Int32} (h : Run X cX6_thingOf 6 RX6 rmX6_thingOf V (some .int) (rEq (some (.int res)) (wC V q ts u))) (hE : EnvC V g) {v2 : Int32} {v3 : Int32} {v4 : Int32} {v5 : Int32} {k6 : Int32 → Int32 → Option (Int32)} (hk6 : ∀ (v2 : Int32) (v3 : Int32), k6 v2 v3 = some res → At X 6 0 0 (wC V q ts u) 6 [(0, .ref (q 6)), (2, .int v2), (3, .int v3)] []) {k20 : Int32 → Int32 → Option (Int32)} (hk20 : ∀ (v2 : Int32) (v5 : Int32), k20 v2 v5 = some res → At X 6 0 0 (wC V q ts u) 20 [(0, .ref (q 6)), (2, .int v2), (3, .int v3), (4, .int v4), (5, .int v5)] []) (hf : fX6_thingOf_b55 u k6 k20 v2 v3 v4 v5 = some res) : At X 6 0 0 (wC V q ts u) 55 [(0, .ref (q 6)), (2, .int v2), (3, .int v3), (4, .int v4), (5, .int v5)] [] := by
  obtain ⟨hX, hT, hF⟩ := id h
  unfold fX6_thingOf_b55 at hf
  refine a_iinc (v := v5 + 1) (lv' := [(5, .int (v5 + 1)), (0, .ref (q 6)), (2, .int v2), (3, .int v3), (4, .int v4)]) hX dX6_thingOf_55 4 rfl rfl (by decide) rfl rfl ?_
  refine a_goto (pc' := 20) hX dX6_thingOf_58 rfl ?_
  refine a_lv (lv' := [(0, .ref (q 6)), (2, .int v2), (3, .int v3), (4, .int v4), (5, .int (v5 + 1))]) [1, 2, 3, 4, 0] rfl ?_
  exact hk20 v2 (v5 + 1) hf
def fX6_thingOf_l20b (u : St) (k6 : Int32 → Int32 → Option (Int32)) (k20 : Int32 → Int32 → Option (Int32)) (v2 : Int32) (v3 : Int32) (v4 : Int32) (v5 : Int32) : Option (Int32) := if gZ u 120 ≤ v5 then if v2 = v4 then some v2 else (k6 v2 (v3 + 1)) else (cl1 (fX11_isIn v2 v5) (fun x2 => if x2 = 0 then cl1 (fX6_matchesOneOf u v2 v5) (fun x3 => if x3 = 0 then fX6_thingOf_b55 u k6 k20 v2 v3 v4 v5 else (nmI (v2 ||| ((1 : Int32) <<< (v5 &&& 31))) (fun x4 => fX6_thingOf_b55 u k6 k20 x4 v3 v4 v5))) else (fX6_thingOf_b55 u k6 k20 v2 v3 v4 v5)))
theorem wX6_thingOf_l20b {X : Cx} {V : Vx} {q : Nat → Nat} {g : Nat → Nat} {ts : List Tx} {u : St} {res : Int32} (h : Run X cX6_thingOf 6 RX6 rmX6_thingOf V (some .int) (rEq (some (.int res)) (wC V q ts u))) (hE : EnvC V g) {v2 : Int32} {v3 : Int32} {v4 : Int32} {v5 : Int32} {k6 : Int32 → Int32 → Option (Int32)} (hk6 : ∀ (v2 : Int32) (v3 : Int32), k6 v2 v3 = some res → At X 6 0 0 (wC V q ts u) 6 [(0, .ref (q 6)), (2, .int v2), (3, .int v3)] []) {k20 : Int32 → Int32 → Option (Int32)} (hk20 : ∀ (v2 : Int32) (v5 : Int32), k20 v2 v5 = some res → At X 6 0 0 (wC V q ts u) 20 [(0, .ref (q 6)), (2, .int v2), (3, .int v3), (4, .int v4), (5, .int v5)] []) (hf : fX6_thingOf_l20b u k6 k20 v2 v3 v4 v5 = some res) : At X 6 0 0 (wC V q ts u) 20 [(0, .ref (q 6)), (2, .int v2), (3, .int v3), (4, .int v4), (5, .int v5)] [] := by
  obtain ⟨hX, hT, hF⟩ := id h
  unfold fX6_thingOf_l20b at hf
  refine a_iload hX dX6_thingOf_20 4 rfl rfl ?_
  refine a_aload_n hX dX6_thingOf_22 rfl 0 rfl rfl ?_
  refine gX6_0 hX F_X6_20 dX6_thingOf_23 rfl ?_
  refine a_icmp_ge (tgt := 61) hX dX6_thingOf_26 rfl rfl hf (fun hf => ?_) (fun hf => ?_)
  · refine a_iload_n hX dX6_thingOf_61 rfl 1 rfl rfl ?_
    refine a_iload hX dX6_thingOf_62 3 rfl rfl ?_
    refine a_icmp_ne (tgt := 70) hX dX6_thingOf_64 rfl rfl hf (fun hf => ?_) (fun hf => ?_)
    · refine a_iinc (v := v3 + 1) (lv' := [(3, .int (v3 + 1)), (0, .ref (q 6)), (2, .int v2), (4, .int v4), (5, .int v5)]) hX dX6_thingOf_70 2 rfl rfl (by decide) rfl rfl ?_
      refine a_goto (pc' := 6) hX dX6_thingOf_73 rfl ?_
      refine a_lv (lv' := [(0, .ref (q 6)), (2, .int v2), (3, .int (v3 + 1))]) [1, 2, 0] rfl ?_
      exact hk6 v2 (v3 + 1) hf
    · refine a_goto (pc' := 76) hX dX6_thingOf_67 rfl ?_
      refine a_iload_n hX dX6_thingOf_76 rfl 1 rfl rfl ?_
      exact a_iret hX hT hF (r_i hf) dX6_thingOf_77
  · refine a_iload_n hX dX6_thingOf_29 rfl 1 rfl rfl ?_
    refine a_iload hX dX6_thingOf_30 4 rfl rfl ?_
    obtain ⟨x2, hg2, hf⟩ := cl1_some hf
    refine a_cNpi (rest := []) hX hE.1 (ctX11_isIn hE.1 hg2) (e_nw hX hE (w := .methodLinkNest "VaseCourt$Records" 33 yX11_isIn "VaseCourt") (List.mem_of_getElem? (i := 12) rfl)) LN_X11_isIn ⟨rfl, rfl, by decide, by decide⟩ ⟨Nat.zero_le _, Nat.zero_le _⟩ (Nat.le_of_ble_eq_true rfl) dX6_thingOf_32 rfl rfl ?_
    refine a_if_ne (tgt := 55) hX dX6_thingOf_35 rfl rfl hf (fun hf => ?_) (fun hf => ?_)
    · exact wX6_thingOf_b55 h hE hk6 hk20 hf
    · refine a_aload_n hX dX6_thingOf_38 rfl 0 rfl rfl ?_
      refine a_iload_n hX dX6_thingOf_39 rfl 1 rfl rfl ?_
      refine a_iload hX dX6_thingOf_40 4 rfl rfl ?_
      obtain ⟨x3, hg3, hf⟩ := cl1_some hf
      refine a_cVsi (q0 := 9) (rest := []) hX hE.1 (ctX6_matchesOneOf (q := q) hE hg3) K_X6_38 ⟨rfl, rfl⟩ ⟨rfl, rfl, by decide, by decide⟩ ⟨Nat.zero_le _, Nat.zero_le _⟩ (Nat.le_of_ble_eq_true rfl) dX6_thingOf_42 rfl rfl ?_
      refine a_if_eq (tgt := 55) hX dX6_thingOf_45 rfl rfl hf (fun hf => ?_) (fun hf => ?_)
      · exact wX6_thingOf_b55 h hE hk6 hk20 hf
      · refine a_iload_n hX dX6_thingOf_48 rfl 1 rfl rfl ?_
        refine a_iconst (v := 1) hX dX6_thingOf_49 (by decide) rfl ?_
        refine a_iload hX dX6_thingOf_50 4 rfl rfl ?_
        refine a_ishl hX dX6_thingOf_52 rfl ?_
        refine a_ior hX dX6_thingOf_53 rfl ?_
        refine a_nmI hf (fun x4 hf => ?_)
        refine a_istore_n (lv' := [(2, .int x4), (0, .ref (q 6)), (3, .int v3), (4, .int v4), (5, .int v5)]) hX dX6_thingOf_54 rfl (by decide) rfl rfl ?_
        refine a_lv (lv' := [(0, .ref (q 6)), (2, .int x4), (3, .int v3), (4, .int v4), (5, .int v5)]) [1, 0, 2, 3, 4] rfl ?_
        exact wX6_thingOf_b55 h hE hk6 hk20 hf
def fX6_thingOf_l20 (u : St) (k6 : Int32 → Int32 → Option (Int32)) (v3 : Int32) (v4 : Int32) : Nat → Int32 → Int32 → Option (Int32)
  | 0, _, _ => none
  | m + 1, v2, v5 => fX6_thingOf_l20b u k6 (fX6_thingOf_l20 u k6 v3 v4 m) v2 v3 v4 v5
theorem wX6_thingOf_l20 {X : Cx} {V : Vx} {q : Nat → Nat} {g : Nat → Nat} {ts : List Tx} {u : St} {res : Int32} (h : Run X cX6_thingOf 6 RX6 rmX6_thingOf V (some .int) (rEq (some (.int res)) (wC V q ts u))) (hE : EnvC V g) {v3 : Int32} {v4 : Int32} {k6 : Int32 → Int32 → Option (Int32)} (hk6 : ∀ (v2 : Int32) (v3 : Int32), k6 v2 v3 = some res → At X 6 0 0 (wC V q ts u) 6 [(0, .ref (q 6)), (2, .int v2), (3, .int v3)] []) : ∀ (m : Nat) (v2 : Int32) (v5 : Int32), fX6_thingOf_l20 u k6 v3 v4 m v2 v5 = some res → At X 6 0 0 (wC V q ts u) 20 [(0, .ref (q 6)), (2, .int v2), (3, .int v3), (4, .int v4), (5, .int v5)] [] := by
  intro m
  induction m with
  | zero => intro v2 v5 hf; cases hf
  | succ m ih => intro v2 v5 hf; exact wX6_thingOf_l20b h hE hk6 ih hf
def fX6_thingOf_l6b (u : St) (k6 : Int32 → Int32 → Option (Int32)) (v2 : Int32) (v3 : Int32) : Option (Int32) := if gZ u 120 ≤ v3 then some v2 else (fX6_thingOf_l20 u k6 v3 v2 NF v2 0)
theorem wX6_thingOf_l6b {X : Cx} {V : Vx} {q : Nat → Nat} {g : Nat → Nat} {ts : List Tx} {u : St} {res : Int32} (h : Run X cX6_thingOf 6 RX6 rmX6_thingOf V (some .int) (rEq (some (.int res)) (wC V q ts u))) (hE : EnvC V g) {v2 : Int32} {v3 : Int32} {k6 : Int32 → Int32 → Option (Int32)} (hk6 : ∀ (v2 : Int32) (v3 : Int32), k6 v2 v3 = some res → At X 6 0 0 (wC V q ts u) 6 [(0, .ref (q 6)), (2, .int v2), (3, .int v3)] []) (hf : fX6_thingOf_l6b u k6 v2 v3 = some res) : At X 6 0 0 (wC V q ts u) 6 [(0, .ref (q 6)), (2, .int v2), (3, .int v3)] [] := by
  obtain ⟨hX, hT, hF⟩ := id h
  unfold fX6_thingOf_l6b at hf
  refine a_iload_n hX dX6_thingOf_6 rfl 2 rfl rfl ?_
  refine a_aload_n hX dX6_thingOf_7 rfl 0 rfl rfl ?_
  refine gX6_0 hX F_X6_20 dX6_thingOf_8 rfl ?_
  refine a_icmp_ge (tgt := 76) hX dX6_thingOf_11 rfl rfl hf (fun hf => ?_) (fun hf => ?_)
  · refine a_iload_n hX dX6_thingOf_76 rfl 1 rfl rfl ?_
    exact a_iret hX hT hF (r_i hf) dX6_thingOf_77
  · refine a_iload_n hX dX6_thingOf_14 rfl 1 rfl rfl ?_
    refine a_istore (lv' := [(4, .int v2), (0, .ref (q 6)), (2, .int v2), (3, .int v3)]) hX dX6_thingOf_15 (by decide) rfl rfl ?_
    refine a_iconst (v := 0) hX dX6_thingOf_17 (by decide) rfl ?_
    refine a_istore (lv' := [(5, .int 0), (4, .int v2), (0, .ref (q 6)), (2, .int v2), (3, .int v3)]) hX dX6_thingOf_18 (by decide) rfl rfl ?_
    refine a_lv (lv' := [(0, .ref (q 6)), (2, .int v2), (3, .int v3), (4, .int v2), (5, .int 0)]) [2, 3, 4, 1, 0] rfl ?_
    exact wX6_thingOf_l20 h hE hk6 NF v2 0 hf
def fX6_thingOf_l6 (u : St)   : Nat → Int32 → Int32 → Option (Int32)
  | 0, _, _ => none
  | m + 1, v2, v3 => fX6_thingOf_l6b u (fX6_thingOf_l6 u   m) v2 v3
theorem wX6_thingOf_l6 {X : Cx} {V : Vx} {q : Nat → Nat} {g : Nat → Nat} {ts : List Tx} {u : St} {res : Int32} (h : Run X cX6_thingOf 6 RX6 rmX6_thingOf V (some .int) (rEq (some (.int res)) (wC V q ts u))) (hE : EnvC V g)  : ∀ (m : Nat) (v2 : Int32) (v3 : Int32), fX6_thingOf_l6 u   m v2 v3 = some res → At X 6 0 0 (wC V q ts u) 6 [(0, .ref (q 6)), (2, .int v2), (3, .int v3)] [] := by
  intro m
  induction m with
  | zero => intro v2 v3 hf; cases hf
  | succ m ih => intro v2 v3 hf; exact wX6_thingOf_l6b h hE ih hf
def fX6_thingOf (u : St) (v1 : Int32) : Option (Int32) := nmI ((1 : Int32) <<< (v1 &&& 31)) (fun x1 => fX6_thingOf_l6 u NF x1 1)
theorem wX6_thingOf {X : Cx} {V : Vx} {q : Nat → Nat} {g : Nat → Nat} {ts : List Tx} {u : St} {res : Int32} (h : Run X cX6_thingOf 6 RX6 rmX6_thingOf V (some .int) (rEq (some (.int res)) (wC V q ts u))) (hE : EnvC V g) {v1 : Int32} (hf : fX6_thingOf u v1 = some res) : At X 6 0 0 (wC V q ts u) 0 [(0, .ref (q 6)), (1, .int v1)] [] := by
  obtain ⟨hX, hT, hF⟩ := id h
  unfold fX6_thingOf at hf
  refine a_iconst (v := 1) hX dX6_thingOf_0 (by decide) rfl ?_
  refine a_iload_n hX dX6_thingOf_1 rfl 1 rfl rfl ?_
  refine a_ishl hX dX6_thingOf_2 rfl ?_
  refine a_nmI hf (fun x1 hf => ?_)
  refine a_istore_n (lv' := [(2, .int x1), (0, .ref (q 6)), (1, .int v1)]) hX dX6_thingOf_3 rfl (by decide) rfl rfl ?_
  refine a_iconst (v := 1) hX dX6_thingOf_4 (by decide) rfl ?_
  refine a_istore_n (lv' := [(3, .int 1), (2, .int x1), (0, .ref (q 6)), (1, .int v1)]) hX dX6_thingOf_5 rfl (by decide) rfl rfl ?_
  refine a_lv (lv' := [(0, .ref (q 6)), (2, .int x1), (3, .int 1)]) [2, 1, 0] rfl ?_
  exact wX6_thingOf_l6 h hE NF x1 1 hf
theorem ctX6_thingOf {V : Vx} {q : Nat → Nat} {u : St} {g : Nat → Nat} {ts : List Tx} {res : Int32} (hE : EnvC V g) {v1 : Int32} (hf : fX6_thingOf u v1 = some res) : Ct V yX6_thingOf (.code yX6_thingOf cX6_thingOf 6 (some .int)) rmX6_thingOf 0 0 [.ref (q 6), .int v1] (wC V q ts u) (rEq (some (.int res)) (wC V q ts u)) :=
  Ct_of (by decide) (Nat.le_of_ble_eq_true rfl) rfl (fun X hX hT _ hF => wX6_thingOf ⟨hX, hT, hF⟩ hE hf)
def rmX6_tellsCopy : Room := { frames := 1, cells := 0, slots := 0, locals := 22 }
def fX6_tellsCopy_b49 (u : St) (k2 : Int32 → Option (Int32)) (k14 : Int32 → Option (Int32)) (v1 : Int32) (v2 : Int32) (v3 : Int32) : Option (Int32) := k14 (v3 + 1)
theorem wX6_tellsCopy_b49 {X : Cx} {V : Vx} {q : Nat → Nat} {g : Nat → Nat} {ts : List Tx} {u : St} {res : Int32} (h : Run X cX6_tellsCopy 4 RX6 rmX6_tellsCopy V (some .boolean) (rEq (some (.int res)) (wC V q ts u))) (hE : EnvC V g) {v1 : Int32} {v2 : Int32} {v3 : Int32} {k2 : Int32 → Option (Int32)} (hk2 : ∀ (v2 : Int32), k2 v2 = some res → At X 4 0 0 (wC V q ts u) 2 [(0, .ref (q 6)), (1, .int v1), (2, .int v2)] []) {k14 : Int32 → Option (Int32)} (hk14 : ∀ (v3 : Int32), k14 v3 = some res → At X 4 0 0 (wC V q ts u) 14 [(0, .ref (q 6)), (1, .int v1), (2, .int v2), (3, .int v3)] []) (hf : fX6_tellsCopy_b49 u k2 k14 v1 v2 v3 = some res) : At X 4 0 0 (wC V q ts u) 49 [(0, .ref (q 6)), (1, .int v1), (2, .int v2), (3, .int v3)] [] := by
  obtain ⟨hX, hT, hF⟩ := id h
  unfold fX6_tellsCopy_b49 at hf
  refine a_iinc (v := v3 + 1) (lv' := [(3, .int (v3 + 1)), (0, .ref (q 6)), (1, .int v1), (2, .int v2)]) hX dX6_tellsCopy_49 3 rfl rfl (by decide) rfl rfl ?_
  refine a_goto (pc' := 14) hX dX6_tellsCopy_52 rfl ?_
  refine a_lv (lv' := [(0, .ref (q 6)), (1, .int v1), (2, .int v2), (3, .int (v3 + 1))]) [1, 2, 3, 0] rfl ?_
  exact hk14 (v3 + 1) hf
def fX6_tellsCopy_l14b (u : St) (k2 : Int32 → Option (Int32)) (k14 : Int32 → Option (Int32)) (v1 : Int32) (v2 : Int32) (v3 : Int32) : Option (Int32) := if gZ u 120 ≤ v3 then k2 (v2 + 1) else (cl1 (fX11_isIn v1 v2) (fun x2 => if x2 = 0 then fX6_tellsCopy_b49 u k2 k14 v1 v2 v3 else (cl1 (fX11_isIn v1 v3) (fun x3 => if x3 = 0 then fX6_tellsCopy_b49 u k2 k14 v1 v2 v3 else (cl1 (fX6_atOdds u v2 v3) (fun x4 => if x4 = 0 then fX6_tellsCopy_b49 u k2 k14 v1 v2 v3 else (some 1)))))))
theorem wX6_tellsCopy_l14b {X : Cx} {V : Vx} {q : Nat → Nat} {g : Nat → Nat} {ts : List Tx} {u : St} {res : Int32} (h : Run X cX6_tellsCopy 4 RX6 rmX6_tellsCopy V (some .boolean) (rEq (some (.int res)) (wC V q ts u))) (hE : EnvC V g) {v1 : Int32} {v2 : Int32} {v3 : Int32} {k2 : Int32 → Option (Int32)} (hk2 : ∀ (v2 : Int32), k2 v2 = some res → At X 4 0 0 (wC V q ts u) 2 [(0, .ref (q 6)), (1, .int v1), (2, .int v2)] []) {k14 : Int32 → Option (Int32)} (hk14 : ∀ (v3 : Int32), k14 v3 = some res → At X 4 0 0 (wC V q ts u) 14 [(0, .ref (q 6)), (1, .int v1), (2, .int v2), (3, .int v3)] []) (hf : fX6_tellsCopy_l14b u k2 k14 v1 v2 v3 = some res) : At X 4 0 0 (wC V q ts u) 14 [(0, .ref (q 6)), (1, .int v1), (2, .int v2), (3, .int v3)] [] := by
  obtain ⟨hX, hT, hF⟩ := id h
  unfold fX6_tellsCopy_l14b at hf
  refine a_iload_n hX dX6_tellsCopy_14 rfl 3 rfl rfl ?_
  refine a_aload_n hX dX6_tellsCopy_15 rfl 0 rfl rfl ?_
  refine gX6_0 hX F_X6_20 dX6_tellsCopy_16 rfl ?_
  refine a_icmp_ge (tgt := 55) hX dX6_tellsCopy_19 rfl rfl hf (fun hf => ?_) (fun hf => ?_)
  · refine a_iinc (v := v2 + 1) (lv' := [(2, .int (v2 + 1)), (0, .ref (q 6)), (1, .int v1), (3, .int v3)]) hX dX6_tellsCopy_55 2 rfl rfl (by decide) rfl rfl ?_
    refine a_goto (pc' := 2) hX dX6_tellsCopy_58 rfl ?_
    refine a_lv (lv' := [(0, .ref (q 6)), (1, .int v1), (2, .int (v2 + 1))]) [1, 2, 0] rfl ?_
    exact hk2 (v2 + 1) hf
  · refine a_iload_n hX dX6_tellsCopy_22 rfl 1 rfl rfl ?_
    refine a_iload_n hX dX6_tellsCopy_23 rfl 2 rfl rfl ?_
    obtain ⟨x2, hg2, hf⟩ := cl1_some hf
    refine a_cNpi (rest := []) hX hE.1 (ctX11_isIn hE.1 hg2) (e_nw hX hE (w := .methodLinkNest "VaseCourt$Records" 33 yX11_isIn "VaseCourt") (List.mem_of_getElem? (i := 12) rfl)) LN_X11_isIn ⟨rfl, rfl, by decide, by decide⟩ ⟨Nat.zero_le _, Nat.zero_le _⟩ (Nat.le_of_ble_eq_true rfl) dX6_tellsCopy_24 rfl rfl ?_
    refine a_if_eq (tgt := 49) hX dX6_tellsCopy_27 rfl rfl hf (fun hf => ?_) (fun hf => ?_)
    · exact wX6_tellsCopy_b49 h hE hk2 hk14 hf
    · refine a_iload_n hX dX6_tellsCopy_30 rfl 1 rfl rfl ?_
      refine a_iload_n hX dX6_tellsCopy_31 rfl 3 rfl rfl ?_
      obtain ⟨x3, hg3, hf⟩ := cl1_some hf
      refine a_cNpi (rest := []) hX hE.1 (ctX11_isIn hE.1 hg3) (e_nw hX hE (w := .methodLinkNest "VaseCourt$Records" 33 yX11_isIn "VaseCourt") (List.mem_of_getElem? (i := 12) rfl)) LN_X11_isIn ⟨rfl, rfl, by decide, by decide⟩ ⟨Nat.zero_le _, Nat.zero_le _⟩ (Nat.le_of_ble_eq_true rfl) dX6_tellsCopy_32 rfl rfl ?_
      refine a_if_eq (tgt := 49) hX dX6_tellsCopy_35 rfl rfl hf (fun hf => ?_) (fun hf => ?_)
      · exact wX6_tellsCopy_b49 h hE hk2 hk14 hf
      · refine a_aload_n hX dX6_tellsCopy_38 rfl 0 rfl rfl ?_
        refine a_iload_n hX dX6_tellsCopy_39 rfl 2 rfl rfl ?_
        refine a_iload_n hX dX6_tellsCopy_40 rfl 3 rfl rfl ?_
        obtain ⟨x4, hg4, hf⟩ := cl1_some hf
        refine a_cVsi (q0 := 9) (rest := []) hX hE.1 (ctX6_atOdds (q := q) hE hg4) K_X6_23 ⟨rfl, rfl⟩ ⟨rfl, rfl, by decide, by decide⟩ ⟨Nat.zero_le _, Nat.zero_le _⟩ (Nat.le_of_ble_eq_true rfl) dX6_tellsCopy_41 rfl rfl ?_
        refine a_if_eq (tgt := 49) hX dX6_tellsCopy_44 rfl rfl hf (fun hf => ?_) (fun hf => ?_)
        · exact wX6_tellsCopy_b49 h hE hk2 hk14 hf
        · refine a_iconst (v := 1) hX dX6_tellsCopy_47 (by decide) rfl ?_
          exact a_zret hX hT (by decide) hF (r_i hf) dX6_tellsCopy_48
def fX6_tellsCopy_l14 (u : St) (k2 : Int32 → Option (Int32)) (v1 : Int32) (v2 : Int32) : Nat → Int32 → Option (Int32)
  | 0, _ => none
  | m + 1, v3 => fX6_tellsCopy_l14b u k2 (fX6_tellsCopy_l14 u k2 v1 v2 m) v1 v2 v3
theorem wX6_tellsCopy_l14 {X : Cx} {V : Vx} {q : Nat → Nat} {g : Nat → Nat} {ts : List Tx} {u : St} {res : Int32} (h : Run X cX6_tellsCopy 4 RX6 rmX6_tellsCopy V (some .boolean) (rEq (some (.int res)) (wC V q ts u))) (hE : EnvC V g) {v1 : Int32} {v2 : Int32} {k2 : Int32 → Option (Int32)} (hk2 : ∀ (v2 : Int32), k2 v2 = some res → At X 4 0 0 (wC V q ts u) 2 [(0, .ref (q 6)), (1, .int v1), (2, .int v2)] []) : ∀ (m : Nat) (v3 : Int32), fX6_tellsCopy_l14 u k2 v1 v2 m v3 = some res → At X 4 0 0 (wC V q ts u) 14 [(0, .ref (q 6)), (1, .int v1), (2, .int v2), (3, .int v3)] [] := by
  intro m
  induction m with
  | zero => intro v3 hf; cases hf
  | succ m ih => intro v3 hf; exact wX6_tellsCopy_l14b h hE hk2 ih hf
def fX6_tellsCopy_l2b (u : St) (k2 : Int32 → Option (Int32)) (v1 : Int32) (v2 : Int32) : Option (Int32) := if gZ u 120 ≤ v2 then some 0 else (nmI (v2 + 1) (fun x1 => fX6_tellsCopy_l14 u k2 v1 v2 NF x1))
theorem wX6_tellsCopy_l2b {X : Cx} {V : Vx} {q : Nat → Nat} {g : Nat → Nat} {ts : List Tx} {u : St} {res : Int32} (h : Run X cX6_tellsCopy 4 RX6 rmX6_tellsCopy V (some .boolean) (rEq (some (.int res)) (wC V q ts u))) (hE : EnvC V g) {v1 : Int32} {v2 : Int32} {k2 : Int32 → Option (Int32)} (hk2 : ∀ (v2 : Int32), k2 v2 = some res → At X 4 0 0 (wC V q ts u) 2 [(0, .ref (q 6)), (1, .int v1), (2, .int v2)] []) (hf : fX6_tellsCopy_l2b u k2 v1 v2 = some res) : At X 4 0 0 (wC V q ts u) 2 [(0, .ref (q 6)), (1, .int v1), (2, .int v2)] [] := by
  obtain ⟨hX, hT, hF⟩ := id h
  unfold fX6_tellsCopy_l2b at hf
  refine a_iload_n hX dX6_tellsCopy_2 rfl 2 rfl rfl ?_
  refine a_aload_n hX dX6_tellsCopy_3 rfl 0 rfl rfl ?_
  refine gX6_0 hX F_X6_20 dX6_tellsCopy_4 rfl ?_
  refine a_icmp_ge (tgt := 61) hX dX6_tellsCopy_7 rfl rfl hf (fun hf => ?_) (fun hf => ?_)
  · refine a_iconst (v := 0) hX dX6_tellsCopy_61 (by decide) rfl ?_
    exact a_zret hX hT (by decide) hF (r_i hf) dX6_tellsCopy_62
  · refine a_iload_n hX dX6_tellsCopy_10 rfl 2 rfl rfl ?_
    refine a_iconst (v := 1) hX dX6_tellsCopy_11 (by decide) rfl ?_
    refine a_iadd hX dX6_tellsCopy_12 rfl ?_
    refine a_nmI hf (fun x1 hf => ?_)
    refine a_istore_n (lv' := [(3, .int x1), (0, .ref (q 6)), (1, .int v1), (2, .int v2)]) hX dX6_tellsCopy_13 rfl (by decide) rfl rfl ?_
    refine a_lv (lv' := [(0, .ref (q 6)), (1, .int v1), (2, .int v2), (3, .int x1)]) [1, 2, 3, 0] rfl ?_
    exact wX6_tellsCopy_l14 h hE hk2 NF x1 hf
def fX6_tellsCopy_l2 (u : St)  (v1 : Int32) : Nat → Int32 → Option (Int32)
  | 0, _ => none
  | m + 1, v2 => fX6_tellsCopy_l2b u (fX6_tellsCopy_l2 u  v1 m) v1 v2
theorem wX6_tellsCopy_l2 {X : Cx} {V : Vx} {q : Nat → Nat} {g : Nat → Nat} {ts : List Tx} {u : St} {res : Int32} (h : Run X cX6_tellsCopy 4 RX6 rmX6_tellsCopy V (some .boolean) (rEq (some (.int res)) (wC V q ts u))) (hE : EnvC V g) {v1 : Int32} : ∀ (m : Nat) (v2 : Int32), fX6_tellsCopy_l2 u  v1 m v2 = some res → At X 4 0 0 (wC V q ts u) 2 [(0, .ref (q 6)), (1, .int v1), (2, .int v2)] [] := by
  intro m
  induction m with
  | zero => intro v2 hf; cases hf
  | succ m ih => intro v2 hf; exact wX6_tellsCopy_l2b h hE ih hf
def fX6_tellsCopy (u : St) (v1 : Int32) : Option (Int32) := fX6_tellsCopy_l2 u v1 NF 0
theorem wX6_tellsCopy {X : Cx} {V : Vx} {q : Nat → Nat} {g : Nat → Nat} {ts : List Tx} {u : St} {res : Int32} (h : Run X cX6_tellsCopy 4 RX6 rmX6_tellsCopy V (some .boolean) (rEq (some (.int res)) (wC V q ts u))) (hE : EnvC V g) {v1 : Int32} (hf : fX6_tellsCopy u v1 = some res) : At X 4 0 0 (wC V q ts u) 0 [(0, .ref (q 6)), (1, .int v1)] [] := by
  obtain ⟨hX, hT, hF⟩ := id h
  unfold fX6_tellsCopy at hf
  refine a_iconst (v := 0) hX dX6_tellsCopy_0 (by decide) rfl ?_
  refine a_istore_n (lv' := [(2, .int 0), (0, .ref (q 6)), (1, .int v1)]) hX dX6_tellsCopy_1 rfl (by decide) rfl rfl ?_
  refine a_lv (lv' := [(0, .ref (q 6)), (1, .int v1), (2, .int 0)]) [1, 2, 0] rfl ?_
  exact wX6_tellsCopy_l2 h hE NF 0 hf
theorem ctX6_tellsCopy {V : Vx} {q : Nat → Nat} {u : St} {g : Nat → Nat} {ts : List Tx} {res : Int32} (hE : EnvC V g) {v1 : Int32} (hf : fX6_tellsCopy u v1 = some res) : Ct V yX6_tellsCopy (.code yX6_tellsCopy cX6_tellsCopy 4 (some .boolean)) rmX6_tellsCopy 0 0 [.ref (q 6), .int v1] (wC V q ts u) (rEq (some (.int res)) (wC V q ts u)) :=
  Ct_of (by decide) (Nat.le_of_ble_eq_true rfl) rfl (fun X hX hT _ hF => wX6_tellsCopy ⟨hX, hT, hF⟩ hE hf)
def rmX6_countThings : Room := { frames := 4, cells := 0, slots := 0, locals := 92 }
def fX6_countThings_b57 (u : St) (k7 : Int32 → Int32 → Int32 → Option (Int32)) (v1 : Int32) (v2 : Int32) (v3 : Int32) (v4 : Int32) : Option (Int32) := k7 v2 v3 (v4 + 1)
theorem wX6_countThings_b57 {X : Cx} {V : Vx} {q : Nat → Nat} {g : Nat → Nat} {ts : List Tx} {u : St} {res : Int32} (h : Run X cX6_countThings 6 RX6 rmX6_countThings V (some .int) (rEq (some (.int res)) (wC V q ts u))) (hE : EnvC V g) {v1 : Int32} {v2 : Int32} {v3 : Int32} {v4 : Int32} {k7 : Int32 → Int32 → Int32 → Option (Int32)} (hk7 : ∀ (v2 : Int32) (v3 : Int32) (v4 : Int32), k7 v2 v3 v4 = some res → At X 6 0 0 (wC V q ts u) 7 [(0, .ref (q 6)), (1, .int v1), (2, .int v2), (3, .int v3), (4, .int v4)] []) (hf : fX6_countThings_b57 u k7 v1 v2 v3 v4 = some res) : At X 6 0 0 (wC V q ts u) 57 [(0, .ref (q 6)), (1, .int v1), (2, .int v2), (3, .int v3), (4, .int v4)] [] := by
  obtain ⟨hX, hT, hF⟩ := id h
  unfold fX6_countThings_b57 at hf
  refine a_iinc (v := v4 + 1) (lv' := [(4, .int (v4 + 1)), (0, .ref (q 6)), (1, .int v1), (2, .int v2), (3, .int v3)]) hX dX6_countThings_57 4 rfl rfl (by decide) rfl rfl ?_
  refine a_goto (pc' := 7) hX dX6_countThings_60 rfl ?_
  refine a_lv (lv' := [(0, .ref (q 6)), (1, .int v1), (2, .int v2), (3, .int v3), (4, .int (v4 + 1))]) [1, 2, 3, 4, 0] rfl ?_
  exact hk7 v2 v3 (v4 + 1) hf
def fX6_countThings_b54 (u : St) (k7 : Int32 → Int32 → Int32 → Option (Int32)) (v1 : Int32) (v2 : Int32) (v3 : Int32) (v4 : Int32) : Option (Int32) := fX6_countThings_b57 u k7 v1 (v2 + 1) v3 v4
theorem wX6_countThings_b54 {X : Cx} {V : Vx} {q : Nat → Nat} {g : Nat → Nat} {ts : List Tx} {u : St} {res : Int32} (h : Run X cX6_countThings 6 RX6 rmX6_countThings V (some .int) (rEq (some (.int res)) (wC V q ts u))) (hE : EnvC V g) {v1 : Int32} {v2 : Int32} {v3 : Int32} {v4 : Int32} {k7 : Int32 → Int32 → Int32 → Option (Int32)} (hk7 : ∀ (v2 : Int32) (v3 : Int32) (v4 : Int32), k7 v2 v3 v4 = some res → At X 6 0 0 (wC V q ts u) 7 [(0, .ref (q 6)), (1, .int v1), (2, .int v2), (3, .int v3), (4, .int v4)] []) (hf : fX6_countThings_b54 u k7 v1 v2 v3 v4 = some res) : At X 6 0 0 (wC V q ts u) 54 [(0, .ref (q 6)), (1, .int v1), (2, .int v2), (3, .int v3), (4, .int v4)] [] := by
  obtain ⟨hX, hT, hF⟩ := id h
  unfold fX6_countThings_b54 at hf
  refine a_iinc (v := v2 + 1) (lv' := [(2, .int (v2 + 1)), (0, .ref (q 6)), (1, .int v1), (3, .int v3), (4, .int v4)]) hX dX6_countThings_54 2 rfl rfl (by decide) rfl rfl ?_
  refine a_lv (lv' := [(0, .ref (q 6)), (1, .int v1), (2, .int (v2 + 1)), (3, .int v3), (4, .int v4)]) [1, 2, 0, 3, 4] rfl ?_
  exact wX6_countThings_b57 h hE hk7 hf
def fX6_countThings_l7b (u : St) (k7 : Int32 → Int32 → Int32 → Option (Int32)) (v1 : Int32) (v2 : Int32) (v3 : Int32) (v4 : Int32) : Option (Int32) := if gZ u 120 ≤ v4 then some v2 else (cl1 (fX11_isIn v3 v4) (fun x1 => if x1 = 0 then cl1 (fX6_thingOf u v4) (fun x2 => nmI (v3 ||| x2) (fun x3 => if v1 = 0 then fX6_countThings_b54 u k7 v1 v2 x3 v4 else (cl1 (fX6_tellsCopy u x2) (fun x4 => if x4 = 0 then fX6_countThings_b57 u k7 v1 v2 x3 v4 else (fX6_countThings_b54 u k7 v1 v2 x3 v4))))) else (fX6_countThings_b57 u k7 v1 v2 v3 v4)))
theorem wX6_countThings_l7b {X : Cx} {V : Vx} {q : Nat → Nat} {g : Nat → Nat} {ts : List Tx} {u : St} {res : Int32} (h : Run X cX6_countThings 6 RX6 rmX6_countThings V (some .int) (rEq (some (.int res)) (wC V q ts u))) (hE : EnvC V g) {v1 : Int32} {v2 : Int32} {v3 : Int32} {v4 : Int32} {k7 : Int32 → Int32 → Int32 → Option (Int32)} (hk7 : ∀ (v2 : Int32) (v3 : Int32) (v4 : Int32), k7 v2 v3 v4 = some res → At X 6 0 0 (wC V q ts u) 7 [(0, .ref (q 6)), (1, .int v1), (2, .int v2), (3, .int v3), (4, .int v4)] []) (hf : fX6_countThings_l7b u k7 v1 v2 v3 v4 = some res) : At X 6 0 0 (wC V q ts u) 7 [(0, .ref (q 6)), (1, .int v1), (2, .int v2), (3, .int v3), (4, .int v4)] [] := by
  obtain ⟨hX, hT, hF⟩ := id h
  unfold fX6_countThings_l7b at hf
  refine a_iload hX dX6_countThings_7 4 rfl rfl ?_
  refine a_aload_n hX dX6_countThings_9 rfl 0 rfl rfl ?_
  refine gX6_0 hX F_X6_20 dX6_countThings_10 rfl ?_
  refine a_icmp_ge (tgt := 63) hX dX6_countThings_13 rfl rfl hf (fun hf => ?_) (fun hf => ?_)
  · refine a_iload_n hX dX6_countThings_63 rfl 2 rfl rfl ?_
    exact a_iret hX hT hF (r_i hf) dX6_countThings_64
  · refine a_iload_n hX dX6_countThings_16 rfl 3 rfl rfl ?_
    refine a_iload hX dX6_countThings_17 4 rfl rfl ?_
    obtain ⟨x1, hg1, hf⟩ := cl1_some hf
    refine a_cNpi (rest := []) hX hE.1 (ctX11_isIn hE.1 hg1) (e_nw hX hE (w := .methodLinkNest "VaseCourt$Records" 33 yX11_isIn "VaseCourt") (List.mem_of_getElem? (i := 12) rfl)) LN_X11_isIn ⟨rfl, rfl, by decide, by decide⟩ ⟨Nat.zero_le _, Nat.zero_le _⟩ (Nat.le_of_ble_eq_true rfl) dX6_countThings_19 rfl rfl ?_
    refine a_if_eq (tgt := 28) hX dX6_countThings_22 rfl rfl hf (fun hf => ?_) (fun hf => ?_)
    · refine a_aload_n hX dX6_countThings_28 rfl 0 rfl rfl ?_
      refine a_iload hX dX6_countThings_29 4 rfl rfl ?_
      obtain ⟨x2, hg2, hf⟩ := cl1_some hf
      refine a_cVsi (q0 := 9) (rest := []) hX hE.1 (ctX6_thingOf (q := q) hE hg2) K_X6_44 ⟨rfl, rfl⟩ ⟨rfl, rfl, by decide, by decide⟩ ⟨Nat.zero_le _, Nat.zero_le _⟩ (Nat.le_of_ble_eq_true rfl) dX6_countThings_31 rfl rfl ?_
      refine a_istore (lv' := [(5, .int x2), (0, .ref (q 6)), (1, .int v1), (2, .int v2), (3, .int v3), (4, .int v4)]) hX dX6_countThings_34 (by decide) rfl rfl ?_
      refine a_iload_n hX dX6_countThings_36 rfl 4 rfl rfl ?_
      refine a_iload hX dX6_countThings_37 0 rfl rfl ?_
      refine a_ior hX dX6_countThings_39 rfl ?_
      refine a_nmI hf (fun x3 hf => ?_)
      refine a_istore_n (lv' := [(3, .int x3), (5, .int x2), (0, .ref (q 6)), (1, .int v1), (2, .int v2), (4, .int v4)]) hX dX6_countThings_40 rfl (by decide) rfl rfl ?_
      refine a_iload_n hX dX6_countThings_41 rfl 3 rfl rfl ?_
      refine a_if_eq (tgt := 54) hX dX6_countThings_42 rfl rfl hf (fun hf => ?_) (fun hf => ?_)
      · refine a_lv (lv' := [(0, .ref (q 6)), (1, .int v1), (2, .int v2), (3, .int x3), (4, .int v4)]) [2, 3, 4, 0, 5] rfl ?_
        exact wX6_countThings_b54 h hE hk7 hf
      · refine a_aload_n hX dX6_countThings_45 rfl 2 rfl rfl ?_
        refine a_iload hX dX6_countThings_46 1 rfl rfl ?_
        obtain ⟨x4, hg4, hf⟩ := cl1_some hf
        refine a_cVsi (q0 := 9) (rest := []) hX hE.1 (ctX6_tellsCopy (q := q) hE hg4) K_X6_47 ⟨rfl, rfl⟩ ⟨rfl, rfl, by decide, by decide⟩ ⟨Nat.zero_le _, Nat.zero_le _⟩ (Nat.le_of_ble_eq_true rfl) dX6_countThings_48 rfl rfl ?_
        refine a_if_eq (tgt := 57) hX dX6_countThings_51 rfl rfl hf (fun hf => ?_) (fun hf => ?_)
        · refine a_lv (lv' := [(0, .ref (q 6)), (1, .int v1), (2, .int v2), (3, .int x3), (4, .int v4)]) [2, 3, 4, 0, 5] rfl ?_
          exact wX6_countThings_b57 h hE hk7 hf
        · refine a_lv (lv' := [(0, .ref (q 6)), (1, .int v1), (2, .int v2), (3, .int x3), (4, .int v4)]) [2, 3, 4, 0, 5] rfl ?_
          exact wX6_countThings_b54 h hE hk7 hf
    · refine a_goto (pc' := 57) hX dX6_countThings_25 rfl ?_
      exact wX6_countThings_b57 h hE hk7 hf
def fX6_countThings_l7 (u : St)  (v1 : Int32) : Nat → Int32 → Int32 → Int32 → Option (Int32)
  | 0, _, _, _ => none
  | m + 1, v2, v3, v4 => fX6_countThings_l7b u (fX6_countThings_l7 u  v1 m) v1 v2 v3 v4
theorem wX6_countThings_l7 {X : Cx} {V : Vx} {q : Nat → Nat} {g : Nat → Nat} {ts : List Tx} {u : St} {res : Int32} (h : Run X cX6_countThings 6 RX6 rmX6_countThings V (some .int) (rEq (some (.int res)) (wC V q ts u))) (hE : EnvC V g) {v1 : Int32} : ∀ (m : Nat) (v2 : Int32) (v3 : Int32) (v4 : Int32), fX6_countThings_l7 u  v1 m v2 v3 v4 = some res → At X 6 0 0 (wC V q ts u) 7 [(0, .ref (q 6)), (1, .int v1), (2, .int v2), (3, .int v3), (4, .int v4)] [] := by
  intro m
  induction m with
  | zero => intro v2 v3 v4 hf; cases hf
  | succ m ih => intro v2 v3 v4 hf; exact wX6_countThings_l7b h hE ih hf
def fX6_countThings (u : St) (v1 : Int32) : Option (Int32) := fX6_countThings_l7 u v1 NF 0 0 0
theorem wX6_countThings {X : Cx} {V : Vx} {q : Nat → Nat} {g : Nat → Nat} {ts : List Tx} {u : St} {res : Int32} (h : Run X cX6_countThings 6 RX6 rmX6_countThings V (some .int) (rEq (some (.int res)) (wC V q ts u))) (hE : EnvC V g) {v1 : Int32} (hf : fX6_countThings u v1 = some res) : At X 6 0 0 (wC V q ts u) 0 [(0, .ref (q 6)), (1, .int v1)] [] := by
  obtain ⟨hX, hT, hF⟩ := id h
  unfold fX6_countThings at hf
  refine a_iconst (v := 0) hX dX6_countThings_0 (by decide) rfl ?_
  refine a_istore_n (lv' := [(2, .int 0), (0, .ref (q 6)), (1, .int v1)]) hX dX6_countThings_1 rfl (by decide) rfl rfl ?_
  refine a_iconst (v := 0) hX dX6_countThings_2 (by decide) rfl ?_
  refine a_istore_n (lv' := [(3, .int 0), (2, .int 0), (0, .ref (q 6)), (1, .int v1)]) hX dX6_countThings_3 rfl (by decide) rfl rfl ?_
  refine a_iconst (v := 0) hX dX6_countThings_4 (by decide) rfl ?_
  refine a_istore (lv' := [(4, .int 0), (3, .int 0), (2, .int 0), (0, .ref (q 6)), (1, .int v1)]) hX dX6_countThings_5 (by decide) rfl rfl ?_
  refine a_lv (lv' := [(0, .ref (q 6)), (1, .int v1), (2, .int 0), (3, .int 0), (4, .int 0)]) [3, 4, 2, 1, 0] rfl ?_
  exact wX6_countThings_l7 h hE NF 0 0 0 hf
theorem ctX6_countThings {V : Vx} {q : Nat → Nat} {u : St} {g : Nat → Nat} {ts : List Tx} {res : Int32} (hE : EnvC V g) {v1 : Int32} (hf : fX6_countThings u v1 = some res) : Ct V yX6_countThings (.code yX6_countThings cX6_countThings 6 (some .int)) rmX6_countThings 0 0 [.ref (q 6), .int v1] (wC V q ts u) (rEq (some (.int res)) (wC V q ts u)) :=
  Ct_of (by decide) (Nat.le_of_ble_eq_true rfl) rfl (fun X hX hT _ hF => wX6_countThings ⟨hX, hT, hF⟩ hE hf)
def rmX7_isSheet : Room := { frames := 0, cells := 0, slots := 0, locals := 0 }
def fX7_isSheet (v0 : Int32) : Option (Int32) := if v0 < 0 then some 0 else (if 4 ≤ v0 then some 0 else (some 1))
theorem wX7_isSheet {X : Cx} {V : Vx} {res : Int32} (h : Run X cX7_isSheet 1 RX7 rmX7_isSheet V (some .boolean) (rEq (some (.int res)) [])) (hE : ZOK (vZ V)) {v0 : Int32} (hf : fX7_isSheet v0 = some res) : At X 1 0 0 [] 0 [(0, .int v0)] [] := by
  obtain ⟨hX, hT, hF⟩ := id h
  unfold fX7_isSheet at hf
  refine a_iload_n hX dX7_isSheet_0 rfl 0 rfl rfl ?_
  refine a_if_lt (tgt := 13) hX dX7_isSheet_1 rfl rfl hf (fun hf => ?_) (fun hf => ?_)
  · refine a_iconst (v := 0) hX dX7_isSheet_13 (by decide) rfl ?_
    exact a_zret hX hT (by decide) hF (r_i hf) dX7_isSheet_14
  · refine a_iload_n hX dX7_isSheet_4 rfl 0 rfl rfl ?_
    refine a_iconst (v := 4) hX dX7_isSheet_5 (by decide) rfl ?_
    refine a_icmp_ge (tgt := 13) hX dX7_isSheet_6 rfl rfl hf (fun hf => ?_) (fun hf => ?_)
    · refine a_iconst (v := 0) hX dX7_isSheet_13 (by decide) rfl ?_
      exact a_zret hX hT (by decide) hF (r_i hf) dX7_isSheet_14
    · refine a_iconst (v := 1) hX dX7_isSheet_9 (by decide) rfl ?_
      refine a_goto (pc' := 14) hX dX7_isSheet_10 rfl ?_
      exact a_zret hX hT (by decide) hF (r_i hf) dX7_isSheet_14
theorem ctX7_isSheet {V : Vx} {res : Int32} (hE : ZOK (vZ V)) {v0 : Int32} (hf : fX7_isSheet v0 = some res) : Ct V yX7_isSheet (.code yX7_isSheet cX7_isSheet 1 (some .boolean)) rmX7_isSheet 0 0 [.int v0] [] (rEq (some (.int res)) []) :=
  Ct_of (by decide) (Nat.le_of_ble_eq_true rfl) rfl (fun X hX hT _ hF => wX7_isSheet ⟨hX, hT, hF⟩ hE hf)
def rmX7_isSort : Room := { frames := 0, cells := 0, slots := 0, locals := 0 }
def fX7_isSort (v0 : Int32) : Option (Int32) := if v0 < 0 then some 0 else (if 3 ≤ v0 then some 0 else (some 1))
theorem wX7_isSort {X : Cx} {V : Vx} {res : Int32} (h : Run X cX7_isSort 1 RX7 rmX7_isSort V (some .boolean) (rEq (some (.int res)) [])) (hE : ZOK (vZ V)) {v0 : Int32} (hf : fX7_isSort v0 = some res) : At X 1 0 0 [] 0 [(0, .int v0)] [] := by
  obtain ⟨hX, hT, hF⟩ := id h
  unfold fX7_isSort at hf
  refine a_iload_n hX dX7_isSort_0 rfl 0 rfl rfl ?_
  refine a_if_lt (tgt := 13) hX dX7_isSort_1 rfl rfl hf (fun hf => ?_) (fun hf => ?_)
  · refine a_iconst (v := 0) hX dX7_isSort_13 (by decide) rfl ?_
    exact a_zret hX hT (by decide) hF (r_i hf) dX7_isSort_14
  · refine a_iload_n hX dX7_isSort_4 rfl 0 rfl rfl ?_
    refine a_iconst (v := 3) hX dX7_isSort_5 (by decide) rfl ?_
    refine a_icmp_ge (tgt := 13) hX dX7_isSort_6 rfl rfl hf (fun hf => ?_) (fun hf => ?_)
    · refine a_iconst (v := 0) hX dX7_isSort_13 (by decide) rfl ?_
      exact a_zret hX hT (by decide) hF (r_i hf) dX7_isSort_14
    · refine a_iconst (v := 1) hX dX7_isSort_9 (by decide) rfl ?_
      refine a_goto (pc' := 14) hX dX7_isSort_10 rfl ?_
      exact a_zret hX hT (by decide) hF (r_i hf) dX7_isSort_14
theorem ctX7_isSort {V : Vx} {res : Int32} (hE : ZOK (vZ V)) {v0 : Int32} (hf : fX7_isSort v0 = some res) : Ct V yX7_isSort (.code yX7_isSort cX7_isSort 1 (some .boolean)) rmX7_isSort 0 0 [.int v0] [] (rEq (some (.int res)) []) :=
  Ct_of (by decide) (Nat.le_of_ble_eq_true rfl) rfl (fun X hX hT _ hF => wX7_isSort ⟨hX, hT, hF⟩ hE hf)
def rmX7_isMissing : Room := { frames := 0, cells := 0, slots := 0, locals := 0 }
def fX7_isMissing (u : St) (v1 : Int32) : Option (Int32) := ldI (gA u 140) 4 v1 (fun x1 => if x1 = (-1) then some 1 else (some 0))
theorem wX7_isMissing {X : Cx} {V : Vx} {q : Nat → Nat} {g : Nat → Nat} {ts : List Tx} {u : St} {res : Int32} (h : Run X cX7_isMissing 2 RX7 rmX7_isMissing V (some .boolean) (rEq (some (.int res)) (wC V q ts u))) (hE : EnvC V g) {v1 : Int32} (hf : fX7_isMissing u v1 = some res) : At X 2 0 0 (wC V q ts u) 0 [(0, .ref (q 7)), (1, .int v1)] [] := by
  obtain ⟨hX, hT, hF⟩ := id h
  unfold fX7_isMissing at hf
  refine a_aload_n hX dX7_isMissing_0 rfl 0 rfl rfl ?_
  refine gX7_0 hX F_X7_9 dX7_isMissing_1 rfl ?_
  refine a_iload_n hX dX7_isMissing_4 rfl 1 rfl rfl ?_
  refine lX7_0 hX dX7_isMissing_5 rfl hf (fun x1 hf => ?_)
  refine a_iconst (v := (-1)) hX dX7_isMissing_6 (by decide) rfl ?_
  refine a_icmp_ne (tgt := 14) hX dX7_isMissing_7 rfl rfl hf (fun hf => ?_) (fun hf => ?_)
  · refine a_iconst (v := 0) hX dX7_isMissing_14 (by decide) rfl ?_
    exact a_zret hX hT (by decide) hF (r_i hf) dX7_isMissing_15
  · refine a_iconst (v := 1) hX dX7_isMissing_10 (by decide) rfl ?_
    refine a_goto (pc' := 15) hX dX7_isMissing_11 rfl ?_
    exact a_zret hX hT (by decide) hF (r_i hf) dX7_isMissing_15
theorem ctX7_isMissing {V : Vx} {q : Nat → Nat} {u : St} {g : Nat → Nat} {ts : List Tx} {res : Int32} (hE : EnvC V g) {v1 : Int32} (hf : fX7_isMissing u v1 = some res) : Ct V yX7_isMissing (.code yX7_isMissing cX7_isMissing 2 (some .boolean)) rmX7_isMissing 0 0 [.ref (q 7), .int v1] (wC V q ts u) (rEq (some (.int res)) (wC V q ts u)) :=
  Ct_of (by decide) (Nat.le_of_ble_eq_true rfl) rfl (fun X hX hT _ hF => wX7_isMissing ⟨hX, hT, hF⟩ hE hf)
def rmX7_lose : Room := { frames := 0, cells := 0, slots := 0, locals := 0 }
def fX7_lose (u : St) (v1 : Int32) : Option (Int32 × St) := stI u 140 4 v1 (-1) (fun u1 => some (1, u1))
theorem wX7_lose {X : Cx} {V : Vx} {q : Nat → Nat} {g : Nat → Nat} {ts : List Tx} {res : Int32 × St} (h : Run X cX7_lose 2 RX7 rmX7_lose V (some .int) (rEq (some (.int res.1)) (wC V q ts res.2))) (hE : EnvC V g) {u : St} {v1 : Int32} (hf : fX7_lose u v1 = some res) : At X 2 0 0 (wC V q ts u) 0 [(0, .ref (q 7)), (1, .int v1)] [] := by
  obtain ⟨hX, hT, hF⟩ := id h
  unfold fX7_lose at hf
  refine a_aload_n hX dX7_lose_0 rfl 0 rfl rfl ?_
  refine gX7_0 hX F_X7_9 dX7_lose_1 rfl ?_
  refine a_iload_n hX dX7_lose_4 rfl 1 rfl rfl ?_
  refine a_iconst (v := (-1)) hX dX7_lose_5 (by decide) rfl ?_
  refine sX7_0 hX dX7_lose_6 rfl hf (fun u1 hf => ?_)
  refine a_iconst (v := 1) hX dX7_lose_7 (by decide) rfl ?_
  exact a_iret hX hT hF (r_iS (wf := (wC V q ts)) hf) dX7_lose_8
theorem ctX7_lose {V : Vx} {q : Nat → Nat} {u : St} {g : Nat → Nat} {ts : List Tx} {res : Int32 × St} (hE : EnvC V g) {v1 : Int32} (hf : fX7_lose u v1 = some res) : Ct V yX7_lose (.code yX7_lose cX7_lose 2 (some .int)) rmX7_lose 0 0 [.ref (q 7), .int v1] (wC V q ts u) (rEq (some (.int res.1)) (wC V q ts res.2)) :=
  Ct_of (by decide) (Nat.le_of_ble_eq_true rfl) rfl (fun X hX hT _ hF => wX7_lose ⟨hX, hT, hF⟩ hE hf)
def rmX7_lay : Room := { frames := 0, cells := 0, slots := 0, locals := 0 }
def fX7_lay_l17b  (k17 : St → Int32 → Option (Int32 × St)) (u : St) (v1 : Int32) (v3 : Int32) (v4 : Int32) : Option (Int32 × St) := if v3 ≤ v4 then some (1, u) else (stI u 142 160 ((v1 * 40) + v4) 0 (fun u3 => k17 u3 (v4 + 1)))
theorem wX7_lay_l17b {X : Cx} {V : Vx} {q : Nat → Nat} {g : Nat → Nat} {ts : List Tx} {res : Int32 × St} (h : Run X cX7_lay 5 RX7 rmX7_lay V (some .int) (rEq (some (.int res.1)) (wC V q ts res.2))) (hE : EnvC V g) {u : St} {v1 : Int32} {v3 : Int32} {v4 : Int32} {k17 : St → Int32 → Option (Int32 × St)} (hk17 : ∀ (u : St) (v4 : Int32), k17 u v4 = some res → At X 5 0 0 (wC V q ts u) 17 [(0, .ref (q 7)), (1, .int v1), (3, .int v3), (4, .int v4)] []) (hf : fX7_lay_l17b  k17 u v1 v3 v4 = some res) : At X 5 0 0 (wC V q ts u) 17 [(0, .ref (q 7)), (1, .int v1), (3, .int v3), (4, .int v4)] [] := by
  obtain ⟨hX, hT, hF⟩ := id h
  unfold fX7_lay_l17b at hf
  refine a_iload hX dX7_lay_17 3 rfl rfl ?_
  refine a_iload_n hX dX7_lay_19 rfl 2 rfl rfl ?_
  refine a_icmp_ge (tgt := 42) hX dX7_lay_20 rfl rfl hf (fun hf => ?_) (fun hf => ?_)
  · refine a_iconst (v := 1) hX dX7_lay_42 (by decide) rfl ?_
    exact a_iret hX hT hF (r_iS (wf := (wC V q ts)) hf) dX7_lay_43
  · refine a_aload_n hX dX7_lay_23 rfl 0 rfl rfl ?_
    refine gX7_2 hX F_X7_16 dX7_lay_24 rfl ?_
    refine a_iload_n hX dX7_lay_27 rfl 1 rfl rfl ?_
    refine a_bipush (v := 40) hX dX7_lay_28 (by decide) rfl ?_
    refine a_imul hX dX7_lay_30 rfl ?_
    refine a_iload hX dX7_lay_31 3 rfl rfl ?_
    refine a_iadd hX dX7_lay_33 rfl ?_
    refine a_iconst (v := 0) hX dX7_lay_34 (by decide) rfl ?_
    refine sX7_2 hX dX7_lay_35 rfl hf (fun u3 hf => ?_)
    refine a_iinc (v := v4 + 1) (lv' := [(4, .int (v4 + 1)), (0, .ref (q 7)), (1, .int v1), (3, .int v3)]) hX dX7_lay_36 3 rfl rfl (by decide) rfl rfl ?_
    refine a_goto (pc' := 17) hX dX7_lay_39 rfl ?_
    refine a_lv (lv' := [(0, .ref (q 7)), (1, .int v1), (3, .int v3), (4, .int (v4 + 1))]) [1, 2, 3, 0] rfl ?_
    exact hk17 u3 (v4 + 1) hf
def fX7_lay_l17   (v1 : Int32) (v3 : Int32) : Nat → St → Int32 → Option (Int32 × St)
  | 0, _, _ => none
  | m + 1, u, v4 => fX7_lay_l17b  (fX7_lay_l17   v1 v3 m) u v1 v3 v4
theorem wX7_lay_l17 {X : Cx} {V : Vx} {q : Nat → Nat} {g : Nat → Nat} {ts : List Tx} {res : Int32 × St} (h : Run X cX7_lay 5 RX7 rmX7_lay V (some .int) (rEq (some (.int res.1)) (wC V q ts res.2))) (hE : EnvC V g) {v1 : Int32} {v3 : Int32} : ∀ (m : Nat) (u : St) (v4 : Int32), fX7_lay_l17   v1 v3 m u v4 = some res → At X 5 0 0 (wC V q ts u) 17 [(0, .ref (q 7)), (1, .int v1), (3, .int v3), (4, .int v4)] [] := by
  intro m
  induction m with
  | zero => intro u v4 hf; cases hf
  | succ m ih => intro u v4 hf; exact wX7_lay_l17b h hE ih hf
def fX7_lay (u : St) (v1 : Int32) (v2 : Int32) (v3 : Int32) : Option (Int32 × St) := stI u 140 4 v1 v2 (fun u1 => stI u1 141 4 v1 v3 (fun u2 => fX7_lay_l17 v1 v3 NF u2 0))
theorem wX7_lay {X : Cx} {V : Vx} {q : Nat → Nat} {g : Nat → Nat} {ts : List Tx} {res : Int32 × St} (h : Run X cX7_lay 5 RX7 rmX7_lay V (some .int) (rEq (some (.int res.1)) (wC V q ts res.2))) (hE : EnvC V g) {u : St} {v1 : Int32} {v2 : Int32} {v3 : Int32} (hf : fX7_lay u v1 v2 v3 = some res) : At X 5 0 0 (wC V q ts u) 0 [(0, .ref (q 7)), (1, .int v1), (2, .int v2), (3, .int v3)] [] := by
  obtain ⟨hX, hT, hF⟩ := id h
  unfold fX7_lay at hf
  refine a_aload_n hX dX7_lay_0 rfl 0 rfl rfl ?_
  refine gX7_0 hX F_X7_9 dX7_lay_1 rfl ?_
  refine a_iload_n hX dX7_lay_4 rfl 1 rfl rfl ?_
  refine a_iload_n hX dX7_lay_5 rfl 2 rfl rfl ?_
  refine sX7_0 hX dX7_lay_6 rfl hf (fun u1 hf => ?_)
  refine a_aload_n hX dX7_lay_7 rfl 0 rfl rfl ?_
  refine gX7_1 hX F_X7_13 dX7_lay_8 rfl ?_
  refine a_iload_n hX dX7_lay_11 rfl 1 rfl rfl ?_
  refine a_iload_n hX dX7_lay_12 rfl 3 rfl rfl ?_
  refine sX7_1 hX dX7_lay_13 rfl hf (fun u2 hf => ?_)
  refine a_iconst (v := 0) hX dX7_lay_14 (by decide) rfl ?_
  refine a_istore (lv' := [(4, .int 0), (0, .ref (q 7)), (1, .int v1), (2, .int v2), (3, .int v3)]) hX dX7_lay_15 (by decide) rfl rfl ?_
  refine a_lv (lv' := [(0, .ref (q 7)), (1, .int v1), (3, .int v3), (4, .int 0)]) [1, 2, 4, 0] rfl ?_
  exact wX7_lay_l17 h hE NF u2 0 hf
theorem ctX7_lay {V : Vx} {q : Nat → Nat} {u : St} {g : Nat → Nat} {ts : List Tx} {res : Int32 × St} (hE : EnvC V g) {v1 : Int32} {v2 : Int32} {v3 : Int32} (hf : fX7_lay u v1 v2 v3 = some res) : Ct V yX7_lay (.code yX7_lay cX7_lay 5 (some .int)) rmX7_lay 0 0 [.ref (q 7), .int v1, .int v2, .int v3] (wC V q ts u) (rEq (some (.int res.1)) (wC V q ts res.2)) :=
  Ct_of (by decide) (Nat.le_of_ble_eq_true rfl) rfl (fun X hX hT _ hF => wX7_lay ⟨hX, hT, hF⟩ hE hf)
def rmX7_holds : Room := { frames := 0, cells := 0, slots := 0, locals := 0 }
def fX7_holds (u : St) (v1 : Int32) (v2 : Int32) (v3 : Int32) : Option (Int32) := if v2 < 0 then some 0 else (if v3 < 0 then some 0 else (ldI (gA u 141) 4 v1 (fun x1 => if x1 - v3 < v2 then some 0 else (some 1))))
theorem wX7_holds {X : Cx} {V : Vx} {q : Nat → Nat} {g : Nat → Nat} {ts : List Tx} {u : St} {res : Int32} (h : Run X cX7_holds 4 RX7 rmX7_holds V (some .boolean) (rEq (some (.int res)) (wC V q ts u))) (hE : EnvC V g) {v1 : Int32} {v2 : Int32} {v3 : Int32} (hf : fX7_holds u v1 v2 v3 = some res) : At X 4 0 0 (wC V q ts u) 0 [(0, .ref (q 7)), (1, .int v1), (2, .int v2), (3, .int v3)] [] := by
  obtain ⟨hX, hT, hF⟩ := id h
  unfold fX7_holds at hf
  refine a_iload_n hX dX7_holds_0 rfl 2 rfl rfl ?_
  refine a_if_lt (tgt := 24) hX dX7_holds_1 rfl rfl hf (fun hf => ?_) (fun hf => ?_)
  · refine a_iconst (v := 0) hX dX7_holds_24 (by decide) rfl ?_
    exact a_zret hX hT (by decide) hF (r_i hf) dX7_holds_25
  · refine a_iload_n hX dX7_holds_4 rfl 3 rfl rfl ?_
    refine a_if_lt (tgt := 24) hX dX7_holds_5 rfl rfl hf (fun hf => ?_) (fun hf => ?_)
    · refine a_iconst (v := 0) hX dX7_holds_24 (by decide) rfl ?_
      exact a_zret hX hT (by decide) hF (r_i hf) dX7_holds_25
    · refine a_iload_n hX dX7_holds_8 rfl 2 rfl rfl ?_
      refine a_aload_n hX dX7_holds_9 rfl 0 rfl rfl ?_
      refine gX7_1 hX F_X7_13 dX7_holds_10 rfl ?_
      refine a_iload_n hX dX7_holds_13 rfl 1 rfl rfl ?_
      refine lX7_1 hX dX7_holds_14 rfl hf (fun x1 hf => ?_)
      refine a_iload_n hX dX7_holds_15 rfl 3 rfl rfl ?_
      refine a_isub hX dX7_holds_16 rfl ?_
      refine a_icmp_gt (tgt := 24) hX dX7_holds_17 rfl rfl hf (fun hf => ?_) (fun hf => ?_)
      · refine a_iconst (v := 0) hX dX7_holds_24 (by decide) rfl ?_
        exact a_zret hX hT (by decide) hF (r_i hf) dX7_holds_25
      · refine a_iconst (v := 1) hX dX7_holds_20 (by decide) rfl ?_
        refine a_goto (pc' := 25) hX dX7_holds_21 rfl ?_
        exact a_zret hX hT (by decide) hF (r_i hf) dX7_holds_25
theorem ctX7_holds {V : Vx} {q : Nat → Nat} {u : St} {g : Nat → Nat} {ts : List Tx} {res : Int32} (hE : EnvC V g) {v1 : Int32} {v2 : Int32} {v3 : Int32} (hf : fX7_holds u v1 v2 v3 = some res) : Ct V yX7_holds (.code yX7_holds cX7_holds 4 (some .boolean)) rmX7_holds 0 0 [.ref (q 7), .int v1, .int v2, .int v3] (wC V q ts u) (rEq (some (.int res)) (wC V q ts u)) :=
  Ct_of (by decide) (Nat.le_of_ble_eq_true rfl) rfl (fun X hX hT _ hF => wX7_holds ⟨hX, hT, hF⟩ hE hf)
def rmX7_cut : Room := { frames := 0, cells := 0, slots := 0, locals := 0 }
def fX7_cut (v0 : Int32) (v1 : Int32) : Option (Int32) := if v0 = 0 then some ((Int32.toInt8 v1).toInt32) else (if v0 = 1 then some ((Int32.toInt16 v1).toInt32) else (some v1))
theorem wX7_cut {X : Cx} {V : Vx} {res : Int32} (h : Run X cX7_cut 2 RX7 rmX7_cut V (some .int) (rEq (some (.int res)) [])) (hE : ZOK (vZ V)) {v0 : Int32} {v1 : Int32} (hf : fX7_cut v0 v1 = some res) : At X 2 0 0 [] 0 [(0, .int v0), (1, .int v1)] [] := by
  obtain ⟨hX, hT, hF⟩ := id h
  unfold fX7_cut at hf
  refine a_iload_n hX dX7_cut_0 rfl 0 rfl rfl ?_
  refine a_if_ne (tgt := 7) hX dX7_cut_1 rfl rfl hf (fun hf => ?_) (fun hf => ?_)
  · refine a_iload_n hX dX7_cut_7 rfl 0 rfl rfl ?_
    refine a_iconst (v := 1) hX dX7_cut_8 (by decide) rfl ?_
    refine a_icmp_ne (tgt := 17) hX dX7_cut_9 rfl rfl hf (fun hf => ?_) (fun hf => ?_)
    · refine a_iload_n hX dX7_cut_17 rfl 1 rfl rfl ?_
      exact a_iret hX hT hF (r_i hf) dX7_cut_18
    · refine a_iload_n hX dX7_cut_12 rfl 1 rfl rfl ?_
      refine a_i2s hX dX7_cut_13 rfl ?_
      refine a_goto (pc' := 18) hX dX7_cut_14 rfl ?_
      exact a_iret hX hT hF (r_i hf) dX7_cut_18
  · refine a_iload_n hX dX7_cut_4 rfl 1 rfl rfl ?_
    refine a_i2b hX dX7_cut_5 rfl ?_
    exact a_iret hX hT hF (r_i hf) dX7_cut_6
theorem ctX7_cut {V : Vx} {res : Int32} (hE : ZOK (vZ V)) {v0 : Int32} {v1 : Int32} (hf : fX7_cut v0 v1 = some res) : Ct V yX7_cut (.code yX7_cut cX7_cut 2 (some .int)) rmX7_cut 0 0 [.int v0, .int v1] [] (rEq (some (.int res)) []) :=
  Ct_of (by decide) (Nat.le_of_ble_eq_true rfl) rfl (fun X hX hT _ hF => wX7_cut ⟨hX, hT, hF⟩ hE hf)
def rmX7_write : Room := { frames := 1, cells := 0, slots := 0, locals := 21 }
def fX7_write (u : St) (v1 : Int32) (v2 : Int32) (v3 : Int32) : Option (Int32 × St) := ldI (gA u 140) 4 v1 (fun x1 => cl1 (fX7_cut x1 v3) (fun x2 => stI u 142 160 ((v1 * 40) + v2) x2 (fun u3 => some (1, u3))))
theorem wX7_write {X : Cx} {V : Vx} {q : Nat → Nat} {g : Nat → Nat} {ts : List Tx} {res : Int32 × St} (h : Run X cX7_write 4 RX7 rmX7_write V (some .int) (rEq (some (.int res.1)) (wC V q ts res.2))) (hE : EnvC V g) {u : St} {v1 : Int32} {v2 : Int32} {v3 : Int32} (hf : fX7_write u v1 v2 v3 = some res) : At X 4 0 0 (wC V q ts u) 0 [(0, .ref (q 7)), (1, .int v1), (2, .int v2), (3, .int v3)] [] := by
  obtain ⟨hX, hT, hF⟩ := id h
  unfold fX7_write at hf
  refine a_aload_n hX dX7_write_0 rfl 0 rfl rfl ?_
  refine gX7_2 hX F_X7_16 dX7_write_1 rfl ?_
  refine a_iload_n hX dX7_write_4 rfl 1 rfl rfl ?_
  refine a_bipush (v := 40) hX dX7_write_5 (by decide) rfl ?_
  refine a_imul hX dX7_write_7 rfl ?_
  refine a_iload_n hX dX7_write_8 rfl 2 rfl rfl ?_
  refine a_iadd hX dX7_write_9 rfl ?_
  refine a_aload_n hX dX7_write_10 rfl 0 rfl rfl ?_
  refine gX7_0 hX F_X7_9 dX7_write_11 rfl ?_
  refine a_iload_n hX dX7_write_14 rfl 1 rfl rfl ?_
  refine lX7_0 hX dX7_write_15 rfl hf (fun x1 hf => ?_)
  refine a_iload_n hX dX7_write_16 rfl 3 rfl rfl ?_
  obtain ⟨x2, hg2, hf⟩ := cl1_some hf
  refine a_cSpi (rest := [.int ((v1 * 40) + v2), .ref (q 242)]) hX hE.1 (ctX7_cut hE.1 hg2) K_X7_19 ⟨rfl, rfl, by decide, by decide⟩ ⟨Nat.zero_le _, Nat.zero_le _⟩ (Nat.le_of_ble_eq_true rfl) dX7_write_17 rfl rfl ?_
  refine sX7_2 hX dX7_write_20 rfl hf (fun u3 hf => ?_)
  refine a_iconst (v := 1) hX dX7_write_21 (by decide) rfl ?_
  exact a_iret hX hT hF (r_iS (wf := (wC V q ts)) hf) dX7_write_22
theorem ctX7_write {V : Vx} {q : Nat → Nat} {u : St} {g : Nat → Nat} {ts : List Tx} {res : Int32 × St} (hE : EnvC V g) {v1 : Int32} {v2 : Int32} {v3 : Int32} (hf : fX7_write u v1 v2 v3 = some res) : Ct V yX7_write (.code yX7_write cX7_write 4 (some .int)) rmX7_write 0 0 [.ref (q 7), .int v1, .int v2, .int v3] (wC V q ts u) (rEq (some (.int res.1)) (wC V q ts res.2)) :=
  Ct_of (by decide) (Nat.le_of_ble_eq_true rfl) rfl (fun X hX hT _ hF => wX7_write ⟨hX, hT, hF⟩ hE hf)
def rmX7_read : Room := { frames := 0, cells := 0, slots := 0, locals := 0 }
def fX7_read (u : St) (v1 : Int32) (v2 : Int32) : Option (Int32) := ldI (gA u 142) 160 ((v1 * 40) + v2) (fun x1 => some x1)
theorem wX7_read {X : Cx} {V : Vx} {q : Nat → Nat} {g : Nat → Nat} {ts : List Tx} {u : St} {res : Int32} (h : Run X cX7_read 3 RX7 rmX7_read V (some .int) (rEq (some (.int res)) (wC V q ts u))) (hE : EnvC V g) {v1 : Int32} {v2 : Int32} (hf : fX7_read u v1 v2 = some res) : At X 3 0 0 (wC V q ts u) 0 [(0, .ref (q 7)), (1, .int v1), (2, .int v2)] [] := by
  obtain ⟨hX, hT, hF⟩ := id h
  unfold fX7_read at hf
  refine a_aload_n hX dX7_read_0 rfl 0 rfl rfl ?_
  refine gX7_2 hX F_X7_16 dX7_read_1 rfl ?_
  refine a_iload_n hX dX7_read_4 rfl 1 rfl rfl ?_
  refine a_bipush (v := 40) hX dX7_read_5 (by decide) rfl ?_
  refine a_imul hX dX7_read_7 rfl ?_
  refine a_iload_n hX dX7_read_8 rfl 2 rfl rfl ?_
  refine a_iadd hX dX7_read_9 rfl ?_
  refine lX7_2 hX dX7_read_10 rfl hf (fun x1 hf => ?_)
  exact a_iret hX hT hF (r_i hf) dX7_read_11
theorem ctX7_read {V : Vx} {q : Nat → Nat} {u : St} {g : Nat → Nat} {ts : List Tx} {res : Int32} (hE : EnvC V g) {v1 : Int32} {v2 : Int32} (hf : fX7_read u v1 v2 = some res) : Ct V yX7_read (.code yX7_read cX7_read 3 (some .int)) rmX7_read 0 0 [.ref (q 7), .int v1, .int v2] (wC V q ts u) (rEq (some (.int res)) (wC V q ts u)) :=
  Ct_of (by decide) (Nat.le_of_ble_eq_true rfl) rfl (fun X hX hT _ hF => wX7_read ⟨hX, hT, hF⟩ hE hf)
def rmX7_move : Room := { frames := 1, cells := 0, slots := 0, locals := 60 }
def fX7_move (u : St) (v1 : Int32) (v2 : Int32) (v3 : Int32) (v4 : Int32) (v5 : Int32) : Option (Int32 × St) := cpA u 142 160 ((v1 * 40) + v2) ((v3 * 40) + v4) v5 (fun u1 => some (v5, u1))
theorem wX7_move {X : Cx} {V : Vx} {q : Nat → Nat} {g : Nat → Nat} {ts : List Tx} {res : Int32 × St} (h : Run X cX7_move 6 RX7 rmX7_move V (some .int) (rEq (some (.int res.1)) (wC V q ts res.2))) (hE : EnvC V g) {u : St} {v1 : Int32} {v2 : Int32} {v3 : Int32} {v4 : Int32} {v5 : Int32} (hf : fX7_move u v1 v2 v3 v4 v5 = some res) : At X 6 0 0 (wC V q ts u) 0 [(0, .ref (q 7)), (1, .int v1), (2, .int v2), (3, .int v3), (4, .int v4), (5, .int v5)] [] := by
  obtain ⟨hX, hT, hF⟩ := id h
  unfold fX7_move at hf
  refine a_aload_n hX dX7_move_0 rfl 0 rfl rfl ?_
  refine gX7_2 hX F_X7_16 dX7_move_1 rfl ?_
  refine a_iload_n hX dX7_move_4 rfl 1 rfl rfl ?_
  refine a_bipush (v := 40) hX dX7_move_5 (by decide) rfl ?_
  refine a_imul hX dX7_move_7 rfl ?_
  refine a_iload_n hX dX7_move_8 rfl 2 rfl rfl ?_
  refine a_iadd hX dX7_move_9 rfl ?_
  refine a_aload_n hX dX7_move_10 rfl 0 rfl rfl ?_
  refine gX7_2 hX F_X7_16 dX7_move_11 rfl ?_
  refine a_iload_n hX dX7_move_14 rfl 3 rfl rfl ?_
  refine a_bipush (v := 40) hX dX7_move_15 (by decide) rfl ?_
  refine a_imul hX dX7_move_17 rfl ?_
  refine a_iload hX dX7_move_18 4 rfl rfl ?_
  refine a_iadd hX dX7_move_20 rfl ?_
  refine a_iload hX dX7_move_21 5 rfl rfl ?_
  refine a_cpA (wf := (wC V q ts)) hX 39 rfl (fun g => rfl) K_X7_23 (by decide) (Nat.le_of_ble_eq_true rfl) dX7_move_23 rfl hf (fun u1 hf => ?_)
  refine a_iload hX dX7_move_26 5 rfl rfl ?_
  exact a_iret hX hT hF (r_iS (wf := (wC V q ts)) hf) dX7_move_28
theorem ctX7_move {V : Vx} {q : Nat → Nat} {u : St} {g : Nat → Nat} {ts : List Tx} {res : Int32 × St} (hE : EnvC V g) {v1 : Int32} {v2 : Int32} {v3 : Int32} {v4 : Int32} {v5 : Int32} (hf : fX7_move u v1 v2 v3 v4 v5 = some res) : Ct V yX7_move (.code yX7_move cX7_move 6 (some .int)) rmX7_move 0 0 [.ref (q 7), .int v1, .int v2, .int v3, .int v4, .int v5] (wC V q ts u) (rEq (some (.int res.1)) (wC V q ts res.2)) :=
  Ct_of (by decide) (Nat.le_of_ble_eq_true rfl) rfl (fun X hX hT _ hF => wX7_move ⟨hX, hT, hF⟩ hE hf)
def rmX8_isEdge : Room := { frames := 0, cells := 0, slots := 0, locals := 0 }
def fX8_isEdge (v0 : Int32) : Option (Int32) := if v0 < 0 then some 0 else (if 9999 < v0 then some 0 else (some 1))
theorem wX8_isEdge {X : Cx} {V : Vx} {res : Int32} (h : Run X cX8_isEdge 1 RX8 rmX8_isEdge V (some .boolean) (rEq (some (.int res)) [])) (hE : ZOK (vZ V)) {v0 : Int32} (hf : fX8_isEdge v0 = some res) : At X 1 0 0 [] 0 [(0, .int v0)] [] := by
  obtain ⟨hX, hT, hF⟩ := id h
  unfold fX8_isEdge at hf
  refine a_iload_n hX dX8_isEdge_0 rfl 0 rfl rfl ?_
  refine a_if_lt (tgt := 15) hX dX8_isEdge_1 rfl rfl hf (fun hf => ?_) (fun hf => ?_)
  · refine a_iconst (v := 0) hX dX8_isEdge_15 (by decide) rfl ?_
    exact a_zret hX hT (by decide) hF (r_i hf) dX8_isEdge_16
  · refine a_iload_n hX dX8_isEdge_4 rfl 0 rfl rfl ?_
    refine a_sipush (v := 9999) hX dX8_isEdge_5 (by decide) rfl ?_
    refine a_icmp_gt (tgt := 15) hX dX8_isEdge_8 rfl rfl hf (fun hf => ?_) (fun hf => ?_)
    · refine a_iconst (v := 0) hX dX8_isEdge_15 (by decide) rfl ?_
      exact a_zret hX hT (by decide) hF (r_i hf) dX8_isEdge_16
    · refine a_iconst (v := 1) hX dX8_isEdge_11 (by decide) rfl ?_
      refine a_goto (pc' := 16) hX dX8_isEdge_12 rfl ?_
      exact a_zret hX hT (by decide) hF (r_i hf) dX8_isEdge_16
theorem ctX8_isEdge {V : Vx} {res : Int32} (hE : ZOK (vZ V)) {v0 : Int32} (hf : fX8_isEdge v0 = some res) : Ct V yX8_isEdge (.code yX8_isEdge cX8_isEdge 1 (some .boolean)) rmX8_isEdge 0 0 [.int v0] [] (rEq (some (.int res)) []) :=
  Ct_of (by decide) (Nat.le_of_ble_eq_true rfl) rfl (fun X hX hT _ hF => wX8_isEdge ⟨hX, hT, hF⟩ hE hf)
def rmX8_has : Room := { frames := 0, cells := 0, slots := 0, locals := 0 }
def fX8_has (u : St) (v1 : Int32) : Option (Int32) := if v1 < 0 then some 0 else (if gZ u 160 ≤ v1 then some 0 else (some 1))
theorem wX8_has {X : Cx} {V : Vx} {q : Nat → Nat} {g : Nat → Nat} {ts : List Tx} {u : St} {res : Int32} (h : Run X cX8_has 2 RX8 rmX8_has V (some .boolean) (rEq (some (.int res)) (wC V q ts u))) (hE : EnvC V g) {v1 : Int32} (hf : fX8_has u v1 = some res) : At X 2 0 0 (wC V q ts u) 0 [(0, .ref (q 8)), (1, .int v1)] [] := by
  obtain ⟨hX, hT, hF⟩ := id h
  unfold fX8_has at hf
  refine a_iload_n hX dX8_has_0 rfl 1 rfl rfl ?_
  refine a_if_lt (tgt := 16) hX dX8_has_1 rfl rfl hf (fun hf => ?_) (fun hf => ?_)
  · refine a_iconst (v := 0) hX dX8_has_16 (by decide) rfl ?_
    exact a_zret hX hT (by decide) hF (r_i hf) dX8_has_17
  · refine a_iload_n hX dX8_has_4 rfl 1 rfl rfl ?_
    refine a_aload_n hX dX8_has_5 rfl 0 rfl rfl ?_
    refine gX8_0 hX F_X8_22 dX8_has_6 rfl ?_
    refine a_icmp_ge (tgt := 16) hX dX8_has_9 rfl rfl hf (fun hf => ?_) (fun hf => ?_)
    · refine a_iconst (v := 0) hX dX8_has_16 (by decide) rfl ?_
      exact a_zret hX hT (by decide) hF (r_i hf) dX8_has_17
    · refine a_iconst (v := 1) hX dX8_has_12 (by decide) rfl ?_
      refine a_goto (pc' := 17) hX dX8_has_13 rfl ?_
      exact a_zret hX hT (by decide) hF (r_i hf) dX8_has_17
theorem ctX8_has {V : Vx} {q : Nat → Nat} {u : St} {g : Nat → Nat} {ts : List Tx} {res : Int32} (hE : EnvC V g) {v1 : Int32} (hf : fX8_has u v1 = some res) : Ct V yX8_has (.code yX8_has cX8_has 2 (some .boolean)) rmX8_has 0 0 [.ref (q 8), .int v1] (wC V q ts u) (rEq (some (.int res)) (wC V q ts u)) :=
  Ct_of (by decide) (Nat.le_of_ble_eq_true rfl) rfl (fun X hX hT _ hF => wX8_has ⟨hX, hT, hF⟩ hE hf)
def rmX8_add : Room := { frames := 0, cells := 0, slots := 0, locals := 0 }
def fX8_add (u : St) (v1 : Int32) (v2 : Int32) : Option (Int32 × St) := stI u 162 8 (gZ u 160) v1 (fun u1 => stI u1 163 8 (gZ u1 160) v2 (fun u2 => nmI (gZ u2 160) (fun x3 => nmS (setZ u2 160 (x3 + 1)) (fun u4 => some (x3, u4)))))
theorem wX8_add {X : Cx} {V : Vx} {q : Nat → Nat} {g : Nat → Nat} {ts : List Tx} {res : Int32 × St} (h : Run X cX8_add 3 RX8 rmX8_add V (some .int) (rEq (some (.int res.1)) (wC V q ts res.2))) (hE : EnvC V g) {u : St} {v1 : Int32} {v2 : Int32} (hf : fX8_add u v1 v2 = some res) : At X 3 0 0 (wC V q ts u) 0 [(0, .ref (q 8)), (1, .int v1), (2, .int v2)] [] := by
  obtain ⟨hX, hT, hF⟩ := id h
  unfold fX8_add at hf
  refine a_aload_n hX dX8_add_0 rfl 0 rfl rfl ?_
  refine gX8_2 hX F_X8_9 dX8_add_1 rfl ?_
  refine a_aload_n hX dX8_add_4 rfl 0 rfl rfl ?_
  refine gX8_0 hX F_X8_22 dX8_add_5 rfl ?_
  refine a_iload_n hX dX8_add_8 rfl 1 rfl rfl ?_
  refine sX8_2 hX dX8_add_9 rfl hf (fun u1 hf => ?_)
  refine a_aload_n hX dX8_add_10 rfl 0 rfl rfl ?_
  refine gX8_3 hX F_X8_13 dX8_add_11 rfl ?_
  refine a_aload_n hX dX8_add_14 rfl 0 rfl rfl ?_
  refine gX8_0 hX F_X8_22 dX8_add_15 rfl ?_
  refine a_iload_n hX dX8_add_18 rfl 2 rfl rfl ?_
  refine sX8_3 hX dX8_add_19 rfl hf (fun u2 hf => ?_)
  refine a_aload_n hX dX8_add_20 rfl 0 rfl rfl ?_
  refine a_dup hX dX8_add_21 rfl rfl ?_
  refine gX8_0 hX F_X8_22 dX8_add_22 rfl ?_
  refine a_nmI hf (fun x3 hf => ?_)
  refine a_dup_x1 hX dX8_add_25 rfl rfl rfl ?_
  refine a_iconst (v := 1) hX dX8_add_26 (by decide) rfl ?_
  refine a_iadd hX dX8_add_27 rfl ?_
  refine pX8_0 hX F_X8_22 dX8_add_28 rfl hf (fun u4 hf => ?_)
  exact a_iret hX hT hF (r_iS (wf := (wC V q ts)) hf) dX8_add_31
theorem ctX8_add {V : Vx} {q : Nat → Nat} {u : St} {g : Nat → Nat} {ts : List Tx} {res : Int32 × St} (hE : EnvC V g) {v1 : Int32} {v2 : Int32} (hf : fX8_add u v1 v2 = some res) : Ct V yX8_add (.code yX8_add cX8_add 3 (some .int)) rmX8_add 0 0 [.ref (q 8), .int v1, .int v2] (wC V q ts u) (rEq (some (.int res.1)) (wC V q ts res.2)) :=
  Ct_of (by decide) (Nat.le_of_ble_eq_true rfl) rfl (fun X hX hT _ hF => wX8_add ⟨hX, hT, hF⟩ hE hf)
def rmX8_fits : Room := { frames := 0, cells := 0, slots := 0, locals := 0 }
def fX8_fits_b45 (u : St) (k21 : Int32 → Int32 → Int32 → Int32 → Option (Int32)) (v3 : Int32) (v4 : Int32) (v5 : Int32) (v6 : Int32) : Option (Int32) := nmI (v3 / 10) (fun x3 => nmI (v4 / 10) (fun x4 => k21 x3 x4 v5 (v6 + 1)))
theorem wX8_fits_b45 {X : Cx} {V : Vx} {q : Nat → Nat} {g : Nat → Nat} {ts : List Tx} {u : St} {res : Int32} (h : Run X cX8_fits 7 RX8 rmX8_fits V (some .boolean) (rEq (some (.int res)) (wC V q ts u))) (hE : EnvC V g) {v3 : Int32} {v4 : Int32} {v5 : Int32} {v6 : Int32} {k21 : Int32 → Int32 → Int32 → Int32 → Option (Int32)} (hk21 : ∀ (v3 : Int32) (v4 : Int32) (v5 : Int32) (v6 : Int32), k21 v3 v4 v5 v6 = some res → At X 7 0 0 (wC V q ts u) 21 [(0, .ref (q 8)), (3, .int v3), (4, .int v4), (5, .int v5), (6, .int v6)] []) (hf : fX8_fits_b45 u k21 v3 v4 v5 v6 = some res) : At X 7 0 0 (wC V q ts u) 45 [(0, .ref (q 8)), (3, .int v3), (4, .int v4), (5, .int v5), (6, .int v6)] [] := by
  obtain ⟨hX, hT, hF⟩ := id h
  unfold fX8_fits_b45 at hf
  refine a_iload_n hX dX8_fits_45 rfl 1 rfl rfl ?_
  refine a_bipush (v := 10) hX dX8_fits_46 (by decide) rfl ?_
  refine a_idiv hX dX8_fits_48 (by decide) rfl ?_
  refine a_nmI hf (fun x3 hf => ?_)
  refine a_istore_n (lv' := [(3, .int x3), (0, .ref (q 8)), (4, .int v4), (5, .int v5), (6, .int v6)]) hX dX8_fits_49 rfl (by decide) rfl rfl ?_
  refine a_iload hX dX8_fits_50 2 rfl rfl ?_
  refine a_bipush (v := 10) hX dX8_fits_52 (by decide) rfl ?_
  refine a_idiv hX dX8_fits_54 (by decide) rfl ?_
  refine a_nmI hf (fun x4 hf => ?_)
  refine a_istore (lv' := [(4, .int x4), (3, .int x3), (0, .ref (q 8)), (5, .int v5), (6, .int v6)]) hX dX8_fits_55 (by decide) rfl rfl ?_
  refine a_iinc (v := v6 + 1) (lv' := [(6, .int (v6 + 1)), (4, .int x4), (3, .int x3), (0, .ref (q 8)), (5, .int v5)]) hX dX8_fits_57 4 rfl rfl (by decide) rfl rfl ?_
  refine a_goto (pc' := 21) hX dX8_fits_60 rfl ?_
  refine a_lv (lv' := [(0, .ref (q 8)), (3, .int x3), (4, .int x4), (5, .int v5), (6, .int (v6 + 1))]) [3, 2, 1, 4, 0] rfl ?_
  exact hk21 x3 x4 v5 (v6 + 1) hf
def fX8_fits_l21b (u : St) (k21 : Int32 → Int32 → Int32 → Int32 → Option (Int32)) (v3 : Int32) (v4 : Int32) (v5 : Int32) (v6 : Int32) : Option (Int32) := if 4 ≤ v6 then if gZ u 161 < v5 then some 0 else (some 1) else (if (v3 - v3 / 10 * 10) + (v4 - v4 / 10 * 10) = 9 then fX8_fits_b45 u k21 v3 v4 v5 v6 else (fX8_fits_b45 u k21 v3 v4 (v5 + 1) v6))
theorem wX8_fits_l21b {X : Cx} {V : Vx} {q : Nat → Nat} {g : Nat → Nat} {ts : List Tx} {u : St} {res : Int32} (h : Run X cX8_fits 7 RX8 rmX8_fits V (some .boolean) (rEq (some (.int res)) (wC V q ts u))) (hE : EnvC V g) {v3 : Int32} {v4 : Int32} {v5 : Int32} {v6 : Int32} {k21 : Int32 → Int32 → Int32 → Int32 → Option (Int32)} (hk21 : ∀ (v3 : Int32) (v4 : Int32) (v5 : Int32) (v6 : Int32), k21 v3 v4 v5 v6 = some res → At X 7 0 0 (wC V q ts u) 21 [(0, .ref (q 8)), (3, .int v3), (4, .int v4), (5, .int v5), (6, .int v6)] []) (hf : fX8_fits_l21b u k21 v3 v4 v5 v6 = some res) : At X 7 0 0 (wC V q ts u) 21 [(0, .ref (q 8)), (3, .int v3), (4, .int v4), (5, .int v5), (6, .int v6)] [] := by
  obtain ⟨hX, hT, hF⟩ := id h
  unfold fX8_fits_l21b at hf
  refine a_iload hX dX8_fits_21 4 rfl rfl ?_
  refine a_iconst (v := 4) hX dX8_fits_23 (by decide) rfl ?_
  refine a_icmp_ge (tgt := 63) hX dX8_fits_24 rfl rfl hf (fun hf => ?_) (fun hf => ?_)
  · refine a_iload hX dX8_fits_63 3 rfl rfl ?_
    refine a_aload_n hX dX8_fits_65 rfl 0 rfl rfl ?_
    refine gX8_1 hX F_X8_26 dX8_fits_66 rfl ?_
    refine a_icmp_gt (tgt := 76) hX dX8_fits_69 rfl rfl hf (fun hf => ?_) (fun hf => ?_)
    · refine a_iconst (v := 0) hX dX8_fits_76 (by decide) rfl ?_
      exact a_zret hX hT (by decide) hF (r_i hf) dX8_fits_77
    · refine a_iconst (v := 1) hX dX8_fits_72 (by decide) rfl ?_
      refine a_goto (pc' := 77) hX dX8_fits_73 rfl ?_
      exact a_zret hX hT (by decide) hF (r_i hf) dX8_fits_77
  · refine a_iload_n hX dX8_fits_27 rfl 1 rfl rfl ?_
    refine a_bipush (v := 10) hX dX8_fits_28 (by decide) rfl ?_
    refine a_irem hX dX8_fits_30 (by decide) rfl ?_
    refine a_iload hX dX8_fits_31 2 rfl rfl ?_
    refine a_bipush (v := 10) hX dX8_fits_33 (by decide) rfl ?_
    refine a_irem hX dX8_fits_35 (by decide) rfl ?_
    refine a_iadd hX dX8_fits_36 rfl ?_
    refine a_bipush (v := 9) hX dX8_fits_37 (by decide) rfl ?_
    refine a_icmp_eq (tgt := 45) hX dX8_fits_39 rfl rfl hf (fun hf => ?_) (fun hf => ?_)
    · exact wX8_fits_b45 h hE hk21 hf
    · refine a_iinc (v := v5 + 1) (lv' := [(5, .int (v5 + 1)), (0, .ref (q 8)), (3, .int v3), (4, .int v4), (6, .int v6)]) hX dX8_fits_42 3 rfl rfl (by decide) rfl rfl ?_
      refine a_lv (lv' := [(0, .ref (q 8)), (3, .int v3), (4, .int v4), (5, .int (v5 + 1)), (6, .int v6)]) [1, 2, 3, 0, 4] rfl ?_
      exact wX8_fits_b45 h hE hk21 hf
def fX8_fits_l21 (u : St)   : Nat → Int32 → Int32 → Int32 → Int32 → Option (Int32)
  | 0, _, _, _, _ => none
  | m + 1, v3, v4, v5, v6 => fX8_fits_l21b u (fX8_fits_l21 u   m) v3 v4 v5 v6
theorem wX8_fits_l21 {X : Cx} {V : Vx} {q : Nat → Nat} {g : Nat → Nat} {ts : List Tx} {u : St} {res : Int32} (h : Run X cX8_fits 7 RX8 rmX8_fits V (some .boolean) (rEq (some (.int res)) (wC V q ts u))) (hE : EnvC V g)  : ∀ (m : Nat) (v3 : Int32) (v4 : Int32) (v5 : Int32) (v6 : Int32), fX8_fits_l21 u   m v3 v4 v5 v6 = some res → At X 7 0 0 (wC V q ts u) 21 [(0, .ref (q 8)), (3, .int v3), (4, .int v4), (5, .int v5), (6, .int v6)] [] := by
  intro m
  induction m with
  | zero => intro v3 v4 v5 v6 hf; cases hf
  | succ m ih => intro v3 v4 v5 v6 hf; exact wX8_fits_l21b h hE ih hf
def fX8_fits (u : St) (v1 : Int32) (v2 : Int32) : Option (Int32) := ldI (gA u 163) 8 v1 (fun x1 => ldI (gA u 162) 8 v2 (fun x2 => fX8_fits_l21 u NF x1 x2 0 0))
theorem wX8_fits {X : Cx} {V : Vx} {q : Nat → Nat} {g : Nat → Nat} {ts : List Tx} {u : St} {res : Int32} (h : Run X cX8_fits 7 RX8 rmX8_fits V (some .boolean) (rEq (some (.int res)) (wC V q ts u))) (hE : EnvC V g) {v1 : Int32} {v2 : Int32} (hf : fX8_fits u v1 v2 = some res) : At X 7 0 0 (wC V q ts u) 0 [(0, .ref (q 8)), (1, .int v1), (2, .int v2)] [] := by
  obtain ⟨hX, hT, hF⟩ := id h
  unfold fX8_fits at hf
  refine a_aload_n hX dX8_fits_0 rfl 0 rfl rfl ?_
  refine gX8_3 hX F_X8_13 dX8_fits_1 rfl ?_
  refine a_iload_n hX dX8_fits_4 rfl 1 rfl rfl ?_
  refine lX8_3 hX dX8_fits_5 rfl hf (fun x1 hf => ?_)
  refine a_istore_n (lv' := [(3, .int x1), (0, .ref (q 8)), (1, .int v1), (2, .int v2)]) hX dX8_fits_6 rfl (by decide) rfl rfl ?_
  refine a_aload_n hX dX8_fits_7 rfl 1 rfl rfl ?_
  refine gX8_2 hX F_X8_9 dX8_fits_8 rfl ?_
  refine a_iload_n hX dX8_fits_11 rfl 3 rfl rfl ?_
  refine lX8_2 hX dX8_fits_12 rfl hf (fun x2 hf => ?_)
  refine a_istore (lv' := [(4, .int x2), (3, .int x1), (0, .ref (q 8)), (1, .int v1), (2, .int v2)]) hX dX8_fits_13 (by decide) rfl rfl ?_
  refine a_iconst (v := 0) hX dX8_fits_15 (by decide) rfl ?_
  refine a_istore (lv' := [(5, .int 0), (4, .int x2), (3, .int x1), (0, .ref (q 8)), (1, .int v1), (2, .int v2)]) hX dX8_fits_16 (by decide) rfl rfl ?_
  refine a_iconst (v := 0) hX dX8_fits_18 (by decide) rfl ?_
  refine a_istore (lv' := [(6, .int 0), (5, .int 0), (4, .int x2), (3, .int x1), (0, .ref (q 8)), (1, .int v1), (2, .int v2)]) hX dX8_fits_19 (by decide) rfl rfl ?_
  refine a_lv (lv' := [(0, .ref (q 8)), (3, .int x1), (4, .int x2), (5, .int 0), (6, .int 0)]) [4, 3, 2, 1, 0] rfl ?_
  exact wX8_fits_l21 h hE NF x1 x2 0 0 hf
theorem ctX8_fits {V : Vx} {q : Nat → Nat} {u : St} {g : Nat → Nat} {ts : List Tx} {res : Int32} (hE : EnvC V g) {v1 : Int32} {v2 : Int32} (hf : fX8_fits u v1 v2 = some res) : Ct V yX8_fits (.code yX8_fits cX8_fits 7 (some .boolean)) rmX8_fits 0 0 [.ref (q 8), .int v1, .int v2] (wC V q ts u) (rEq (some (.int res)) (wC V q ts u)) :=
  Ct_of (by decide) (Nat.le_of_ble_eq_true rfl) rfl (fun X hX hT _ hF => wX8_fits ⟨hX, hT, hF⟩ hE hf)
def rmX8_inRow : Room := { frames := 0, cells := 0, slots := 0, locals := 0 }
def fX8_inRow (u : St) (v1 : Int32) (v2 : Int32) : Option (Int32) := some (((gZ u 166) >>> ((3 * ((v2 - 1) - v1)) &&& 31)) &&& 7)
theorem wX8_inRow {X : Cx} {V : Vx} {q : Nat → Nat} {g : Nat → Nat} {ts : List Tx} {u : St} {res : Int32} (h : Run X cX8_inRow 3 RX8 rmX8_inRow V (some .int) (rEq (some (.int res)) (wC V q ts u))) (hE : EnvC V g) {v1 : Int32} {v2 : Int32} (hf : fX8_inRow u v1 v2 = some res) : At X 3 0 0 (wC V q ts u) 0 [(0, .ref (q 8)), (1, .int v1), (2, .int v2)] [] := by
  obtain ⟨hX, hT, hF⟩ := id h
  unfold fX8_inRow at hf
  refine a_aload_n hX dX8_inRow_0 rfl 0 rfl rfl ?_
  refine gX8_6 hX F_X8_29 dX8_inRow_1 rfl ?_
  refine a_iconst (v := 3) hX dX8_inRow_4 (by decide) rfl ?_
  refine a_iload_n hX dX8_inRow_5 rfl 2 rfl rfl ?_
  refine a_iconst (v := 1) hX dX8_inRow_6 (by decide) rfl ?_
  refine a_isub hX dX8_inRow_7 rfl ?_
  refine a_iload_n hX dX8_inRow_8 rfl 1 rfl rfl ?_
  refine a_isub hX dX8_inRow_9 rfl ?_
  refine a_imul hX dX8_inRow_10 rfl ?_
  refine a_ishr hX dX8_inRow_11 rfl ?_
  refine a_bipush (v := 7) hX dX8_inRow_12 (by decide) rfl ?_
  refine a_iand hX dX8_inRow_14 rfl ?_
  exact a_iret hX hT hF (r_i hf) dX8_inRow_15
theorem ctX8_inRow {V : Vx} {q : Nat → Nat} {u : St} {g : Nat → Nat} {ts : List Tx} {res : Int32} (hE : EnvC V g) {v1 : Int32} {v2 : Int32} (hf : fX8_inRow u v1 v2 = some res) : Ct V yX8_inRow (.code yX8_inRow cX8_inRow 3 (some .int)) rmX8_inRow 0 0 [.ref (q 8), .int v1, .int v2] (wC V q ts u) (rEq (some (.int res)) (wC V q ts u)) :=
  Ct_of (by decide) (Nat.le_of_ble_eq_true rfl) rfl (fun X hX hT _ hF => wX8_inRow ⟨hX, hT, hF⟩ hE hf)
def rmX8_findFollowers : Room := { frames := 1, cells := 0, slots := 0, locals := 26 }
def fX8_findFollowers_b53  (k2 : St → Int32 → Option (St)) (k19 : St → Int32 → Option (St)) (u : St) (v1 : Int32) (v2 : Int32) : Option (St) := k19 u (v2 + 1)
theorem wX8_findFollowers_b53 {X : Cx} {V : Vx} {q : Nat → Nat} {g : Nat → Nat} {ts : List Tx} {res : St} (h : Run X cX8_findFollowers 3 RX8 rmX8_findFollowers V none (rEq none (wC V q ts res))) (hE : EnvC V g) {u : St} {v1 : Int32} {v2 : Int32} {k2 : St → Int32 → Option (St)} (hk2 : ∀ (u : St) (v1 : Int32), k2 u v1 = some res → At X 3 0 0 (wC V q ts u) 2 [(0, .ref (q 8)), (1, .int v1)] []) {k19 : St → Int32 → Option (St)} (hk19 : ∀ (u : St) (v2 : Int32), k19 u v2 = some res → At X 3 0 0 (wC V q ts u) 19 [(0, .ref (q 8)), (1, .int v1), (2, .int v2)] []) (hf : fX8_findFollowers_b53  k2 k19 u v1 v2 = some res) : At X 3 0 0 (wC V q ts u) 53 [(0, .ref (q 8)), (1, .int v1), (2, .int v2)] [] := by
  obtain ⟨hX, hT, hF⟩ := id h
  unfold fX8_findFollowers_b53 at hf
  refine a_iinc (v := v2 + 1) (lv' := [(2, .int (v2 + 1)), (0, .ref (q 8)), (1, .int v1)]) hX dX8_findFollowers_53 2 rfl rfl (by decide) rfl rfl ?_
  refine a_goto (pc' := 19) hX dX8_findFollowers_56 rfl ?_
  refine a_lv (lv' := [(0, .ref (q 8)), (1, .int v1), (2, .int (v2 + 1))]) [1, 2, 0] rfl ?_
  exact hk19 u (v2 + 1) hf
def fX8_findFollowers_l19b  (k2 : St → Int32 → Option (St)) (k19 : St → Int32 → Option (St)) (u : St) (v1 : Int32) (v2 : Int32) : Option (St) := if gZ u 160 ≤ v2 then k2 u (v1 + 1) else (if v2 = v1 then fX8_findFollowers_b53 k2 k19 u v1 v2 else (cl1 (fX8_fits u v1 v2) (fun x2 => if x2 = 0 then fX8_findFollowers_b53 k2 k19 u v1 v2 else (ldI (gA u 164) 8 v1 (fun x3 => stI u 164 8 v1 (x3 ||| ((1 : Int32) <<< (v2 &&& 31))) (fun u4 => fX8_findFollowers_b53 k2 k19 u4 v1 v2))))))
theorem wX8_findFollowers_l19b {X : Cx} {V : Vx} {q : Nat → Nat} {g : Nat → Nat} {ts : List Tx} {res : St} (h : Run X cX8_findFollowers 3 RX8 rmX8_findFollowers V none (rEq none (wC V q ts res))) (hE : EnvC V g) {u : St} {v1 : Int32} {v2 : Int32} {k2 : St → Int32 → Option (St)} (hk2 : ∀ (u : St) (v1 : Int32), k2 u v1 = some res → At X 3 0 0 (wC V q ts u) 2 [(0, .ref (q 8)), (1, .int v1)] []) {k19 : St → Int32 → Option (St)} (hk19 : ∀ (u : St) (v2 : Int32), k19 u v2 = some res → At X 3 0 0 (wC V q ts u) 19 [(0, .ref (q 8)), (1, .int v1), (2, .int v2)] []) (hf : fX8_findFollowers_l19b  k2 k19 u v1 v2 = some res) : At X 3 0 0 (wC V q ts u) 19 [(0, .ref (q 8)), (1, .int v1), (2, .int v2)] [] := by
  obtain ⟨hX, hT, hF⟩ := id h
  unfold fX8_findFollowers_l19b at hf
  refine a_iload_n hX dX8_findFollowers_19 rfl 2 rfl rfl ?_
  refine a_aload_n hX dX8_findFollowers_20 rfl 0 rfl rfl ?_
  refine gX8_0 hX F_X8_22 dX8_findFollowers_21 rfl ?_
  refine a_icmp_ge (tgt := 59) hX dX8_findFollowers_24 rfl rfl hf (fun hf => ?_) (fun hf => ?_)
  · refine a_iinc (v := v1 + 1) (lv' := [(1, .int (v1 + 1)), (0, .ref (q 8)), (2, .int v2)]) hX dX8_findFollowers_59 1 rfl rfl (by decide) rfl rfl ?_
    refine a_goto (pc' := 2) hX dX8_findFollowers_62 rfl ?_
    refine a_lv (lv' := [(0, .ref (q 8)), (1, .int (v1 + 1))]) [1, 0] rfl ?_
    exact hk2 u (v1 + 1) hf
  · refine a_iload_n hX dX8_findFollowers_27 rfl 2 rfl rfl ?_
    refine a_iload_n hX dX8_findFollowers_28 rfl 1 rfl rfl ?_
    refine a_icmp_eq (tgt := 53) hX dX8_findFollowers_29 rfl rfl hf (fun hf => ?_) (fun hf => ?_)
    · exact wX8_findFollowers_b53 h hE hk2 hk19 hf
    · refine a_aload_n hX dX8_findFollowers_32 rfl 0 rfl rfl ?_
      refine a_iload_n hX dX8_findFollowers_33 rfl 1 rfl rfl ?_
      refine a_iload_n hX dX8_findFollowers_34 rfl 2 rfl rfl ?_
      obtain ⟨x2, hg2, hf⟩ := cl1_some hf
      refine a_cVsi (q0 := 8) (rest := []) hX hE.1 (ctX8_fits (q := q) hE hg2) K_X8_48 ⟨rfl, rfl⟩ ⟨rfl, rfl, by decide, by decide⟩ ⟨Nat.zero_le _, Nat.zero_le _⟩ (Nat.le_of_ble_eq_true rfl) dX8_findFollowers_35 rfl rfl ?_
      refine a_if_eq (tgt := 53) hX dX8_findFollowers_38 rfl rfl hf (fun hf => ?_) (fun hf => ?_)
      · exact wX8_findFollowers_b53 h hE hk2 hk19 hf
      · refine a_aload_n hX dX8_findFollowers_41 rfl 0 rfl rfl ?_
        refine gX8_4 hX F_X8_16 dX8_findFollowers_42 rfl ?_
        refine a_iload_n hX dX8_findFollowers_45 rfl 1 rfl rfl ?_
        refine a_dup2 hX dX8_findFollowers_46 rfl rfl rfl ?_
        refine lX8_4 hX dX8_findFollowers_47 rfl hf (fun x3 hf => ?_)
        refine a_iconst (v := 1) hX dX8_findFollowers_48 (by decide) rfl ?_
        refine a_iload_n hX dX8_findFollowers_49 rfl 2 rfl rfl ?_
        refine a_ishl hX dX8_findFollowers_50 rfl ?_
        refine a_ior hX dX8_findFollowers_51 rfl ?_
        refine sX8_4 hX dX8_findFollowers_52 rfl hf (fun u4 hf => ?_)
        exact wX8_findFollowers_b53 h hE hk2 hk19 hf
def fX8_findFollowers_l19  (k2 : St → Int32 → Option (St)) (v1 : Int32) : Nat → St → Int32 → Option (St)
  | 0, _, _ => none
  | m + 1, u, v2 => fX8_findFollowers_l19b  k2 (fX8_findFollowers_l19  k2 v1 m) u v1 v2
theorem wX8_findFollowers_l19 {X : Cx} {V : Vx} {q : Nat → Nat} {g : Nat → Nat} {ts : List Tx} {res : St} (h : Run X cX8_findFollowers 3 RX8 rmX8_findFollowers V none (rEq none (wC V q ts res))) (hE : EnvC V g) {v1 : Int32} {k2 : St → Int32 → Option (St)} (hk2 : ∀ (u : St) (v1 : Int32), k2 u v1 = some res → At X 3 0 0 (wC V q ts u) 2 [(0, .ref (q 8)), (1, .int v1)] []) : ∀ (m : Nat) (u : St) (v2 : Int32), fX8_findFollowers_l19  k2 v1 m u v2 = some res → At X 3 0 0 (wC V q ts u) 19 [(0, .ref (q 8)), (1, .int v1), (2, .int v2)] [] := by
  intro m
  induction m with
  | zero => intro u v2 hf; cases hf
  | succ m ih => intro u v2 hf; exact wX8_findFollowers_l19b h hE hk2 ih hf
def fX8_findFollowers_l2b  (k2 : St → Int32 → Option (St)) (u : St) (v1 : Int32) : Option (St) := if gZ u 160 ≤ v1 then some u else (stI u 164 8 v1 0 (fun u1 => fX8_findFollowers_l19 k2 v1 NF u1 0))
theorem wX8_findFollowers_l2b {X : Cx} {V : Vx} {q : Nat → Nat} {g : Nat → Nat} {ts : List Tx} {res : St} (h : Run X cX8_findFollowers 3 RX8 rmX8_findFollowers V none (rEq none (wC V q ts res))) (hE : EnvC V g) {u : St} {v1 : Int32} {k2 : St → Int32 → Option (St)} (hk2 : ∀ (u : St) (v1 : Int32), k2 u v1 = some res → At X 3 0 0 (wC V q ts u) 2 [(0, .ref (q 8)), (1, .int v1)] []) (hf : fX8_findFollowers_l2b  k2 u v1 = some res) : At X 3 0 0 (wC V q ts u) 2 [(0, .ref (q 8)), (1, .int v1)] [] := by
  obtain ⟨hX, hT, hF⟩ := id h
  unfold fX8_findFollowers_l2b at hf
  refine a_iload_n hX dX8_findFollowers_2 rfl 1 rfl rfl ?_
  refine a_aload_n hX dX8_findFollowers_3 rfl 0 rfl rfl ?_
  refine gX8_0 hX F_X8_22 dX8_findFollowers_4 rfl ?_
  refine a_icmp_ge (tgt := 65) hX dX8_findFollowers_7 rfl rfl hf (fun hf => ?_) (fun hf => ?_)
  · exact a_ret hX hT hF (r_vS (wf := (wC V q ts)) hf) dX8_findFollowers_65
  · refine a_aload_n hX dX8_findFollowers_10 rfl 0 rfl rfl ?_
    refine gX8_4 hX F_X8_16 dX8_findFollowers_11 rfl ?_
    refine a_iload_n hX dX8_findFollowers_14 rfl 1 rfl rfl ?_
    refine a_iconst (v := 0) hX dX8_findFollowers_15 (by decide) rfl ?_
    refine sX8_4 hX dX8_findFollowers_16 rfl hf (fun u1 hf => ?_)
    refine a_iconst (v := 0) hX dX8_findFollowers_17 (by decide) rfl ?_
    refine a_istore_n (lv' := [(2, .int 0), (0, .ref (q 8)), (1, .int v1)]) hX dX8_findFollowers_18 rfl (by decide) rfl rfl ?_
    refine a_lv (lv' := [(0, .ref (q 8)), (1, .int v1), (2, .int 0)]) [1, 2, 0] rfl ?_
    exact wX8_findFollowers_l19 h hE hk2 NF u1 0 hf
def fX8_findFollowers_l2    : Nat → St → Int32 → Option (St)
  | 0, _, _ => none
  | m + 1, u, v1 => fX8_findFollowers_l2b  (fX8_findFollowers_l2    m) u v1
theorem wX8_findFollowers_l2 {X : Cx} {V : Vx} {q : Nat → Nat} {g : Nat → Nat} {ts : List Tx} {res : St} (h : Run X cX8_findFollowers 3 RX8 rmX8_findFollowers V none (rEq none (wC V q ts res))) (hE : EnvC V g)  : ∀ (m : Nat) (u : St) (v1 : Int32), fX8_findFollowers_l2    m u v1 = some res → At X 3 0 0 (wC V q ts u) 2 [(0, .ref (q 8)), (1, .int v1)] [] := by
  intro m
  induction m with
  | zero => intro u v1 hf; cases hf
  | succ m ih => intro u v1 hf; exact wX8_findFollowers_l2b h hE ih hf
def fX8_findFollowers (u : St) : Option (St) := fX8_findFollowers_l2 NF u 0
theorem wX8_findFollowers {X : Cx} {V : Vx} {q : Nat → Nat} {g : Nat → Nat} {ts : List Tx} {res : St} (h : Run X cX8_findFollowers 3 RX8 rmX8_findFollowers V none (rEq none (wC V q ts res))) (hE : EnvC V g) {u : St} (hf : fX8_findFollowers u = some res) : At X 3 0 0 (wC V q ts u) 0 [(0, .ref (q 8))] [] := by
  obtain ⟨hX, hT, hF⟩ := id h
  unfold fX8_findFollowers at hf
  refine a_iconst (v := 0) hX dX8_findFollowers_0 (by decide) rfl ?_
  refine a_istore_n (lv' := [(1, .int 0), (0, .ref (q 8))]) hX dX8_findFollowers_1 rfl (by decide) rfl rfl ?_
  refine a_lv (lv' := [(0, .ref (q 8)), (1, .int 0)]) [1, 0] rfl ?_
  exact wX8_findFollowers_l2 h hE NF u 0 hf
theorem ctX8_findFollowers {V : Vx} {q : Nat → Nat} {u : St} {g : Nat → Nat} {ts : List Tx} {res : St} (hE : EnvC V g)  (hf : fX8_findFollowers u = some res) : Ct V yX8_findFollowers (.code yX8_findFollowers cX8_findFollowers 3 none) rmX8_findFollowers 0 0 [.ref (q 8)] (wC V q ts u) (rEq none (wC V q ts res)) :=
  Ct_of (by decide) (Nat.le_of_ble_eq_true rfl) rfl (fun X hX hT _ hF => wX8_findFollowers ⟨hX, hT, hF⟩ hE hf)
def rmX8_findStarts : Room := { frames := 1, cells := 0, slots := 0, locals := 30 }
def fX8_findStarts_b89  (k4 : St → Int32 → Int32 → Option (Int32 × St)) (k19 : Int32 → Int32 → Option (Int32 × St)) (u : St) (v1 : Int32) (v2 : Int32) (v3 : Int32) (v4 : Int32) : Option (Int32 × St) := k19 v3 (v4 + 1)
theorem wX8_findStarts_b89 {X : Cx} {V : Vx} {q : Nat → Nat} {g : Nat → Nat} {ts : List Tx} {res : Int32 × St} (h : Run X cX8_findStarts 7 RX8 rmX8_findStarts V (some .int) (rEq (some (.int res.1)) (wC V q ts res.2))) (hE : EnvC V g) {u : St} {v1 : Int32} {v2 : Int32} {v3 : Int32} {v4 : Int32} {k4 : St → Int32 → Int32 → Option (Int32 × St)} (hk4 : ∀ (u : St) (v1 : Int32) (v2 : Int32), k4 u v1 v2 = some res → At X 7 0 0 (wC V q ts u) 4 [(0, .ref (q 8)), (1, .int v1), (2, .int v2)] []) {k19 : Int32 → Int32 → Option (Int32 × St)} (hk19 : ∀ (v3 : Int32) (v4 : Int32), k19 v3 v4 = some res → At X 7 0 0 (wC V q ts u) 19 [(0, .ref (q 8)), (1, .int v1), (2, .int v2), (3, .int v3), (4, .int v4)] []) (hf : fX8_findStarts_b89  k4 k19 u v1 v2 v3 v4 = some res) : At X 7 0 0 (wC V q ts u) 89 [(0, .ref (q 8)), (1, .int v1), (2, .int v2), (3, .int v3), (4, .int v4)] [] := by
  obtain ⟨hX, hT, hF⟩ := id h
  unfold fX8_findStarts_b89 at hf
  refine a_iinc (v := v4 + 1) (lv' := [(4, .int (v4 + 1)), (0, .ref (q 8)), (1, .int v1), (2, .int v2), (3, .int v3)]) hX dX8_findStarts_89 4 rfl rfl (by decide) rfl rfl ?_
  refine a_goto (pc' := 19) hX dX8_findStarts_92 rfl ?_
  refine a_lv (lv' := [(0, .ref (q 8)), (1, .int v1), (2, .int v2), (3, .int v3), (4, .int (v4 + 1))]) [1, 2, 3, 4, 0] rfl ?_
  exact hk19 v3 (v4 + 1) hf
def fX8_findStarts_b66  (k4 : St → Int32 → Int32 → Option (Int32 × St)) (k19 : Int32 → Int32 → Option (Int32 × St)) (u : St) (v1 : Int32) (v2 : Int32) (v3 : Int32) (v4 : Int32) (s0 : Int32) : Option (Int32 × St) := cl1 (fX11_isIn v2 v4) (fun x7 => if x7 = 0 then fX8_findStarts_b89 k4 k19 u v1 v2 v3 v4 else (if s0 = 0 then fX8_findStarts_b89 k4 k19 u v1 v2 v3 v4 else (nmI (v3 ||| ((1 : Int32) <<< (v4 &&& 31))) (fun x8 => fX8_findStarts_b89 k4 k19 u v1 v2 x8 v4))))
theorem wX8_findStarts_b66 {X : Cx} {V : Vx} {q : Nat → Nat} {g : Nat → Nat} {ts : List Tx} {res : Int32 × St} (h : Run X cX8_findStarts 7 RX8 rmX8_findStarts V (some .int) (rEq (some (.int res.1)) (wC V q ts res.2))) (hE : EnvC V g) {u : St} {v1 : Int32} {v2 : Int32} {v3 : Int32} {v4 : Int32} {s0 : Int32} {k4 : St → Int32 → Int32 → Option (Int32 × St)} (hk4 : ∀ (u : St) (v1 : Int32) (v2 : Int32), k4 u v1 v2 = some res → At X 7 0 0 (wC V q ts u) 4 [(0, .ref (q 8)), (1, .int v1), (2, .int v2)] []) {k19 : Int32 → Int32 → Option (Int32 × St)} (hk19 : ∀ (v3 : Int32) (v4 : Int32), k19 v3 v4 = some res → At X 7 0 0 (wC V q ts u) 19 [(0, .ref (q 8)), (1, .int v1), (2, .int v2), (3, .int v3), (4, .int v4)] []) (hf : fX8_findStarts_b66  k4 k19 u v1 v2 v3 v4 s0 = some res) : At X 7 0 0 (wC V q ts u) 66 [(0, .ref (q 8)), (1, .int v1), (2, .int v2), (3, .int v3), (4, .int v4)] [.int s0] := by
  obtain ⟨hX, hT, hF⟩ := id h
  unfold fX8_findStarts_b66 at hf
  refine a_istore (lv' := [(6, .int s0), (0, .ref (q 8)), (1, .int v1), (2, .int v2), (3, .int v3), (4, .int v4)]) hX dX8_findStarts_66 (by decide) rfl rfl ?_
  refine a_iload_n hX dX8_findStarts_68 rfl 3 rfl rfl ?_
  refine a_iload hX dX8_findStarts_69 5 rfl rfl ?_
  obtain ⟨x7, hg7, hf⟩ := cl1_some hf
  refine a_cNpi (rest := []) hX hE.1 (ctX11_isIn hE.1 hg7) (e_nw hX hE (w := .methodLinkNest "VaseCourt$Sherds" 52 yX11_isIn "VaseCourt") (List.mem_of_getElem? (i := 11) rfl)) LN_X11_isIn ⟨rfl, rfl, by decide, by decide⟩ ⟨Nat.zero_le _, Nat.zero_le _⟩ (Nat.le_of_ble_eq_true rfl) dX8_findStarts_71 rfl rfl ?_
  refine a_if_eq (tgt := 89) hX dX8_findStarts_74 rfl rfl hf (fun hf => ?_) (fun hf => ?_)
  · refine a_lv (lv' := [(0, .ref (q 8)), (1, .int v1), (2, .int v2), (3, .int v3), (4, .int v4)]) [1, 2, 3, 4, 5] rfl ?_
    exact wX8_findStarts_b89 h hE hk4 hk19 hf
  · refine a_iload hX dX8_findStarts_77 0 rfl rfl ?_
    refine a_if_eq (tgt := 89) hX dX8_findStarts_79 rfl rfl hf (fun hf => ?_) (fun hf => ?_)
    · refine a_lv (lv' := [(0, .ref (q 8)), (1, .int v1), (2, .int v2), (3, .int v3), (4, .int v4)]) [1, 2, 3, 4, 5] rfl ?_
      exact wX8_findStarts_b89 h hE hk4 hk19 hf
    · refine a_iload_n hX dX8_findStarts_82 rfl 4 rfl rfl ?_
      refine a_iconst (v := 1) hX dX8_findStarts_83 (by decide) rfl ?_
      refine a_iload hX dX8_findStarts_84 5 rfl rfl ?_
      refine a_ishl hX dX8_findStarts_86 rfl ?_
      refine a_ior hX dX8_findStarts_87 rfl ?_
      refine a_nmI hf (fun x8 hf => ?_)
      refine a_istore_n (lv' := [(3, .int x8), (6, .int s0), (0, .ref (q 8)), (1, .int v1), (2, .int v2), (4, .int v4)]) hX dX8_findStarts_88 rfl (by decide) rfl rfl ?_
      refine a_lv (lv' := [(0, .ref (q 8)), (1, .int v1), (2, .int v2), (3, .int x8), (4, .int v4)]) [2, 3, 4, 0, 5] rfl ?_
      exact wX8_findStarts_b89 h hE hk4 hk19 hf
def fX8_findStarts_b61  (k4 : St → Int32 → Int32 → Option (Int32 × St)) (k19 : Int32 → Int32 → Option (Int32 × St)) (u : St) (v1 : Int32) (v2 : Int32) (v3 : Int32) (v4 : Int32) : Option (Int32 × St) := fX8_findStarts_b66 k4 k19 u v1 v2 v3 v4 1
theorem wX8_findStarts_b61 {X : Cx} {V : Vx} {q : Nat → Nat} {g : Nat → Nat} {ts : List Tx} {res : Int32 × St} (h : Run X cX8_findStarts 7 RX8 rmX8_findStarts V (some .int) (rEq (some (.int res.1)) (wC V q ts res.2))) (hE : EnvC V g) {u : St} {v1 : Int32} {v2 : Int32} {v3 : Int32} {v4 : Int32} {k4 : St → Int32 → Int32 → Option (Int32 × St)} (hk4 : ∀ (u : St) (v1 : Int32) (v2 : Int32), k4 u v1 v2 = some res → At X 7 0 0 (wC V q ts u) 4 [(0, .ref (q 8)), (1, .int v1), (2, .int v2)] []) {k19 : Int32 → Int32 → Option (Int32 × St)} (hk19 : ∀ (v3 : Int32) (v4 : Int32), k19 v3 v4 = some res → At X 7 0 0 (wC V q ts u) 19 [(0, .ref (q 8)), (1, .int v1), (2, .int v2), (3, .int v3), (4, .int v4)] []) (hf : fX8_findStarts_b61  k4 k19 u v1 v2 v3 v4 = some res) : At X 7 0 0 (wC V q ts u) 61 [(0, .ref (q 8)), (1, .int v1), (2, .int v2), (3, .int v3), (4, .int v4)] [] := by
  obtain ⟨hX, hT, hF⟩ := id h
  unfold fX8_findStarts_b61 at hf
  refine a_iconst (v := 1) hX dX8_findStarts_61 (by decide) rfl ?_
  refine a_goto (pc' := 66) hX dX8_findStarts_62 rfl ?_
  exact wX8_findStarts_b66 h hE hk4 hk19 hf
def fX8_findStarts_b115  (k4 : St → Int32 → Int32 → Option (Int32 × St)) (u : St) (v1 : Int32) (v2 : Int32) : Option (Int32 × St) := k4 u v1 (v2 + 1)
theorem wX8_findStarts_b115 {X : Cx} {V : Vx} {q : Nat → Nat} {g : Nat → Nat} {ts : List Tx} {res : Int32 × St} (h : Run X cX8_findStarts 7 RX8 rmX8_findStarts V (some .int) (rEq (some (.int res.1)) (wC V q ts res.2))) (hE : EnvC V g) {u : St} {v1 : Int32} {v2 : Int32} {k4 : St → Int32 → Int32 → Option (Int32 × St)} (hk4 : ∀ (u : St) (v1 : Int32) (v2 : Int32), k4 u v1 v2 = some res → At X 7 0 0 (wC V q ts u) 4 [(0, .ref (q 8)), (1, .int v1), (2, .int v2)] []) (hf : fX8_findStarts_b115  k4 u v1 v2 = some res) : At X 7 0 0 (wC V q ts u) 115 [(0, .ref (q 8)), (1, .int v1), (2, .int v2)] [] := by
  obtain ⟨hX, hT, hF⟩ := id h
  unfold fX8_findStarts_b115 at hf
  refine a_iinc (v := v2 + 1) (lv' := [(2, .int (v2 + 1)), (0, .ref (q 8)), (1, .int v1)]) hX dX8_findStarts_115 2 rfl rfl (by decide) rfl rfl ?_
  refine a_goto (pc' := 4) hX dX8_findStarts_118 rfl ?_
  refine a_lv (lv' := [(0, .ref (q 8)), (1, .int v1), (2, .int (v2 + 1))]) [1, 2, 0] rfl ?_
  exact hk4 u v1 (v2 + 1) hf
def fX8_findStarts_l19b  (k4 : St → Int32 → Int32 → Option (Int32 × St)) (k19 : Int32 → Int32 → Option (Int32 × St)) (u : St) (v1 : Int32) (v2 : Int32) (v3 : Int32) (v4 : Int32) : Option (Int32 × St) := if gZ u 160 ≤ v4 then stI u 165 256 v2 v3 (fun u1 => if v3 = 0 then fX8_findStarts_b115 k4 u1 v1 v2 else (cl1 (fJ6_bitCount_0f7a4 v2) (fun x2 => nmI (jmax v1 x2) (fun x3 => fX8_findStarts_b115 k4 u1 x3 v2)))) else (nmI (v2 &&& (((1 : Int32) <<< (v4 &&& 31)) ^^^ (-1))) (fun x4 => if x4 = 0 then fX8_findStarts_b61 k4 k19 u v1 v2 v3 v4 else (ldI (gA u 164) 8 v4 (fun x5 => ldI (gA u 165) 256 x4 (fun x6 => if x5 &&& x6 = 0 then fX8_findStarts_b66 k4 k19 u v1 v2 v3 v4 0 else (fX8_findStarts_b61 k4 k19 u v1 v2 v3 v4))))))
theorem wX8_findStarts_l19b {X : Cx} {V : Vx} {q : Nat → Nat} {g : Nat → Nat} {ts : List Tx} {res : Int32 × St} (h : Run X cX8_findStarts 7 RX8 rmX8_findStarts V (some .int) (rEq (some (.int res.1)) (wC V q ts res.2))) (hE : EnvC V g) {u : St} {v1 : Int32} {v2 : Int32} {v3 : Int32} {v4 : Int32} {k4 : St → Int32 → Int32 → Option (Int32 × St)} (hk4 : ∀ (u : St) (v1 : Int32) (v2 : Int32), k4 u v1 v2 = some res → At X 7 0 0 (wC V q ts u) 4 [(0, .ref (q 8)), (1, .int v1), (2, .int v2)] []) {k19 : Int32 → Int32 → Option (Int32 × St)} (hk19 : ∀ (v3 : Int32) (v4 : Int32), k19 v3 v4 = some res → At X 7 0 0 (wC V q ts u) 19 [(0, .ref (q 8)), (1, .int v1), (2, .int v2), (3, .int v3), (4, .int v4)] []) (hf : fX8_findStarts_l19b  k4 k19 u v1 v2 v3 v4 = some res) : At X 7 0 0 (wC V q ts u) 19 [(0, .ref (q 8)), (1, .int v1), (2, .int v2), (3, .int v3), (4, .int v4)] [] := by
  obtain ⟨hX, hT, hF⟩ := id h
  unfold fX8_findStarts_l19b at hf
  refine a_iload hX dX8_findStarts_19 4 rfl rfl ?_
  refine a_aload_n hX dX8_findStarts_21 rfl 0 rfl rfl ?_
  refine gX8_0 hX F_X8_22 dX8_findStarts_22 rfl ?_
  refine a_icmp_ge (tgt := 95) hX dX8_findStarts_25 rfl rfl hf (fun hf => ?_) (fun hf => ?_)
  · refine a_aload_n hX dX8_findStarts_95 rfl 0 rfl rfl ?_
    refine gX8_5 hX F_X8_19 dX8_findStarts_96 rfl ?_
    refine a_iload_n hX dX8_findStarts_99 rfl 2 rfl rfl ?_
    refine a_iload_n hX dX8_findStarts_100 rfl 3 rfl rfl ?_
    refine sX8_5 hX dX8_findStarts_101 rfl hf (fun u1 hf => ?_)
    refine a_iload_n hX dX8_findStarts_102 rfl 3 rfl rfl ?_
    refine a_if_eq (tgt := 115) hX dX8_findStarts_103 rfl rfl hf (fun hf => ?_) (fun hf => ?_)
    · refine a_lv (lv' := [(0, .ref (q 8)), (1, .int v1), (2, .int v2)]) [0, 1, 2] rfl ?_
      exact wX8_findStarts_b115 h hE hk4 hf
    · refine a_iload_n hX dX8_findStarts_106 rfl 1 rfl rfl ?_
      refine a_iload_n hX dX8_findStarts_107 rfl 2 rfl rfl ?_
      obtain ⟨x2, hg2, hf⟩ := cl1_some hf
      refine a_cSpi (rest := [.int v1]) hX hE.1 (ctJ6_bitCount_0f7a4 hE.1 hg2) K_X8_39 ⟨rfl, rfl, by decide, by decide⟩ ⟨Nat.zero_le _, Nat.zero_le _⟩ (Nat.le_of_ble_eq_true rfl) dX8_findStarts_108 rfl rfl ?_
      refine a_jmax hX K_X8_57 (by decide) (Nat.le_of_ble_eq_true rfl) dX8_findStarts_111 rfl ?_
      refine a_nmI hf (fun x3 hf => ?_)
      refine a_istore_n (lv' := [(1, .int x3), (0, .ref (q 8)), (2, .int v2), (3, .int v3), (4, .int v4)]) hX dX8_findStarts_114 rfl (by decide) rfl rfl ?_
      refine a_lv (lv' := [(0, .ref (q 8)), (1, .int x3), (2, .int v2)]) [1, 0, 2] rfl ?_
      exact wX8_findStarts_b115 h hE hk4 hf
  · refine a_iload_n hX dX8_findStarts_28 rfl 2 rfl rfl ?_
    refine a_iconst (v := 1) hX dX8_findStarts_29 (by decide) rfl ?_
    refine a_iload hX dX8_findStarts_30 4 rfl rfl ?_
    refine a_ishl hX dX8_findStarts_32 rfl ?_
    refine a_iconst (v := (-1)) hX dX8_findStarts_33 (by decide) rfl ?_
    refine a_ixor hX dX8_findStarts_34 rfl ?_
    refine a_iand hX dX8_findStarts_35 rfl ?_
    refine a_nmI hf (fun x4 hf => ?_)
    refine a_istore (lv' := [(5, .int x4), (0, .ref (q 8)), (1, .int v1), (2, .int v2), (3, .int v3), (4, .int v4)]) hX dX8_findStarts_36 (by decide) rfl rfl ?_
    refine a_iload hX dX8_findStarts_38 0 rfl rfl ?_
    refine a_if_eq (tgt := 61) hX dX8_findStarts_40 rfl rfl hf (fun hf => ?_) (fun hf => ?_)
    · refine a_lv (lv' := [(0, .ref (q 8)), (1, .int v1), (2, .int v2), (3, .int v3), (4, .int v4)]) [1, 2, 3, 4, 5] rfl ?_
      exact wX8_findStarts_b61 h hE hk4 hk19 hf
    · refine a_aload_n hX dX8_findStarts_43 rfl 1 rfl rfl ?_
      refine gX8_4 hX F_X8_16 dX8_findStarts_44 rfl ?_
      refine a_iload hX dX8_findStarts_47 5 rfl rfl ?_
      refine lX8_4 hX dX8_findStarts_49 rfl hf (fun x5 hf => ?_)
      refine a_aload_n hX dX8_findStarts_50 rfl 1 rfl rfl ?_
      refine gX8_5 hX F_X8_19 dX8_findStarts_51 rfl ?_
      refine a_iload hX dX8_findStarts_54 0 rfl rfl ?_
      refine lX8_5 hX dX8_findStarts_56 rfl hf (fun x6 hf => ?_)
      refine a_iand hX dX8_findStarts_57 rfl ?_
      refine a_if_eq (tgt := 65) hX dX8_findStarts_58 rfl rfl hf (fun hf => ?_) (fun hf => ?_)
      · refine a_iconst (v := 0) hX dX8_findStarts_65 (by decide) rfl ?_
        refine a_lv (lv' := [(0, .ref (q 8)), (1, .int v1), (2, .int v2), (3, .int v3), (4, .int v4)]) [1, 2, 3, 4, 5] rfl ?_
        exact wX8_findStarts_b66 h hE hk4 hk19 hf
      · refine a_lv (lv' := [(0, .ref (q 8)), (1, .int v1), (2, .int v2), (3, .int v3), (4, .int v4)]) [1, 2, 3, 4, 5] rfl ?_
        exact wX8_findStarts_b61 h hE hk4 hk19 hf
def fX8_findStarts_l19  (k4 : St → Int32 → Int32 → Option (Int32 × St)) (u : St) (v1 : Int32) (v2 : Int32) : Nat → Int32 → Int32 → Option (Int32 × St)
  | 0, _, _ => none
  | m + 1, v3, v4 => fX8_findStarts_l19b  k4 (fX8_findStarts_l19  k4 u v1 v2 m) u v1 v2 v3 v4
theorem wX8_findStarts_l19 {X : Cx} {V : Vx} {q : Nat → Nat} {g : Nat → Nat} {ts : List Tx} {res : Int32 × St} (h : Run X cX8_findStarts 7 RX8 rmX8_findStarts V (some .int) (rEq (some (.int res.1)) (wC V q ts res.2))) (hE : EnvC V g) {u : St} {v1 : Int32} {v2 : Int32} {k4 : St → Int32 → Int32 → Option (Int32 × St)} (hk4 : ∀ (u : St) (v1 : Int32) (v2 : Int32), k4 u v1 v2 = some res → At X 7 0 0 (wC V q ts u) 4 [(0, .ref (q 8)), (1, .int v1), (2, .int v2)] []) : ∀ (m : Nat) (v3 : Int32) (v4 : Int32), fX8_findStarts_l19  k4 u v1 v2 m v3 v4 = some res → At X 7 0 0 (wC V q ts u) 19 [(0, .ref (q 8)), (1, .int v1), (2, .int v2), (3, .int v3), (4, .int v4)] [] := by
  intro m
  induction m with
  | zero => intro v3 v4 hf; cases hf
  | succ m ih => intro v3 v4 hf; exact wX8_findStarts_l19b h hE hk4 ih hf
def fX8_findStarts_l4b  (k4 : St → Int32 → Int32 → Option (Int32 × St)) (u : St) (v1 : Int32) (v2 : Int32) : Option (Int32 × St) := if (1 : Int32) <<< ((gZ u 160) &&& 31) ≤ v2 then some (v1, u) else (fX8_findStarts_l19 k4 u v1 v2 NF 0 0)
theorem wX8_findStarts_l4b {X : Cx} {V : Vx} {q : Nat → Nat} {g : Nat → Nat} {ts : List Tx} {res : Int32 × St} (h : Run X cX8_findStarts 7 RX8 rmX8_findStarts V (some .int) (rEq (some (.int res.1)) (wC V q ts res.2))) (hE : EnvC V g) {u : St} {v1 : Int32} {v2 : Int32} {k4 : St → Int32 → Int32 → Option (Int32 × St)} (hk4 : ∀ (u : St) (v1 : Int32) (v2 : Int32), k4 u v1 v2 = some res → At X 7 0 0 (wC V q ts u) 4 [(0, .ref (q 8)), (1, .int v1), (2, .int v2)] []) (hf : fX8_findStarts_l4b  k4 u v1 v2 = some res) : At X 7 0 0 (wC V q ts u) 4 [(0, .ref (q 8)), (1, .int v1), (2, .int v2)] [] := by
  obtain ⟨hX, hT, hF⟩ := id h
  unfold fX8_findStarts_l4b at hf
  refine a_iload_n hX dX8_findStarts_4 rfl 2 rfl rfl ?_
  refine a_iconst (v := 1) hX dX8_findStarts_5 (by decide) rfl ?_
  refine a_aload_n hX dX8_findStarts_6 rfl 0 rfl rfl ?_
  refine gX8_0 hX F_X8_22 dX8_findStarts_7 rfl ?_
  refine a_ishl hX dX8_findStarts_10 rfl ?_
  refine a_icmp_ge (tgt := 121) hX dX8_findStarts_11 rfl rfl hf (fun hf => ?_) (fun hf => ?_)
  · refine a_iload_n hX dX8_findStarts_121 rfl 1 rfl rfl ?_
    exact a_iret hX hT hF (r_iS (wf := (wC V q ts)) hf) dX8_findStarts_122
  · refine a_iconst (v := 0) hX dX8_findStarts_14 (by decide) rfl ?_
    refine a_istore_n (lv' := [(3, .int 0), (0, .ref (q 8)), (1, .int v1), (2, .int v2)]) hX dX8_findStarts_15 rfl (by decide) rfl rfl ?_
    refine a_iconst (v := 0) hX dX8_findStarts_16 (by decide) rfl ?_
    refine a_istore (lv' := [(4, .int 0), (3, .int 0), (0, .ref (q 8)), (1, .int v1), (2, .int v2)]) hX dX8_findStarts_17 (by decide) rfl rfl ?_
    refine a_lv (lv' := [(0, .ref (q 8)), (1, .int v1), (2, .int v2), (3, .int 0), (4, .int 0)]) [2, 3, 4, 1, 0] rfl ?_
    exact wX8_findStarts_l19 h hE hk4 NF 0 0 hf
def fX8_findStarts_l4    : Nat → St → Int32 → Int32 → Option (Int32 × St)
  | 0, _, _, _ => none
  | m + 1, u, v1, v2 => fX8_findStarts_l4b  (fX8_findStarts_l4    m) u v1 v2
theorem wX8_findStarts_l4 {X : Cx} {V : Vx} {q : Nat → Nat} {g : Nat → Nat} {ts : List Tx} {res : Int32 × St} (h : Run X cX8_findStarts 7 RX8 rmX8_findStarts V (some .int) (rEq (some (.int res.1)) (wC V q ts res.2))) (hE : EnvC V g)  : ∀ (m : Nat) (u : St) (v1 : Int32) (v2 : Int32), fX8_findStarts_l4    m u v1 v2 = some res → At X 7 0 0 (wC V q ts u) 4 [(0, .ref (q 8)), (1, .int v1), (2, .int v2)] [] := by
  intro m
  induction m with
  | zero => intro u v1 v2 hf; cases hf
  | succ m ih => intro u v1 v2 hf; exact wX8_findStarts_l4b h hE ih hf
def fX8_findStarts (u : St) : Option (Int32 × St) := fX8_findStarts_l4 NF u 0 1
theorem wX8_findStarts {X : Cx} {V : Vx} {q : Nat → Nat} {g : Nat → Nat} {ts : List Tx} {res : Int32 × St} (h : Run X cX8_findStarts 7 RX8 rmX8_findStarts V (some .int) (rEq (some (.int res.1)) (wC V q ts res.2))) (hE : EnvC V g) {u : St} (hf : fX8_findStarts u = some res) : At X 7 0 0 (wC V q ts u) 0 [(0, .ref (q 8))] [] := by
  obtain ⟨hX, hT, hF⟩ := id h
  unfold fX8_findStarts at hf
  refine a_iconst (v := 0) hX dX8_findStarts_0 (by decide) rfl ?_
  refine a_istore_n (lv' := [(1, .int 0), (0, .ref (q 8))]) hX dX8_findStarts_1 rfl (by decide) rfl rfl ?_
  refine a_iconst (v := 1) hX dX8_findStarts_2 (by decide) rfl ?_
  refine a_istore_n (lv' := [(2, .int 1), (1, .int 0), (0, .ref (q 8))]) hX dX8_findStarts_3 rfl (by decide) rfl rfl ?_
  refine a_lv (lv' := [(0, .ref (q 8)), (1, .int 0), (2, .int 1)]) [2, 1, 0] rfl ?_
  exact wX8_findStarts_l4 h hE NF u 0 1 hf
theorem ctX8_findStarts {V : Vx} {q : Nat → Nat} {u : St} {g : Nat → Nat} {ts : List Tx} {res : Int32 × St} (hE : EnvC V g)  (hf : fX8_findStarts u = some res) : Ct V yX8_findStarts (.code yX8_findStarts cX8_findStarts 7 (some .int)) rmX8_findStarts 0 0 [.ref (q 8)] (wC V q ts u) (rEq (some (.int res.1)) (wC V q ts res.2)) :=
  Ct_of (by decide) (Nat.le_of_ble_eq_true rfl) rfl (fun X hX hT _ hF => wX8_findStarts ⟨hX, hT, hF⟩ hE hf)
def rmJ6_numberOfTrailingZeros_0f7a4 : Room := { frames := 0, cells := 0, slots := 0, locals := 0 }
def fJ6_numberOfTrailingZeros_0f7a4_b74   (v0 : Int32) (v1 : Int32) : Option (Int32) := some (v1 + (jushr v0 1))
theorem wJ6_numberOfTrailingZeros_0f7a4_b74 {X : Cx} {V : Vx} {res : Int32} (h : Run X cJ6_numberOfTrailingZeros_0f7a4 2 RJ6 rmJ6_numberOfTrailingZeros_0f7a4 V (some .int) (rEq (some (.int res)) [])) (hE : ZOK (vZ V)) {v0 : Int32} {v1 : Int32} (hf : fJ6_numberOfTrailingZeros_0f7a4_b74   v0 v1 = some res) : At X 2 0 0 [] 74 [(0, .int v0), (1, .int v1)] [] := by
  obtain ⟨hX, hT, hF⟩ := id h
  unfold fJ6_numberOfTrailingZeros_0f7a4_b74 at hf
  refine a_iload_n hX dJ6_numberOfTrailingZeros_0f7a4_74 rfl 1 rfl rfl ?_
  refine a_iload_n hX dJ6_numberOfTrailingZeros_0f7a4_75 rfl 0 rfl rfl ?_
  refine a_iconst (v := 1) hX dJ6_numberOfTrailingZeros_0f7a4_76 (by decide) rfl ?_
  refine a_iushr hX dJ6_numberOfTrailingZeros_0f7a4_77 rfl ?_
  refine a_iadd hX dJ6_numberOfTrailingZeros_0f7a4_78 rfl ?_
  exact a_iret hX hT hF (r_i hf) dJ6_numberOfTrailingZeros_0f7a4_79
def fJ6_numberOfTrailingZeros_0f7a4_b62   (v0 : Int32) (v1 : Int32) : Option (Int32) := if v0 ≤ 4 then fJ6_numberOfTrailingZeros_0f7a4_b74 v0 v1 else (nmI (jushr v0 2) (fun x5 => fJ6_numberOfTrailingZeros_0f7a4_b74 x5 (v1 + 2)))
theorem wJ6_numberOfTrailingZeros_0f7a4_b62 {X : Cx} {V : Vx} {res : Int32} (h : Run X cJ6_numberOfTrailingZeros_0f7a4 2 RJ6 rmJ6_numberOfTrailingZeros_0f7a4 V (some .int) (rEq (some (.int res)) [])) (hE : ZOK (vZ V)) {v0 : Int32} {v1 : Int32} (hf : fJ6_numberOfTrailingZeros_0f7a4_b62   v0 v1 = some res) : At X 2 0 0 [] 62 [(0, .int v0), (1, .int v1)] [] := by
  obtain ⟨hX, hT, hF⟩ := id h
  unfold fJ6_numberOfTrailingZeros_0f7a4_b62 at hf
  refine a_iload_n hX dJ6_numberOfTrailingZeros_0f7a4_62 rfl 0 rfl rfl ?_
  refine a_iconst (v := 4) hX dJ6_numberOfTrailingZeros_0f7a4_63 (by decide) rfl ?_
  refine a_icmp_le (tgt := 74) hX dJ6_numberOfTrailingZeros_0f7a4_64 rfl rfl hf (fun hf => ?_) (fun hf => ?_)
  · exact wJ6_numberOfTrailingZeros_0f7a4_b74 h hE hf
  · refine a_iinc (v := v1 + 2) (lv' := [(1, .int (v1 + 2)), (0, .int v0)]) hX dJ6_numberOfTrailingZeros_0f7a4_67 1 rfl rfl (by decide) rfl rfl ?_
    refine a_iload_n hX dJ6_numberOfTrailingZeros_0f7a4_70 rfl 1 rfl rfl ?_
    refine a_iconst (v := 2) hX dJ6_numberOfTrailingZeros_0f7a4_71 (by decide) rfl ?_
    refine a_iushr hX dJ6_numberOfTrailingZeros_0f7a4_72 rfl ?_
    refine a_nmI hf (fun x5 hf => ?_)
    refine a_istore_n (lv' := [(0, .int x5), (1, .int (v1 + 2))]) hX dJ6_numberOfTrailingZeros_0f7a4_73 rfl (by decide) rfl rfl ?_
    exact wJ6_numberOfTrailingZeros_0f7a4_b74 h hE hf
def fJ6_numberOfTrailingZeros_0f7a4_b49   (v0 : Int32) (v1 : Int32) : Option (Int32) := if v0 ≤ 16 then fJ6_numberOfTrailingZeros_0f7a4_b62 v0 v1 else (nmI (jushr v0 4) (fun x4 => fJ6_numberOfTrailingZeros_0f7a4_b62 x4 (v1 + 4)))
theorem wJ6_numberOfTrailingZeros_0f7a4_b49 {X : Cx} {V : Vx} {res : Int32} (h : Run X cJ6_numberOfTrailingZeros_0f7a4 2 RJ6 rmJ6_numberOfTrailingZeros_0f7a4 V (some .int) (rEq (some (.int res)) [])) (hE : ZOK (vZ V)) {v0 : Int32} {v1 : Int32} (hf : fJ6_numberOfTrailingZeros_0f7a4_b49   v0 v1 = some res) : At X 2 0 0 [] 49 [(0, .int v0), (1, .int v1)] [] := by
  obtain ⟨hX, hT, hF⟩ := id h
  unfold fJ6_numberOfTrailingZeros_0f7a4_b49 at hf
  refine a_iload_n hX dJ6_numberOfTrailingZeros_0f7a4_49 rfl 0 rfl rfl ?_
  refine a_bipush (v := 16) hX dJ6_numberOfTrailingZeros_0f7a4_50 (by decide) rfl ?_
  refine a_icmp_le (tgt := 62) hX dJ6_numberOfTrailingZeros_0f7a4_52 rfl rfl hf (fun hf => ?_) (fun hf => ?_)
  · exact wJ6_numberOfTrailingZeros_0f7a4_b62 h hE hf
  · refine a_iinc (v := v1 + 4) (lv' := [(1, .int (v1 + 4)), (0, .int v0)]) hX dJ6_numberOfTrailingZeros_0f7a4_55 1 rfl rfl (by decide) rfl rfl ?_
    refine a_iload_n hX dJ6_numberOfTrailingZeros_0f7a4_58 rfl 1 rfl rfl ?_
    refine a_iconst (v := 4) hX dJ6_numberOfTrailingZeros_0f7a4_59 (by decide) rfl ?_
    refine a_iushr hX dJ6_numberOfTrailingZeros_0f7a4_60 rfl ?_
    refine a_nmI hf (fun x4 hf => ?_)
    refine a_istore_n (lv' := [(0, .int x4), (1, .int (v1 + 4))]) hX dJ6_numberOfTrailingZeros_0f7a4_61 rfl (by decide) rfl rfl ?_
    exact wJ6_numberOfTrailingZeros_0f7a4_b62 h hE hf
def fJ6_numberOfTrailingZeros_0f7a4_b34   (v0 : Int32) (v1 : Int32) : Option (Int32) := if v0 ≤ 256 then fJ6_numberOfTrailingZeros_0f7a4_b49 v0 v1 else (nmI (jushr v0 8) (fun x3 => fJ6_numberOfTrailingZeros_0f7a4_b49 x3 (v1 + 8)))
theorem wJ6_numberOfTrailingZeros_0f7a4_b34 {X : Cx} {V : Vx} {res : Int32} (h : Run X cJ6_numberOfTrailingZeros_0f7a4 2 RJ6 rmJ6_numberOfTrailingZeros_0f7a4 V (some .int) (rEq (some (.int res)) [])) (hE : ZOK (vZ V)) {v0 : Int32} {v1 : Int32} (hf : fJ6_numberOfTrailingZeros_0f7a4_b34   v0 v1 = some res) : At X 2 0 0 [] 34 [(0, .int v0), (1, .int v1)] [] := by
  obtain ⟨hX, hT, hF⟩ := id h
  unfold fJ6_numberOfTrailingZeros_0f7a4_b34 at hf
  refine a_iload_n hX dJ6_numberOfTrailingZeros_0f7a4_34 rfl 0 rfl rfl ?_
  refine a_sipush (v := 256) hX dJ6_numberOfTrailingZeros_0f7a4_35 (by decide) rfl ?_
  refine a_icmp_le (tgt := 49) hX dJ6_numberOfTrailingZeros_0f7a4_38 rfl rfl hf (fun hf => ?_) (fun hf => ?_)
  · exact wJ6_numberOfTrailingZeros_0f7a4_b49 h hE hf
  · refine a_iinc (v := v1 + 8) (lv' := [(1, .int (v1 + 8)), (0, .int v0)]) hX dJ6_numberOfTrailingZeros_0f7a4_41 1 rfl rfl (by decide) rfl rfl ?_
    refine a_iload_n hX dJ6_numberOfTrailingZeros_0f7a4_44 rfl 1 rfl rfl ?_
    refine a_bipush (v := 8) hX dJ6_numberOfTrailingZeros_0f7a4_45 (by decide) rfl ?_
    refine a_iushr hX dJ6_numberOfTrailingZeros_0f7a4_47 rfl ?_
    refine a_nmI hf (fun x3 hf => ?_)
    refine a_istore_n (lv' := [(0, .int x3), (1, .int (v1 + 8))]) hX dJ6_numberOfTrailingZeros_0f7a4_48 rfl (by decide) rfl rfl ?_
    exact wJ6_numberOfTrailingZeros_0f7a4_b49 h hE hf
def fJ6_numberOfTrailingZeros_0f7a4 (v0 : Int32) : Option (Int32) := nmI ((v0 ^^^ (-1)) &&& (v0 - 1)) (fun x1 => if 0 < x1 then if x1 ≤ 65536 then fJ6_numberOfTrailingZeros_0f7a4_b34 x1 1 else (nmI (jushr x1 16) (fun x2 => fJ6_numberOfTrailingZeros_0f7a4_b34 x2 (1 + 16))) else (some (x1 &&& 32)))
theorem wJ6_numberOfTrailingZeros_0f7a4 {X : Cx} {V : Vx} {res : Int32} (h : Run X cJ6_numberOfTrailingZeros_0f7a4 2 RJ6 rmJ6_numberOfTrailingZeros_0f7a4 V (some .int) (rEq (some (.int res)) [])) (hE : ZOK (vZ V)) {v0 : Int32} (hf : fJ6_numberOfTrailingZeros_0f7a4 v0 = some res) : At X 2 0 0 [] 0 [(0, .int v0)] [] := by
  obtain ⟨hX, hT, hF⟩ := id h
  unfold fJ6_numberOfTrailingZeros_0f7a4 at hf
  refine a_iload_n hX dJ6_numberOfTrailingZeros_0f7a4_0 rfl 0 rfl rfl ?_
  refine a_iconst (v := (-1)) hX dJ6_numberOfTrailingZeros_0f7a4_1 (by decide) rfl ?_
  refine a_ixor hX dJ6_numberOfTrailingZeros_0f7a4_2 rfl ?_
  refine a_iload_n hX dJ6_numberOfTrailingZeros_0f7a4_3 rfl 0 rfl rfl ?_
  refine a_iconst (v := 1) hX dJ6_numberOfTrailingZeros_0f7a4_4 (by decide) rfl ?_
  refine a_isub hX dJ6_numberOfTrailingZeros_0f7a4_5 rfl ?_
  refine a_iand hX dJ6_numberOfTrailingZeros_0f7a4_6 rfl ?_
  refine a_nmI hf (fun x1 hf => ?_)
  refine a_istore_n (lv' := [(0, .int x1)]) hX dJ6_numberOfTrailingZeros_0f7a4_7 rfl (by decide) rfl rfl ?_
  refine a_iload_n hX dJ6_numberOfTrailingZeros_0f7a4_8 rfl 0 rfl rfl ?_
  refine a_if_gt (tgt := 17) hX dJ6_numberOfTrailingZeros_0f7a4_9 rfl rfl hf (fun hf => ?_) (fun hf => ?_)
  · refine a_iconst (v := 1) hX dJ6_numberOfTrailingZeros_0f7a4_17 (by decide) rfl ?_
    refine a_istore_n (lv' := [(1, .int 1), (0, .int x1)]) hX dJ6_numberOfTrailingZeros_0f7a4_18 rfl (by decide) rfl rfl ?_
    refine a_iload_n hX dJ6_numberOfTrailingZeros_0f7a4_19 rfl 1 rfl rfl ?_
    refine a_ldcw hX dJ6_numberOfTrailingZeros_0f7a4_20 N_J6_264 rfl ?_
    refine a_icmp_le (tgt := 34) hX dJ6_numberOfTrailingZeros_0f7a4_23 rfl rfl hf (fun hf => ?_) (fun hf => ?_)
    · refine a_lv (lv' := [(0, .int x1), (1, .int 1)]) [1, 0] rfl ?_
      exact wJ6_numberOfTrailingZeros_0f7a4_b34 h hE hf
    · refine a_iinc (v := 1 + 16) (lv' := [(1, .int (1 + 16)), (0, .int x1)]) hX dJ6_numberOfTrailingZeros_0f7a4_26 0 rfl rfl (by decide) rfl rfl ?_
      refine a_iload_n hX dJ6_numberOfTrailingZeros_0f7a4_29 rfl 1 rfl rfl ?_
      refine a_bipush (v := 16) hX dJ6_numberOfTrailingZeros_0f7a4_30 (by decide) rfl ?_
      refine a_iushr hX dJ6_numberOfTrailingZeros_0f7a4_32 rfl ?_
      refine a_nmI hf (fun x2 hf => ?_)
      refine a_istore_n (lv' := [(0, .int x2), (1, .int (1 + 16))]) hX dJ6_numberOfTrailingZeros_0f7a4_33 rfl (by decide) rfl rfl ?_
      exact wJ6_numberOfTrailingZeros_0f7a4_b34 h hE hf
  · refine a_iload_n hX dJ6_numberOfTrailingZeros_0f7a4_12 rfl 0 rfl rfl ?_
    refine a_bipush (v := 32) hX dJ6_numberOfTrailingZeros_0f7a4_13 (by decide) rfl ?_
    refine a_iand hX dJ6_numberOfTrailingZeros_0f7a4_15 rfl ?_
    exact a_iret hX hT hF (r_i hf) dJ6_numberOfTrailingZeros_0f7a4_16
theorem ctJ6_numberOfTrailingZeros_0f7a4 {V : Vx} {res : Int32} (hE : ZOK (vZ V)) {v0 : Int32} (hf : fJ6_numberOfTrailingZeros_0f7a4 v0 = some res) : Ct V yJ6_numberOfTrailingZeros_0f7a4 (.code yJ6_numberOfTrailingZeros_0f7a4 cJ6_numberOfTrailingZeros_0f7a4 2 (some .int)) rmJ6_numberOfTrailingZeros_0f7a4 0 0 [.int v0] [] (rEq (some (.int res)) []) :=
  Ct_of (by decide) (Nat.le_of_ble_eq_true rfl) rfl (fun X hX hT _ hF => wJ6_numberOfTrailingZeros_0f7a4 ⟨hX, hT, hF⟩ hE hf)
def rmX8_leastOf : Room := { frames := 1, cells := 0, slots := 0, locals := 21 }
def fX8_leastOf_l15b (u : St) (k15 : Int32 → Int32 → Int32 → Int32 → Option (Int32)) (v2 : Int32) (v3 : Int32) (v4 : Int32) (v5 : Int32) : Option (Int32) := if gZ u 160 ≤ v5 then some v4 else (if v3 = 0 then some v4 else (cl1 (fJ6_numberOfTrailingZeros_0f7a4 v3) (fun x2 => nmI ((v4 <<< (3 &&& 31)) ||| x2) (fun x3 => nmI (v2 &&& (((1 : Int32) <<< (x2 &&& 31)) ^^^ (-1))) (fun x4 => ldI (gA u 164) 8 x2 (fun x5 => ldI (gA u 165) 256 x4 (fun x6 => nmI (x5 &&& x6) (fun x7 => k15 x4 x7 x3 (v5 + 1)))))))))
theorem wX8_leastOf_l15b {X : Cx} {V : Vx} {q : Nat → Nat} {g : Nat → Nat} {ts : List Tx} {u : St} {res : Int32} (h : Run X cX8_leastOf 7 RX8 rmX8_leastOf V (some .int) (rEq (some (.int res)) (wC V q ts u))) (hE : EnvC V g) {v2 : Int32} {v3 : Int32} {v4 : Int32} {v5 : Int32} {k15 : Int32 → Int32 → Int32 → Int32 → Option (Int32)} (hk15 : ∀ (v2 : Int32) (v3 : Int32) (v4 : Int32) (v5 : Int32), k15 v2 v3 v4 v5 = some res → At X 7 0 0 (wC V q ts u) 15 [(0, .ref (q 8)), (2, .int v2), (3, .int v3), (4, .int v4), (5, .int v5)] []) (hf : fX8_leastOf_l15b u k15 v2 v3 v4 v5 = some res) : At X 7 0 0 (wC V q ts u) 15 [(0, .ref (q 8)), (2, .int v2), (3, .int v3), (4, .int v4), (5, .int v5)] [] := by
  obtain ⟨hX, hT, hF⟩ := id h
  unfold fX8_leastOf_l15b at hf
  refine a_iload hX dX8_leastOf_15 4 rfl rfl ?_
  refine a_aload_n hX dX8_leastOf_17 rfl 0 rfl rfl ?_
  refine gX8_0 hX F_X8_22 dX8_leastOf_18 rfl ?_
  refine a_icmp_ge (tgt := 73) hX dX8_leastOf_21 rfl rfl hf (fun hf => ?_) (fun hf => ?_)
  · refine a_iload hX dX8_leastOf_73 3 rfl rfl ?_
    exact a_iret hX hT hF (r_i hf) dX8_leastOf_75
  · refine a_iload_n hX dX8_leastOf_24 rfl 2 rfl rfl ?_
    refine a_if_eq (tgt := 73) hX dX8_leastOf_25 rfl rfl hf (fun hf => ?_) (fun hf => ?_)
    · refine a_iload hX dX8_leastOf_73 3 rfl rfl ?_
      exact a_iret hX hT hF (r_i hf) dX8_leastOf_75
    · refine a_iload_n hX dX8_leastOf_28 rfl 2 rfl rfl ?_
      obtain ⟨x2, hg2, hf⟩ := cl1_some hf
      refine a_cSpi (rest := []) hX hE.1 (ctJ6_numberOfTrailingZeros_0f7a4 hE.1 hg2) K_X8_63 ⟨rfl, rfl, by decide, by decide⟩ ⟨Nat.zero_le _, Nat.zero_le _⟩ (Nat.le_of_ble_eq_true rfl) dX8_leastOf_29 rfl rfl ?_
      refine a_istore (lv' := [(6, .int x2), (0, .ref (q 8)), (2, .int v2), (3, .int v3), (4, .int v4), (5, .int v5)]) hX dX8_leastOf_32 (by decide) rfl rfl ?_
      refine a_iload hX dX8_leastOf_34 4 rfl rfl ?_
      refine a_iconst (v := 3) hX dX8_leastOf_36 (by decide) rfl ?_
      refine a_ishl hX dX8_leastOf_37 rfl ?_
      refine a_iload hX dX8_leastOf_38 0 rfl rfl ?_
      refine a_ior hX dX8_leastOf_40 rfl ?_
      refine a_nmI hf (fun x3 hf => ?_)
      refine a_istore (lv' := [(4, .int x3), (6, .int x2), (0, .ref (q 8)), (2, .int v2), (3, .int v3), (5, .int v5)]) hX dX8_leastOf_41 (by decide) rfl rfl ?_
      refine a_iload_n hX dX8_leastOf_43 rfl 3 rfl rfl ?_
      refine a_iconst (v := 1) hX dX8_leastOf_44 (by decide) rfl ?_
      refine a_iload hX dX8_leastOf_45 1 rfl rfl ?_
      refine a_ishl hX dX8_leastOf_47 rfl ?_
      refine a_iconst (v := (-1)) hX dX8_leastOf_48 (by decide) rfl ?_
      refine a_ixor hX dX8_leastOf_49 rfl ?_
      refine a_iand hX dX8_leastOf_50 rfl ?_
      refine a_nmI hf (fun x4 hf => ?_)
      refine a_istore_n (lv' := [(2, .int x4), (4, .int x3), (6, .int x2), (0, .ref (q 8)), (3, .int v3), (5, .int v5)]) hX dX8_leastOf_51 rfl (by decide) rfl rfl ?_
      refine a_aload_n hX dX8_leastOf_52 rfl 3 rfl rfl ?_
      refine gX8_4 hX F_X8_16 dX8_leastOf_53 rfl ?_
      refine a_iload hX dX8_leastOf_56 2 rfl rfl ?_
      refine lX8_4 hX dX8_leastOf_58 rfl hf (fun x5 hf => ?_)
      refine a_aload_n hX dX8_leastOf_59 rfl 3 rfl rfl ?_
      refine gX8_5 hX F_X8_19 dX8_leastOf_60 rfl ?_
      refine a_iload_n hX dX8_leastOf_63 rfl 0 rfl rfl ?_
      refine lX8_5 hX dX8_leastOf_64 rfl hf (fun x6 hf => ?_)
      refine a_iand hX dX8_leastOf_65 rfl ?_
      refine a_nmI hf (fun x7 hf => ?_)
      refine a_istore_n (lv' := [(3, .int x7), (2, .int x4), (4, .int x3), (6, .int x2), (0, .ref (q 8)), (5, .int v5)]) hX dX8_leastOf_66 rfl (by decide) rfl rfl ?_
      refine a_iinc (v := v5 + 1) (lv' := [(5, .int (v5 + 1)), (3, .int x7), (2, .int x4), (4, .int x3), (6, .int x2), (0, .ref (q 8))]) hX dX8_leastOf_67 5 rfl rfl (by decide) rfl rfl ?_
      refine a_goto (pc' := 15) hX dX8_leastOf_70 rfl ?_
      refine a_lv (lv' := [(0, .ref (q 8)), (2, .int x4), (3, .int x7), (4, .int x3), (5, .int (v5 + 1))]) [5, 2, 1, 3, 0] rfl ?_
      exact hk15 x4 x7 x3 (v5 + 1) hf
def fX8_leastOf_l15 (u : St)   : Nat → Int32 → Int32 → Int32 → Int32 → Option (Int32)
  | 0, _, _, _, _ => none
  | m + 1, v2, v3, v4, v5 => fX8_leastOf_l15b u (fX8_leastOf_l15 u   m) v2 v3 v4 v5
theorem wX8_leastOf_l15 {X : Cx} {V : Vx} {q : Nat → Nat} {g : Nat → Nat} {ts : List Tx} {u : St} {res : Int32} (h : Run X cX8_leastOf 7 RX8 rmX8_leastOf V (some .int) (rEq (some (.int res)) (wC V q ts u))) (hE : EnvC V g)  : ∀ (m : Nat) (v2 : Int32) (v3 : Int32) (v4 : Int32) (v5 : Int32), fX8_leastOf_l15 u   m v2 v3 v4 v5 = some res → At X 7 0 0 (wC V q ts u) 15 [(0, .ref (q 8)), (2, .int v2), (3, .int v3), (4, .int v4), (5, .int v5)] [] := by
  intro m
  induction m with
  | zero => intro v2 v3 v4 v5 hf; cases hf
  | succ m ih => intro v2 v3 v4 v5 hf; exact wX8_leastOf_l15b h hE ih hf
def fX8_leastOf (u : St) (v1 : Int32) : Option (Int32) := ldI (gA u 165) 256 v1 (fun x1 => fX8_leastOf_l15 u NF v1 x1 0 0)
theorem wX8_leastOf {X : Cx} {V : Vx} {q : Nat → Nat} {g : Nat → Nat} {ts : List Tx} {u : St} {res : Int32} (h : Run X cX8_leastOf 7 RX8 rmX8_leastOf V (some .int) (rEq (some (.int res)) (wC V q ts u))) (hE : EnvC V g) {v1 : Int32} (hf : fX8_leastOf u v1 = some res) : At X 7 0 0 (wC V q ts u) 0 [(0, .ref (q 8)), (1, .int v1)] [] := by
  obtain ⟨hX, hT, hF⟩ := id h
  unfold fX8_leastOf at hf
  refine a_iload_n hX dX8_leastOf_0 rfl 1 rfl rfl ?_
  refine a_istore_n (lv' := [(2, .int v1), (0, .ref (q 8)), (1, .int v1)]) hX dX8_leastOf_1 rfl (by decide) rfl rfl ?_
  refine a_aload_n hX dX8_leastOf_2 rfl 1 rfl rfl ?_
  refine gX8_5 hX F_X8_19 dX8_leastOf_3 rfl ?_
  refine a_iload_n hX dX8_leastOf_6 rfl 2 rfl rfl ?_
  refine lX8_5 hX dX8_leastOf_7 rfl hf (fun x1 hf => ?_)
  refine a_istore_n (lv' := [(3, .int x1), (2, .int v1), (0, .ref (q 8)), (1, .int v1)]) hX dX8_leastOf_8 rfl (by decide) rfl rfl ?_
  refine a_iconst (v := 0) hX dX8_leastOf_9 (by decide) rfl ?_
  refine a_istore (lv' := [(4, .int 0), (3, .int x1), (2, .int v1), (0, .ref (q 8)), (1, .int v1)]) hX dX8_leastOf_10 (by decide) rfl rfl ?_
  refine a_iconst (v := 0) hX dX8_leastOf_12 (by decide) rfl ?_
  refine a_istore (lv' := [(5, .int 0), (4, .int 0), (3, .int x1), (2, .int v1), (0, .ref (q 8)), (1, .int v1)]) hX dX8_leastOf_13 (by decide) rfl rfl ?_
  refine a_lv (lv' := [(0, .ref (q 8)), (2, .int v1), (3, .int x1), (4, .int 0), (5, .int 0)]) [4, 3, 2, 1, 0] rfl ?_
  exact wX8_leastOf_l15 h hE NF v1 x1 0 0 hf
theorem ctX8_leastOf {V : Vx} {q : Nat → Nat} {u : St} {g : Nat → Nat} {ts : List Tx} {res : Int32} (hE : EnvC V g) {v1 : Int32} (hf : fX8_leastOf u v1 = some res) : Ct V yX8_leastOf (.code yX8_leastOf cX8_leastOf 7 (some .int)) rmX8_leastOf 0 0 [.ref (q 8), .int v1] (wC V q ts u) (rEq (some (.int res)) (wC V q ts u)) :=
  Ct_of (by decide) (Nat.le_of_ble_eq_true rfl) rfl (fun X hX hT _ hF => wX8_leastOf ⟨hX, hT, hF⟩ hE hf)
def rmX8_findRow : Room := { frames := 2, cells := 0, slots := 0, locals := 56 }
def fX8_findRow_b76  (k18 : St → Int32 → Int32 → Option (Int32 × St)) (u : St) (v1 : Int32) (v2 : Int32) (v3 : Int32) : Option (Int32 × St) := k18 u v2 (v3 + 1)
theorem wX8_findRow_b76 {X : Cx} {V : Vx} {q : Nat → Nat} {g : Nat → Nat} {ts : List Tx} {res : Int32 × St} (h : Run X cX8_findRow 5 RX8 rmX8_findRow V (some .int) (rEq (some (.int res.1)) (wC V q ts res.2))) (hE : EnvC V g) {u : St} {v1 : Int32} {v2 : Int32} {v3 : Int32} {k18 : St → Int32 → Int32 → Option (Int32 × St)} (hk18 : ∀ (u : St) (v2 : Int32) (v3 : Int32), k18 u v2 v3 = some res → At X 5 0 0 (wC V q ts u) 18 [(0, .ref (q 8)), (1, .int v1), (2, .int v2), (3, .int v3)] []) (hf : fX8_findRow_b76  k18 u v1 v2 v3 = some res) : At X 5 0 0 (wC V q ts u) 76 [(0, .ref (q 8)), (1, .int v1), (2, .int v2), (3, .int v3)] [] := by
  obtain ⟨hX, hT, hF⟩ := id h
  unfold fX8_findRow_b76 at hf
  refine a_iinc (v := v3 + 1) (lv' := [(3, .int (v3 + 1)), (0, .ref (q 8)), (1, .int v1), (2, .int v2)]) hX dX8_findRow_76 3 rfl rfl (by decide) rfl rfl ?_
  refine a_goto (pc' := 18) hX dX8_findRow_79 rfl ?_
  refine a_lv (lv' := [(0, .ref (q 8)), (1, .int v1), (2, .int v2), (3, .int (v3 + 1))]) [1, 2, 3, 0] rfl ?_
  exact hk18 u v2 (v3 + 1) hf
def fX8_findRow_b74  (k18 : St → Int32 → Int32 → Option (Int32 × St)) (u : St) (v1 : Int32) (v3 : Int32) : Option (Int32 × St) := fX8_findRow_b76 k18 u v1 0 v3
theorem wX8_findRow_b74 {X : Cx} {V : Vx} {q : Nat → Nat} {g : Nat → Nat} {ts : List Tx} {res : Int32 × St} (h : Run X cX8_findRow 5 RX8 rmX8_findRow V (some .int) (rEq (some (.int res.1)) (wC V q ts res.2))) (hE : EnvC V g) {u : St} {v1 : Int32} {v3 : Int32} {k18 : St → Int32 → Int32 → Option (Int32 × St)} (hk18 : ∀ (u : St) (v2 : Int32) (v3 : Int32), k18 u v2 v3 = some res → At X 5 0 0 (wC V q ts u) 18 [(0, .ref (q 8)), (1, .int v1), (2, .int v2), (3, .int v3)] []) (hf : fX8_findRow_b74  k18 u v1 v3 = some res) : At X 5 0 0 (wC V q ts u) 74 [(0, .ref (q 8)), (1, .int v1), (3, .int v3)] [] := by
  obtain ⟨hX, hT, hF⟩ := id h
  unfold fX8_findRow_b74 at hf
  refine a_iconst (v := 0) hX dX8_findRow_74 (by decide) rfl ?_
  refine a_istore_n (lv' := [(2, .int 0), (0, .ref (q 8)), (1, .int v1), (3, .int v3)]) hX dX8_findRow_75 rfl (by decide) rfl rfl ?_
  refine a_lv (lv' := [(0, .ref (q 8)), (1, .int v1), (2, .int 0), (3, .int v3)]) [1, 2, 0, 3] rfl ?_
  exact wX8_findRow_b76 h hE hk18 hf
def fX8_findRow_b68  (k18 : St → Int32 → Int32 → Option (Int32 × St)) (u : St) (v1 : Int32) (v3 : Int32) (v4 : Int32) : Option (Int32 × St) := nmS (setZ u 166 v4) (fun u9 => fX8_findRow_b74 k18 u9 v1 v3)
theorem wX8_findRow_b68 {X : Cx} {V : Vx} {q : Nat → Nat} {g : Nat → Nat} {ts : List Tx} {res : Int32 × St} (h : Run X cX8_findRow 5 RX8 rmX8_findRow V (some .int) (rEq (some (.int res.1)) (wC V q ts res.2))) (hE : EnvC V g) {u : St} {v1 : Int32} {v3 : Int32} {v4 : Int32} {k18 : St → Int32 → Int32 → Option (Int32 × St)} (hk18 : ∀ (u : St) (v2 : Int32) (v3 : Int32), k18 u v2 v3 = some res → At X 5 0 0 (wC V q ts u) 18 [(0, .ref (q 8)), (1, .int v1), (2, .int v2), (3, .int v3)] []) (hf : fX8_findRow_b68  k18 u v1 v3 v4 = some res) : At X 5 0 0 (wC V q ts u) 68 [(0, .ref (q 8)), (1, .int v1), (3, .int v3), (4, .int v4)] [] := by
  obtain ⟨hX, hT, hF⟩ := id h
  unfold fX8_findRow_b68 at hf
  refine a_aload_n hX dX8_findRow_68 rfl 0 rfl rfl ?_
  refine a_iload hX dX8_findRow_69 3 rfl rfl ?_
  refine pX8_6 hX F_X8_29 dX8_findRow_71 rfl hf (fun u9 hf => ?_)
  refine a_lv (lv' := [(0, .ref (q 8)), (1, .int v1), (3, .int v3)]) [0, 1, 2] rfl ?_
  exact wX8_findRow_b74 h hE hk18 hf
def fX8_findRow_l18b  (k18 : St → Int32 → Int32 → Option (Int32 × St)) (u : St) (v1 : Int32) (v2 : Int32) (v3 : Int32) : Option (Int32 × St) := if (1 : Int32) <<< ((gZ u 160) &&& 31) ≤ v3 then some (v1, u) else (ldI (gA u 165) 256 v3 (fun x6 => if x6 = 0 then fX8_findRow_b76 k18 u v1 v2 v3 else (cl1 (fJ6_bitCount_0f7a4 v3) (fun x7 => if x7 = v1 then cl1 (fX8_leastOf u v3) (fun x8 => if v2 = 0 then if gZ u 166 ≤ x8 then fX8_findRow_b74 k18 u v1 v3 else (fX8_findRow_b68 k18 u v1 v3 x8) else (fX8_findRow_b68 k18 u v1 v3 x8)) else (fX8_findRow_b76 k18 u v1 v2 v3)))))
theorem wX8_findRow_l18b {X : Cx} {V : Vx} {q : Nat → Nat} {g : Nat → Nat} {ts : List Tx} {res : Int32 × St} (h : Run X cX8_findRow 5 RX8 rmX8_findRow V (some .int) (rEq (some (.int res.1)) (wC V q ts res.2))) (hE : EnvC V g) {u : St} {v1 : Int32} {v2 : Int32} {v3 : Int32} {k18 : St → Int32 → Int32 → Option (Int32 × St)} (hk18 : ∀ (u : St) (v2 : Int32) (v3 : Int32), k18 u v2 v3 = some res → At X 5 0 0 (wC V q ts u) 18 [(0, .ref (q 8)), (1, .int v1), (2, .int v2), (3, .int v3)] []) (hf : fX8_findRow_l18b  k18 u v1 v2 v3 = some res) : At X 5 0 0 (wC V q ts u) 18 [(0, .ref (q 8)), (1, .int v1), (2, .int v2), (3, .int v3)] [] := by
  obtain ⟨hX, hT, hF⟩ := id h
  unfold fX8_findRow_l18b at hf
  refine a_iload_n hX dX8_findRow_18 rfl 3 rfl rfl ?_
  refine a_iconst (v := 1) hX dX8_findRow_19 (by decide) rfl ?_
  refine a_aload_n hX dX8_findRow_20 rfl 0 rfl rfl ?_
  refine gX8_0 hX F_X8_22 dX8_findRow_21 rfl ?_
  refine a_ishl hX dX8_findRow_24 rfl ?_
  refine a_icmp_ge (tgt := 82) hX dX8_findRow_25 rfl rfl hf (fun hf => ?_) (fun hf => ?_)
  · refine a_iload_n hX dX8_findRow_82 rfl 1 rfl rfl ?_
    exact a_iret hX hT hF (r_iS (wf := (wC V q ts)) hf) dX8_findRow_83
  · refine a_aload_n hX dX8_findRow_28 rfl 0 rfl rfl ?_
    refine gX8_5 hX F_X8_19 dX8_findRow_29 rfl ?_
    refine a_iload_n hX dX8_findRow_32 rfl 3 rfl rfl ?_
    refine lX8_5 hX dX8_findRow_33 rfl hf (fun x6 hf => ?_)
    refine a_if_eq (tgt := 76) hX dX8_findRow_34 rfl rfl hf (fun hf => ?_) (fun hf => ?_)
    · exact wX8_findRow_b76 h hE hk18 hf
    · refine a_iload_n hX dX8_findRow_37 rfl 3 rfl rfl ?_
      obtain ⟨x7, hg7, hf⟩ := cl1_some hf
      refine a_cSpi (rest := []) hX hE.1 (ctJ6_bitCount_0f7a4 hE.1 hg7) K_X8_39 ⟨rfl, rfl, by decide, by decide⟩ ⟨Nat.zero_le _, Nat.zero_le _⟩ (Nat.le_of_ble_eq_true rfl) dX8_findRow_38 rfl rfl ?_
      refine a_iload_n hX dX8_findRow_41 rfl 1 rfl rfl ?_
      refine a_icmp_eq (tgt := 48) hX dX8_findRow_42 rfl rfl hf (fun hf => ?_) (fun hf => ?_)
      · refine a_aload_n hX dX8_findRow_48 rfl 0 rfl rfl ?_
        refine a_iload_n hX dX8_findRow_49 rfl 3 rfl rfl ?_
        obtain ⟨x8, hg8, hf⟩ := cl1_some hf
        refine a_cVsi (q0 := 8) (rest := []) hX hE.1 (ctX8_leastOf (q := q) hE hg8) K_X8_45 ⟨rfl, rfl⟩ ⟨rfl, rfl, by decide, by decide⟩ ⟨Nat.zero_le _, Nat.zero_le _⟩ (Nat.le_of_ble_eq_true rfl) dX8_findRow_50 rfl rfl ?_
        refine a_istore (lv' := [(4, .int x8), (0, .ref (q 8)), (1, .int v1), (2, .int v2), (3, .int v3)]) hX dX8_findRow_53 (by decide) rfl rfl ?_
        refine a_iload_n hX dX8_findRow_55 rfl 3 rfl rfl ?_
        refine a_if_ne (tgt := 68) hX dX8_findRow_56 rfl rfl hf (fun hf => ?_) (fun hf => ?_)
        · refine a_lv (lv' := [(0, .ref (q 8)), (1, .int v1), (3, .int v3), (4, .int x8)]) [1, 2, 4, 0] rfl ?_
          exact wX8_findRow_b68 h hE hk18 hf
        · refine a_iload hX dX8_findRow_59 0 rfl rfl ?_
          refine a_aload_n hX dX8_findRow_61 rfl 1 rfl rfl ?_
          refine gX8_6 hX F_X8_29 dX8_findRow_62 rfl ?_
          refine a_icmp_ge (tgt := 74) hX dX8_findRow_65 rfl rfl hf (fun hf => ?_) (fun hf => ?_)
          · refine a_lv (lv' := [(0, .ref (q 8)), (1, .int v1), (3, .int v3)]) [1, 2, 4] rfl ?_
            exact wX8_findRow_b74 h hE hk18 hf
          · refine a_lv (lv' := [(0, .ref (q 8)), (1, .int v1), (3, .int v3), (4, .int x8)]) [1, 2, 4, 0] rfl ?_
            exact wX8_findRow_b68 h hE hk18 hf
      · refine a_goto (pc' := 76) hX dX8_findRow_45 rfl ?_
        exact wX8_findRow_b76 h hE hk18 hf
def fX8_findRow_l18   (v1 : Int32) : Nat → St → Int32 → Int32 → Option (Int32 × St)
  | 0, _, _, _ => none
  | m + 1, u, v2, v3 => fX8_findRow_l18b  (fX8_findRow_l18   v1 m) u v1 v2 v3
theorem wX8_findRow_l18 {X : Cx} {V : Vx} {q : Nat → Nat} {g : Nat → Nat} {ts : List Tx} {res : Int32 × St} (h : Run X cX8_findRow 5 RX8 rmX8_findRow V (some .int) (rEq (some (.int res.1)) (wC V q ts res.2))) (hE : EnvC V g) {v1 : Int32} : ∀ (m : Nat) (u : St) (v2 : Int32) (v3 : Int32), fX8_findRow_l18   v1 m u v2 v3 = some res → At X 5 0 0 (wC V q ts u) 18 [(0, .ref (q 8)), (1, .int v1), (2, .int v2), (3, .int v3)] [] := by
  intro m
  induction m with
  | zero => intro u v2 v3 hf; cases hf
  | succ m ih => intro u v2 v3 hf; exact wX8_findRow_l18b h hE ih hf
def fX8_findRow (u : St) : Option (Int32 × St) := cl1 (fX8_findFollowers u) (fun u2 => cl2 (fX8_findStarts u2) (fun x3 u4 => nmS (setZ u4 166 0) (fun u5 => fX8_findRow_l18 x3 NF u5 1 1)))
theorem wX8_findRow {X : Cx} {V : Vx} {q : Nat → Nat} {g : Nat → Nat} {ts : List Tx} {res : Int32 × St} (h : Run X cX8_findRow 5 RX8 rmX8_findRow V (some .int) (rEq (some (.int res.1)) (wC V q ts res.2))) (hE : EnvC V g) {u : St} (hf : fX8_findRow u = some res) : At X 5 0 0 (wC V q ts u) 0 [(0, .ref (q 8))] [] := by
  obtain ⟨hX, hT, hF⟩ := id h
  unfold fX8_findRow at hf
  refine a_aload_n hX dX8_findRow_0 rfl 0 rfl rfl ?_
  obtain ⟨u2, hg1, hf⟩ := cl1_some hf
  refine a_cVsv (q0 := 8) (rest := []) hX hE.1 (ctX8_findFollowers (q := q) hE hg1) K_X8_32 ⟨rfl, rfl⟩ ⟨rfl, rfl, by decide, by decide⟩ ⟨Nat.zero_le _, Nat.zero_le _⟩ (Nat.le_of_ble_eq_true rfl) dX8_findRow_1 rfl rfl ?_
  refine a_aload_n hX dX8_findRow_4 rfl 0 rfl rfl ?_
  obtain ⟨x3, u4, hg3, hf⟩ := cl2_some hf
  refine a_cVsi (q0 := 8) (rest := []) hX hE.1 (ctX8_findStarts (q := q) hE hg3) K_X8_35 ⟨rfl, rfl⟩ ⟨rfl, rfl, by decide, by decide⟩ ⟨Nat.zero_le _, Nat.zero_le _⟩ (Nat.le_of_ble_eq_true rfl) dX8_findRow_5 rfl rfl ?_
  refine a_istore_n (lv' := [(1, .int x3), (0, .ref (q 8))]) hX dX8_findRow_8 rfl (by decide) rfl rfl ?_
  refine a_aload_n hX dX8_findRow_9 rfl 1 rfl rfl ?_
  refine a_iconst (v := 0) hX dX8_findRow_10 (by decide) rfl ?_
  refine pX8_6 hX F_X8_29 dX8_findRow_11 rfl hf (fun u5 hf => ?_)
  refine a_iconst (v := 1) hX dX8_findRow_14 (by decide) rfl ?_
  refine a_istore_n (lv' := [(2, .int 1), (1, .int x3), (0, .ref (q 8))]) hX dX8_findRow_15 rfl (by decide) rfl rfl ?_
  refine a_iconst (v := 1) hX dX8_findRow_16 (by decide) rfl ?_
  refine a_istore_n (lv' := [(3, .int 1), (2, .int 1), (1, .int x3), (0, .ref (q 8))]) hX dX8_findRow_17 rfl (by decide) rfl rfl ?_
  refine a_lv (lv' := [(0, .ref (q 8)), (1, .int x3), (2, .int 1), (3, .int 1)]) [3, 2, 1, 0] rfl ?_
  exact wX8_findRow_l18 h hE NF u5 1 1 hf
theorem ctX8_findRow {V : Vx} {q : Nat → Nat} {u : St} {g : Nat → Nat} {ts : List Tx} {res : Int32 × St} (hE : EnvC V g)  (hf : fX8_findRow u = some res) : Ct V yX8_findRow (.code yX8_findRow cX8_findRow 5 (some .int)) rmX8_findRow 0 0 [.ref (q 8)] (wC V q ts u) (rEq (some (.int res.1)) (wC V q ts res.2)) :=
  Ct_of (by decide) (Nat.le_of_ble_eq_true rfl) rfl (fun X hX hT _ hF => wX8_findRow ⟨hX, hT, hF⟩ hE hf)
def rmX10_add : Room := { frames := 0, cells := 0, slots := 0, locals := 0 }
def fX10_add_l3b  (k3 : St → Int32 → Option (Int32 × St)) (u : St) (v1 : Int32) (v2 : Int32) (v4 : Int32) (v5 : Int32) : Option (Int32 × St) := if v4 < v5 then nmI (gZ u 200) (fun x1 => nmS (setZ u 200 (x1 + 1)) (fun u2 => some (x1, u2))) else (nmI ((((v5 * 5) + v1) * 5) + v2) (fun x3 => ldI (gA u 201) 300 x3 (fun x4 => stI u 201 300 x3 (x4 + 1) (fun u5 => k3 u5 (v5 + 1)))))
theorem wX10_add_l3b {X : Cx} {V : Vx} {q : Nat → Nat} {g : Nat → Nat} {ts : List Tx} {res : Int32 × St} (h : Run X cX10_add 6 RX10 rmX10_add V (some .int) (rEq (some (.int res.1)) (wC V q ts res.2))) (hE : EnvC V g) {u : St} {v1 : Int32} {v2 : Int32} {v4 : Int32} {v5 : Int32} {k3 : St → Int32 → Option (Int32 × St)} (hk3 : ∀ (u : St) (v5 : Int32), k3 u v5 = some res → At X 6 0 0 (wC V q ts u) 3 [(0, .ref (q 10)), (1, .int v1), (2, .int v2), (4, .int v4), (5, .int v5)] []) (hf : fX10_add_l3b  k3 u v1 v2 v4 v5 = some res) : At X 6 0 0 (wC V q ts u) 3 [(0, .ref (q 10)), (1, .int v1), (2, .int v2), (4, .int v4), (5, .int v5)] [] := by
  obtain ⟨hX, hT, hF⟩ := id h
  unfold fX10_add_l3b at hf
  refine a_iload hX dX10_add_3 4 rfl rfl ?_
  refine a_iload hX dX10_add_5 3 rfl rfl ?_
  refine a_icmp_gt (tgt := 35) hX dX10_add_7 rfl rfl hf (fun hf => ?_) (fun hf => ?_)
  · refine a_aload_n hX dX10_add_35 rfl 0 rfl rfl ?_
    refine a_dup hX dX10_add_36 rfl rfl ?_
    refine gX10_0 hX F_X10_15 dX10_add_37 rfl ?_
    refine a_nmI hf (fun x1 hf => ?_)
    refine a_dup_x1 hX dX10_add_40 rfl rfl rfl ?_
    refine a_iconst (v := 1) hX dX10_add_41 (by decide) rfl ?_
    refine a_iadd hX dX10_add_42 rfl ?_
    refine pX10_0 hX F_X10_15 dX10_add_43 rfl hf (fun u2 hf => ?_)
    exact a_iret hX hT hF (r_iS (wf := (wC V q ts)) hf) dX10_add_46
  · refine a_aload_n hX dX10_add_10 rfl 0 rfl rfl ?_
    refine gX10_1 hX F_X10_9 dX10_add_11 rfl ?_
    refine a_iload hX dX10_add_14 4 rfl rfl ?_
    refine a_iconst (v := 5) hX dX10_add_16 (by decide) rfl ?_
    refine a_imul hX dX10_add_17 rfl ?_
    refine a_iload_n hX dX10_add_18 rfl 1 rfl rfl ?_
    refine a_iadd hX dX10_add_19 rfl ?_
    refine a_iconst (v := 5) hX dX10_add_20 (by decide) rfl ?_
    refine a_imul hX dX10_add_21 rfl ?_
    refine a_iload_n hX dX10_add_22 rfl 2 rfl rfl ?_
    refine a_iadd hX dX10_add_23 rfl ?_
    refine a_nmI hf (fun x3 hf => ?_)
    refine a_dup2 hX dX10_add_24 rfl rfl rfl ?_
    refine lX10_1 hX dX10_add_25 rfl hf (fun x4 hf => ?_)
    refine a_iconst (v := 1) hX dX10_add_26 (by decide) rfl ?_
    refine a_iadd hX dX10_add_27 rfl ?_
    refine sX10_1 hX dX10_add_28 rfl hf (fun u5 hf => ?_)
    refine a_iinc (v := v5 + 1) (lv' := [(5, .int (v5 + 1)), (0, .ref (q 10)), (1, .int v1), (2, .int v2), (4, .int v4)]) hX dX10_add_29 4 rfl rfl (by decide) rfl rfl ?_
    refine a_goto (pc' := 3) hX dX10_add_32 rfl ?_
    refine a_lv (lv' := [(0, .ref (q 10)), (1, .int v1), (2, .int v2), (4, .int v4), (5, .int (v5 + 1))]) [1, 2, 3, 4, 0] rfl ?_
    exact hk3 u5 (v5 + 1) hf
def fX10_add_l3   (v1 : Int32) (v2 : Int32) (v4 : Int32) : Nat → St → Int32 → Option (Int32 × St)
  | 0, _, _ => none
  | m + 1, u, v5 => fX10_add_l3b  (fX10_add_l3   v1 v2 v4 m) u v1 v2 v4 v5
theorem wX10_add_l3 {X : Cx} {V : Vx} {q : Nat → Nat} {g : Nat → Nat} {ts : List Tx} {res : Int32 × St} (h : Run X cX10_add 6 RX10 rmX10_add V (some .int) (rEq (some (.int res.1)) (wC V q ts res.2))) (hE : EnvC V g) {v1 : Int32} {v2 : Int32} {v4 : Int32} : ∀ (m : Nat) (u : St) (v5 : Int32), fX10_add_l3   v1 v2 v4 m u v5 = some res → At X 6 0 0 (wC V q ts u) 3 [(0, .ref (q 10)), (1, .int v1), (2, .int v2), (4, .int v4), (5, .int v5)] [] := by
  intro m
  induction m with
  | zero => intro u v5 hf; cases hf
  | succ m ih => intro u v5 hf; exact wX10_add_l3b h hE ih hf
def fX10_add (u : St) (v1 : Int32) (v2 : Int32) (v3 : Int32) (v4 : Int32) : Option (Int32 × St) := fX10_add_l3 v1 v2 v4 NF u v3
theorem wX10_add {X : Cx} {V : Vx} {q : Nat → Nat} {g : Nat → Nat} {ts : List Tx} {res : Int32 × St} (h : Run X cX10_add 6 RX10 rmX10_add V (some .int) (rEq (some (.int res.1)) (wC V q ts res.2))) (hE : EnvC V g) {u : St} {v1 : Int32} {v2 : Int32} {v3 : Int32} {v4 : Int32} (hf : fX10_add u v1 v2 v3 v4 = some res) : At X 6 0 0 (wC V q ts u) 0 [(0, .ref (q 10)), (1, .int v1), (2, .int v2), (3, .int v3), (4, .int v4)] [] := by
  obtain ⟨hX, hT, hF⟩ := id h
  unfold fX10_add at hf
  refine a_iload_n hX dX10_add_0 rfl 3 rfl rfl ?_
  refine a_istore (lv' := [(5, .int v3), (0, .ref (q 10)), (1, .int v1), (2, .int v2), (3, .int v3), (4, .int v4)]) hX dX10_add_1 (by decide) rfl rfl ?_
  refine a_lv (lv' := [(0, .ref (q 10)), (1, .int v1), (2, .int v2), (4, .int v4), (5, .int v3)]) [1, 2, 3, 5, 0] rfl ?_
  exact wX10_add_l3 h hE NF u v3 hf
theorem ctX10_add {V : Vx} {q : Nat → Nat} {u : St} {g : Nat → Nat} {ts : List Tx} {res : Int32 × St} (hE : EnvC V g) {v1 : Int32} {v2 : Int32} {v3 : Int32} {v4 : Int32} (hf : fX10_add u v1 v2 v3 v4 = some res) : Ct V yX10_add (.code yX10_add cX10_add 6 (some .int)) rmX10_add 0 0 [.ref (q 10), .int v1, .int v2, .int v3, .int v4] (wC V q ts u) (rEq (some (.int res.1)) (wC V q ts res.2)) :=
  Ct_of (by decide) (Nat.le_of_ble_eq_true rfl) rfl (fun X hX hT _ hF => wX10_add ⟨hX, hT, hF⟩ hE hf)
def rmX11_isLand : Room := { frames := 0, cells := 0, slots := 0, locals := 0 }
def fX11_isLand (v0 : Int32) : Option (Int32) := if v0 < 0 then some 0 else (if 5 ≤ v0 then some 0 else (some 1))
theorem wX11_isLand {X : Cx} {V : Vx} {res : Int32} (h : Run X cX11_isLand 1 RX11 rmX11_isLand V (some .boolean) (rEq (some (.int res)) [])) (hE : ZOK (vZ V)) {v0 : Int32} (hf : fX11_isLand v0 = some res) : At X 1 0 0 [] 0 [(0, .int v0)] [] := by
  obtain ⟨hX, hT, hF⟩ := id h
  unfold fX11_isLand at hf
  refine a_iload_n hX dX11_isLand_0 rfl 0 rfl rfl ?_
  refine a_if_lt (tgt := 13) hX dX11_isLand_1 rfl rfl hf (fun hf => ?_) (fun hf => ?_)
  · refine a_iconst (v := 0) hX dX11_isLand_13 (by decide) rfl ?_
    exact a_zret hX hT (by decide) hF (r_i hf) dX11_isLand_14
  · refine a_iload_n hX dX11_isLand_4 rfl 0 rfl rfl ?_
    refine a_iconst (v := 5) hX dX11_isLand_5 (by decide) rfl ?_
    refine a_icmp_ge (tgt := 13) hX dX11_isLand_6 rfl rfl hf (fun hf => ?_) (fun hf => ?_)
    · refine a_iconst (v := 0) hX dX11_isLand_13 (by decide) rfl ?_
      exact a_zret hX hT (by decide) hF (r_i hf) dX11_isLand_14
    · refine a_iconst (v := 1) hX dX11_isLand_9 (by decide) rfl ?_
      refine a_goto (pc' := 14) hX dX11_isLand_10 rfl ?_
      exact a_zret hX hT (by decide) hF (r_i hf) dX11_isLand_14
theorem ctX11_isLand {V : Vx} {res : Int32} (hE : ZOK (vZ V)) {v0 : Int32} (hf : fX11_isLand v0 = some res) : Ct V yX11_isLand (.code yX11_isLand cX11_isLand 1 (some .boolean)) rmX11_isLand 0 0 [.int v0] [] (rEq (some (.int res)) []) :=
  Ct_of (by decide) (Nat.le_of_ble_eq_true rfl) rfl (fun X hX hT _ hF => wX11_isLand ⟨hX, hT, hF⟩ hE hf)
def rmX11_isMovePeriod : Room := { frames := 0, cells := 0, slots := 0, locals := 0 }
def fX11_isMovePeriod (u : St) (v1 : Int32) : Option (Int32) := if v1 < 0 then some 0 else (if (gZ u 220) - 1 ≤ v1 then some 0 else (some 1))
theorem wX11_isMovePeriod {X : Cx} {V : Vx} {q : Nat → Nat} {g : Nat → Nat} {ts : List Tx} {u : St} {res : Int32} (h : Run X cX11_isMovePeriod 2 RX11 rmX11_isMovePeriod V (some .boolean) (rEq (some (.int res)) (wC V q ts u))) (hE : EnvC V g) {v1 : Int32} (hf : fX11_isMovePeriod u v1 = some res) : At X 2 0 0 (wC V q ts u) 0 [(0, .ref (q 11)), (1, .int v1)] [] := by
  obtain ⟨hX, hT, hF⟩ := id h
  unfold fX11_isMovePeriod at hf
  refine a_iload_n hX dX11_isMovePeriod_0 rfl 1 rfl rfl ?_
  refine a_if_lt (tgt := 18) hX dX11_isMovePeriod_1 rfl rfl hf (fun hf => ?_) (fun hf => ?_)
  · refine a_iconst (v := 0) hX dX11_isMovePeriod_18 (by decide) rfl ?_
    exact a_zret hX hT (by decide) hF (r_i hf) dX11_isMovePeriod_19
  · refine a_iload_n hX dX11_isMovePeriod_4 rfl 1 rfl rfl ?_
    refine a_aload_n hX dX11_isMovePeriod_5 rfl 0 rfl rfl ?_
    refine gX11_0 hX F_X11_15 dX11_isMovePeriod_6 rfl ?_
    refine a_iconst (v := 1) hX dX11_isMovePeriod_9 (by decide) rfl ?_
    refine a_isub hX dX11_isMovePeriod_10 rfl ?_
    refine a_icmp_ge (tgt := 18) hX dX11_isMovePeriod_11 rfl rfl hf (fun hf => ?_) (fun hf => ?_)
    · refine a_iconst (v := 0) hX dX11_isMovePeriod_18 (by decide) rfl ?_
      exact a_zret hX hT (by decide) hF (r_i hf) dX11_isMovePeriod_19
    · refine a_iconst (v := 1) hX dX11_isMovePeriod_14 (by decide) rfl ?_
      refine a_goto (pc' := 19) hX dX11_isMovePeriod_15 rfl ?_
      exact a_zret hX hT (by decide) hF (r_i hf) dX11_isMovePeriod_19
theorem ctX11_isMovePeriod {V : Vx} {q : Nat → Nat} {u : St} {g : Nat → Nat} {ts : List Tx} {res : Int32} (hE : EnvC V g) {v1 : Int32} (hf : fX11_isMovePeriod u v1 = some res) : Ct V yX11_isMovePeriod (.code yX11_isMovePeriod cX11_isMovePeriod 2 (some .boolean)) rmX11_isMovePeriod 0 0 [.ref (q 11), .int v1] (wC V q ts u) (rEq (some (.int res)) (wC V q ts u)) :=
  Ct_of (by decide) (Nat.le_of_ble_eq_true rfl) rfl (fun X hX hT _ hF => wX11_isMovePeriod ⟨hX, hT, hF⟩ hE hf)
def rmX11_way : Room := { frames := 1, cells := 0, slots := 0, locals := 25 }
def fX11_way (u : St) (v1 : Int32) (v2 : Int32) (v3 : Int32) (v4 : Int32) : Option (Int32 × St) := cl1 (fX11_isLand v1) (fun x1 => if x1 = 0 then some ((-2), u) else (cl1 (fX11_isLand v2) (fun x2 => if x2 = 0 then some ((-2), u) else (if v1 = v2 then some ((-2), u) else (cl1 (fX11_isMovePeriod u v3) (fun x3 => if x3 = 0 then some ((-2), u) else (cl1 (fX11_isMovePeriod u v4) (fun x4 => if x4 = 0 then some ((-2), u) else (if v3 ≤ v4 then if gZ u 200 = 20 then some ((-4), u) else (cl2 (fX10_add u v1 v2 v3 v4) (fun x5 u6 => some (x5, u6))) else (some ((-2), u)))))))))))
theorem wX11_way {X : Cx} {V : Vx} {q : Nat → Nat} {g : Nat → Nat} {ts : List Tx} {res : Int32 × St} (h : Run X cX11_way 5 RX11 rmX11_way V (some .int) (rEq (some (.int res.1)) (wC V q ts res.2))) (hE : EnvC V g) {u : St} {v1 : Int32} {v2 : Int32} {v3 : Int32} {v4 : Int32} (hf : fX11_way u v1 v2 v3 v4 = some res) : At X 5 0 0 (wC V q ts u) 0 [(0, .ref (q 11)), (1, .int v1), (2, .int v2), (3, .int v3), (4, .int v4)] [] := by
  obtain ⟨hX, hT, hF⟩ := id h
  unfold fX11_way at hf
  refine a_iload_n hX dX11_way_0 rfl 1 rfl rfl ?_
  obtain ⟨x1, hg1, hf⟩ := cl1_some hf
  refine a_cSpi (rest := []) hX hE.1 (ctX11_isLand hE.1 hg1) K_X11_95 ⟨rfl, rfl, by decide, by decide⟩ ⟨Nat.zero_le _, Nat.zero_le _⟩ (Nat.le_of_ble_eq_true rfl) dX11_way_1 rfl rfl ?_
  refine a_if_eq (tgt := 19) hX dX11_way_4 rfl rfl hf (fun hf => ?_) (fun hf => ?_)
  · refine a_bipush (v := (-2)) hX dX11_way_19 (by decide) rfl ?_
    exact a_iret hX hT hF (r_iS (wf := (wC V q ts)) hf) dX11_way_21
  · refine a_iload_n hX dX11_way_7 rfl 2 rfl rfl ?_
    obtain ⟨x2, hg2, hf⟩ := cl1_some hf
    refine a_cSpi (rest := []) hX hE.1 (ctX11_isLand hE.1 hg2) K_X11_95 ⟨rfl, rfl, by decide, by decide⟩ ⟨Nat.zero_le _, Nat.zero_le _⟩ (Nat.le_of_ble_eq_true rfl) dX11_way_8 rfl rfl ?_
    refine a_if_eq (tgt := 19) hX dX11_way_11 rfl rfl hf (fun hf => ?_) (fun hf => ?_)
    · refine a_bipush (v := (-2)) hX dX11_way_19 (by decide) rfl ?_
      exact a_iret hX hT hF (r_iS (wf := (wC V q ts)) hf) dX11_way_21
    · refine a_iload_n hX dX11_way_14 rfl 1 rfl rfl ?_
      refine a_iload_n hX dX11_way_15 rfl 2 rfl rfl ?_
      refine a_icmp_ne (tgt := 22) hX dX11_way_16 rfl rfl hf (fun hf => ?_) (fun hf => ?_)
      · refine a_aload_n hX dX11_way_22 rfl 0 rfl rfl ?_
        refine a_iload_n hX dX11_way_23 rfl 3 rfl rfl ?_
        obtain ⟨x3, hg3, hf⟩ := cl1_some hf
        refine a_cVsi (q0 := 0) (rest := []) hX hE.1 (ctX11_isMovePeriod (q := q) hE hg3) K_X11_99 ⟨rfl, rfl⟩ ⟨rfl, rfl, by decide, by decide⟩ ⟨Nat.zero_le _, Nat.zero_le _⟩ (Nat.le_of_ble_eq_true rfl) dX11_way_24 rfl rfl ?_
        refine a_if_eq (tgt := 45) hX dX11_way_27 rfl rfl hf (fun hf => ?_) (fun hf => ?_)
        · refine a_bipush (v := (-2)) hX dX11_way_45 (by decide) rfl ?_
          exact a_iret hX hT hF (r_iS (wf := (wC V q ts)) hf) dX11_way_47
        · refine a_aload_n hX dX11_way_30 rfl 0 rfl rfl ?_
          refine a_iload hX dX11_way_31 4 rfl rfl ?_
          obtain ⟨x4, hg4, hf⟩ := cl1_some hf
          refine a_cVsi (q0 := 0) (rest := []) hX hE.1 (ctX11_isMovePeriod (q := q) hE hg4) K_X11_99 ⟨rfl, rfl⟩ ⟨rfl, rfl, by decide, by decide⟩ ⟨Nat.zero_le _, Nat.zero_le _⟩ (Nat.le_of_ble_eq_true rfl) dX11_way_33 rfl rfl ?_
          refine a_if_eq (tgt := 45) hX dX11_way_36 rfl rfl hf (fun hf => ?_) (fun hf => ?_)
          · refine a_bipush (v := (-2)) hX dX11_way_45 (by decide) rfl ?_
            exact a_iret hX hT hF (r_iS (wf := (wC V q ts)) hf) dX11_way_47
          · refine a_iload hX dX11_way_39 4 rfl rfl ?_
            refine a_iload_n hX dX11_way_41 rfl 3 rfl rfl ?_
            refine a_icmp_ge (tgt := 48) hX dX11_way_42 rfl rfl hf (fun hf => ?_) (fun hf => ?_)
            · refine a_aload_n hX dX11_way_48 rfl 0 rfl rfl ?_
              refine gX11_1 hX F_X11_22 dX11_way_49 rfl ?_
              refine gX10_0 hX F_X11_102 dX11_way_52 rfl ?_
              refine a_bipush (v := 20) hX dX11_way_55 (by decide) rfl ?_
              refine a_icmp_ne (tgt := 63) hX dX11_way_57 rfl rfl hf (fun hf => ?_) (fun hf => ?_)
              · refine a_aload_n hX dX11_way_63 rfl 0 rfl rfl ?_
                refine gX11_1 hX F_X11_22 dX11_way_64 rfl ?_
                refine a_iload_n hX dX11_way_67 rfl 1 rfl rfl ?_
                refine a_iload_n hX dX11_way_68 rfl 2 rfl rfl ?_
                refine a_iload_n hX dX11_way_69 rfl 3 rfl rfl ?_
                refine a_iload hX dX11_way_70 4 rfl rfl ?_
                obtain ⟨x5, u6, hg5, hf⟩ := cl2_some hf
                refine a_cVsi (q0 := 1) (rest := []) hX hE.1 (ctX10_add (q := q) hE hg5) K_X11_105 ⟨rfl, rfl⟩ ⟨rfl, rfl, by decide, by decide⟩ ⟨Nat.zero_le _, Nat.zero_le _⟩ (Nat.le_of_ble_eq_true rfl) dX11_way_72 rfl rfl ?_
                exact a_iret hX hT hF (r_iS (wf := (wC V q ts)) hf) dX11_way_75
              · refine a_bipush (v := (-4)) hX dX11_way_60 (by decide) rfl ?_
                exact a_iret hX hT hF (r_iS (wf := (wC V q ts)) hf) dX11_way_62
            · refine a_bipush (v := (-2)) hX dX11_way_45 (by decide) rfl ?_
              exact a_iret hX hT hF (r_iS (wf := (wC V q ts)) hf) dX11_way_47
      · refine a_bipush (v := (-2)) hX dX11_way_19 (by decide) rfl ?_
        exact a_iret hX hT hF (r_iS (wf := (wC V q ts)) hf) dX11_way_21
theorem ctX11_way {V : Vx} {q : Nat → Nat} {u : St} {g : Nat → Nat} {ts : List Tx} {res : Int32 × St} (hE : EnvC V g) {v1 : Int32} {v2 : Int32} {v3 : Int32} {v4 : Int32} (hf : fX11_way u v1 v2 v3 v4 = some res) : Ct V yX11_way (.code yX11_way cX11_way 5 (some .int)) rmX11_way 0 0 [.ref (q 11), .int v1, .int v2, .int v3, .int v4] (wC V q ts u) (rEq (some (.int res.1)) (wC V q ts res.2)) :=
  Ct_of (by decide) (Nat.le_of_ble_eq_true rfl) rfl (fun X hX hT _ hF => wX11_way ⟨hX, hT, hF⟩ hE hf)
def rmX11_soil : Room := { frames := 0, cells := 0, slots := 0, locals := 0 }
def fX11_soil (u : St) (v1 : Int32) : Option (Int32 × St) := if v1 < 0 then some ((-2), u) else (if v1 ≤ 31 then nmI (gZ u 20) (fun x1 => nmS (setZ u 20 v1) (fun u2 => some (x1, u2))) else (some ((-2), u)))
theorem wX11_soil {X : Cx} {V : Vx} {q : Nat → Nat} {g : Nat → Nat} {ts : List Tx} {res : Int32 × St} (h : Run X cX11_soil 3 RX11 rmX11_soil V (some .int) (rEq (some (.int res.1)) (wC V q ts res.2))) (hE : EnvC V g) {u : St} {v1 : Int32} (hf : fX11_soil u v1 = some res) : At X 3 0 0 (wC V q ts u) 0 [(0, .ref (q 11)), (1, .int v1)] [] := by
  obtain ⟨hX, hT, hF⟩ := id h
  unfold fX11_soil at hf
  refine a_iload_n hX dX11_soil_0 rfl 1 rfl rfl ?_
  refine a_if_lt (tgt := 10) hX dX11_soil_1 rfl rfl hf (fun hf => ?_) (fun hf => ?_)
  · refine a_bipush (v := (-2)) hX dX11_soil_10 (by decide) rfl ?_
    exact a_iret hX hT hF (r_iS (wf := (wC V q ts)) hf) dX11_soil_12
  · refine a_iload_n hX dX11_soil_4 rfl 1 rfl rfl ?_
    refine a_bipush (v := 31) hX dX11_soil_5 (by decide) rfl ?_
    refine a_icmp_le (tgt := 13) hX dX11_soil_7 rfl rfl hf (fun hf => ?_) (fun hf => ?_)
    · refine a_aload_n hX dX11_soil_13 rfl 0 rfl rfl ?_
      refine gX11_3 hX F_X11_38 dX11_soil_14 rfl ?_
      refine gX1_0 hX F_X11_109 dX11_soil_17 rfl ?_
      refine a_nmI hf (fun x1 hf => ?_)
      refine a_istore_n (lv' := [(2, .int x1), (0, .ref (q 11)), (1, .int v1)]) hX dX11_soil_20 rfl (by decide) rfl rfl ?_
      refine a_aload_n hX dX11_soil_21 rfl 1 rfl rfl ?_
      refine gX11_3 hX F_X11_38 dX11_soil_22 rfl ?_
      refine a_iload_n hX dX11_soil_25 rfl 2 rfl rfl ?_
      refine pX1_0 hX F_X11_109 dX11_soil_26 rfl hf (fun u2 hf => ?_)
      refine a_iload_n hX dX11_soil_29 rfl 0 rfl rfl ?_
      exact a_iret hX hT hF (r_iS (wf := (wC V q ts)) hf) dX11_soil_30
    · refine a_bipush (v := (-2)) hX dX11_soil_10 (by decide) rfl ?_
      exact a_iret hX hT hF (r_iS (wf := (wC V q ts)) hf) dX11_soil_12
theorem ctX11_soil {V : Vx} {q : Nat → Nat} {u : St} {g : Nat → Nat} {ts : List Tx} {res : Int32 × St} (hE : EnvC V g) {v1 : Int32} (hf : fX11_soil u v1 = some res) : Ct V yX11_soil (.code yX11_soil cX11_soil 3 (some .int)) rmX11_soil 0 0 [.ref (q 11), .int v1] (wC V q ts u) (rEq (some (.int res.1)) (wC V q ts res.2)) :=
  Ct_of (by decide) (Nat.le_of_ble_eq_true rfl) rfl (fun X hX hT _ hF => wX11_soil ⟨hX, hT, hF⟩ hE hf)
def rmX11_isPeriod : Room := { frames := 0, cells := 0, slots := 0, locals := 0 }
def fX11_isPeriod (u : St) (v1 : Int32) : Option (Int32) := if v1 < 0 then some 0 else (if gZ u 220 ≤ v1 then some 0 else (some 1))
theorem wX11_isPeriod {X : Cx} {V : Vx} {q : Nat → Nat} {g : Nat → Nat} {ts : List Tx} {u : St} {res : Int32} (h : Run X cX11_isPeriod 2 RX11 rmX11_isPeriod V (some .boolean) (rEq (some (.int res)) (wC V q ts u))) (hE : EnvC V g) {v1 : Int32} (hf : fX11_isPeriod u v1 = some res) : At X 2 0 0 (wC V q ts u) 0 [(0, .ref (q 11)), (1, .int v1)] [] := by
  obtain ⟨hX, hT, hF⟩ := id h
  unfold fX11_isPeriod at hf
  refine a_iload_n hX dX11_isPeriod_0 rfl 1 rfl rfl ?_
  refine a_if_lt (tgt := 16) hX dX11_isPeriod_1 rfl rfl hf (fun hf => ?_) (fun hf => ?_)
  · refine a_iconst (v := 0) hX dX11_isPeriod_16 (by decide) rfl ?_
    exact a_zret hX hT (by decide) hF (r_i hf) dX11_isPeriod_17
  · refine a_iload_n hX dX11_isPeriod_4 rfl 1 rfl rfl ?_
    refine a_aload_n hX dX11_isPeriod_5 rfl 0 rfl rfl ?_
    refine gX11_0 hX F_X11_15 dX11_isPeriod_6 rfl ?_
    refine a_icmp_ge (tgt := 16) hX dX11_isPeriod_9 rfl rfl hf (fun hf => ?_) (fun hf => ?_)
    · refine a_iconst (v := 0) hX dX11_isPeriod_16 (by decide) rfl ?_
      exact a_zret hX hT (by decide) hF (r_i hf) dX11_isPeriod_17
    · refine a_iconst (v := 1) hX dX11_isPeriod_12 (by decide) rfl ?_
      refine a_goto (pc' := 17) hX dX11_isPeriod_13 rfl ?_
      exact a_zret hX hT (by decide) hF (r_i hf) dX11_isPeriod_17
theorem ctX11_isPeriod {V : Vx} {q : Nat → Nat} {u : St} {g : Nat → Nat} {ts : List Tx} {res : Int32} (hE : EnvC V g) {v1 : Int32} (hf : fX11_isPeriod u v1 = some res) : Ct V yX11_isPeriod (.code yX11_isPeriod cX11_isPeriod 2 (some .boolean)) rmX11_isPeriod 0 0 [.ref (q 11), .int v1] (wC V q ts u) (rEq (some (.int res)) (wC V q ts u)) :=
  Ct_of (by decide) (Nat.le_of_ble_eq_true rfl) rfl (fun X hX hT _ hF => wX11_isPeriod ⟨hX, hT, hF⟩ hE hf)
def rmX11_paper : Room := { frames := 3, cells := 0, slots := 0, locals := 69 }
def fX11_paper (u : St) (v1 : Int32) (v2 : Int32) (v3 : Int32) (v4 : Int32) (v5 : Int32) : Option (Int32 × St) := if v1 < 0 then some ((-2), u) else (if v1 < 6 then cl1 (fX11_isLand v2) (fun x1 => if x1 = 0 then some ((-2), u) else (cl1 (fX11_isLand v3) (fun x2 => if x2 = 0 then some ((-2), u) else (cl1 (fX11_isPeriod u v4) (fun x3 => if x3 = 0 then some ((-2), u) else (cl1 (fX4_hasAll u v5) (fun x4 => if x4 = 0 then some ((-2), u) else (if gZ u 80 = 16 then some ((-4), u) else (cl2 (fX4_add u v1 v2 v3 v4 v5) (fun x5 u6 => some (x5, u6))))))))))) else (some ((-2), u)))
theorem wX11_paper {X : Cx} {V : Vx} {q : Nat → Nat} {g : Nat → Nat} {ts : List Tx} {res : Int32 × St} (h : Run X cX11_paper 6 RX11 rmX11_paper V (some .int) (rEq (some (.int res.1)) (wC V q ts res.2))) (hE : EnvC V g) {u : St} {v1 : Int32} {v2 : Int32} {v3 : Int32} {v4 : Int32} {v5 : Int32} (hf : fX11_paper u v1 v2 v3 v4 v5 = some res) : At X 6 0 0 (wC V q ts u) 0 [(0, .ref (q 11)), (1, .int v1), (2, .int v2), (3, .int v3), (4, .int v4), (5, .int v5)] [] := by
  obtain ⟨hX, hT, hF⟩ := id h
  unfold fX11_paper at hf
  refine a_iload_n hX dX11_paper_0 rfl 1 rfl rfl ?_
  refine a_if_lt (tgt := 10) hX dX11_paper_1 rfl rfl hf (fun hf => ?_) (fun hf => ?_)
  · refine a_bipush (v := (-2)) hX dX11_paper_10 (by decide) rfl ?_
    exact a_iret hX hT hF (r_iS (wf := (wC V q ts)) hf) dX11_paper_12
  · refine a_iload_n hX dX11_paper_4 rfl 1 rfl rfl ?_
    refine a_bipush (v := 6) hX dX11_paper_5 (by decide) rfl ?_
    refine a_icmp_lt (tgt := 13) hX dX11_paper_7 rfl rfl hf (fun hf => ?_) (fun hf => ?_)
    · refine a_iload_n hX dX11_paper_13 rfl 2 rfl rfl ?_
      obtain ⟨x1, hg1, hf⟩ := cl1_some hf
      refine a_cSpi (rest := []) hX hE.1 (ctX11_isLand hE.1 hg1) K_X11_95 ⟨rfl, rfl, by decide, by decide⟩ ⟨Nat.zero_le _, Nat.zero_le _⟩ (Nat.le_of_ble_eq_true rfl) dX11_paper_14 rfl rfl ?_
      refine a_if_eq (tgt := 36) hX dX11_paper_17 rfl rfl hf (fun hf => ?_) (fun hf => ?_)
      · refine a_bipush (v := (-2)) hX dX11_paper_36 (by decide) rfl ?_
        exact a_iret hX hT hF (r_iS (wf := (wC V q ts)) hf) dX11_paper_38
      · refine a_iload_n hX dX11_paper_20 rfl 3 rfl rfl ?_
        obtain ⟨x2, hg2, hf⟩ := cl1_some hf
        refine a_cSpi (rest := []) hX hE.1 (ctX11_isLand hE.1 hg2) K_X11_95 ⟨rfl, rfl, by decide, by decide⟩ ⟨Nat.zero_le _, Nat.zero_le _⟩ (Nat.le_of_ble_eq_true rfl) dX11_paper_21 rfl rfl ?_
        refine a_if_eq (tgt := 36) hX dX11_paper_24 rfl rfl hf (fun hf => ?_) (fun hf => ?_)
        · refine a_bipush (v := (-2)) hX dX11_paper_36 (by decide) rfl ?_
          exact a_iret hX hT hF (r_iS (wf := (wC V q ts)) hf) dX11_paper_38
        · refine a_aload_n hX dX11_paper_27 rfl 0 rfl rfl ?_
          refine a_iload hX dX11_paper_28 4 rfl rfl ?_
          obtain ⟨x3, hg3, hf⟩ := cl1_some hf
          refine a_cVsi (q0 := 0) (rest := []) hX hE.1 (ctX11_isPeriod (q := q) hE hg3) K_X11_112 ⟨rfl, rfl⟩ ⟨rfl, rfl, by decide, by decide⟩ ⟨Nat.zero_le _, Nat.zero_le _⟩ (Nat.le_of_ble_eq_true rfl) dX11_paper_30 rfl rfl ?_
          refine a_if_ne (tgt := 39) hX dX11_paper_33 rfl rfl hf (fun hf => ?_) (fun hf => ?_)
          · refine a_aload_n hX dX11_paper_39 rfl 0 rfl rfl ?_
            refine gX11_2 hX F_X11_29 dX11_paper_40 rfl ?_
            refine a_iload hX dX11_paper_43 5 rfl rfl ?_
            obtain ⟨x4, hg4, hf⟩ := cl1_some hf
            refine a_cVsi (q0 := 2) (rest := []) hX hE.1 (ctX4_hasAll (q := q) hE hg4) K_X11_115 ⟨rfl, rfl⟩ ⟨rfl, rfl, by decide, by decide⟩ ⟨Nat.zero_le _, Nat.zero_le _⟩ (Nat.le_of_ble_eq_true rfl) dX11_paper_45 rfl rfl ?_
            refine a_if_ne (tgt := 54) hX dX11_paper_48 rfl rfl hf (fun hf => ?_) (fun hf => ?_)
            · refine a_aload_n hX dX11_paper_54 rfl 0 rfl rfl ?_
              refine gX11_2 hX F_X11_29 dX11_paper_55 rfl ?_
              refine gX4_0 hX F_X11_118 dX11_paper_58 rfl ?_
              refine a_bipush (v := 16) hX dX11_paper_61 (by decide) rfl ?_
              refine a_icmp_ne (tgt := 69) hX dX11_paper_63 rfl rfl hf (fun hf => ?_) (fun hf => ?_)
              · refine a_aload_n hX dX11_paper_69 rfl 0 rfl rfl ?_
                refine gX11_2 hX F_X11_29 dX11_paper_70 rfl ?_
                refine a_iload_n hX dX11_paper_73 rfl 1 rfl rfl ?_
                refine a_iload_n hX dX11_paper_74 rfl 2 rfl rfl ?_
                refine a_iload_n hX dX11_paper_75 rfl 3 rfl rfl ?_
                refine a_iload hX dX11_paper_76 4 rfl rfl ?_
                refine a_iload hX dX11_paper_78 5 rfl rfl ?_
                obtain ⟨x5, u6, hg5, hf⟩ := cl2_some hf
                refine a_cVsi (q0 := 2) (rest := []) hX hE.1 (ctX4_add (q := q) hE hg5) K_X11_119 ⟨rfl, rfl⟩ ⟨rfl, rfl, by decide, by decide⟩ ⟨Nat.zero_le _, Nat.zero_le _⟩ (Nat.le_of_ble_eq_true rfl) dX11_paper_80 rfl rfl ?_
                exact a_iret hX hT hF (r_iS (wf := (wC V q ts)) hf) dX11_paper_83
              · refine a_bipush (v := (-4)) hX dX11_paper_66 (by decide) rfl ?_
                exact a_iret hX hT hF (r_iS (wf := (wC V q ts)) hf) dX11_paper_68
            · refine a_bipush (v := (-2)) hX dX11_paper_51 (by decide) rfl ?_
              exact a_iret hX hT hF (r_iS (wf := (wC V q ts)) hf) dX11_paper_53
          · refine a_bipush (v := (-2)) hX dX11_paper_36 (by decide) rfl ?_
            exact a_iret hX hT hF (r_iS (wf := (wC V q ts)) hf) dX11_paper_38
    · refine a_bipush (v := (-2)) hX dX11_paper_10 (by decide) rfl ?_
      exact a_iret hX hT hF (r_iS (wf := (wC V q ts)) hf) dX11_paper_12
theorem ctX11_paper {V : Vx} {q : Nat → Nat} {u : St} {g : Nat → Nat} {ts : List Tx} {res : Int32 × St} (hE : EnvC V g) {v1 : Int32} {v2 : Int32} {v3 : Int32} {v4 : Int32} {v5 : Int32} (hf : fX11_paper u v1 v2 v3 v4 v5 = some res) : Ct V yX11_paper (.code yX11_paper cX11_paper 6 (some .int)) rmX11_paper 0 0 [.ref (q 11), .int v1, .int v2, .int v3, .int v4, .int v5] (wC V q ts u) (rEq (some (.int res.1)) (wC V q ts res.2)) :=
  Ct_of (by decide) (Nat.le_of_ble_eq_true rfl) rfl (fun X hX hT _ hF => wX11_paper ⟨hX, hT, hF⟩ hE hf)
def rmX11_paperTold : Room := { frames := 1, cells := 0, slots := 0, locals := 21 }
def fX11_paperTold (u : St) (v1 : Int32) (v2 : Int32) : Option (Int32) := cl1 (fX4_has u v1) (fun x1 => if x1 = 0 then some (-2) else (if v2 = 0 then ldI (gA u 83) 16 v1 (fun x2 => some x2) else (if v2 = 1 then ldI (gA u 84) 16 v1 (fun x3 => some x3) else (if v2 = 2 then ldI (gA u 85) 16 v1 (fun x4 => some x4) else (if v2 = 3 then ldI (gA u 86) 16 v1 (fun x5 => some x5) else (if v2 = 4 then ldI (gA u 87) 16 v1 (fun x6 => some x6) else (if v2 = 5 then cl1 (fX11_isIn (gZ u 81) v1) (fun x7 => if x7 = 0 then some 0 else (some 1)) else (if v2 = 6 then cl1 (fX11_isIn (gZ u 82) v1) (fun x8 => if x8 = 0 then some 0 else (some 1)) else (some (-2))))))))))
theorem wX11_paperTold {X : Cx} {V : Vx} {q : Nat → Nat} {g : Nat → Nat} {ts : List Tx} {u : St} {res : Int32} (h : Run X cX11_paperTold 3 RX11 rmX11_paperTold V (some .int) (rEq (some (.int res)) (wC V q ts u))) (hE : EnvC V g) {v1 : Int32} {v2 : Int32} (hf : fX11_paperTold u v1 v2 = some res) : At X 3 0 0 (wC V q ts u) 0 [(0, .ref (q 11)), (1, .int v1), (2, .int v2)] [] := by
  obtain ⟨hX, hT, hF⟩ := id h
  unfold fX11_paperTold at hf
  refine a_aload_n hX dX11_paperTold_0 rfl 0 rfl rfl ?_
  refine gX11_2 hX F_X11_29 dX11_paperTold_1 rfl ?_
  refine a_iload_n hX dX11_paperTold_4 rfl 1 rfl rfl ?_
  obtain ⟨x1, hg1, hf⟩ := cl1_some hf
  refine a_cVsi (q0 := 2) (rest := []) hX hE.1 (ctX4_has (q := q) hE hg1) K_X11_122 ⟨rfl, rfl⟩ ⟨rfl, rfl, by decide, by decide⟩ ⟨Nat.zero_le _, Nat.zero_le _⟩ (Nat.le_of_ble_eq_true rfl) dX11_paperTold_5 rfl rfl ?_
  refine a_if_ne (tgt := 14) hX dX11_paperTold_8 rfl rfl hf (fun hf => ?_) (fun hf => ?_)
  · refine a_iload_n hX dX11_paperTold_14 rfl 2 rfl rfl ?_
    by_cases hs0 : v2 = 0
    · rw [if_pos hs0] at hf
      refine a_tsw (pc' := 56) hX dX11_paperTold_15 0 hs0 (by decide) (by decide) rfl rfl ?_
      refine a_aload_n hX dX11_paperTold_56 rfl 0 rfl rfl ?_
      refine gX11_2 hX F_X11_29 dX11_paperTold_57 rfl ?_
      refine gX4_3 hX F_X11_125 dX11_paperTold_60 rfl ?_
      refine a_iload_n hX dX11_paperTold_63 rfl 1 rfl rfl ?_
      refine lX4_3 hX dX11_paperTold_64 rfl hf (fun x2 hf => ?_)
      exact a_iret hX hT hF (r_i hf) dX11_paperTold_65
    · rw [if_neg hs0] at hf
      by_cases hs1 : v2 = 1
      · rw [if_pos hs1] at hf
        refine a_tsw (pc' := 66) hX dX11_paperTold_15 1 hs1 (by decide) (by decide) rfl rfl ?_
        refine a_aload_n hX dX11_paperTold_66 rfl 0 rfl rfl ?_
        refine gX11_2 hX F_X11_29 dX11_paperTold_67 rfl ?_
        refine gX4_4 hX F_X11_129 dX11_paperTold_70 rfl ?_
        refine a_iload_n hX dX11_paperTold_73 rfl 1 rfl rfl ?_
        refine lX4_4 hX dX11_paperTold_74 rfl hf (fun x3 hf => ?_)
        exact a_iret hX hT hF (r_i hf) dX11_paperTold_75
      · rw [if_neg hs1] at hf
        by_cases hs2 : v2 = 2
        · rw [if_pos hs2] at hf
          refine a_tsw (pc' := 76) hX dX11_paperTold_15 2 hs2 (by decide) (by decide) rfl rfl ?_
          refine a_aload_n hX dX11_paperTold_76 rfl 0 rfl rfl ?_
          refine gX11_2 hX F_X11_29 dX11_paperTold_77 rfl ?_
          refine gX4_5 hX F_X11_132 dX11_paperTold_80 rfl ?_
          refine a_iload_n hX dX11_paperTold_83 rfl 1 rfl rfl ?_
          refine lX4_5 hX dX11_paperTold_84 rfl hf (fun x4 hf => ?_)
          exact a_iret hX hT hF (r_i hf) dX11_paperTold_85
        · rw [if_neg hs2] at hf
          by_cases hs3 : v2 = 3
          · rw [if_pos hs3] at hf
            refine a_tsw (pc' := 86) hX dX11_paperTold_15 3 hs3 (by decide) (by decide) rfl rfl ?_
            refine a_aload_n hX dX11_paperTold_86 rfl 0 rfl rfl ?_
            refine gX11_2 hX F_X11_29 dX11_paperTold_87 rfl ?_
            refine gX4_6 hX F_X11_135 dX11_paperTold_90 rfl ?_
            refine a_iload_n hX dX11_paperTold_93 rfl 1 rfl rfl ?_
            refine lX4_6 hX dX11_paperTold_94 rfl hf (fun x5 hf => ?_)
            exact a_iret hX hT hF (r_i hf) dX11_paperTold_95
          · rw [if_neg hs3] at hf
            by_cases hs4 : v2 = 4
            · rw [if_pos hs4] at hf
              refine a_tsw (pc' := 96) hX dX11_paperTold_15 4 hs4 (by decide) (by decide) rfl rfl ?_
              refine a_aload_n hX dX11_paperTold_96 rfl 0 rfl rfl ?_
              refine gX11_2 hX F_X11_29 dX11_paperTold_97 rfl ?_
              refine gX4_7 hX F_X11_138 dX11_paperTold_100 rfl ?_
              refine a_iload_n hX dX11_paperTold_103 rfl 1 rfl rfl ?_
              refine lX4_7 hX dX11_paperTold_104 rfl hf (fun x6 hf => ?_)
              exact a_iret hX hT hF (r_i hf) dX11_paperTold_105
            · rw [if_neg hs4] at hf
              by_cases hs5 : v2 = 5
              · rw [if_pos hs5] at hf
                refine a_tsw (pc' := 106) hX dX11_paperTold_15 5 hs5 (by decide) (by decide) rfl rfl ?_
                refine a_aload_n hX dX11_paperTold_106 rfl 0 rfl rfl ?_
                refine gX11_2 hX F_X11_29 dX11_paperTold_107 rfl ?_
                refine gX4_1 hX F_X11_141 dX11_paperTold_110 rfl ?_
                refine a_iload_n hX dX11_paperTold_113 rfl 1 rfl rfl ?_
                obtain ⟨x7, hg7, hf⟩ := cl1_some hf
                refine a_cSpi (rest := []) hX hE.1 (ctX11_isIn hE.1 hg7) K_X11_144 ⟨rfl, rfl, by decide, by decide⟩ ⟨Nat.zero_le _, Nat.zero_le _⟩ (Nat.le_of_ble_eq_true rfl) dX11_paperTold_114 rfl rfl ?_
                refine a_if_eq (tgt := 124) hX dX11_paperTold_117 rfl rfl hf (fun hf => ?_) (fun hf => ?_)
                · refine a_iconst (v := 0) hX dX11_paperTold_124 (by decide) rfl ?_
                  exact a_iret hX hT hF (r_i hf) dX11_paperTold_125
                · refine a_iconst (v := 1) hX dX11_paperTold_120 (by decide) rfl ?_
                  refine a_goto (pc' := 125) hX dX11_paperTold_121 rfl ?_
                  exact a_iret hX hT hF (r_i hf) dX11_paperTold_125
              · rw [if_neg hs5] at hf
                by_cases hs6 : v2 = 6
                · rw [if_pos hs6] at hf
                  refine a_tsw (pc' := 126) hX dX11_paperTold_15 6 hs6 (by decide) (by decide) rfl rfl ?_
                  refine a_aload_n hX dX11_paperTold_126 rfl 0 rfl rfl ?_
                  refine gX11_2 hX F_X11_29 dX11_paperTold_127 rfl ?_
                  refine gX4_2 hX F_X11_148 dX11_paperTold_130 rfl ?_
                  refine a_iload_n hX dX11_paperTold_133 rfl 1 rfl rfl ?_
                  obtain ⟨x8, hg8, hf⟩ := cl1_some hf
                  refine a_cSpi (rest := []) hX hE.1 (ctX11_isIn hE.1 hg8) K_X11_144 ⟨rfl, rfl, by decide, by decide⟩ ⟨Nat.zero_le _, Nat.zero_le _⟩ (Nat.le_of_ble_eq_true rfl) dX11_paperTold_134 rfl rfl ?_
                  refine a_if_eq (tgt := 144) hX dX11_paperTold_137 rfl rfl hf (fun hf => ?_) (fun hf => ?_)
                  · refine a_iconst (v := 0) hX dX11_paperTold_144 (by decide) rfl ?_
                    exact a_iret hX hT hF (r_i hf) dX11_paperTold_145
                  · refine a_iconst (v := 1) hX dX11_paperTold_140 (by decide) rfl ?_
                    refine a_goto (pc' := 145) hX dX11_paperTold_141 rfl ?_
                    exact a_iret hX hT hF (r_i hf) dX11_paperTold_145
                · rw [if_neg hs6] at hf
                  have hs0 : ¬ Int32.toInt v2 = 0 := ne_toInt hs0
                  have hs1 : ¬ Int32.toInt v2 = 1 := ne_toInt hs1
                  have hs2 : ¬ Int32.toInt v2 = 2 := ne_toInt hs2
                  have hs3 : ¬ Int32.toInt v2 = 3 := ne_toInt hs3
                  have hs4 : ¬ Int32.toInt v2 = 4 := ne_toInt hs4
                  have hs5 : ¬ Int32.toInt v2 = 5 := ne_toInt hs5
                  have hs6 : ¬ Int32.toInt v2 = 6 := ne_toInt hs6
                  refine a_tswO (pc' := 146) hX dX11_paperTold_15 (by omega) rfl ?_
                  refine a_bipush (v := (-2)) hX dX11_paperTold_146 (by decide) rfl ?_
                  exact a_iret hX hT hF (r_i hf) dX11_paperTold_148
  · refine a_bipush (v := (-2)) hX dX11_paperTold_11 (by decide) rfl ?_
    exact a_iret hX hT hF (r_i hf) dX11_paperTold_13
theorem ctX11_paperTold {V : Vx} {q : Nat → Nat} {u : St} {g : Nat → Nat} {ts : List Tx} {res : Int32} (hE : EnvC V g) {v1 : Int32} {v2 : Int32} (hf : fX11_paperTold u v1 v2 = some res) : Ct V yX11_paperTold (.code yX11_paperTold cX11_paperTold 3 (some .int)) rmX11_paperTold 0 0 [.ref (q 11), .int v1, .int v2] (wC V q ts u) (rEq (some (.int res)) (wC V q ts u)) :=
  Ct_of (by decide) (Nat.le_of_ble_eq_true rfl) rfl (fun X hX hT _ hF => wX11_paperTold ⟨hX, hT, hF⟩ hE hf)
def rmX11_isPlace : Room := { frames := 1, cells := 0, slots := 0, locals := 21 }
def fX11_isPlace (u : St) (v1 : Int32) (v2 : Int32) : Option (Int32) := cl1 (fX11_isLand v1) (fun x1 => if x1 = 0 then some 0 else (cl1 (fX11_isPeriod u v2) (fun x2 => if x2 = 0 then some 0 else (some 1))))
theorem wX11_isPlace {X : Cx} {V : Vx} {q : Nat → Nat} {g : Nat → Nat} {ts : List Tx} {u : St} {res : Int32} (h : Run X cX11_isPlace 3 RX11 rmX11_isPlace V (some .boolean) (rEq (some (.int res)) (wC V q ts u))) (hE : EnvC V g) {v1 : Int32} {v2 : Int32} (hf : fX11_isPlace u v1 v2 = some res) : At X 3 0 0 (wC V q ts u) 0 [(0, .ref (q 11)), (1, .int v1), (2, .int v2)] [] := by
  obtain ⟨hX, hT, hF⟩ := id h
  unfold fX11_isPlace at hf
  refine a_iload_n hX dX11_isPlace_0 rfl 1 rfl rfl ?_
  obtain ⟨x1, hg1, hf⟩ := cl1_some hf
  refine a_cSpi (rest := []) hX hE.1 (ctX11_isLand hE.1 hg1) K_X11_95 ⟨rfl, rfl, by decide, by decide⟩ ⟨Nat.zero_le _, Nat.zero_le _⟩ (Nat.le_of_ble_eq_true rfl) dX11_isPlace_1 rfl rfl ?_
  refine a_if_eq (tgt := 19) hX dX11_isPlace_4 rfl rfl hf (fun hf => ?_) (fun hf => ?_)
  · refine a_iconst (v := 0) hX dX11_isPlace_19 (by decide) rfl ?_
    exact a_zret hX hT (by decide) hF (r_i hf) dX11_isPlace_20
  · refine a_aload_n hX dX11_isPlace_7 rfl 0 rfl rfl ?_
    refine a_iload_n hX dX11_isPlace_8 rfl 2 rfl rfl ?_
    obtain ⟨x2, hg2, hf⟩ := cl1_some hf
    refine a_cVsi (q0 := 0) (rest := []) hX hE.1 (ctX11_isPeriod (q := q) hE hg2) K_X11_112 ⟨rfl, rfl⟩ ⟨rfl, rfl, by decide, by decide⟩ ⟨Nat.zero_le _, Nat.zero_le _⟩ (Nat.le_of_ble_eq_true rfl) dX11_isPlace_9 rfl rfl ?_
    refine a_if_eq (tgt := 19) hX dX11_isPlace_12 rfl rfl hf (fun hf => ?_) (fun hf => ?_)
    · refine a_iconst (v := 0) hX dX11_isPlace_19 (by decide) rfl ?_
      exact a_zret hX hT (by decide) hF (r_i hf) dX11_isPlace_20
    · refine a_iconst (v := 1) hX dX11_isPlace_15 (by decide) rfl ?_
      refine a_goto (pc' := 20) hX dX11_isPlace_16 rfl ?_
      exact a_zret hX hT (by decide) hF (r_i hf) dX11_isPlace_20
theorem ctX11_isPlace {V : Vx} {q : Nat → Nat} {u : St} {g : Nat → Nat} {ts : List Tx} {res : Int32} (hE : EnvC V g) {v1 : Int32} {v2 : Int32} (hf : fX11_isPlace u v1 v2 = some res) : Ct V yX11_isPlace (.code yX11_isPlace cX11_isPlace 3 (some .boolean)) rmX11_isPlace 0 0 [.ref (q 11), .int v1, .int v2] (wC V q ts u) (rEq (some (.int res)) (wC V q ts u)) :=
  Ct_of (by decide) (Nat.le_of_ble_eq_true rfl) rfl (fun X hX hT _ hF => wX11_isPlace ⟨hX, hT, hF⟩ hE hf)
def rmX11_allows : Room := { frames := 2, cells := 0, slots := 0, locals := 51 }
def fX11_allows (u : St) (v1 : Int32) (v2 : Int32) (v3 : Int32) : Option (Int32) := cl1 (fX4_has u v1) (fun x1 => if x1 = 0 then some (-2) else (cl1 (fX11_isPlace u v2 v3) (fun x2 => if x2 = 0 then some (-2) else (cl1 (fX4_landsByPaper u v1 v3) (fun x3 => cl1 (fX11_isIn x3 v2) (fun x4 => if x4 = 0 then some 0 else (some 1)))))))
theorem wX11_allows {X : Cx} {V : Vx} {q : Nat → Nat} {g : Nat → Nat} {ts : List Tx} {u : St} {res : Int32} (h : Run X cX11_allows 4 RX11 rmX11_allows V (some .int) (rEq (some (.int res)) (wC V q ts u))) (hE : EnvC V g) {v1 : Int32} {v2 : Int32} {v3 : Int32} (hf : fX11_allows u v1 v2 v3 = some res) : At X 4 0 0 (wC V q ts u) 0 [(0, .ref (q 11)), (1, .int v1), (2, .int v2), (3, .int v3)] [] := by
  obtain ⟨hX, hT, hF⟩ := id h
  unfold fX11_allows at hf
  refine a_aload_n hX dX11_allows_0 rfl 0 rfl rfl ?_
  refine gX11_2 hX F_X11_29 dX11_allows_1 rfl ?_
  refine a_iload_n hX dX11_allows_4 rfl 1 rfl rfl ?_
  obtain ⟨x1, hg1, hf⟩ := cl1_some hf
  refine a_cVsi (q0 := 2) (rest := []) hX hE.1 (ctX4_has (q := q) hE hg1) K_X11_122 ⟨rfl, rfl⟩ ⟨rfl, rfl, by decide, by decide⟩ ⟨Nat.zero_le _, Nat.zero_le _⟩ (Nat.le_of_ble_eq_true rfl) dX11_allows_5 rfl rfl ?_
  refine a_if_eq (tgt := 20) hX dX11_allows_8 rfl rfl hf (fun hf => ?_) (fun hf => ?_)
  · refine a_bipush (v := (-2)) hX dX11_allows_20 (by decide) rfl ?_
    exact a_iret hX hT hF (r_i hf) dX11_allows_22
  · refine a_aload_n hX dX11_allows_11 rfl 0 rfl rfl ?_
    refine a_iload_n hX dX11_allows_12 rfl 2 rfl rfl ?_
    refine a_iload_n hX dX11_allows_13 rfl 3 rfl rfl ?_
    obtain ⟨x2, hg2, hf⟩ := cl1_some hf
    refine a_cVsi (q0 := 0) (rest := []) hX hE.1 (ctX11_isPlace (q := q) hE hg2) K_X11_151 ⟨rfl, rfl⟩ ⟨rfl, rfl, by decide, by decide⟩ ⟨Nat.zero_le _, Nat.zero_le _⟩ (Nat.le_of_ble_eq_true rfl) dX11_allows_14 rfl rfl ?_
    refine a_if_ne (tgt := 23) hX dX11_allows_17 rfl rfl hf (fun hf => ?_) (fun hf => ?_)
    · refine a_aload_n hX dX11_allows_23 rfl 0 rfl rfl ?_
      refine gX11_2 hX F_X11_29 dX11_allows_24 rfl ?_
      refine a_iload_n hX dX11_allows_27 rfl 1 rfl rfl ?_
      refine a_iload_n hX dX11_allows_28 rfl 3 rfl rfl ?_
      obtain ⟨x3, hg3, hf⟩ := cl1_some hf
      refine a_cVsi (q0 := 2) (rest := []) hX hE.1 (ctX4_landsByPaper (q := q) hE hg3) K_X11_154 ⟨rfl, rfl⟩ ⟨rfl, rfl, by decide, by decide⟩ ⟨Nat.zero_le _, Nat.zero_le _⟩ (Nat.le_of_ble_eq_true rfl) dX11_allows_29 rfl rfl ?_
      refine a_iload_n hX dX11_allows_32 rfl 2 rfl rfl ?_
      obtain ⟨x4, hg4, hf⟩ := cl1_some hf
      refine a_cSpi (rest := []) hX hE.1 (ctX11_isIn hE.1 hg4) K_X11_144 ⟨rfl, rfl, by decide, by decide⟩ ⟨Nat.zero_le _, Nat.zero_le _⟩ (Nat.le_of_ble_eq_true rfl) dX11_allows_33 rfl rfl ?_
      refine a_if_eq (tgt := 43) hX dX11_allows_36 rfl rfl hf (fun hf => ?_) (fun hf => ?_)
      · refine a_iconst (v := 0) hX dX11_allows_43 (by decide) rfl ?_
        exact a_iret hX hT hF (r_i hf) dX11_allows_44
      · refine a_iconst (v := 1) hX dX11_allows_39 (by decide) rfl ?_
        refine a_goto (pc' := 44) hX dX11_allows_40 rfl ?_
        exact a_iret hX hT hF (r_i hf) dX11_allows_44
    · refine a_bipush (v := (-2)) hX dX11_allows_20 (by decide) rfl ?_
      exact a_iret hX hT hF (r_i hf) dX11_allows_22
theorem ctX11_allows {V : Vx} {q : Nat → Nat} {u : St} {g : Nat → Nat} {ts : List Tx} {res : Int32} (hE : EnvC V g) {v1 : Int32} {v2 : Int32} {v3 : Int32} (hf : fX11_allows u v1 v2 v3 = some res) : Ct V yX11_allows (.code yX11_allows cX11_allows 4 (some .int)) rmX11_allows 0 0 [.ref (q 11), .int v1, .int v2, .int v3] (wC V q ts u) (rEq (some (.int res)) (wC V q ts u)) :=
  Ct_of (by decide) (Nat.le_of_ble_eq_true rfl) rfl (fun X hX hT _ hF => wX11_allows ⟨hX, hT, hF⟩ hE hf)
def rmX11_forge : Room := { frames := 3, cells := 0, slots := 0, locals := 66 }
def fX11_forge_b38   (u : St) (s0 : Int32) (s1 : Int32) : Option (Int32 × St) := cl1 (fX4_markForged u s1 s0) (fun u3 => cl1 (fX4_standingCount u3) (fun x4 => some (x4, u3)))
theorem wX11_forge_b38 {X : Cx} {V : Vx} {q : Nat → Nat} {g : Nat → Nat} {ts : List Tx} {res : Int32 × St} (h : Run X cX11_forge 3 RX11 rmX11_forge V (some .int) (rEq (some (.int res.1)) (wC V q ts res.2))) (hE : EnvC V g) {u : St} {s0 : Int32} {s1 : Int32} (hf : fX11_forge_b38   u s0 s1 = some res) : At X 3 0 0 (wC V q ts u) 38 [(0, .ref (q 11))] [.int s0, .int s1, .ref (q 4)] := by
  obtain ⟨hX, hT, hF⟩ := id h
  unfold fX11_forge_b38 at hf
  obtain ⟨u3, hg2, hf⟩ := cl1_some hf
  refine a_cVsv (q0 := 2) (rest := []) hX hE.1 (ctX4_markForged (q := q) hE hg2) K_X11_157 ⟨rfl, rfl⟩ ⟨rfl, rfl, by decide, by decide⟩ ⟨Nat.zero_le _, Nat.zero_le _⟩ (Nat.le_of_ble_eq_true rfl) dX11_forge_38 rfl rfl ?_
  refine a_aload_n hX dX11_forge_41 rfl 0 rfl rfl ?_
  refine gX11_2 hX F_X11_29 dX11_forge_42 rfl ?_
  obtain ⟨x4, hg4, hf⟩ := cl1_some hf
  refine a_cVsi (q0 := 2) (rest := []) hX hE.1 (ctX4_standingCount (q := q) hE hg4) K_X11_161 ⟨rfl, rfl⟩ ⟨rfl, rfl, by decide, by decide⟩ ⟨Nat.zero_le _, Nat.zero_le _⟩ (Nat.le_of_ble_eq_true rfl) dX11_forge_45 rfl rfl ?_
  exact a_iret hX hT hF (r_iS (wf := (wC V q ts)) hf) dX11_forge_48
def fX11_forge (u : St) (v1 : Int32) (v2 : Int32) : Option (Int32 × St) := cl1 (fX4_has u v1) (fun x1 => if x1 = 0 then some ((-2), u) else (if v2 < 0 then some ((-2), u) else (if v2 ≤ 1 then if v2 = 1 then fX11_forge_b38 u 1 v1 else (fX11_forge_b38 u 0 v1) else (some ((-2), u)))))
theorem wX11_forge {X : Cx} {V : Vx} {q : Nat → Nat} {g : Nat → Nat} {ts : List Tx} {res : Int32 × St} (h : Run X cX11_forge 3 RX11 rmX11_forge V (some .int) (rEq (some (.int res.1)) (wC V q ts res.2))) (hE : EnvC V g) {u : St} {v1 : Int32} {v2 : Int32} (hf : fX11_forge u v1 v2 = some res) : At X 3 0 0 (wC V q ts u) 0 [(0, .ref (q 11)), (1, .int v1), (2, .int v2)] [] := by
  obtain ⟨hX, hT, hF⟩ := id h
  unfold fX11_forge at hf
  refine a_aload_n hX dX11_forge_0 rfl 0 rfl rfl ?_
  refine gX11_2 hX F_X11_29 dX11_forge_1 rfl ?_
  refine a_iload_n hX dX11_forge_4 rfl 1 rfl rfl ?_
  obtain ⟨x1, hg1, hf⟩ := cl1_some hf
  refine a_cVsi (q0 := 2) (rest := []) hX hE.1 (ctX4_has (q := q) hE hg1) K_X11_122 ⟨rfl, rfl⟩ ⟨rfl, rfl, by decide, by decide⟩ ⟨Nat.zero_le _, Nat.zero_le _⟩ (Nat.le_of_ble_eq_true rfl) dX11_forge_5 rfl rfl ?_
  refine a_if_eq (tgt := 20) hX dX11_forge_8 rfl rfl hf (fun hf => ?_) (fun hf => ?_)
  · refine a_bipush (v := (-2)) hX dX11_forge_20 (by decide) rfl ?_
    exact a_iret hX hT hF (r_iS (wf := (wC V q ts)) hf) dX11_forge_22
  · refine a_iload_n hX dX11_forge_11 rfl 2 rfl rfl ?_
    refine a_if_lt (tgt := 20) hX dX11_forge_12 rfl rfl hf (fun hf => ?_) (fun hf => ?_)
    · refine a_bipush (v := (-2)) hX dX11_forge_20 (by decide) rfl ?_
      exact a_iret hX hT hF (r_iS (wf := (wC V q ts)) hf) dX11_forge_22
    · refine a_iload_n hX dX11_forge_15 rfl 2 rfl rfl ?_
      refine a_iconst (v := 1) hX dX11_forge_16 (by decide) rfl ?_
      refine a_icmp_le (tgt := 23) hX dX11_forge_17 rfl rfl hf (fun hf => ?_) (fun hf => ?_)
      · refine a_aload_n hX dX11_forge_23 rfl 0 rfl rfl ?_
        refine gX11_2 hX F_X11_29 dX11_forge_24 rfl ?_
        refine a_iload_n hX dX11_forge_27 rfl 1 rfl rfl ?_
        refine a_iload_n hX dX11_forge_28 rfl 2 rfl rfl ?_
        refine a_iconst (v := 1) hX dX11_forge_29 (by decide) rfl ?_
        refine a_icmp_ne (tgt := 37) hX dX11_forge_30 rfl rfl hf (fun hf => ?_) (fun hf => ?_)
        · refine a_iconst (v := 0) hX dX11_forge_37 (by decide) rfl ?_
          refine a_lv (lv' := [(0, .ref (q 11))]) [0] rfl ?_
          exact wX11_forge_b38 h hE hf
        · refine a_iconst (v := 1) hX dX11_forge_33 (by decide) rfl ?_
          refine a_goto (pc' := 38) hX dX11_forge_34 rfl ?_
          refine a_lv (lv' := [(0, .ref (q 11))]) [0] rfl ?_
          exact wX11_forge_b38 h hE hf
      · refine a_bipush (v := (-2)) hX dX11_forge_20 (by decide) rfl ?_
        exact a_iret hX hT hF (r_iS (wf := (wC V q ts)) hf) dX11_forge_22
theorem ctX11_forge {V : Vx} {q : Nat → Nat} {u : St} {g : Nat → Nat} {ts : List Tx} {res : Int32 × St} (hE : EnvC V g) {v1 : Int32} {v2 : Int32} (hf : fX11_forge u v1 v2 = some res) : Ct V yX11_forge (.code yX11_forge cX11_forge 3 (some .int)) rmX11_forge 0 0 [.ref (q 11), .int v1, .int v2] (wC V q ts u) (rEq (some (.int res.1)) (wC V q ts res.2)) :=
  Ct_of (by decide) (Nat.le_of_ble_eq_true rfl) rfl (fun X hX hT _ hF => wX11_forge ⟨hX, hT, hF⟩ hE hf)
def rmX11_fall : Room := { frames := 3, cells := 0, slots := 0, locals := 65 }
def fX11_fall (u : St) (v1 : Int32) : Option (Int32) := cl1 (fX4_has u v1) (fun x1 => if x1 = 0 then some (-2) else (cl1 (fX4_fallingWith u v1) (fun x2 => some x2)))
theorem wX11_fall {X : Cx} {V : Vx} {q : Nat → Nat} {g : Nat → Nat} {ts : List Tx} {u : St} {res : Int32} (h : Run X cX11_fall 2 RX11 rmX11_fall V (some .int) (rEq (some (.int res)) (wC V q ts u))) (hE : EnvC V g) {v1 : Int32} (hf : fX11_fall u v1 = some res) : At X 2 0 0 (wC V q ts u) 0 [(0, .ref (q 11)), (1, .int v1)] [] := by
  obtain ⟨hX, hT, hF⟩ := id h
  unfold fX11_fall at hf
  refine a_aload_n hX dX11_fall_0 rfl 0 rfl rfl ?_
  refine gX11_2 hX F_X11_29 dX11_fall_1 rfl ?_
  refine a_iload_n hX dX11_fall_4 rfl 1 rfl rfl ?_
  obtain ⟨x1, hg1, hf⟩ := cl1_some hf
  refine a_cVsi (q0 := 2) (rest := []) hX hE.1 (ctX4_has (q := q) hE hg1) K_X11_122 ⟨rfl, rfl⟩ ⟨rfl, rfl, by decide, by decide⟩ ⟨Nat.zero_le _, Nat.zero_le _⟩ (Nat.le_of_ble_eq_true rfl) dX11_fall_5 rfl rfl ?_
  refine a_if_ne (tgt := 14) hX dX11_fall_8 rfl rfl hf (fun hf => ?_) (fun hf => ?_)
  · refine a_aload_n hX dX11_fall_14 rfl 0 rfl rfl ?_
    refine gX11_2 hX F_X11_29 dX11_fall_15 rfl ?_
    refine a_iload_n hX dX11_fall_18 rfl 1 rfl rfl ?_
    obtain ⟨x2, hg2, hf⟩ := cl1_some hf
    refine a_cVsi (q0 := 2) (rest := []) hX hE.1 (ctX4_fallingWith (q := q) hE hg2) K_X11_165 ⟨rfl, rfl⟩ ⟨rfl, rfl, by decide, by decide⟩ ⟨Nat.zero_le _, Nat.zero_le _⟩ (Nat.le_of_ble_eq_true rfl) dX11_fall_19 rfl rfl ?_
    exact a_iret hX hT hF (r_i hf) dX11_fall_22
  · refine a_bipush (v := (-2)) hX dX11_fall_11 (by decide) rfl ?_
    exact a_iret hX hT hF (r_i hf) dX11_fall_13
theorem ctX11_fall {V : Vx} {q : Nat → Nat} {u : St} {g : Nat → Nat} {ts : List Tx} {res : Int32} (hE : EnvC V g) {v1 : Int32} (hf : fX11_fall u v1 = some res) : Ct V yX11_fall (.code yX11_fall cX11_fall 2 (some .int)) rmX11_fall 0 0 [.ref (q 11), .int v1] (wC V q ts u) (rEq (some (.int res)) (wC V q ts u)) :=
  Ct_of (by decide) (Nat.le_of_ble_eq_true rfl) rfl (fun X hX hT _ hF => wX11_fall ⟨hX, hT, hF⟩ hE hf)
def rmX11_histories : Room := { frames := 5, cells := 0, slots := 0, locals := 117 }
def fX11_histories (u : St) : Option (Int64 × St) := cl1 (fX1_recount u) (fun u2 => cl1 (fX1_total u2) (fun x3 => some (x3, u2)))
theorem wX11_histories {X : Cx} {V : Vx} {q : Nat → Nat} {g : Nat → Nat} {ts : List Tx} {res : Int64 × St} (h : Run X cX11_histories 1 RX11 rmX11_histories V (some .long) (rEq (some (.long res.1)) (wC V q ts res.2))) (hE : EnvC V g) {u : St} (hf : fX11_histories u = some res) : At X 1 0 0 (wC V q ts u) 0 [(0, .ref (q 11))] [] := by
  obtain ⟨hX, hT, hF⟩ := id h
  unfold fX11_histories at hf
  refine a_aload_n hX dX11_histories_0 rfl 0 rfl rfl ?_
  refine gX11_3 hX F_X11_38 dX11_histories_1 rfl ?_
  obtain ⟨u2, hg1, hf⟩ := cl1_some hf
  refine a_cVsv (q0 := 3) (rest := []) hX hE.1 (ctX1_recount (q := q) hE hg1) K_X11_169 ⟨rfl, rfl⟩ ⟨rfl, rfl, by decide, by decide⟩ ⟨Nat.zero_le _, Nat.zero_le _⟩ (Nat.le_of_ble_eq_true rfl) dX11_histories_4 rfl rfl ?_
  refine a_aload_n hX dX11_histories_7 rfl 0 rfl rfl ?_
  refine gX11_3 hX F_X11_38 dX11_histories_8 rfl ?_
  obtain ⟨x3, hg3, hf⟩ := cl1_some hf
  refine a_cVsl (q0 := 3) (rest := []) hX hE.1 (ctX1_total (q := q) hE hg3) K_X11_172 ⟨rfl, rfl⟩ ⟨rfl, rfl, by decide, by decide⟩ ⟨Nat.zero_le _, Nat.zero_le _⟩ (Nat.le_of_ble_eq_true rfl) dX11_histories_11 rfl rfl ?_
  exact a_lret hX hT hF (r_lS (wf := (wC V q ts)) hf) dX11_histories_14
theorem ctX11_histories {V : Vx} {q : Nat → Nat} {u : St} {g : Nat → Nat} {ts : List Tx} {res : Int64 × St} (hE : EnvC V g)  (hf : fX11_histories u = some res) : Ct V yX11_histories (.code yX11_histories cX11_histories 1 (some .long)) rmX11_histories 0 0 [.ref (q 11)] (wC V q ts u) (rEq (some (.long res.1)) (wC V q ts res.2)) :=
  Ct_of (by decide) (Nat.le_of_ble_eq_true rfl) rfl (fun X hX hT _ hF => wX11_histories ⟨hX, hT, hF⟩ hE hf)
def rmX11_at : Room := { frames := 5, cells := 0, slots := 0, locals := 117 }
def fX11_at (u : St) (v1 : Int32) (v2 : Int32) : Option (Int64 × St) := cl1 (fX11_isPlace u v1 v2) (fun x1 => if x1 = 0 then some ((-4611686018427387904), u) else (cl1 (fX1_recount u) (fun u3 => cl1 (fX11_place v1 v2) (fun x4 => cl1 (fX1_through u3 x4) (fun x5 => some (x5, u3))))))
theorem wX11_at {X : Cx} {V : Vx} {q : Nat → Nat} {g : Nat → Nat} {ts : List Tx} {res : Int64 × St} (h : Run X cX11_at 3 RX11 rmX11_at V (some .long) (rEq (some (.long res.1)) (wC V q ts res.2))) (hE : EnvC V g) {u : St} {v1 : Int32} {v2 : Int32} (hf : fX11_at u v1 v2 = some res) : At X 3 0 0 (wC V q ts u) 0 [(0, .ref (q 11)), (1, .int v1), (2, .int v2)] [] := by
  obtain ⟨hX, hT, hF⟩ := id h
  unfold fX11_at at hf
  refine a_aload_n hX dX11_at_0 rfl 0 rfl rfl ?_
  refine a_iload_n hX dX11_at_1 rfl 1 rfl rfl ?_
  refine a_iload_n hX dX11_at_2 rfl 2 rfl rfl ?_
  obtain ⟨x1, hg1, hf⟩ := cl1_some hf
  refine a_cVsi (q0 := 0) (rest := []) hX hE.1 (ctX11_isPlace (q := q) hE hg1) K_X11_151 ⟨rfl, rfl⟩ ⟨rfl, rfl, by decide, by decide⟩ ⟨Nat.zero_le _, Nat.zero_le _⟩ (Nat.le_of_ble_eq_true rfl) dX11_at_3 rfl rfl ?_
  refine a_if_ne (tgt := 13) hX dX11_at_6 rfl rfl hf (fun hf => ?_) (fun hf => ?_)
  · refine a_aload_n hX dX11_at_13 rfl 0 rfl rfl ?_
    refine gX11_3 hX F_X11_38 dX11_at_14 rfl ?_
    obtain ⟨u3, hg2, hf⟩ := cl1_some hf
    refine a_cVsv (q0 := 3) (rest := []) hX hE.1 (ctX1_recount (q := q) hE hg2) K_X11_169 ⟨rfl, rfl⟩ ⟨rfl, rfl, by decide, by decide⟩ ⟨Nat.zero_le _, Nat.zero_le _⟩ (Nat.le_of_ble_eq_true rfl) dX11_at_17 rfl rfl ?_
    refine a_aload_n hX dX11_at_20 rfl 0 rfl rfl ?_
    refine gX11_3 hX F_X11_38 dX11_at_21 rfl ?_
    refine a_iload_n hX dX11_at_24 rfl 1 rfl rfl ?_
    refine a_iload_n hX dX11_at_25 rfl 2 rfl rfl ?_
    obtain ⟨x4, hg4, hf⟩ := cl1_some hf
    refine a_cSpi (rest := [.ref (q 1)]) hX hE.1 (ctX11_place hE.1 hg4) K_X11_178 ⟨rfl, rfl, by decide, by decide⟩ ⟨Nat.zero_le _, Nat.zero_le _⟩ (Nat.le_of_ble_eq_true rfl) dX11_at_26 rfl rfl ?_
    obtain ⟨x5, hg5, hf⟩ := cl1_some hf
    refine a_cVsl (q0 := 3) (rest := []) hX hE.1 (ctX1_through (q := q) hE hg5) K_X11_181 ⟨rfl, rfl⟩ ⟨rfl, rfl, by decide, by decide⟩ ⟨Nat.zero_le _, Nat.zero_le _⟩ (Nat.le_of_ble_eq_true rfl) dX11_at_29 rfl rfl ?_
    exact a_lret hX hT hF (r_lS (wf := (wC V q ts)) hf) dX11_at_32
  · refine a_ldc2 hX dX11_at_9 N_X11_176 rfl ?_
    exact a_lret hX hT hF (r_lS (wf := (wC V q ts)) hf) dX11_at_12
theorem ctX11_at {V : Vx} {q : Nat → Nat} {u : St} {g : Nat → Nat} {ts : List Tx} {res : Int64 × St} (hE : EnvC V g) {v1 : Int32} {v2 : Int32} (hf : fX11_at u v1 v2 = some res) : Ct V yX11_at (.code yX11_at cX11_at 3 (some .long)) rmX11_at 0 0 [.ref (q 11), .int v1, .int v2] (wC V q ts u) (rEq (some (.long res.1)) (wC V q ts res.2)) :=
  Ct_of (by decide) (Nat.le_of_ble_eq_true rfl) rfl (fun X hX hT _ hF => wX11_at ⟨hX, hT, hF⟩ hE hf)
def rmX11_both : Room := { frames := 5, cells := 0, slots := 0, locals := 117 }
def fX11_both (u : St) (v1 : Int32) (v2 : Int32) (v3 : Int32) (v4 : Int32) : Option (Int64 × St) := cl1 (fX11_isPlace u v1 v2) (fun x1 => if x1 = 0 then some ((-4611686018427387904), u) else (cl1 (fX11_isPlace u v3 v4) (fun x2 => if x2 = 0 then some ((-4611686018427387904), u) else (cl1 (fX1_recount u) (fun u4 => cl1 (fX1_countWith u4 v1 v2) (fun u6 => cl1 (fX11_place v3 v4) (fun x7 => ldL (gB u6 23) 60 x7 (fun x8 => some (x8, u6)))))))))
theorem wX11_both {X : Cx} {V : Vx} {q : Nat → Nat} {g : Nat → Nat} {ts : List Tx} {res : Int64 × St} (h : Run X cX11_both 5 RX11 rmX11_both V (some .long) (rEq (some (.long res.1)) (wC V q ts res.2))) (hE : EnvC V g) {u : St} {v1 : Int32} {v2 : Int32} {v3 : Int32} {v4 : Int32} (hf : fX11_both u v1 v2 v3 v4 = some res) : At X 5 0 0 (wC V q ts u) 0 [(0, .ref (q 11)), (1, .int v1), (2, .int v2), (3, .int v3), (4, .int v4)] [] := by
  obtain ⟨hX, hT, hF⟩ := id h
  unfold fX11_both at hf
  refine a_aload_n hX dX11_both_0 rfl 0 rfl rfl ?_
  refine a_iload_n hX dX11_both_1 rfl 1 rfl rfl ?_
  refine a_iload_n hX dX11_both_2 rfl 2 rfl rfl ?_
  obtain ⟨x1, hg1, hf⟩ := cl1_some hf
  refine a_cVsi (q0 := 0) (rest := []) hX hE.1 (ctX11_isPlace (q := q) hE hg1) K_X11_151 ⟨rfl, rfl⟩ ⟨rfl, rfl, by decide, by decide⟩ ⟨Nat.zero_le _, Nat.zero_le _⟩ (Nat.le_of_ble_eq_true rfl) dX11_both_3 rfl rfl ?_
  refine a_if_eq (tgt := 19) hX dX11_both_6 rfl rfl hf (fun hf => ?_) (fun hf => ?_)
  · refine a_ldc2 hX dX11_both_19 N_X11_176 rfl ?_
    exact a_lret hX hT hF (r_lS (wf := (wC V q ts)) hf) dX11_both_22
  · refine a_aload_n hX dX11_both_9 rfl 0 rfl rfl ?_
    refine a_iload_n hX dX11_both_10 rfl 3 rfl rfl ?_
    refine a_iload hX dX11_both_11 4 rfl rfl ?_
    obtain ⟨x2, hg2, hf⟩ := cl1_some hf
    refine a_cVsi (q0 := 0) (rest := []) hX hE.1 (ctX11_isPlace (q := q) hE hg2) K_X11_151 ⟨rfl, rfl⟩ ⟨rfl, rfl, by decide, by decide⟩ ⟨Nat.zero_le _, Nat.zero_le _⟩ (Nat.le_of_ble_eq_true rfl) dX11_both_13 rfl rfl ?_
    refine a_if_ne (tgt := 23) hX dX11_both_16 rfl rfl hf (fun hf => ?_) (fun hf => ?_)
    · refine a_aload_n hX dX11_both_23 rfl 0 rfl rfl ?_
      refine gX11_3 hX F_X11_38 dX11_both_24 rfl ?_
      obtain ⟨u4, hg3, hf⟩ := cl1_some hf
      refine a_cVsv (q0 := 3) (rest := []) hX hE.1 (ctX1_recount (q := q) hE hg3) K_X11_169 ⟨rfl, rfl⟩ ⟨rfl, rfl, by decide, by decide⟩ ⟨Nat.zero_le _, Nat.zero_le _⟩ (Nat.le_of_ble_eq_true rfl) dX11_both_27 rfl rfl ?_
      refine a_aload_n hX dX11_both_30 rfl 0 rfl rfl ?_
      refine gX11_3 hX F_X11_38 dX11_both_31 rfl ?_
      refine a_iload_n hX dX11_both_34 rfl 1 rfl rfl ?_
      refine a_iload_n hX dX11_both_35 rfl 2 rfl rfl ?_
      obtain ⟨u6, hg5, hf⟩ := cl1_some hf
      refine a_cVsv (q0 := 3) (rest := []) hX hE.1 (ctX1_countWith (q := q) hE hg5) K_X11_185 ⟨rfl, rfl⟩ ⟨rfl, rfl, by decide, by decide⟩ ⟨Nat.zero_le _, Nat.zero_le _⟩ (Nat.le_of_ble_eq_true rfl) dX11_both_36 rfl rfl ?_
      refine a_aload_n hX dX11_both_39 rfl 0 rfl rfl ?_
      refine gX11_3 hX F_X11_38 dX11_both_40 rfl ?_
      refine gX1_3 hX F_X11_189 dX11_both_43 rfl ?_
      refine a_iload_n hX dX11_both_46 rfl 3 rfl rfl ?_
      refine a_iload hX dX11_both_47 4 rfl rfl ?_
      obtain ⟨x7, hg7, hf⟩ := cl1_some hf
      refine a_cSpi (rest := [.ref (q 123)]) hX hE.1 (ctX11_place hE.1 hg7) K_X11_178 ⟨rfl, rfl, by decide, by decide⟩ ⟨Nat.zero_le _, Nat.zero_le _⟩ (Nat.le_of_ble_eq_true rfl) dX11_both_49 rfl rfl ?_
      refine lX1_3 hX dX11_both_52 rfl hf (fun x8 hf => ?_)
      exact a_lret hX hT hF (r_lS (wf := (wC V q ts)) hf) dX11_both_53
    · refine a_ldc2 hX dX11_both_19 N_X11_176 rfl ?_
      exact a_lret hX hT hF (r_lS (wf := (wC V q ts)) hf) dX11_both_22
theorem ctX11_both {V : Vx} {q : Nat → Nat} {u : St} {g : Nat → Nat} {ts : List Tx} {res : Int64 × St} (hE : EnvC V g) {v1 : Int32} {v2 : Int32} {v3 : Int32} {v4 : Int32} (hf : fX11_both u v1 v2 v3 v4 = some res) : Ct V yX11_both (.code yX11_both cX11_both 5 (some .long)) rmX11_both 0 0 [.ref (q 11), .int v1, .int v2, .int v3, .int v4] (wC V q ts u) (rEq (some (.long res.1)) (wC V q ts res.2)) :=
  Ct_of (by decide) (Nat.le_of_ble_eq_true rfl) rfl (fun X hX hT _ hF => wX11_both ⟨hX, hT, hF⟩ hE hf)
