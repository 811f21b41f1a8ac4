def rmX11_place : Room := { frames := 0, cells := 0, slots := 0, locals := 0 }
def fX11_place (v0 : Int32) (v1 : Int32) : Option (Int32) := some ((v1 * 5) + v0)
theorem wX11_place {X : Cx} {V : Vx} {res : Int32} (h : Run X cX11_place 2 RX11 rmX11_place V (some .int) (rEq (some (.int res)) [])) (hE : ZOK (vZ V)) {v0 : Int32} {v1 : Int32} (hf : fX11_place v0 v1 = some res) : At X 2 0 0 [] 0 [(0, .int v0), (1, .int v1)] [] := by
  obtain ⟨hX, hT, hF⟩ := id h
  unfold fX11_place at hf
  refine a_iload_n hX dX11_place_0 rfl 1 rfl rfl ?_
  refine a_iconst (v := 5) hX dX11_place_1 (by decide) rfl ?_
  refine a_imul hX dX11_place_2 rfl ?_
  refine a_iload_n hX dX11_place_3 rfl 0 rfl rfl ?_
  refine a_iadd hX dX11_place_4 rfl ?_
  exact a_iret hX hT hF (r_i hf) dX11_place_5
theorem ctX11_place {V : Vx} {res : Int32} (hE : ZOK (vZ V)) {v0 : Int32} {v1 : Int32} (hf : fX11_place v0 v1 = some res) : Ct V yX11_place (.code yX11_place cX11_place 2 (some .int)) rmX11_place 0 0 [.int v0, .int v1] [] (rEq (some (.int res)) []) :=
  Ct_of (by decide) (Nat.le_of_ble_eq_true rfl) rfl (fun X hX hT _ hF => wX11_place ⟨hX, hT, hF⟩ hE hf)
def rmX0_givenTo : Room := { frames := 1, cells := 0, slots := 0, locals := 21 }
def fX0_givenTo (u : St) (v1 : Int32) : Option (Int64) := ldL (gB u 2) 5 v1 (fun x1 => cl1 (fX11_place v1 ((gZ u 4) - 1)) (fun x2 => ldL (gB u 3) 60 x2 (fun x3 => some (x1 + x3))))
theorem wX0_givenTo {X : Cx} {V : Vx} {q : Nat → Nat} {g : Nat → Nat} {ts : List Tx} {u : St} {res : Int64} (h : Run X cX0_givenTo 2 RX0 rmX0_givenTo V (some .long) (rEq (some (.long res)) (wC V q ts u))) (hE : EnvC V g) {v1 : Int32} (hf : fX0_givenTo u v1 = some res) : At X 2 0 0 (wC V q ts u) 0 [(0, .ref (q 0)), (1, .int v1)] [] := by
  obtain ⟨hX, hT, hF⟩ := id h
  unfold fX0_givenTo at hf
  refine a_aload_n hX dX0_givenTo_0 rfl 0 rfl rfl ?_
  refine gX0_2 hX F_X0_15 dX0_givenTo_1 rfl ?_
  refine a_iload_n hX dX0_givenTo_4 rfl 1 rfl rfl ?_
  refine lX0_2 hX dX0_givenTo_5 rfl hf (fun x1 hf => ?_)
  refine a_aload_n hX dX0_givenTo_6 rfl 0 rfl rfl ?_
  refine gX0_3 hX F_X0_18 dX0_givenTo_7 rfl ?_
  refine a_iload_n hX dX0_givenTo_10 rfl 1 rfl rfl ?_
  refine a_aload_n hX dX0_givenTo_11 rfl 0 rfl rfl ?_
  refine gX0_4 hX F_X0_21 dX0_givenTo_12 rfl ?_
  refine a_iconst (v := 1) hX dX0_givenTo_15 (by decide) rfl ?_
  refine a_isub hX dX0_givenTo_16 rfl ?_
  obtain ⟨x2, hg2, hf⟩ := cl1_some hf
  refine a_cNpi (rest := [.ref (q 103), .long x1]) hX hE.1 (ctX11_place hE.1 hg2) (e_nw hX hE (w := .methodLinkNest "VaseCourt$Bench" 37 yX11_place "VaseCourt") (List.mem_of_getElem? (i := 9) rfl)) LN_X11_place ⟨rfl, rfl, by decide, by decide⟩ ⟨Nat.zero_le _, Nat.zero_le _⟩ (Nat.le_of_ble_eq_true rfl) dX0_givenTo_17 rfl rfl ?_
  refine lX0_3 hX dX0_givenTo_20 rfl hf (fun x3 hf => ?_)
  refine a_ladd hX dX0_givenTo_21 rfl ?_
  exact a_lret hX hT hF (r_l hf) dX0_givenTo_22
theorem ctX0_givenTo {V : Vx} {q : Nat → Nat} {u : St} {g : Nat → Nat} {ts : List Tx} {res : Int64} (hE : EnvC V g) {v1 : Int32} (hf : fX0_givenTo u v1 = some res) : Ct V yX0_givenTo (.code yX0_givenTo cX0_givenTo 2 (some .long)) rmX0_givenTo 0 0 [.ref (q 0), .int v1] (wC V q ts u) (rEq (some (.long res)) (wC V q ts u)) :=
  Ct_of (by decide) (Nat.le_of_ble_eq_true rfl) rfl (fun X hX hT _ hF => wX0_givenTo ⟨hX, hT, hF⟩ hE hf)
def rmJ7_fill_d0a16_X0_2 : Room := { frames := 0, cells := 0, slots := 0, locals := 0 }
def fJ7_fill_d0a16_X0_2_l6b  (k6 : St → Int32 → Option (St)) (u : St) (v1 : Int64) (v3 : Int32) (v4 : Int32) : Option (St) := if v4 ≤ v3 then some u else (stL u 2 5 v3 v1 (fun u1 => k6 u1 (v3 + 1)))
theorem wJ7_fill_d0a16_X0_2_l6b {X : Cx} {V : Vx} {q : Nat → Nat} {g : Nat → Nat} {ts : List Tx} {res : St} (h : Run X cJ7_fill_d0a16 5 RJ7 rmJ7_fill_d0a16_X0_2 V none (rEq none (wC V q ts res))) (hE : EnvC V g) {u : St} {v1 : Int64} {v3 : Int32} {v4 : Int32} {k6 : St → Int32 → Option (St)} (hk6 : ∀ (u : St) (v3 : Int32), k6 u v3 = some res → At X 5 0 0 (wC V q ts u) 6 [(0, .ref (q 102)), (1, .long v1), (3, .int v3), (4, .int v4)] []) (hf : fJ7_fill_d0a16_X0_2_l6b  k6 u v1 v3 v4 = some res) : At X 5 0 0 (wC V q ts u) 6 [(0, .ref (q 102)), (1, .long v1), (3, .int v3), (4, .int v4)] [] := by
  obtain ⟨hX, hT, hF⟩ := id h
  unfold fJ7_fill_d0a16_X0_2_l6b at hf
  refine a_iload_n hX dJ7_fill_d0a16_6 rfl 2 rfl rfl ?_
  refine a_iload hX dJ7_fill_d0a16_7 3 rfl rfl ?_
  refine a_icmp_ge (tgt := 22) hX dJ7_fill_d0a16_9 rfl rfl hf (fun hf => ?_) (fun hf => ?_)
  · exact a_ret hX hT hF (r_vS (wf := (wC V q ts)) hf) dJ7_fill_d0a16_22
  · refine a_aload_n hX dJ7_fill_d0a16_12 rfl 0 rfl rfl ?_
    refine a_iload_n hX dJ7_fill_d0a16_13 rfl 2 rfl rfl ?_
    refine a_lload_n hX dJ7_fill_d0a16_14 rfl 1 rfl rfl ?_
    refine sX0_2 hX dJ7_fill_d0a16_15 rfl hf (fun u1 hf => ?_)
    refine a_iinc (v := v3 + 1) (lv' := [(3, .int (v3 + 1)), (0, .ref (q 102)), (1, .long v1), (4, .int v4)]) hX dJ7_fill_d0a16_16 2 rfl rfl (by decide) rfl rfl ?_
    refine a_goto (pc' := 6) hX dJ7_fill_d0a16_19 rfl ?_
    refine a_lv (lv' := [(0, .ref (q 102)), (1, .long v1), (3, .int (v3 + 1)), (4, .int v4)]) [1, 2, 0, 3] rfl ?_
    exact hk6 u1 (v3 + 1) hf
def fJ7_fill_d0a16_X0_2_l6   (v1 : Int64) (v4 : Int32) : Nat → St → Int32 → Option (St)
  | 0, _, _ => none
  | m + 1, u, v3 => fJ7_fill_d0a16_X0_2_l6b  (fJ7_fill_d0a16_X0_2_l6   v1 v4 m) u v1 v3 v4
theorem wJ7_fill_d0a16_X0_2_l6 {X : Cx} {V : Vx} {q : Nat → Nat} {g : Nat → Nat} {ts : List Tx} {res : St} (h : Run X cJ7_fill_d0a16 5 RJ7 rmJ7_fill_d0a16_X0_2 V none (rEq none (wC V q ts res))) (hE : EnvC V g) {v1 : Int64} {v4 : Int32} : ∀ (m : Nat) (u : St) (v3 : Int32), fJ7_fill_d0a16_X0_2_l6   v1 v4 m u v3 = some res → At X 5 0 0 (wC V q ts u) 6 [(0, .ref (q 102)), (1, .long v1), (3, .int v3), (4, .int v4)] [] := by
  intro m
  induction m with
  | zero => intro u v3 hf; cases hf
  | succ m ih => intro u v3 hf; exact wJ7_fill_d0a16_X0_2_l6b h hE ih hf
def fJ7_fill_d0a16_X0_2 (u : St) (v1 : Int64) : Option (St) := fJ7_fill_d0a16_X0_2_l6 v1 5 NF u 0
theorem wJ7_fill_d0a16_X0_2 {X : Cx} {V : Vx} {q : Nat → Nat} {g : Nat → Nat} {ts : List Tx} {res : St} (h : Run X cJ7_fill_d0a16 5 RJ7 rmJ7_fill_d0a16_X0_2 V none (rEq none (wC V q ts res))) (hE : EnvC V g) {u : St} {v1 : Int64} (hf : fJ7_fill_d0a16_X0_2 u v1 = some res) : At X 5 0 0 (wC V q ts u) 0 [(0, .ref (q 102)), (1, .long v1)] [] := by
  obtain ⟨hX, hT, hF⟩ := id h
  unfold fJ7_fill_d0a16_X0_2 at hf
  refine a_iconst (v := 0) hX dJ7_fill_d0a16_0 (by decide) rfl ?_
  refine a_istore_n (lv' := [(3, .int 0), (0, .ref (q 102)), (1, .long v1)]) hX dJ7_fill_d0a16_1 rfl (by decide) rfl rfl ?_
  refine a_aload_n hX dJ7_fill_d0a16_2 rfl 1 rfl rfl ?_
  refine a_alen (v := 5) hX 29 1 rfl rfl rfl dJ7_fill_d0a16_3 rfl ?_
  refine a_istore (lv' := [(4, .int 5), (3, .int 0), (0, .ref (q 102)), (1, .long v1)]) hX dJ7_fill_d0a16_4 (by decide) rfl rfl ?_
  refine a_lv (lv' := [(0, .ref (q 102)), (1, .long v1), (3, .int 0), (4, .int 5)]) [2, 3, 1, 0] rfl ?_
  exact wJ7_fill_d0a16_X0_2_l6 h hE NF u 0 hf
theorem ctJ7_fill_d0a16_X0_2 {V : Vx} {q : Nat → Nat} {u : St} {g : Nat → Nat} {ts : List Tx} {res : St} (hE : EnvC V g) {v1 : Int64} (hf : fJ7_fill_d0a16_X0_2 u v1 = some res) : Ct V yJ7_fill_d0a16 (.code yJ7_fill_d0a16 cJ7_fill_d0a16 5 none) rmJ7_fill_d0a16_X0_2 0 0 [.ref (q 102), .long v1] (wC V q ts u) (rEq none (wC V q ts res)) :=
  Ct_of (by decide) (Nat.le_of_ble_eq_true rfl) rfl (fun X hX hT _ hF => wJ7_fill_d0a16_X0_2 ⟨hX, hT, hF⟩ hE hf)
def rmJ7_fill_d0a16_X0_3 : Room := { frames := 0, cells := 0, slots := 0, locals := 0 }
def fJ7_fill_d0a16_X0_3_l6b  (k6 : St → Int32 → Option (St)) (u : St) (v1 : Int64) (v3 : Int32) (v4 : Int32) : Option (St) := if v4 ≤ v3 then some u else (stL u 3 60 v3 v1 (fun u1 => k6 u1 (v3 + 1)))
theorem wJ7_fill_d0a16_X0_3_l6b {X : Cx} {V : Vx} {q : Nat → Nat} {g : Nat → Nat} {ts : List Tx} {res : St} (h : Run X cJ7_fill_d0a16 5 RJ7 rmJ7_fill_d0a16_X0_3 V none (rEq none (wC V q ts res))) (hE : EnvC V g) {u : St} {v1 : Int64} {v3 : Int32} {v4 : Int32} {k6 : St → Int32 → Option (St)} (hk6 : ∀ (u : St) (v3 : Int32), k6 u v3 = some res → At X 5 0 0 (wC V q ts u) 6 [(0, .ref (q 103)), (1, .long v1), (3, .int v3), (4, .int v4)] []) (hf : fJ7_fill_d0a16_X0_3_l6b  k6 u v1 v3 v4 = some res) : At X 5 0 0 (wC V q ts u) 6 [(0, .ref (q 103)), (1, .long v1), (3, .int v3), (4, .int v4)] [] := by
  obtain ⟨hX, hT, hF⟩ := id h
  unfold fJ7_fill_d0a16_X0_3_l6b at hf
  refine a_iload_n hX dJ7_fill_d0a16_6 rfl 2 rfl rfl ?_
  refine a_iload hX dJ7_fill_d0a16_7 3 rfl rfl ?_
  refine a_icmp_ge (tgt := 22) hX dJ7_fill_d0a16_9 rfl rfl hf (fun hf => ?_) (fun hf => ?_)
  · exact a_ret hX hT hF (r_vS (wf := (wC V q ts)) hf) dJ7_fill_d0a16_22
  · refine a_aload_n hX dJ7_fill_d0a16_12 rfl 0 rfl rfl ?_
    refine a_iload_n hX dJ7_fill_d0a16_13 rfl 2 rfl rfl ?_
    refine a_lload_n hX dJ7_fill_d0a16_14 rfl 1 rfl rfl ?_
    refine sX0_3 hX dJ7_fill_d0a16_15 rfl hf (fun u1 hf => ?_)
    refine a_iinc (v := v3 + 1) (lv' := [(3, .int (v3 + 1)), (0, .ref (q 103)), (1, .long v1), (4, .int v4)]) hX dJ7_fill_d0a16_16 2 rfl rfl (by decide) rfl rfl ?_
    refine a_goto (pc' := 6) hX dJ7_fill_d0a16_19 rfl ?_
    refine a_lv (lv' := [(0, .ref (q 103)), (1, .long v1), (3, .int (v3 + 1)), (4, .int v4)]) [1, 2, 0, 3] rfl ?_
    exact hk6 u1 (v3 + 1) hf
def fJ7_fill_d0a16_X0_3_l6   (v1 : Int64) (v4 : Int32) : Nat → St → Int32 → Option (St)
  | 0, _, _ => none
  | m + 1, u, v3 => fJ7_fill_d0a16_X0_3_l6b  (fJ7_fill_d0a16_X0_3_l6   v1 v4 m) u v1 v3 v4
theorem wJ7_fill_d0a16_X0_3_l6 {X : Cx} {V : Vx} {q : Nat → Nat} {g : Nat → Nat} {ts : List Tx} {res : St} (h : Run X cJ7_fill_d0a16 5 RJ7 rmJ7_fill_d0a16_X0_3 V none (rEq none (wC V q ts res))) (hE : EnvC V g) {v1 : Int64} {v4 : Int32} : ∀ (m : Nat) (u : St) (v3 : Int32), fJ7_fill_d0a16_X0_3_l6   v1 v4 m u v3 = some res → At X 5 0 0 (wC V q ts u) 6 [(0, .ref (q 103)), (1, .long v1), (3, .int v3), (4, .int v4)] [] := by
  intro m
  induction m with
  | zero => intro u v3 hf; cases hf
  | succ m ih => intro u v3 hf; exact wJ7_fill_d0a16_X0_3_l6b h hE ih hf
def fJ7_fill_d0a16_X0_3 (u : St) (v1 : Int64) : Option (St) := fJ7_fill_d0a16_X0_3_l6 v1 60 NF u 0
theorem wJ7_fill_d0a16_X0_3 {X : Cx} {V : Vx} {q : Nat → Nat} {g : Nat → Nat} {ts : List Tx} {res : St} (h : Run X cJ7_fill_d0a16 5 RJ7 rmJ7_fill_d0a16_X0_3 V none (rEq none (wC V q ts res))) (hE : EnvC V g) {u : St} {v1 : Int64} (hf : fJ7_fill_d0a16_X0_3 u v1 = some res) : At X 5 0 0 (wC V q ts u) 0 [(0, .ref (q 103)), (1, .long v1)] [] := by
  obtain ⟨hX, hT, hF⟩ := id h
  unfold fJ7_fill_d0a16_X0_3 at hf
  refine a_iconst (v := 0) hX dJ7_fill_d0a16_0 (by decide) rfl ?_
  refine a_istore_n (lv' := [(3, .int 0), (0, .ref (q 103)), (1, .long v1)]) hX dJ7_fill_d0a16_1 rfl (by decide) rfl rfl ?_
  refine a_aload_n hX dJ7_fill_d0a16_2 rfl 1 rfl rfl ?_
  refine a_alen (v := 60) hX 30 1 rfl rfl rfl dJ7_fill_d0a16_3 rfl ?_
  refine a_istore (lv' := [(4, .int 60), (3, .int 0), (0, .ref (q 103)), (1, .long v1)]) hX dJ7_fill_d0a16_4 (by decide) rfl rfl ?_
  refine a_lv (lv' := [(0, .ref (q 103)), (1, .long v1), (3, .int 0), (4, .int 60)]) [2, 3, 1, 0] rfl ?_
  exact wJ7_fill_d0a16_X0_3_l6 h hE NF u 0 hf
theorem ctJ7_fill_d0a16_X0_3 {V : Vx} {q : Nat → Nat} {u : St} {g : Nat → Nat} {ts : List Tx} {res : St} (hE : EnvC V g) {v1 : Int64} (hf : fJ7_fill_d0a16_X0_3 u v1 = some res) : Ct V yJ7_fill_d0a16 (.code yJ7_fill_d0a16 cJ7_fill_d0a16 5 none) rmJ7_fill_d0a16_X0_3 0 0 [.ref (q 103), .long v1] (wC V q ts u) (rEq none (wC V q ts res)) :=
  Ct_of (by decide) (Nat.le_of_ble_eq_true rfl) rfl (fun X hX hT _ hF => wJ7_fill_d0a16_X0_3 ⟨hX, hT, hF⟩ hE hf)
def rmX10_openFor : Room := { frames := 0, cells := 0, slots := 0, locals := 0 }
def fX10_openFor (u : St) (v1 : Int32) (v2 : Int32) (v3 : Int32) : Option (Int32) := ldI (gA u 201) 300 ((((v3 * 5) + v1) * 5) + v2) (fun x1 => some x1)
theorem wX10_openFor {X : Cx} {V : Vx} {q : Nat → Nat} {g : Nat → Nat} {ts : List Tx} {u : St} {res : Int32} (h : Run X cX10_openFor 4 RX10 rmX10_openFor V (some .int) (rEq (some (.int res)) (wC V q ts u))) (hE : EnvC V g) {v1 : Int32} {v2 : Int32} {v3 : Int32} (hf : fX10_openFor u v1 v2 v3 = some res) : At X 4 0 0 (wC V q ts u) 0 [(0, .ref (q 10)), (1, .int v1), (2, .int v2), (3, .int v3)] [] := by
  obtain ⟨hX, hT, hF⟩ := id h
  unfold fX10_openFor at hf
  refine a_aload_n hX dX10_openFor_0 rfl 0 rfl rfl ?_
  refine gX10_1 hX F_X10_9 dX10_openFor_1 rfl ?_
  refine a_iload_n hX dX10_openFor_4 rfl 3 rfl rfl ?_
  refine a_iconst (v := 5) hX dX10_openFor_5 (by decide) rfl ?_
  refine a_imul hX dX10_openFor_6 rfl ?_
  refine a_iload_n hX dX10_openFor_7 rfl 1 rfl rfl ?_
  refine a_iadd hX dX10_openFor_8 rfl ?_
  refine a_iconst (v := 5) hX dX10_openFor_9 (by decide) rfl ?_
  refine a_imul hX dX10_openFor_10 rfl ?_
  refine a_iload_n hX dX10_openFor_11 rfl 2 rfl rfl ?_
  refine a_iadd hX dX10_openFor_12 rfl ?_
  refine lX10_1 hX dX10_openFor_13 rfl hf (fun x1 hf => ?_)
  exact a_iret hX hT hF (r_i hf) dX10_openFor_14
theorem ctX10_openFor {V : Vx} {q : Nat → Nat} {u : St} {g : Nat → Nat} {ts : List Tx} {res : Int32} (hE : EnvC V g) {v1 : Int32} {v2 : Int32} {v3 : Int32} (hf : fX10_openFor u v1 v2 v3 = some res) : Ct V yX10_openFor (.code yX10_openFor cX10_openFor 4 (some .int)) rmX10_openFor 0 0 [.ref (q 10), .int v1, .int v2, .int v3] (wC V q ts u) (rEq (some (.int res)) (wC V q ts u)) :=
  Ct_of (by decide) (Nat.le_of_ble_eq_true rfl) rfl (fun X hX hT _ hF => wX10_openFor ⟨hX, hT, hF⟩ hE hf)
def rmX10_lead : Room := { frames := 1, cells := 0, slots := 0, locals := 23 }
def fX10_lead_b15 (u : St)   : Option (Int32) := some 1
theorem wX10_lead_b15 {X : Cx} {V : Vx} {q : Nat → Nat} {g : Nat → Nat} {ts : List Tx} {u : St} {res : Int32} (h : Run X cX10_lead 4 RX10 rmX10_lead V (some .boolean) (rEq (some (.int res)) (wC V q ts u))) (hE : EnvC V g)  (hf : fX10_lead_b15 u   = some res) : At X 4 0 0 (wC V q ts u) 15 [] [] := by
  obtain ⟨hX, hT, hF⟩ := id h
  unfold fX10_lead_b15 at hf
  refine a_iconst (v := 1) hX dX10_lead_15 (by decide) rfl ?_
  refine a_goto (pc' := 20) hX dX10_lead_16 rfl ?_
  exact a_zret hX hT (by decide) hF (r_i hf) dX10_lead_20
def fX10_lead (u : St) (v1 : Int32) (v2 : Int32) (v3 : Int32) : Option (Int32) := if v1 = v2 then fX10_lead_b15 u else (cl1 (fX10_openFor u v1 v2 v3) (fun x1 => if x1 ≤ 0 then some 0 else (fX10_lead_b15 u)))
theorem wX10_lead {X : Cx} {V : Vx} {q : Nat → Nat} {g : Nat → Nat} {ts : List Tx} {u : St} {res : Int32} (h : Run X cX10_lead 4 RX10 rmX10_lead V (some .boolean) (rEq (some (.int res)) (wC V q ts u))) (hE : EnvC V g) {v1 : Int32} {v2 : Int32} {v3 : Int32} (hf : fX10_lead u v1 v2 v3 = some res) : At X 4 0 0 (wC V q ts u) 0 [(0, .ref (q 10)), (1, .int v1), (2, .int v2), (3, .int v3)] [] := by
  obtain ⟨hX, hT, hF⟩ := id h
  unfold fX10_lead at hf
  refine a_iload_n hX dX10_lead_0 rfl 1 rfl rfl ?_
  refine a_iload_n hX dX10_lead_1 rfl 2 rfl rfl ?_
  refine a_icmp_eq (tgt := 15) hX dX10_lead_2 rfl rfl hf (fun hf => ?_) (fun hf => ?_)
  · refine a_lv (lv' := []) [] rfl ?_
    exact wX10_lead_b15 h hE hf
  · refine a_aload_n hX dX10_lead_5 rfl 0 rfl rfl ?_
    refine a_iload_n hX dX10_lead_6 rfl 1 rfl rfl ?_
    refine a_iload_n hX dX10_lead_7 rfl 2 rfl rfl ?_
    refine a_iload_n hX dX10_lead_8 rfl 3 rfl rfl ?_
    obtain ⟨x1, hg1, hf⟩ := cl1_some hf
    refine a_cVsi (q0 := 1) (rest := []) hX hE.1 (ctX10_openFor (q := q) hE hg1) K_X10_19 ⟨rfl, rfl⟩ ⟨rfl, rfl, by decide, by decide⟩ ⟨Nat.zero_le _, Nat.zero_le _⟩ (Nat.le_of_ble_eq_true rfl) dX10_lead_9 rfl rfl ?_
    refine a_if_le (tgt := 19) hX dX10_lead_12 rfl rfl hf (fun hf => ?_) (fun hf => ?_)
    · refine a_iconst (v := 0) hX dX10_lead_19 (by decide) rfl ?_
      exact a_zret hX hT (by decide) hF (r_i hf) dX10_lead_20
    · refine a_lv (lv' := []) [] rfl ?_
      exact wX10_lead_b15 h hE hf
theorem ctX10_lead {V : Vx} {q : Nat → Nat} {u : St} {g : Nat → Nat} {ts : List Tx} {res : Int32} (hE : EnvC V g) {v1 : Int32} {v2 : Int32} {v3 : Int32} (hf : fX10_lead u v1 v2 v3 = some res) : Ct V yX10_lead (.code yX10_lead cX10_lead 4 (some .boolean)) rmX10_lead 0 0 [.ref (q 10), .int v1, .int v2, .int v3] (wC V q ts u) (rEq (some (.int res)) (wC V q ts u)) :=
  Ct_of (by decide) (Nat.le_of_ble_eq_true rfl) rfl (fun X hX hT _ hF => wX10_lead ⟨hX, hT, hF⟩ hE hf)
def rmX3_name : Room := { frames := 0, cells := 0, slots := 0, locals := 0 }
def fX3_name (u : St) (v1 : Int32) (v2 : Int32) : Option (St) := stI u 67 6 ((-1) - v1) v2 (fun u1 => some u1)
theorem wX3_name {X : Cx} {V : Vx} {q : Nat → Nat} {g : Nat → Nat} {ts : List Tx} {res : St} (h : Run X cX3_name 3 RX3 rmX3_name V none (rEq none (wC V q ts res))) (hE : EnvC V g) {u : St} {v1 : Int32} {v2 : Int32} (hf : fX3_name u v1 v2 = some res) : At X 3 0 0 (wC V q ts u) 0 [(0, .ref (q 3)), (1, .int v1), (2, .int v2)] [] := by
  obtain ⟨hX, hT, hF⟩ := id h
  unfold fX3_name at hf
  refine a_aload_n hX dX3_name_0 rfl 0 rfl rfl ?_
  refine gX3_7 hX F_X3_32 dX3_name_1 rfl ?_
  refine a_iconst (v := (-1)) hX dX3_name_4 (by decide) rfl ?_
  refine a_iload_n hX dX3_name_5 rfl 1 rfl rfl ?_
  refine a_isub hX dX3_name_6 rfl ?_
  refine a_iload_n hX dX3_name_7 rfl 2 rfl rfl ?_
  refine sX3_7 hX dX3_name_8 rfl hf (fun u1 hf => ?_)
  exact a_ret hX hT hF (r_vS (wf := (wC V q ts)) hf) dX3_name_9
theorem ctX3_name {V : Vx} {q : Nat → Nat} {u : St} {g : Nat → Nat} {ts : List Tx} {res : St} (hE : EnvC V g) {v1 : Int32} {v2 : Int32} (hf : fX3_name u v1 v2 = some res) : Ct V yX3_name (.code yX3_name cX3_name 3 none) rmX3_name 0 0 [.ref (q 3), .int v1, .int v2] (wC V q ts u) (rEq none (wC V q ts res)) :=
  Ct_of (by decide) (Nat.le_of_ble_eq_true rfl) rfl (fun X hX hT _ hF => wX3_name ⟨hX, hT, hF⟩ hE hf)
def rmJ6_bitCount_0f7a4 : Room := { frames := 0, cells := 0, slots := 0, locals := 0 }
def fJ6_bitCount_0f7a4 (v0 : Int32) : Option (Int32) := nmI (v0 - ((jushr v0 1) &&& 1431655765)) (fun x1 => nmI ((x1 &&& 858993459) + ((jushr x1 2) &&& 858993459)) (fun x2 => nmI ((x2 + (jushr x2 4)) &&& 252645135) (fun x3 => nmI (x3 + (jushr x3 8)) (fun x4 => nmI (x4 + (jushr x4 16)) (fun x5 => some (x5 &&& 63))))))
theorem wJ6_bitCount_0f7a4 {X : Cx} {V : Vx} {res : Int32} (h : Run X cJ6_bitCount_0f7a4 1 RJ6 rmJ6_bitCount_0f7a4 V (some .int) (rEq (some (.int res)) [])) (hE : ZOK (vZ V)) {v0 : Int32} (hf : fJ6_bitCount_0f7a4 v0 = some res) : At X 1 0 0 [] 0 [(0, .int v0)] [] := by
  obtain ⟨hX, hT, hF⟩ := id h
  unfold fJ6_bitCount_0f7a4 at hf
  refine a_iload_n hX dJ6_bitCount_0f7a4_0 rfl 0 rfl rfl ?_
  refine a_iload_n hX dJ6_bitCount_0f7a4_1 rfl 0 rfl rfl ?_
  refine a_iconst (v := 1) hX dJ6_bitCount_0f7a4_2 (by decide) rfl ?_
  refine a_iushr hX dJ6_bitCount_0f7a4_3 rfl ?_
  refine a_ldcw hX dJ6_bitCount_0f7a4_4 N_J6_265 rfl ?_
  refine a_iand hX dJ6_bitCount_0f7a4_7 rfl ?_
  refine a_isub hX dJ6_bitCount_0f7a4_8 rfl ?_
  refine a_nmI hf (fun x1 hf => ?_)
  refine a_istore_n (lv' := [(0, .int x1)]) hX dJ6_bitCount_0f7a4_9 rfl (by decide) rfl rfl ?_
  refine a_iload_n hX dJ6_bitCount_0f7a4_10 rfl 0 rfl rfl ?_
  refine a_ldcw hX dJ6_bitCount_0f7a4_11 N_J6_266 rfl ?_
  refine a_iand hX dJ6_bitCount_0f7a4_14 rfl ?_
  refine a_iload_n hX dJ6_bitCount_0f7a4_15 rfl 0 rfl rfl ?_
  refine a_iconst (v := 2) hX dJ6_bitCount_0f7a4_16 (by decide) rfl ?_
  refine a_iushr hX dJ6_bitCount_0f7a4_17 rfl ?_
  refine a_ldcw hX dJ6_bitCount_0f7a4_18 N_J6_266 rfl ?_
  refine a_iand hX dJ6_bitCount_0f7a4_21 rfl ?_
  refine a_iadd hX dJ6_bitCount_0f7a4_22 rfl ?_
  refine a_nmI hf (fun x2 hf => ?_)
  refine a_istore_n (lv' := [(0, .int x2)]) hX dJ6_bitCount_0f7a4_23 rfl (by decide) rfl rfl ?_
  refine a_iload_n hX dJ6_bitCount_0f7a4_24 rfl 0 rfl rfl ?_
  refine a_iload_n hX dJ6_bitCount_0f7a4_25 rfl 0 rfl rfl ?_
  refine a_iconst (v := 4) hX dJ6_bitCount_0f7a4_26 (by decide) rfl ?_
  refine a_iushr hX dJ6_bitCount_0f7a4_27 rfl ?_
  refine a_iadd hX dJ6_bitCount_0f7a4_28 rfl ?_
  refine a_ldcw hX dJ6_bitCount_0f7a4_29 N_J6_267 rfl ?_
  refine a_iand hX dJ6_bitCount_0f7a4_32 rfl ?_
  refine a_nmI hf (fun x3 hf => ?_)
  refine a_istore_n (lv' := [(0, .int x3)]) hX dJ6_bitCount_0f7a4_33 rfl (by decide) rfl rfl ?_
  refine a_iload_n hX dJ6_bitCount_0f7a4_34 rfl 0 rfl rfl ?_
  refine a_iload_n hX dJ6_bitCount_0f7a4_35 rfl 0 rfl rfl ?_
  refine a_bipush (v := 8) hX dJ6_bitCount_0f7a4_36 (by decide) rfl ?_
  refine a_iushr hX dJ6_bitCount_0f7a4_38 rfl ?_
  refine a_iadd hX dJ6_bitCount_0f7a4_39 rfl ?_
  refine a_nmI hf (fun x4 hf => ?_)
  refine a_istore_n (lv' := [(0, .int x4)]) hX dJ6_bitCount_0f7a4_40 rfl (by decide) rfl rfl ?_
  refine a_iload_n hX dJ6_bitCount_0f7a4_41 rfl 0 rfl rfl ?_
  refine a_iload_n hX dJ6_bitCount_0f7a4_42 rfl 0 rfl rfl ?_
  refine a_bipush (v := 16) hX dJ6_bitCount_0f7a4_43 (by decide) rfl ?_
  refine a_iushr hX dJ6_bitCount_0f7a4_45 rfl ?_
  refine a_iadd hX dJ6_bitCount_0f7a4_46 rfl ?_
  refine a_nmI hf (fun x5 hf => ?_)
  refine a_istore_n (lv' := [(0, .int x5)]) hX dJ6_bitCount_0f7a4_47 rfl (by decide) rfl rfl ?_
  refine a_iload_n hX dJ6_bitCount_0f7a4_48 rfl 0 rfl rfl ?_
  refine a_bipush (v := 63) hX dJ6_bitCount_0f7a4_49 (by decide) rfl ?_
  refine a_iand hX dJ6_bitCount_0f7a4_51 rfl ?_
  exact a_iret hX hT hF (r_i hf) dJ6_bitCount_0f7a4_52
theorem ctJ6_bitCount_0f7a4 {V : Vx} {res : Int32} (hE : ZOK (vZ V)) {v0 : Int32} (hf : fJ6_bitCount_0f7a4 v0 = some res) : Ct V yJ6_bitCount_0f7a4 (.code yJ6_bitCount_0f7a4 cJ6_bitCount_0f7a4 1 (some .int)) rmJ6_bitCount_0f7a4 0 0 [.int v0] [] (rEq (some (.int res)) []) :=
  Ct_of (by decide) (Nat.le_of_ble_eq_true rfl) rfl (fun X hX hT _ hF => wJ6_bitCount_0f7a4 ⟨hX, hT, hF⟩ hE hf)
def rmX3_textFor : Room := { frames := 0, cells := 0, slots := 0, locals := 0 }
def fX3_textFor_b68 (u : St) (k8 : Int32 → Int32 → Int32 → Option (Int32)) (v1 : Int32) (v2 : Int32) (v3 : Int32) (v4 : Int32) (v5 : Int32) : Option (Int32) := k8 v3 v4 (v5 + 1)
theorem wX3_textFor_b68 {X : Cx} {V : Vx} {q : Nat → Nat} {g : Nat → Nat} {ts : List Tx} {u : St} {res : Int32} (h : Run X cX3_textFor 6 RX3 rmX3_textFor V (some .int) (rEq (some (.int res)) (wC V q ts u))) (hE : EnvC V g) {v1 : Int32} {v2 : Int32} {v3 : Int32} {v4 : Int32} {v5 : Int32} {k8 : Int32 → Int32 → Int32 → Option (Int32)} (hk8 : ∀ (v3 : Int32) (v4 : Int32) (v5 : Int32), k8 v3 v4 v5 = some res → At X 6 0 0 (wC V q ts u) 8 [(0, .ref (q 3)), (1, .int v1), (2, .int v2), (3, .int v3), (4, .int v4), (5, .int v5)] []) (hf : fX3_textFor_b68 u k8 v1 v2 v3 v4 v5 = some res) : At X 6 0 0 (wC V q ts u) 68 [(0, .ref (q 3)), (1, .int v1), (2, .int v2), (3, .int v3), (4, .int v4), (5, .int v5)] [] := by
  obtain ⟨hX, hT, hF⟩ := id h
  unfold fX3_textFor_b68 at hf
  refine a_iinc (v := v5 + 1) (lv' := [(5, .int (v5 + 1)), (0, .ref (q 3)), (1, .int v1), (2, .int v2), (3, .int v3), (4, .int v4)]) hX dX3_textFor_68 5 rfl rfl (by decide) rfl rfl ?_
  refine a_goto (pc' := 8) hX dX3_textFor_71 rfl ?_
  refine a_lv (lv' := [(0, .ref (q 3)), (1, .int v1), (2, .int v2), (3, .int v3), (4, .int v4), (5, .int (v5 + 1))]) [1, 2, 3, 4, 5, 0] rfl ?_
  exact hk8 v3 v4 (v5 + 1) hf
def fX3_textFor_l8b (u : St) (k8 : Int32 → Int32 → Int32 → Option (Int32)) (v1 : Int32) (v2 : Int32) (v3 : Int32) (v4 : Int32) (v5 : Int32) : Option (Int32) := if gZ u 60 ≤ v5 then some v3 else (ldI (gA u 63) 20 v5 (fun x1 => if x1 = v1 then ldI (gA u 64) 20 v5 (fun x2 => if v2 < x2 then fX3_textFor_b68 u k8 v1 v2 v3 v4 v5 else (ldI (gA u 64) 20 v5 (fun x3 => if x3 < v4 then fX3_textFor_b68 u k8 v1 v2 v3 v4 v5 else (ldI (gA u 64) 20 v5 (fun x4 => ldI (gA u 65) 20 v5 (fun x5 => fX3_textFor_b68 u k8 v1 v2 x5 x4 v5)))))) else (fX3_textFor_b68 u k8 v1 v2 v3 v4 v5)))
theorem wX3_textFor_l8b {X : Cx} {V : Vx} {q : Nat → Nat} {g : Nat → Nat} {ts : List Tx} {u : St} {res : Int32} (h : Run X cX3_textFor 6 RX3 rmX3_textFor V (some .int) (rEq (some (.int res)) (wC V q ts u))) (hE : EnvC V g) {v1 : Int32} {v2 : Int32} {v3 : Int32} {v4 : Int32} {v5 : Int32} {k8 : Int32 → Int32 → Int32 → Option (Int32)} (hk8 : ∀ (v3 : Int32) (v4 : Int32) (v5 : Int32), k8 v3 v4 v5 = some res → At X 6 0 0 (wC V q ts u) 8 [(0, .ref (q 3)), (1, .int v1), (2, .int v2), (3, .int v3), (4, .int v4), (5, .int v5)] []) (hf : fX3_textFor_l8b u k8 v1 v2 v3 v4 v5 = some res) : At X 6 0 0 (wC V q ts u) 8 [(0, .ref (q 3)), (1, .int v1), (2, .int v2), (3, .int v3), (4, .int v4), (5, .int v5)] [] := by
  obtain ⟨hX, hT, hF⟩ := id h
  unfold fX3_textFor_l8b at hf
  refine a_iload hX dX3_textFor_8 5 rfl rfl ?_
  refine a_aload_n hX dX3_textFor_10 rfl 0 rfl rfl ?_
  refine gX3_0 hX F_X3_53 dX3_textFor_11 rfl ?_
  refine a_icmp_ge (tgt := 74) hX dX3_textFor_14 rfl rfl hf (fun hf => ?_) (fun hf => ?_)
  · refine a_iload_n hX dX3_textFor_74 rfl 3 rfl rfl ?_
    exact a_iret hX hT hF (r_i hf) dX3_textFor_75
  · refine a_aload_n hX dX3_textFor_17 rfl 0 rfl rfl ?_
    refine gX3_3 hX F_X3_17 dX3_textFor_18 rfl ?_
    refine a_iload hX dX3_textFor_21 5 rfl rfl ?_
    refine lX3_3 hX dX3_textFor_23 rfl hf (fun x1 hf => ?_)
    refine a_iload_n hX dX3_textFor_24 rfl 1 rfl rfl ?_
    refine a_icmp_ne (tgt := 68) hX dX3_textFor_25 rfl rfl hf (fun hf => ?_) (fun hf => ?_)
    · exact wX3_textFor_b68 h hE hk8 hf
    · refine a_aload_n hX dX3_textFor_28 rfl 0 rfl rfl ?_
      refine gX3_4 hX F_X3_21 dX3_textFor_29 rfl ?_
      refine a_iload hX dX3_textFor_32 5 rfl rfl ?_
      refine lX3_4 hX dX3_textFor_34 rfl hf (fun x2 hf => ?_)
      refine a_iload_n hX dX3_textFor_35 rfl 2 rfl rfl ?_
      refine a_icmp_gt (tgt := 68) hX dX3_textFor_36 rfl rfl hf (fun hf => ?_) (fun hf => ?_)
      · exact wX3_textFor_b68 h hE hk8 hf
      · refine a_aload_n hX dX3_textFor_39 rfl 0 rfl rfl ?_
        refine gX3_4 hX F_X3_21 dX3_textFor_40 rfl ?_
        refine a_iload hX dX3_textFor_43 5 rfl rfl ?_
        refine lX3_4 hX dX3_textFor_45 rfl hf (fun x3 hf => ?_)
        refine a_iload hX dX3_textFor_46 4 rfl rfl ?_
        refine a_icmp_lt (tgt := 68) hX dX3_textFor_48 rfl rfl hf (fun hf => ?_) (fun hf => ?_)
        · exact wX3_textFor_b68 h hE hk8 hf
        · refine a_aload_n hX dX3_textFor_51 rfl 0 rfl rfl ?_
          refine gX3_4 hX F_X3_21 dX3_textFor_52 rfl ?_
          refine a_iload hX dX3_textFor_55 5 rfl rfl ?_
          refine lX3_4 hX dX3_textFor_57 rfl hf (fun x4 hf => ?_)
          refine a_istore (lv' := [(4, .int x4), (0, .ref (q 3)), (1, .int v1), (2, .int v2), (3, .int v3), (5, .int v5)]) hX dX3_textFor_58 (by decide) rfl rfl ?_
          refine a_aload_n hX dX3_textFor_60 rfl 1 rfl rfl ?_
          refine gX3_5 hX F_X3_24 dX3_textFor_61 rfl ?_
          refine a_iload hX dX3_textFor_64 5 rfl rfl ?_
          refine lX3_5 hX dX3_textFor_66 rfl hf (fun x5 hf => ?_)
          refine a_istore_n (lv' := [(3, .int x5), (4, .int x4), (0, .ref (q 3)), (1, .int v1), (2, .int v2), (5, .int v5)]) hX dX3_textFor_67 rfl (by decide) rfl rfl ?_
          refine a_lv (lv' := [(0, .ref (q 3)), (1, .int v1), (2, .int v2), (3, .int x5), (4, .int x4), (5, .int v5)]) [2, 3, 4, 0, 1, 5] rfl ?_
          exact wX3_textFor_b68 h hE hk8 hf
def fX3_textFor_l8 (u : St)  (v1 : Int32) (v2 : Int32) : Nat → Int32 → Int32 → Int32 → Option (Int32)
  | 0, _, _, _ => none
  | m + 1, v3, v4, v5 => fX3_textFor_l8b u (fX3_textFor_l8 u  v1 v2 m) v1 v2 v3 v4 v5
theorem wX3_textFor_l8 {X : Cx} {V : Vx} {q : Nat → Nat} {g : Nat → Nat} {ts : List Tx} {u : St} {res : Int32} (h : Run X cX3_textFor 6 RX3 rmX3_textFor V (some .int) (rEq (some (.int res)) (wC V q ts u))) (hE : EnvC V g) {v1 : Int32} {v2 : Int32} : ∀ (m : Nat) (v3 : Int32) (v4 : Int32) (v5 : Int32), fX3_textFor_l8 u  v1 v2 m v3 v4 v5 = some res → At X 6 0 0 (wC V q ts u) 8 [(0, .ref (q 3)), (1, .int v1), (2, .int v2), (3, .int v3), (4, .int v4), (5, .int v5)] [] := by
  intro m
  induction m with
  | zero => intro v3 v4 v5 hf; cases hf
  | succ m ih => intro v3 v4 v5 hf; exact wX3_textFor_l8b h hE ih hf
def fX3_textFor (u : St) (v1 : Int32) (v2 : Int32) : Option (Int32) := fX3_textFor_l8 u v1 v2 NF 0 (-1) 0
theorem wX3_textFor {X : Cx} {V : Vx} {q : Nat → Nat} {g : Nat → Nat} {ts : List Tx} {u : St} {res : Int32} (h : Run X cX3_textFor 6 RX3 rmX3_textFor V (some .int) (rEq (some (.int res)) (wC V q ts u))) (hE : EnvC V g) {v1 : Int32} {v2 : Int32} (hf : fX3_textFor u v1 v2 = some res) : At X 6 0 0 (wC V q ts u) 0 [(0, .ref (q 3)), (1, .int v1), (2, .int v2)] [] := by
  obtain ⟨hX, hT, hF⟩ := id h
  unfold fX3_textFor at hf
  refine a_iconst (v := 0) hX dX3_textFor_0 (by decide) rfl ?_
  refine a_istore_n (lv' := [(3, .int 0), (0, .ref (q 3)), (1, .int v1), (2, .int v2)]) hX dX3_textFor_1 rfl (by decide) rfl rfl ?_
  refine a_iconst (v := (-1)) hX dX3_textFor_2 (by decide) rfl ?_
  refine a_istore (lv' := [(4, .int (-1)), (3, .int 0), (0, .ref (q 3)), (1, .int v1), (2, .int v2)]) hX dX3_textFor_3 (by decide) rfl rfl ?_
  refine a_iconst (v := 0) hX dX3_textFor_5 (by decide) rfl ?_
  refine a_istore (lv' := [(5, .int 0), (4, .int (-1)), (3, .int 0), (0, .ref (q 3)), (1, .int v1), (2, .int v2)]) hX dX3_textFor_6 (by decide) rfl rfl ?_
  refine a_lv (lv' := [(0, .ref (q 3)), (1, .int v1), (2, .int v2), (3, .int 0), (4, .int (-1)), (5, .int 0)]) [3, 4, 5, 2, 1, 0] rfl ?_
  exact wX3_textFor_l8 h hE NF 0 (-1) 0 hf
theorem ctX3_textFor {V : Vx} {q : Nat → Nat} {u : St} {g : Nat → Nat} {ts : List Tx} {res : Int32} (hE : EnvC V g) {v1 : Int32} {v2 : Int32} (hf : fX3_textFor u v1 v2 = some res) : Ct V yX3_textFor (.code yX3_textFor cX3_textFor 6 (some .int)) rmX3_textFor 0 0 [.ref (q 3), .int v1, .int v2] (wC V q ts u) (rEq (some (.int res)) (wC V q ts u)) :=
  Ct_of (by decide) (Nat.le_of_ble_eq_true rfl) rfl (fun X hX hT _ hF => wX3_textFor ⟨hX, hT, hF⟩ hE hf)
def rmX3_look : Room := { frames := 1, cells := 0, slots := 0, locals := 25 }
def fX3_look (ts : List Tx) (u : St) (v1 : Int32) (v2 : Int32) (v3 : Int32) : Option (Int32 × St) := cl1 (fX3_name u (-1) v1) (fun u2 => cl1 (fX3_name u2 (-2) v2) (fun u4 => cl1 (fX3_name u4 (-3) v3) (fun u6 => cl1 (fX3_name u6 (-4) (gZ u6 68)) (fun u8 => cl1 (fJ6_bitCount_0f7a4 (gZ u8 82)) (fun x9 => cl1 (fX3_name u8 (-5) x9) (fun u11 => cl1 (fX10_openFor u11 v1 v2 v3) (fun x12 => cl1 (fX3_name u11 (-6) x12) (fun u14 => cl1 (fX3_textFor u14 v1 v3) (fun x15 => ldX ts x15 (fun t16 => some (x15, u14)))))))))))
theorem wX3_look {X : Cx} {V : Vx} {q : Nat → Nat} {g : Nat → Nat} {ts : List Tx} {res : Int32 × St} (h : Run X cX3_look 4 RX3 rmX3_look V (some (.object "VaseCourt$Text")) (rEq (some (.ref (q (1000 + Int32.toNatClampNeg res.1)))) (wC V q ts res.2))) (hE : EnvC V g) {u : St} {v1 : Int32} {v2 : Int32} {v3 : Int32} (hf : fX3_look ts u v1 v2 v3 = some res) : At X 4 0 0 (wC V q ts u) 0 [(0, .ref (q 3)), (1, .int v1), (2, .int v2), (3, .int v3)] [] := by
  obtain ⟨hX, hT, hF⟩ := id h
  unfold fX3_look at hf
  refine a_aload_n hX dX3_look_0 rfl 0 rfl rfl ?_
  refine a_iconst (v := (-1)) hX dX3_look_1 (by decide) rfl ?_
  refine a_iload_n hX dX3_look_2 rfl 1 rfl rfl ?_
  obtain ⟨u2, hg1, hf⟩ := cl1_some hf
  refine a_cVsv (q0 := 5) (rest := []) hX hE.1 (ctX3_name (q := q) hE hg1) K_X3_77 ⟨rfl, rfl⟩ ⟨rfl, rfl, by decide, by decide⟩ ⟨Nat.zero_le _, Nat.zero_le _⟩ (Nat.le_of_ble_eq_true rfl) dX3_look_3 rfl rfl ?_
  refine a_aload_n hX dX3_look_6 rfl 0 rfl rfl ?_
  refine a_bipush (v := (-2)) hX dX3_look_7 (by decide) rfl ?_
  refine a_iload_n hX dX3_look_9 rfl 2 rfl rfl ?_
  obtain ⟨u4, hg3, hf⟩ := cl1_some hf
  refine a_cVsv (q0 := 5) (rest := []) hX hE.1 (ctX3_name (q := q) hE hg3) K_X3_77 ⟨rfl, rfl⟩ ⟨rfl, rfl, by decide, by decide⟩ ⟨Nat.zero_le _, Nat.zero_le _⟩ (Nat.le_of_ble_eq_true rfl) dX3_look_10 rfl rfl ?_
  refine a_aload_n hX dX3_look_13 rfl 0 rfl rfl ?_
  refine a_bipush (v := (-3)) hX dX3_look_14 (by decide) rfl ?_
  refine a_iload_n hX dX3_look_16 rfl 3 rfl rfl ?_
  obtain ⟨u6, hg5, hf⟩ := cl1_some hf
  refine a_cVsv (q0 := 5) (rest := []) hX hE.1 (ctX3_name (q := q) hE hg5) K_X3_77 ⟨rfl, rfl⟩ ⟨rfl, rfl, by decide, by decide⟩ ⟨Nat.zero_le _, Nat.zero_le _⟩ (Nat.le_of_ble_eq_true rfl) dX3_look_17 rfl rfl ?_
  refine a_aload_n hX dX3_look_20 rfl 0 rfl rfl ?_
  refine a_bipush (v := (-4)) hX dX3_look_21 (by decide) rfl ?_
  refine a_aload_n hX dX3_look_23 rfl 0 rfl rfl ?_
  refine gX3_8 hX F_X3_35 dX3_look_24 rfl ?_
  obtain ⟨u8, hg7, hf⟩ := cl1_some hf
  refine a_cVsv (q0 := 5) (rest := []) hX hE.1 (ctX3_name (q := q) hE hg7) K_X3_77 ⟨rfl, rfl⟩ ⟨rfl, rfl, by decide, by decide⟩ ⟨Nat.zero_le _, Nat.zero_le _⟩ (Nat.le_of_ble_eq_true rfl) dX3_look_27 rfl rfl ?_
  refine a_aload_n hX dX3_look_30 rfl 0 rfl rfl ?_
  refine a_bipush (v := (-5)) hX dX3_look_31 (by decide) rfl ?_
  refine a_aload_n hX dX3_look_33 rfl 0 rfl rfl ?_
  refine gX3_10 hX F_X3_43 dX3_look_34 rfl ?_
  refine gX4_2 hX F_X3_81 dX3_look_37 rfl ?_
  obtain ⟨x9, hg9, hf⟩ := cl1_some hf
  refine a_cSpi (rest := [.int (-5), .ref (q 3)]) hX hE.1 (ctJ6_bitCount_0f7a4 hE.1 hg9) K_X3_86 ⟨rfl, rfl, by decide, by decide⟩ ⟨Nat.zero_le _, Nat.zero_le _⟩ (Nat.le_of_ble_eq_true rfl) dX3_look_40 rfl rfl ?_
  obtain ⟨u11, hg10, hf⟩ := cl1_some hf
  refine a_cVsv (q0 := 5) (rest := []) hX hE.1 (ctX3_name (q := q) hE hg10) K_X3_77 ⟨rfl, rfl⟩ ⟨rfl, rfl, by decide, by decide⟩ ⟨Nat.zero_le _, Nat.zero_le _⟩ (Nat.le_of_ble_eq_true rfl) dX3_look_43 rfl rfl ?_
  refine a_aload_n hX dX3_look_46 rfl 0 rfl rfl ?_
  refine a_bipush (v := (-6)) hX dX3_look_47 (by decide) rfl ?_
  refine a_aload_n hX dX3_look_49 rfl 0 rfl rfl ?_
  refine gX3_9 hX F_X3_39 dX3_look_50 rfl ?_
  refine a_iload_n hX dX3_look_53 rfl 1 rfl rfl ?_
  refine a_iload_n hX dX3_look_54 rfl 2 rfl rfl ?_
  refine a_iload_n hX dX3_look_55 rfl 3 rfl rfl ?_
  obtain ⟨x12, hg12, hf⟩ := cl1_some hf
  refine a_cVsi (q0 := 1) (rest := [.int (-6), .ref (q 3)]) hX hE.1 (ctX10_openFor (q := q) hE hg12) K_X3_92 ⟨rfl, rfl⟩ ⟨rfl, rfl, by decide, by decide⟩ ⟨Nat.zero_le _, Nat.zero_le _⟩ (Nat.le_of_ble_eq_true rfl) dX3_look_56 rfl rfl ?_
  obtain ⟨u14, hg13, hf⟩ := cl1_some hf
  refine a_cVsv (q0 := 5) (rest := []) hX hE.1 (ctX3_name (q := q) hE hg13) K_X3_77 ⟨rfl, rfl⟩ ⟨rfl, rfl, by decide, by decide⟩ ⟨Nat.zero_le _, Nat.zero_le _⟩ (Nat.le_of_ble_eq_true rfl) dX3_look_59 rfl rfl ?_
  refine a_aload_n hX dX3_look_62 rfl 0 rfl rfl ?_
  refine gX3_2 hX F_X3_13 dX3_look_63 rfl ?_
  refine a_aload_n hX dX3_look_66 rfl 0 rfl rfl ?_
  refine a_iload_n hX dX3_look_67 rfl 1 rfl rfl ?_
  refine a_iload_n hX dX3_look_68 rfl 3 rfl rfl ?_
  obtain ⟨x15, hg15, hf⟩ := cl1_some hf
  refine a_cVsi (q0 := 5) (rest := [.ref (q 162)]) hX hE.1 (ctX3_textFor (q := q) hE hg15) K_X3_97 ⟨rfl, rfl⟩ ⟨rfl, rfl, by decide, by decide⟩ ⟨Nat.zero_le _, Nat.zero_le _⟩ (Nat.le_of_ble_eq_true rfl) dX3_look_69 rfl rfl ?_
  obtain ⟨t16, ht16, hint16, hf⟩ := ldX_some hf
  refine a_taald hX ht16 hint16 dX3_look_72 rfl ?_
  exact a_aret hX hT hF (r_tS (wf := (wC V q ts)) hf) dX3_look_73
theorem ctX3_look {V : Vx} {q : Nat → Nat} {u : St} {g : Nat → Nat} {ts : List Tx} {res : Int32 × St} (hE : EnvC V g) {v1 : Int32} {v2 : Int32} {v3 : Int32} (hf : fX3_look ts u v1 v2 v3 = some res) : Ct V yX3_look (.code yX3_look cX3_look 4 (some (.object "VaseCourt$Text"))) rmX3_look 0 0 [.ref (q 3), .int v1, .int v2, .int v3] (wC V q ts u) (rEq (some (.ref (q (1000 + Int32.toNatClampNeg res.1)))) (wC V q ts res.2)) :=
  Ct_of (by decide) (Nat.le_of_ble_eq_true rfl) rfl (fun X hX hT _ hF => wX3_look ⟨hX, hT, hF⟩ hE hf)
def rmX3_ofTwo : Room := { frames := 0, cells := 0, slots := 0, locals := 0 }
def fX3_ofTwo_b48    : Option (Int32) := some 1
theorem wX3_ofTwo_b48 {X : Cx} {V : Vx} {res : Int32} (h : Run X cX3_ofTwo 3 RX3 rmX3_ofTwo V (some .int) (rEq (some (.int res)) [])) (hE : ZOK (vZ V))  (hf : fX3_ofTwo_b48    = some res) : At X 3 0 0 [] 48 [] [] := by
  obtain ⟨hX, hT, hF⟩ := id h
  unfold fX3_ofTwo_b48 at hf
  refine a_iconst (v := 1) hX dX3_ofTwo_48 (by decide) rfl ?_
  refine a_goto (pc' := 53) hX dX3_ofTwo_49 rfl ?_
  exact a_iret hX hT hF (r_i hf) dX3_ofTwo_53
def fX3_ofTwo (v0 : Int32) (v1 : Int32) (v2 : Int32) : Option (Int32) := if v0 = (-14) then some (v1 - v2) else (if v0 = (-13) then some (v1 + v2) else (if v0 = (-12) then if v1 = v2 then some 1 else (some 0) else (if v0 = (-11) then if v2 ≤ v1 then some 0 else (some 1) else (if v0 = (-10) then if v1 = 0 then some 0 else (if v2 = 0 then some 0 else (some 1)) else (if v0 = (-9) then if v1 = 0 then if v2 = 0 then some 0 else (fX3_ofTwo_b48) else (fX3_ofTwo_b48) else (some (v1 * v2)))))))
theorem wX3_ofTwo {X : Cx} {V : Vx} {res : Int32} (h : Run X cX3_ofTwo 3 RX3 rmX3_ofTwo V (some .int) (rEq (some (.int res)) [])) (hE : ZOK (vZ V)) {v0 : Int32} {v1 : Int32} {v2 : Int32} (hf : fX3_ofTwo v0 v1 v2 = some res) : At X 3 0 0 [] 0 [(0, .int v0), (1, .int v1), (2, .int v2)] [] := by
  obtain ⟨hX, hT, hF⟩ := id h
  unfold fX3_ofTwo at hf
  refine a_iload_n hX dX3_ofTwo_0 rfl 0 rfl rfl ?_
  by_cases hs0 : v0 = (-14)
  · rw [if_pos hs0] at hf
    refine a_tsw (pc' := 94) hX dX3_ofTwo_1 (-14) hs0 (by decide) (by decide) rfl rfl ?_
    refine a_iload_n hX dX3_ofTwo_94 rfl 1 rfl rfl ?_
    refine a_iload_n hX dX3_ofTwo_95 rfl 2 rfl rfl ?_
    refine a_isub hX dX3_ofTwo_96 rfl ?_
    exact a_iret hX hT hF (r_i hf) dX3_ofTwo_97
  · rw [if_neg hs0] at hf
    by_cases hs1 : v0 = (-13)
    · rw [if_pos hs1] at hf
      refine a_tsw (pc' := 90) hX dX3_ofTwo_1 (-13) hs1 (by decide) (by decide) rfl rfl ?_
      refine a_iload_n hX dX3_ofTwo_90 rfl 1 rfl rfl ?_
      refine a_iload_n hX dX3_ofTwo_91 rfl 2 rfl rfl ?_
      refine a_iadd hX dX3_ofTwo_92 rfl ?_
      exact a_iret hX hT hF (r_i hf) dX3_ofTwo_93
    · rw [if_neg hs1] at hf
      by_cases hs2 : v0 = (-12)
      · rw [if_pos hs2] at hf
        refine a_tsw (pc' := 79) hX dX3_ofTwo_1 (-12) hs2 (by decide) (by decide) rfl rfl ?_
        refine a_iload_n hX dX3_ofTwo_79 rfl 1 rfl rfl ?_
        refine a_iload_n hX dX3_ofTwo_80 rfl 2 rfl rfl ?_
        refine a_icmp_ne (tgt := 88) hX dX3_ofTwo_81 rfl rfl hf (fun hf => ?_) (fun hf => ?_)
        · refine a_iconst (v := 0) hX dX3_ofTwo_88 (by decide) rfl ?_
          exact a_iret hX hT hF (r_i hf) dX3_ofTwo_89
        · refine a_iconst (v := 1) hX dX3_ofTwo_84 (by decide) rfl ?_
          refine a_goto (pc' := 89) hX dX3_ofTwo_85 rfl ?_
          exact a_iret hX hT hF (r_i hf) dX3_ofTwo_89
      · rw [if_neg hs2] at hf
        by_cases hs3 : v0 = (-11)
        · rw [if_pos hs3] at hf
          refine a_tsw (pc' := 68) hX dX3_ofTwo_1 (-11) hs3 (by decide) (by decide) rfl rfl ?_
          refine a_iload_n hX dX3_ofTwo_68 rfl 1 rfl rfl ?_
          refine a_iload_n hX dX3_ofTwo_69 rfl 2 rfl rfl ?_
          refine a_icmp_ge (tgt := 77) hX dX3_ofTwo_70 rfl rfl hf (fun hf => ?_) (fun hf => ?_)
          · refine a_iconst (v := 0) hX dX3_ofTwo_77 (by decide) rfl ?_
            exact a_iret hX hT hF (r_i hf) dX3_ofTwo_78
          · refine a_iconst (v := 1) hX dX3_ofTwo_73 (by decide) rfl ?_
            refine a_goto (pc' := 78) hX dX3_ofTwo_74 rfl ?_
            exact a_iret hX hT hF (r_i hf) dX3_ofTwo_78
        · rw [if_neg hs3] at hf
          by_cases hs4 : v0 = (-10)
          · rw [if_pos hs4] at hf
            refine a_tsw (pc' := 54) hX dX3_ofTwo_1 (-10) hs4 (by decide) (by decide) rfl rfl ?_
            refine a_iload_n hX dX3_ofTwo_54 rfl 1 rfl rfl ?_
            refine a_if_eq (tgt := 66) hX dX3_ofTwo_55 rfl rfl hf (fun hf => ?_) (fun hf => ?_)
            · refine a_iconst (v := 0) hX dX3_ofTwo_66 (by decide) rfl ?_
              exact a_iret hX hT hF (r_i hf) dX3_ofTwo_67
            · refine a_iload_n hX dX3_ofTwo_58 rfl 2 rfl rfl ?_
              refine a_if_eq (tgt := 66) hX dX3_ofTwo_59 rfl rfl hf (fun hf => ?_) (fun hf => ?_)
              · refine a_iconst (v := 0) hX dX3_ofTwo_66 (by decide) rfl ?_
                exact a_iret hX hT hF (r_i hf) dX3_ofTwo_67
              · refine a_iconst (v := 1) hX dX3_ofTwo_62 (by decide) rfl ?_
                refine a_goto (pc' := 67) hX dX3_ofTwo_63 rfl ?_
                exact a_iret hX hT hF (r_i hf) dX3_ofTwo_67
          · rw [if_neg hs4] at hf
            by_cases hs5 : v0 = (-9)
            · rw [if_pos hs5] at hf
              refine a_tsw (pc' := 40) hX dX3_ofTwo_1 (-9) hs5 (by decide) (by decide) rfl rfl ?_
              refine a_iload_n hX dX3_ofTwo_40 rfl 1 rfl rfl ?_
              refine a_if_ne (tgt := 48) hX dX3_ofTwo_41 rfl rfl hf (fun hf => ?_) (fun hf => ?_)
              · refine a_lv (lv' := []) [] rfl ?_
                exact wX3_ofTwo_b48 h hE hf
              · refine a_iload_n hX dX3_ofTwo_44 rfl 2 rfl rfl ?_
                refine a_if_eq (tgt := 52) hX dX3_ofTwo_45 rfl rfl hf (fun hf => ?_) (fun hf => ?_)
                · refine a_iconst (v := 0) hX dX3_ofTwo_52 (by decide) rfl ?_
                  exact a_iret hX hT hF (r_i hf) dX3_ofTwo_53
                · refine a_lv (lv' := []) [] rfl ?_
                  exact wX3_ofTwo_b48 h hE hf
            · rw [if_neg hs5] at hf
              have hs0 : ¬ Int32.toInt v0 = (-14) := ne_toInt hs0
              have hs1 : ¬ Int32.toInt v0 = (-13) := ne_toInt hs1
              have hs2 : ¬ Int32.toInt v0 = (-12) := ne_toInt hs2
              have hs3 : ¬ Int32.toInt v0 = (-11) := ne_toInt hs3
              have hs4 : ¬ Int32.toInt v0 = (-10) := ne_toInt hs4
              have hs5 : ¬ Int32.toInt v0 = (-9) := ne_toInt hs5
              refine a_tswO (pc' := 98) hX dX3_ofTwo_1 (by omega) rfl ?_
              refine a_iload_n hX dX3_ofTwo_98 rfl 1 rfl rfl ?_
              refine a_iload_n hX dX3_ofTwo_99 rfl 2 rfl rfl ?_
              refine a_imul hX dX3_ofTwo_100 rfl ?_
              exact a_iret hX hT hF (r_i hf) dX3_ofTwo_101
theorem ctX3_ofTwo {V : Vx} {res : Int32} (hE : ZOK (vZ V)) {v0 : Int32} {v1 : Int32} {v2 : Int32} (hf : fX3_ofTwo v0 v1 v2 = some res) : Ct V yX3_ofTwo (.code yX3_ofTwo cX3_ofTwo 3 (some .int)) rmX3_ofTwo 0 0 [.int v0, .int v1, .int v2] [] (rEq (some (.int res)) []) :=
  Ct_of (by decide) (Nat.le_of_ble_eq_true rfl) rfl (fun X hX hT _ hF => wX3_ofTwo ⟨hX, hT, hF⟩ hE hf)
def rmX3_ofOne : Room := { frames := 0, cells := 0, slots := 0, locals := 0 }
def fX3_ofOne (v0 : Int32) (v1 : Int32) : Option (Int32) := if v0 = (-7) then some (-v1) else (if v1 = 0 then some 1 else (some 0))
theorem wX3_ofOne {X : Cx} {V : Vx} {res : Int32} (h : Run X cX3_ofOne 2 RX3 rmX3_ofOne V (some .int) (rEq (some (.int res)) [])) (hE : ZOK (vZ V)) {v0 : Int32} {v1 : Int32} (hf : fX3_ofOne v0 v1 = some res) : At X 2 0 0 [] 0 [(0, .int v0), (1, .int v1)] [] := by
  obtain ⟨hX, hT, hF⟩ := id h
  unfold fX3_ofOne at hf
  refine a_iload_n hX dX3_ofOne_0 rfl 0 rfl rfl ?_
  refine a_bipush (v := (-7)) hX dX3_ofOne_1 (by decide) rfl ?_
  refine a_icmp_ne (tgt := 9) hX dX3_ofOne_3 rfl rfl hf (fun hf => ?_) (fun hf => ?_)
  · refine a_iload_n hX dX3_ofOne_9 rfl 1 rfl rfl ?_
    refine a_if_ne (tgt := 17) hX dX3_ofOne_10 rfl rfl hf (fun hf => ?_) (fun hf => ?_)
    · refine a_iconst (v := 0) hX dX3_ofOne_17 (by decide) rfl ?_
      exact a_iret hX hT hF (r_i hf) dX3_ofOne_18
    · refine a_iconst (v := 1) hX dX3_ofOne_13 (by decide) rfl ?_
      refine a_goto (pc' := 18) hX dX3_ofOne_14 rfl ?_
      exact a_iret hX hT hF (r_i hf) dX3_ofOne_18
  · refine a_iload_n hX dX3_ofOne_6 rfl 1 rfl rfl ?_
    refine a_ineg hX dX3_ofOne_7 rfl ?_
    exact a_iret hX hT hF (r_i hf) dX3_ofOne_8
theorem ctX3_ofOne {V : Vx} {res : Int32} (hE : ZOK (vZ V)) {v0 : Int32} {v1 : Int32} (hf : fX3_ofOne v0 v1 = some res) : Ct V yX3_ofOne (.code yX3_ofOne cX3_ofOne 2 (some .int)) rmX3_ofOne 0 0 [.int v0, .int v1] [] (rEq (some (.int res)) []) :=
  Ct_of (by decide) (Nat.le_of_ble_eq_true rfl) rfl (fun X hX hT _ hF => wX3_ofOne ⟨hX, hT, hF⟩ hE hf)
def rmX3_valueOf : Room := { frames := 1, cells := 0, slots := 0, locals := 22 }
def fX3_valueOf_b134 (ts : List Tx) (tt : Tx) (k6 : St → Int32 → Int32 → Option (Int32 × St)) (u : St) (v3 : Int32) (v4 : Int32) (v5 : Int32) : Option (Int32 × St) := k6 u v4 (v5 + 1)
theorem wX3_valueOf_b134 {X : Cx} {V : Vx} {q : Nat → Nat} {g : Nat → Nat} {ts : List Tx} {jj : Nat} {tt : Tx} {res : Int32 × St} (h : Run X cX3_valueOf 7 RX3 rmX3_valueOf V (some .int) (rEq (some (.int res.1)) (wC V q ts res.2))) (hE : EnvC V g) (htt : ts[jj]? = some tt) {u : St} {v3 : Int32} {v4 : Int32} {v5 : Int32} {k6 : St → Int32 → Int32 → Option (Int32 × St)} (hk6 : ∀ (u : St) (v4 : Int32) (v5 : Int32), k6 u v4 v5 = some res → At X 7 0 0 (wC V q ts u) 6 [(0, .ref (q 3)), (1, .ref (q (1100 + jj))), (3, .int v3), (4, .int v4), (5, .int v5)] []) (hf : fX3_valueOf_b134 ts tt k6 u v3 v4 v5 = some res) : At X 7 0 0 (wC V q ts u) 134 [(0, .ref (q 3)), (1, .ref (q (1100 + jj))), (3, .int v3), (4, .int v4), (5, .int v5)] [] := by
  obtain ⟨hX, hT, hF⟩ := id h
  unfold fX3_valueOf_b134 at hf
  refine a_iinc (v := v5 + 1) (lv' := [(5, .int (v5 + 1)), (0, .ref (q 3)), (1, .ref (q (1100 + jj))), (3, .int v3), (4, .int v4)]) hX dX3_valueOf_134 4 rfl rfl (by decide) rfl rfl ?_
  refine a_goto (pc' := 6) hX dX3_valueOf_137 rfl ?_
  refine a_lv (lv' := [(0, .ref (q 3)), (1, .ref (q (1100 + jj))), (3, .int v3), (4, .int v4), (5, .int (v5 + 1))]) [1, 2, 3, 4, 0] rfl ?_
  exact hk6 u v4 (v5 + 1) hf
def fX3_valueOf_b50 (ts : List Tx) (tt : Tx) (k6 : St → Int32 → Int32 → Option (Int32 × St)) (u : St) (v3 : Int32) (v4 : Int32) (v5 : Int32) (s0 : Int32) (s1 : Int32) : Option (Int32 × St) := stI u 66 160 s1 s0 (fun u11 => fX3_valueOf_b134 ts tt k6 u11 v3 (v4 + 1) v5)
theorem wX3_valueOf_b50 {X : Cx} {V : Vx} {q : Nat → Nat} {g : Nat → Nat} {ts : List Tx} {jj : Nat} {tt : Tx} {res : Int32 × St} (h : Run X cX3_valueOf 7 RX3 rmX3_valueOf V (some .int) (rEq (some (.int res.1)) (wC V q ts res.2))) (hE : EnvC V g) (htt : ts[jj]? = some tt) {u : St} {v3 : Int32} {v4 : Int32} {v5 : Int32} {s0 : Int32} {s1 : Int32} {k6 : St → Int32 → Int32 → Option (Int32 × St)} (hk6 : ∀ (u : St) (v4 : Int32) (v5 : Int32), k6 u v4 v5 = some res → At X 7 0 0 (wC V q ts u) 6 [(0, .ref (q 3)), (1, .ref (q (1100 + jj))), (3, .int v3), (4, .int v4), (5, .int v5)] []) (hf : fX3_valueOf_b50 ts tt k6 u v3 v4 v5 s0 s1 = some res) : At X 7 0 0 (wC V q ts u) 50 [(0, .ref (q 3)), (1, .ref (q (1100 + jj))), (3, .int v3), (4, .int v4), (5, .int v5)] [.int s0, .int s1, .ref (q 166)] := by
  obtain ⟨hX, hT, hF⟩ := id h
  unfold fX3_valueOf_b50 at hf
  refine sX3_6 hX dX3_valueOf_50 rfl hf (fun u11 hf => ?_)
  refine a_iinc (v := v4 + 1) (lv' := [(4, .int (v4 + 1)), (0, .ref (q 3)), (1, .ref (q (1100 + jj))), (3, .int v3), (5, .int v5)]) hX dX3_valueOf_51 3 rfl rfl (by decide) rfl rfl ?_
  refine a_goto (pc' := 134) hX dX3_valueOf_54 rfl ?_
  refine a_lv (lv' := [(0, .ref (q 3)), (1, .ref (q (1100 + jj))), (3, .int v3), (4, .int (v4 + 1)), (5, .int v5)]) [1, 2, 3, 0, 4] rfl ?_
  exact wX3_valueOf_b134 h hE htt hk6 hf
def fX3_valueOf_l6b (ts : List Tx) (tt : Tx) (k6 : St → Int32 → Int32 → Option (Int32 × St)) (u : St) (v3 : Int32) (v4 : Int32) (v5 : Int32) : Option (Int32 × St) := if v3 ≤ v5 then if v4 ≤ 0 then some (0, u) else (ldI (gA u 66) 160 (v4 - 1) (fun x1 => some (x1, u))) else (ldI tt.2.2 tt.2.1 v5 (fun x2 => if x2 < (-6) then if x2 < (-8) then if v4 ≤ 1 then fX3_valueOf_b134 ts tt k6 u v3 v4 v5 else (ldI (gA u 66) 160 ((v4 + (-1)) - 1) (fun x3 => ldI (gA u 66) 160 (v4 + (-1)) (fun x4 => cl1 (fX3_ofTwo x2 x3 x4) (fun x5 => stI u 66 160 ((v4 + (-1)) - 1) x5 (fun u6 => fX3_valueOf_b134 ts tt k6 u6 v3 (v4 + (-1)) v5))))) else (if v4 ≤ 0 then fX3_valueOf_b134 ts tt k6 u v3 v4 v5 else (ldI (gA u 66) 160 (v4 - 1) (fun x7 => cl1 (fX3_ofOne x2 x7) (fun x8 => stI u 66 160 (v4 - 1) x8 (fun u9 => fX3_valueOf_b134 ts tt k6 u9 v3 v4 v5))))) else (if x2 < 0 then ldI (gA u 67) 6 ((-1) - x2) (fun x10 => fX3_valueOf_b50 ts tt k6 u v3 v4 v5 x10 v4) else (fX3_valueOf_b50 ts tt k6 u v3 v4 v5 x2 v4))))
theorem wX3_valueOf_l6b {X : Cx} {V : Vx} {q : Nat → Nat} {g : Nat → Nat} {ts : List Tx} {jj : Nat} {tt : Tx} {res : Int32 × St} (h : Run X cX3_valueOf 7 RX3 rmX3_valueOf V (some .int) (rEq (some (.int res.1)) (wC V q ts res.2))) (hE : EnvC V g) (htt : ts[jj]? = some tt) {u : St} {v3 : Int32} {v4 : Int32} {v5 : Int32} {k6 : St → Int32 → Int32 → Option (Int32 × St)} (hk6 : ∀ (u : St) (v4 : Int32) (v5 : Int32), k6 u v4 v5 = some res → At X 7 0 0 (wC V q ts u) 6 [(0, .ref (q 3)), (1, .ref (q (1100 + jj))), (3, .int v3), (4, .int v4), (5, .int v5)] []) (hf : fX3_valueOf_l6b ts tt k6 u v3 v4 v5 = some res) : At X 7 0 0 (wC V q ts u) 6 [(0, .ref (q 3)), (1, .ref (q (1100 + jj))), (3, .int v3), (4, .int v4), (5, .int v5)] [] := by
  obtain ⟨hX, hT, hF⟩ := id h
  unfold fX3_valueOf_l6b at hf
  refine a_iload hX dX3_valueOf_6 4 rfl rfl ?_
  refine a_iload_n hX dX3_valueOf_8 rfl 2 rfl rfl ?_
  refine a_icmp_ge (tgt := 140) hX dX3_valueOf_9 rfl rfl hf (fun hf => ?_) (fun hf => ?_)
  · refine a_iload hX dX3_valueOf_140 3 rfl rfl ?_
    refine a_if_le (tgt := 157) hX dX3_valueOf_142 rfl rfl hf (fun hf => ?_) (fun hf => ?_)
    · refine a_iconst (v := 0) hX dX3_valueOf_157 (by decide) rfl ?_
      exact a_iret hX hT hF (r_iS (wf := (wC V q ts)) hf) dX3_valueOf_158
    · refine a_aload_n hX dX3_valueOf_145 rfl 0 rfl rfl ?_
      refine gX3_6 hX F_X3_29 dX3_valueOf_146 rfl ?_
      refine a_iload hX dX3_valueOf_149 3 rfl rfl ?_
      refine a_iconst (v := 1) hX dX3_valueOf_151 (by decide) rfl ?_
      refine a_isub hX dX3_valueOf_152 rfl ?_
      refine lX3_6 hX dX3_valueOf_153 rfl hf (fun x1 hf => ?_)
      refine a_goto (pc' := 158) hX dX3_valueOf_154 rfl ?_
      exact a_iret hX hT hF (r_iS (wf := (wC V q ts)) hf) dX3_valueOf_158
  · refine a_aload_n hX dX3_valueOf_12 rfl 1 rfl rfl ?_
    refine a_iload hX dX3_valueOf_13 4 rfl rfl ?_
    refine a_tald hX htt dX3_valueOf_15 rfl hf (fun x2 hf => ?_)
    refine a_istore (lv' := [(6, .int x2), (0, .ref (q 3)), (1, .ref (q (1100 + jj))), (3, .int v3), (4, .int v4), (5, .int v5)]) hX dX3_valueOf_16 (by decide) rfl rfl ?_
    refine a_iload hX dX3_valueOf_18 0 rfl rfl ?_
    refine a_bipush (v := (-6)) hX dX3_valueOf_20 (by decide) rfl ?_
    refine a_icmp_lt (tgt := 57) hX dX3_valueOf_22 rfl rfl hf (fun hf => ?_) (fun hf => ?_)
    · refine a_iload hX dX3_valueOf_57 0 rfl rfl ?_
      refine a_bipush (v := (-8)) hX dX3_valueOf_59 (by decide) rfl ?_
      refine a_icmp_lt (tgt := 95) hX dX3_valueOf_61 rfl rfl hf (fun hf => ?_) (fun hf => ?_)
      · refine a_iload hX dX3_valueOf_95 4 rfl rfl ?_
        refine a_iconst (v := 1) hX dX3_valueOf_97 (by decide) rfl ?_
        refine a_icmp_le (tgt := 134) hX dX3_valueOf_98 rfl rfl hf (fun hf => ?_) (fun hf => ?_)
        · refine a_lv (lv' := [(0, .ref (q 3)), (1, .ref (q (1100 + jj))), (3, .int v3), (4, .int v4), (5, .int v5)]) [1, 2, 3, 4, 5] rfl ?_
          exact wX3_valueOf_b134 h hE htt hk6 hf
        · refine a_iinc (v := v4 + (-1)) (lv' := [(4, .int (v4 + (-1))), (6, .int x2), (0, .ref (q 3)), (1, .ref (q (1100 + jj))), (3, .int v3), (5, .int v5)]) hX dX3_valueOf_101 4 rfl rfl (by decide) rfl rfl ?_
          refine a_aload_n hX dX3_valueOf_104 rfl 2 rfl rfl ?_
          refine gX3_6 hX F_X3_29 dX3_valueOf_105 rfl ?_
          refine a_iload hX dX3_valueOf_108 0 rfl rfl ?_
          refine a_iconst (v := 1) hX dX3_valueOf_110 (by decide) rfl ?_
          refine a_isub hX dX3_valueOf_111 rfl ?_
          refine a_iload hX dX3_valueOf_112 1 rfl rfl ?_
          refine a_aload_n hX dX3_valueOf_114 rfl 2 rfl rfl ?_
          refine gX3_6 hX F_X3_29 dX3_valueOf_115 rfl ?_
          refine a_iload hX dX3_valueOf_118 0 rfl rfl ?_
          refine a_iconst (v := 1) hX dX3_valueOf_120 (by decide) rfl ?_
          refine a_isub hX dX3_valueOf_121 rfl ?_
          refine lX3_6 hX dX3_valueOf_122 rfl hf (fun x3 hf => ?_)
          refine a_aload_n hX dX3_valueOf_123 rfl 2 rfl rfl ?_
          refine gX3_6 hX F_X3_29 dX3_valueOf_124 rfl ?_
          refine a_iload hX dX3_valueOf_127 0 rfl rfl ?_
          refine lX3_6 hX dX3_valueOf_129 rfl hf (fun x4 hf => ?_)
          obtain ⟨x5, hg5, hf⟩ := cl1_some hf
          refine a_cSpi (rest := [.int ((v4 + (-1)) - 1), .ref (q 166)]) hX hE.1 (ctX3_ofTwo hE.1 hg5) K_X3_104 ⟨rfl, rfl, by decide, by decide⟩ ⟨Nat.zero_le _, Nat.zero_le _⟩ (Nat.le_of_ble_eq_true rfl) dX3_valueOf_130 rfl rfl ?_
          refine sX3_6 hX dX3_valueOf_133 rfl hf (fun u6 hf => ?_)
          refine a_lv (lv' := [(0, .ref (q 3)), (1, .ref (q (1100 + jj))), (3, .int v3), (4, .int (v4 + (-1))), (5, .int v5)]) [2, 3, 4, 0, 5] rfl ?_
          exact wX3_valueOf_b134 h hE htt hk6 hf
      · refine a_iload hX dX3_valueOf_64 4 rfl rfl ?_
        refine a_if_le (tgt := 134) hX dX3_valueOf_66 rfl rfl hf (fun hf => ?_) (fun hf => ?_)
        · refine a_lv (lv' := [(0, .ref (q 3)), (1, .ref (q (1100 + jj))), (3, .int v3), (4, .int v4), (5, .int v5)]) [1, 2, 3, 4, 5] rfl ?_
          exact wX3_valueOf_b134 h hE htt hk6 hf
        · refine a_aload_n hX dX3_valueOf_69 rfl 1 rfl rfl ?_
          refine gX3_6 hX F_X3_29 dX3_valueOf_70 rfl ?_
          refine a_iload hX dX3_valueOf_73 4 rfl rfl ?_
          refine a_iconst (v := 1) hX dX3_valueOf_75 (by decide) rfl ?_
          refine a_isub hX dX3_valueOf_76 rfl ?_
          refine a_iload hX dX3_valueOf_77 0 rfl rfl ?_
          refine a_aload_n hX dX3_valueOf_79 rfl 1 rfl rfl ?_
          refine gX3_6 hX F_X3_29 dX3_valueOf_80 rfl ?_
          refine a_iload hX dX3_valueOf_83 4 rfl rfl ?_
          refine a_iconst (v := 1) hX dX3_valueOf_85 (by decide) rfl ?_
          refine a_isub hX dX3_valueOf_86 rfl ?_
          refine lX3_6 hX dX3_valueOf_87 rfl hf (fun x7 hf => ?_)
          obtain ⟨x8, hg8, hf⟩ := cl1_some hf
          refine a_cSpi (rest := [.int (v4 - 1), .ref (q 166)]) hX hE.1 (ctX3_ofOne hE.1 hg8) K_X3_101 ⟨rfl, rfl, by decide, by decide⟩ ⟨Nat.zero_le _, Nat.zero_le _⟩ (Nat.le_of_ble_eq_true rfl) dX3_valueOf_88 rfl rfl ?_
          refine sX3_6 hX dX3_valueOf_91 rfl hf (fun u9 hf => ?_)
          refine a_goto (pc' := 134) hX dX3_valueOf_92 rfl ?_
          refine a_lv (lv' := [(0, .ref (q 3)), (1, .ref (q (1100 + jj))), (3, .int v3), (4, .int v4), (5, .int v5)]) [1, 2, 3, 4, 5] rfl ?_
          exact wX3_valueOf_b134 h hE htt hk6 hf
    · refine a_aload_n hX dX3_valueOf_25 rfl 1 rfl rfl ?_
      refine gX3_6 hX F_X3_29 dX3_valueOf_26 rfl ?_
      refine a_iload hX dX3_valueOf_29 4 rfl rfl ?_
      refine a_iload hX dX3_valueOf_31 0 rfl rfl ?_
      refine a_if_lt (tgt := 41) hX dX3_valueOf_33 rfl rfl hf (fun hf => ?_) (fun hf => ?_)
      · refine a_aload_n hX dX3_valueOf_41 rfl 1 rfl rfl ?_
        refine gX3_7 hX F_X3_32 dX3_valueOf_42 rfl ?_
        refine a_iconst (v := (-1)) hX dX3_valueOf_45 (by decide) rfl ?_
        refine a_iload hX dX3_valueOf_46 0 rfl rfl ?_
        refine a_isub hX dX3_valueOf_48 rfl ?_
        refine lX3_7 hX dX3_valueOf_49 rfl hf (fun x10 hf => ?_)
        refine a_lv (lv' := [(0, .ref (q 3)), (1, .ref (q (1100 + jj))), (3, .int v3), (4, .int v4), (5, .int v5)]) [1, 2, 3, 4, 5] rfl ?_
        exact wX3_valueOf_b50 h hE htt hk6 hf
      · refine a_iload hX dX3_valueOf_36 0 rfl rfl ?_
        refine a_goto (pc' := 50) hX dX3_valueOf_38 rfl ?_
        refine a_lv (lv' := [(0, .ref (q 3)), (1, .ref (q (1100 + jj))), (3, .int v3), (4, .int v4), (5, .int v5)]) [1, 2, 3, 4, 5] rfl ?_
        exact wX3_valueOf_b50 h hE htt hk6 hf
def fX3_valueOf_l6 (ts : List Tx) (tt : Tx)  (v3 : Int32) : Nat → St → Int32 → Int32 → Option (Int32 × St)
  | 0, _, _, _ => none
  | m + 1, u, v4, v5 => fX3_valueOf_l6b ts tt (fX3_valueOf_l6 ts tt  v3 m) u v3 v4 v5
theorem wX3_valueOf_l6 {X : Cx} {V : Vx} {q : Nat → Nat} {g : Nat → Nat} {ts : List Tx} {jj : Nat} {tt : Tx} {res : Int32 × St} (h : Run X cX3_valueOf 7 RX3 rmX3_valueOf V (some .int) (rEq (some (.int res.1)) (wC V q ts res.2))) (hE : EnvC V g) (htt : ts[jj]? = some tt) {v3 : Int32} : ∀ (m : Nat) (u : St) (v4 : Int32) (v5 : Int32), fX3_valueOf_l6 ts tt  v3 m u v4 v5 = some res → At X 7 0 0 (wC V q ts u) 6 [(0, .ref (q 3)), (1, .ref (q (1100 + jj))), (3, .int v3), (4, .int v4), (5, .int v5)] [] := by
  intro m
  induction m with
  | zero => intro u v4 v5 hf; cases hf
  | succ m ih => intro u v4 v5 hf; exact wX3_valueOf_l6b h hE htt ih hf
def fX3_valueOf (ts : List Tx) (tt : Tx) (u : St) (v2 : Int32) (v3 : Int32) : Option (Int32 × St) := fX3_valueOf_l6 ts tt v3 NF u 0 v2
theorem wX3_valueOf {X : Cx} {V : Vx} {q : Nat → Nat} {g : Nat → Nat} {ts : List Tx} {jj : Nat} {tt : Tx} {res : Int32 × St} (h : Run X cX3_valueOf 7 RX3 rmX3_valueOf V (some .int) (rEq (some (.int res.1)) (wC V q ts res.2))) (hE : EnvC V g) (htt : ts[jj]? = some tt) {u : St} {v2 : Int32} {v3 : Int32} (hf : fX3_valueOf ts tt u v2 v3 = some res) : At X 7 0 0 (wC V q ts u) 0 [(0, .ref (q 3)), (1, .ref (q (1100 + jj))), (2, .int v2), (3, .int v3)] [] := by
  obtain ⟨hX, hT, hF⟩ := id h
  unfold fX3_valueOf at hf
  refine a_iconst (v := 0) hX dX3_valueOf_0 (by decide) rfl ?_
  refine a_istore (lv' := [(4, .int 0), (0, .ref (q 3)), (1, .ref (q (1100 + jj))), (2, .int v2), (3, .int v3)]) hX dX3_valueOf_1 (by decide) rfl rfl ?_
  refine a_iload_n hX dX3_valueOf_3 rfl 3 rfl rfl ?_
  refine a_istore (lv' := [(5, .int v2), (4, .int 0), (0, .ref (q 3)), (1, .ref (q (1100 + jj))), (2, .int v2), (3, .int v3)]) hX dX3_valueOf_4 (by decide) rfl rfl ?_
  refine a_lv (lv' := [(0, .ref (q 3)), (1, .ref (q (1100 + jj))), (3, .int v3), (4, .int 0), (5, .int v2)]) [2, 3, 5, 1, 0] rfl ?_
  exact wX3_valueOf_l6 h hE htt NF u 0 v2 hf
theorem ctX3_valueOf {V : Vx} {q : Nat → Nat} {u : St} {g : Nat → Nat} {ts : List Tx} {jj : Nat} {tt : Tx} {res : Int32 × St} (hE : EnvC V g) (htt : ts[jj]? = some tt) {v2 : Int32} {v3 : Int32} (hf : fX3_valueOf ts tt u v2 v3 = some res) : Ct V yX3_valueOf (.code yX3_valueOf cX3_valueOf 7 (some .int)) rmX3_valueOf 0 0 [.ref (q 3), .ref (q (1100 + jj)), .int v2, .int v3] (wC V q ts u) (rEq (some (.int res.1)) (wC V q ts res.2)) :=
  Ct_of (by decide) (Nat.le_of_ble_eq_true rfl) rfl (fun X hX hT _ hF => wX3_valueOf ⟨hX, hT, hF⟩ hE htt hf)
def rmX3_hold : Room := { frames := 2, cells := 0, slots := 0, locals := 48 }
def fX3_hold (ts : List Tx) (u : St) (v1 : Int32) (v2 : Int32) (v3 : Int32) : Option (Int32 × St) := cl2 (fX3_look ts u v1 v2 v3) (fun x1 u2 => ldX ts x1 (fun tx1 => cl2 (fX3_valueOf ts tx1 u2 0 (tx1.1)) (fun x3 u4 => some (x3, u4))))
theorem wX3_hold {X : Cx} {V : Vx} {q : Nat → Nat} {g : Nat → Nat} {ts : List Tx} {res : Int32 × St} (h : Run X cX3_hold 5 RX3 rmX3_hold V (some .int) (rEq (some (.int res.1)) (wC V q ts res.2))) (hE : EnvC V g) {u : St} {v1 : Int32} {v2 : Int32} {v3 : Int32} (hf : fX3_hold ts u v1 v2 v3 = some res) : At X 5 0 0 (wC V q ts u) 0 [(0, .ref (q 3)), (1, .int v1), (2, .int v2), (3, .int v3)] [] := by
  obtain ⟨hX, hT, hF⟩ := id h
  unfold fX3_hold at hf
  refine a_aload_n hX dX3_hold_0 rfl 0 rfl rfl ?_
  refine a_iload_n hX dX3_hold_1 rfl 1 rfl rfl ?_
  refine a_iload_n hX dX3_hold_2 rfl 2 rfl rfl ?_
  refine a_iload_n hX dX3_hold_3 rfl 3 rfl rfl ?_
  obtain ⟨x1, u2, hg1, hf⟩ := cl2_some hf
  obtain ⟨tx1, htx1, hintx1, hf⟩ := ldX_some hf
  refine a_cVsr (q0 := 5) (rest := []) hX hE.1 (ctX3_look (q := q) hE hg1) K_X3_56 ⟨rfl, rfl⟩ ⟨rfl, rfl, by decide, by decide⟩ ⟨Nat.zero_le _, Nat.zero_le _⟩ (Nat.le_of_ble_eq_true rfl) dX3_hold_4 rfl rfl ?_
  refine a_astore (lv' := [(4, .ref (q (1000 + Int32.toNatClampNeg x1))), (0, .ref (q 3)), (1, .int v1), (2, .int v2), (3, .int v3)]) hX dX3_hold_7 (by decide) rfl rfl ?_
  refine a_aload_n hX dX3_hold_9 rfl 1 rfl rfl ?_
  refine a_aload hX dX3_hold_10 0 rfl rfl ?_
  refine a_tg0 hX htx1 F_X3_60 dX3_hold_12 rfl ?_
  refine a_iconst (v := 0) hX dX3_hold_15 (by decide) rfl ?_
  refine a_aload hX dX3_hold_16 0 rfl rfl ?_
  refine a_tg1 hX htx1 F_X3_63 dX3_hold_18 rfl ?_
  obtain ⟨x3, u4, hg3, hf⟩ := cl2_some hf
  refine a_cVsi (q0 := 5) (rest := []) hX hE.1 (ctX3_valueOf (q := q) hE htx1 hg3) K_X3_66 ⟨rfl, rfl⟩ ⟨rfl, rfl, by decide, by decide⟩ ⟨Nat.zero_le _, Nat.zero_le _⟩ (Nat.le_of_ble_eq_true rfl) dX3_hold_21 rfl rfl ?_
  exact a_iret hX hT hF (r_iS (wf := (wC V q ts)) hf) dX3_hold_24
theorem ctX3_hold {V : Vx} {q : Nat → Nat} {u : St} {g : Nat → Nat} {ts : List Tx} {res : Int32 × St} (hE : EnvC V g) {v1 : Int32} {v2 : Int32} {v3 : Int32} (hf : fX3_hold ts u v1 v2 v3 = some res) : Ct V yX3_hold (.code yX3_hold cX3_hold 5 (some .int)) rmX3_hold 0 0 [.ref (q 3), .int v1, .int v2, .int v3] (wC V q ts u) (rEq (some (.int res.1)) (wC V q ts res.2)) :=
  Ct_of (by decide) (Nat.le_of_ble_eq_true rfl) rfl (fun X hX hT _ hF => wX3_hold ⟨hX, hT, hF⟩ hE hf)
def rmX3_limit : Room := { frames := 2, cells := 0, slots := 0, locals := 48 }
def fX3_limit (ts : List Tx) (u : St) (v1 : Int32) (v2 : Int32) (v3 : Int32) : Option (Int32 × St) := cl2 (fX3_look ts u v1 v2 v3) (fun x1 u2 => ldX ts x1 (fun tx1 => cl2 (fX3_valueOf ts tx1 u2 (tx1.1) (Int32.ofNat tx1.2.1)) (fun x3 u4 => some (x3, u4))))
theorem wX3_limit {X : Cx} {V : Vx} {q : Nat → Nat} {g : Nat → Nat} {ts : List Tx} {res : Int32 × St} (h : Run X cX3_limit 5 RX3 rmX3_limit V (some .int) (rEq (some (.int res.1)) (wC V q ts res.2))) (hE : EnvC V g) {u : St} {v1 : Int32} {v2 : Int32} {v3 : Int32} (hf : fX3_limit ts u v1 v2 v3 = some res) : At X 5 0 0 (wC V q ts u) 0 [(0, .ref (q 3)), (1, .int v1), (2, .int v2), (3, .int v3)] [] := by
  obtain ⟨hX, hT, hF⟩ := id h
  unfold fX3_limit at hf
  refine a_aload_n hX dX3_limit_0 rfl 0 rfl rfl ?_
  refine a_iload_n hX dX3_limit_1 rfl 1 rfl rfl ?_
  refine a_iload_n hX dX3_limit_2 rfl 2 rfl rfl ?_
  refine a_iload_n hX dX3_limit_3 rfl 3 rfl rfl ?_
  obtain ⟨x1, u2, hg1, hf⟩ := cl2_some hf
  obtain ⟨tx1, htx1, hintx1, hf⟩ := ldX_some hf
  refine a_cVsr (q0 := 5) (rest := []) hX hE.1 (ctX3_look (q := q) hE hg1) K_X3_56 ⟨rfl, rfl⟩ ⟨rfl, rfl, by decide, by decide⟩ ⟨Nat.zero_le _, Nat.zero_le _⟩ (Nat.le_of_ble_eq_true rfl) dX3_limit_4 rfl rfl ?_
  refine a_astore (lv' := [(4, .ref (q (1000 + Int32.toNatClampNeg x1))), (0, .ref (q 3)), (1, .int v1), (2, .int v2), (3, .int v3)]) hX dX3_limit_7 (by decide) rfl rfl ?_
  refine a_aload_n hX dX3_limit_9 rfl 1 rfl rfl ?_
  refine a_aload hX dX3_limit_10 0 rfl rfl ?_
  refine a_tg0 hX htx1 F_X3_60 dX3_limit_12 rfl ?_
  refine a_aload hX dX3_limit_15 0 rfl rfl ?_
  refine a_tg1 hX htx1 F_X3_63 dX3_limit_17 rfl ?_
  refine a_aload hX dX3_limit_20 0 rfl rfl ?_
  refine a_tg0 hX htx1 F_X3_60 dX3_limit_22 rfl ?_
  refine a_tlen hX htx1 dX3_limit_25 rfl ?_
  obtain ⟨x3, u4, hg3, hf⟩ := cl2_some hf
  refine a_cVsi (q0 := 5) (rest := []) hX hE.1 (ctX3_valueOf (q := q) hE htx1 hg3) K_X3_66 ⟨rfl, rfl⟩ ⟨rfl, rfl, by decide, by decide⟩ ⟨Nat.zero_le _, Nat.zero_le _⟩ (Nat.le_of_ble_eq_true rfl) dX3_limit_26 rfl rfl ?_
  exact a_iret hX hT hF (r_iS (wf := (wC V q ts)) hf) dX3_limit_29
theorem ctX3_limit {V : Vx} {q : Nat → Nat} {u : St} {g : Nat → Nat} {ts : List Tx} {res : Int32 × St} (hE : EnvC V g) {v1 : Int32} {v2 : Int32} {v3 : Int32} (hf : fX3_limit ts u v1 v2 v3 = some res) : Ct V yX3_limit (.code yX3_limit cX3_limit 5 (some .int)) rmX3_limit 0 0 [.ref (q 3), .int v1, .int v2, .int v3] (wC V q ts u) (rEq (some (.int res.1)) (wC V q ts res.2)) :=
  Ct_of (by decide) (Nat.le_of_ble_eq_true rfl) rfl (fun X hX hT _ hF => wX3_limit ⟨hX, hT, hF⟩ hE hf)
def rmX3_givesBack : Room := { frames := 3, cells := 0, slots := 0, locals := 72 }
def fX3_givesBack (ts : List Tx) (u : St) (v1 : Int32) (v2 : Int32) (v3 : Int32) : Option (Int32 × St) := cl2 (fX3_hold ts u v1 v2 v3) (fun x1 u2 => if x1 = 0 then cl2 (fX3_limit ts u2 v1 v2 v3) (fun x3 u4 => if x3 < (gZ u2 68) - v3 then some (0, u4) else (some (1, u4))) else (some (0, u2)))
theorem wX3_givesBack {X : Cx} {V : Vx} {q : Nat → Nat} {g : Nat → Nat} {ts : List Tx} {res : Int32 × St} (h : Run X cX3_givesBack 4 RX3 rmX3_givesBack V (some .boolean) (rEq (some (.int res.1)) (wC V q ts res.2))) (hE : EnvC V g) {u : St} {v1 : Int32} {v2 : Int32} {v3 : Int32} (hf : fX3_givesBack ts u v1 v2 v3 = some res) : At X 4 0 0 (wC V q ts u) 0 [(0, .ref (q 3)), (1, .int v1), (2, .int v2), (3, .int v3)] [] := by
  obtain ⟨hX, hT, hF⟩ := id h
  unfold fX3_givesBack at hf
  refine a_aload_n hX dX3_givesBack_0 rfl 0 rfl rfl ?_
  refine a_iload_n hX dX3_givesBack_1 rfl 1 rfl rfl ?_
  refine a_iload_n hX dX3_givesBack_2 rfl 2 rfl rfl ?_
  refine a_iload_n hX dX3_givesBack_3 rfl 3 rfl rfl ?_
  obtain ⟨x1, u2, hg1, hf⟩ := cl2_some hf
  refine a_cVsi (q0 := 5) (rest := []) hX hE.1 (ctX3_hold (q := q) hE hg1) K_X3_70 ⟨rfl, rfl⟩ ⟨rfl, rfl, by decide, by decide⟩ ⟨Nat.zero_le _, Nat.zero_le _⟩ (Nat.le_of_ble_eq_true rfl) dX3_givesBack_4 rfl rfl ?_
  refine a_if_ne (tgt := 30) hX dX3_givesBack_7 rfl rfl hf (fun hf => ?_) (fun hf => ?_)
  · refine a_iconst (v := 0) hX dX3_givesBack_30 (by decide) rfl ?_
    exact a_zret hX hT (by decide) hF (r_iS (wf := (wC V q ts)) hf) dX3_givesBack_31
  · refine a_aload_n hX dX3_givesBack_10 rfl 0 rfl rfl ?_
    refine gX3_8 hX F_X3_35 dX3_givesBack_11 rfl ?_
    refine a_iload_n hX dX3_givesBack_14 rfl 3 rfl rfl ?_
    refine a_isub hX dX3_givesBack_15 rfl ?_
    refine a_aload_n hX dX3_givesBack_16 rfl 0 rfl rfl ?_
    refine a_iload_n hX dX3_givesBack_17 rfl 1 rfl rfl ?_
    refine a_iload_n hX dX3_givesBack_18 rfl 2 rfl rfl ?_
    refine a_iload_n hX dX3_givesBack_19 rfl 3 rfl rfl ?_
    obtain ⟨x3, u4, hg3, hf⟩ := cl2_some hf
    refine a_cVsi (q0 := 5) (rest := [.int ((gZ u2 68) - v3)]) hX hE.1 (ctX3_limit (q := q) hE hg3) K_X3_74 ⟨rfl, rfl⟩ ⟨rfl, rfl, by decide, by decide⟩ ⟨Nat.zero_le _, Nat.zero_le _⟩ (Nat.le_of_ble_eq_true rfl) dX3_givesBack_20 rfl rfl ?_
    refine a_icmp_gt (tgt := 30) hX dX3_givesBack_23 rfl rfl hf (fun hf => ?_) (fun hf => ?_)
    · refine a_iconst (v := 0) hX dX3_givesBack_30 (by decide) rfl ?_
      exact a_zret hX hT (by decide) hF (r_iS (wf := (wC V q ts)) hf) dX3_givesBack_31
    · refine a_iconst (v := 1) hX dX3_givesBack_26 (by decide) rfl ?_
      refine a_goto (pc' := 31) hX dX3_givesBack_27 rfl ?_
      exact a_zret hX hT (by decide) hF (r_iS (wf := (wC V q ts)) hf) dX3_givesBack_31
theorem ctX3_givesBack {V : Vx} {q : Nat → Nat} {u : St} {g : Nat → Nat} {ts : List Tx} {res : Int32 × St} (hE : EnvC V g) {v1 : Int32} {v2 : Int32} {v3 : Int32} (hf : fX3_givesBack ts u v1 v2 v3 = some res) : Ct V yX3_givesBack (.code yX3_givesBack cX3_givesBack 4 (some .boolean)) rmX3_givesBack 0 0 [.ref (q 3), .int v1, .int v2, .int v3] (wC V q ts u) (rEq (some (.int res.1)) (wC V q ts res.2)) :=
  Ct_of (by decide) (Nat.le_of_ble_eq_true rfl) rfl (fun X hX hT _ hF => wX3_givesBack ⟨hX, hT, hF⟩ hE hf)
def rmX0_goOn : Room := { frames := 4, cells := 0, slots := 0, locals := 95 }
def fX0_goOn_b142 (ts : List Tx) (k15 : St → Int32 → Option (St)) (u : St) (v1 : Int32) (v2 : Int32) (v3 : Int32) (v4 : Int64) (v6 : Int32) : Option (St) := k15 u (v6 + 1)
theorem wX0_goOn_b142 {X : Cx} {V : Vx} {q : Nat → Nat} {g : Nat → Nat} {ts : List Tx} {res : St} (h : Run X cX0_goOn 9 RX0 rmX0_goOn V none (rEq none (wC V q ts res))) (hE : EnvC V g) {u : St} {v1 : Int32} {v2 : Int32} {v3 : Int32} {v4 : Int64} {v6 : Int32} {k15 : St → Int32 → Option (St)} (hk15 : ∀ (u : St) (v6 : Int32), k15 u v6 = some res → At X 9 0 0 (wC V q ts u) 15 [(0, .ref (q 0)), (1, .int v1), (2, .int v2), (3, .int v3), (4, .long v4), (6, .int v6)] []) (hf : fX0_goOn_b142 ts k15 u v1 v2 v3 v4 v6 = some res) : At X 9 0 0 (wC V q ts u) 142 [(0, .ref (q 0)), (1, .int v1), (2, .int v2), (3, .int v3), (4, .long v4), (6, .int v6)] [] := by
  obtain ⟨hX, hT, hF⟩ := id h
  unfold fX0_goOn_b142 at hf
  refine a_iinc (v := v6 + 1) (lv' := [(6, .int (v6 + 1)), (0, .ref (q 0)), (1, .int v1), (2, .int v2), (3, .int v3), (4, .long v4)]) hX dX0_goOn_142 5 rfl rfl (by decide) rfl rfl ?_
  refine a_goto (pc' := 15) hX dX0_goOn_145 rfl ?_
  refine a_lv (lv' := [(0, .ref (q 0)), (1, .int v1), (2, .int v2), (3, .int v3), (4, .long v4), (6, .int (v6 + 1))]) [1, 2, 3, 4, 5, 0] rfl ?_
  exact hk15 u (v6 + 1) hf
def fX0_goOn_b130 (ts : List Tx) (k15 : St → Int32 → Option (St)) (u : St) (v1 : Int32) (v2 : Int32) (v3 : Int32) (v4 : Int64) (v6 : Int32) (v7 : Int32) : Option (St) := ldL (gB u 3) 60 v7 (fun x11 => stL u 3 60 v7 (x11 + v4) (fun u12 => fX0_goOn_b142 ts k15 u12 v1 v2 v3 v4 v6))
theorem wX0_goOn_b130 {X : Cx} {V : Vx} {q : Nat → Nat} {g : Nat → Nat} {ts : List Tx} {res : St} (h : Run X cX0_goOn 9 RX0 rmX0_goOn V none (rEq none (wC V q ts res))) (hE : EnvC V g) {u : St} {v1 : Int32} {v2 : Int32} {v3 : Int32} {v4 : Int64} {v6 : Int32} {v7 : Int32} {k15 : St → Int32 → Option (St)} (hk15 : ∀ (u : St) (v6 : Int32), k15 u v6 = some res → At X 9 0 0 (wC V q ts u) 15 [(0, .ref (q 0)), (1, .int v1), (2, .int v2), (3, .int v3), (4, .long v4), (6, .int v6)] []) (hf : fX0_goOn_b130 ts k15 u v1 v2 v3 v4 v6 v7 = some res) : At X 9 0 0 (wC V q ts u) 130 [(0, .ref (q 0)), (1, .int v1), (2, .int v2), (3, .int v3), (4, .long v4), (6, .int v6), (7, .int v7)] [] := by
  obtain ⟨hX, hT, hF⟩ := id h
  unfold fX0_goOn_b130 at hf
  refine a_aload_n hX dX0_goOn_130 rfl 0 rfl rfl ?_
  refine gX0_3 hX F_X0_18 dX0_goOn_131 rfl ?_
  refine a_iload hX dX0_goOn_134 6 rfl rfl ?_
  refine a_dup2 hX dX0_goOn_136 rfl rfl rfl ?_
  refine lX0_3 hX dX0_goOn_137 rfl hf (fun x11 hf => ?_)
  refine a_lload hX dX0_goOn_138 4 rfl rfl ?_
  refine a_ladd hX dX0_goOn_140 rfl ?_
  refine sX0_3 hX dX0_goOn_141 rfl hf (fun u12 hf => ?_)
  refine a_lv (lv' := [(0, .ref (q 0)), (1, .int v1), (2, .int v2), (3, .int v3), (4, .long v4), (6, .int v6)]) [0, 1, 2, 3, 4, 5] rfl ?_
  exact wX0_goOn_b142 h hE hk15 hf
def fX0_goOn_b84 (ts : List Tx) (k15 : St → Int32 → Option (St)) (u : St) (v1 : Int32) (v2 : Int32) (v3 : Int32) (v4 : Int64) (v6 : Int32) (v7 : Int32) (s0 : Int32) : Option (St) := if s0 = 0 then fX0_goOn_b130 ts k15 u v1 v2 v3 v4 v6 v7 else (cl2 (fX3_givesBack ts u v1 v6 v2) (fun x6 u7 => if x6 = 0 then fX0_goOn_b130 ts k15 u7 v1 v2 v3 v4 v6 v7 else (ldL (gB u7 2) 5 v1 (fun x8 => ldL (gB u7 22) 60 v7 (fun x9 => stL u7 2 5 v1 (x8 + (v4 * x9)) (fun u10 => fX0_goOn_b142 ts k15 u10 v1 v2 v3 v4 v6))))))
theorem wX0_goOn_b84 {X : Cx} {V : Vx} {q : Nat → Nat} {g : Nat → Nat} {ts : List Tx} {res : St} (h : Run X cX0_goOn 9 RX0 rmX0_goOn V none (rEq none (wC V q ts res))) (hE : EnvC V g) {u : St} {v1 : Int32} {v2 : Int32} {v3 : Int32} {v4 : Int64} {v6 : Int32} {v7 : Int32} {s0 : Int32} {k15 : St → Int32 → Option (St)} (hk15 : ∀ (u : St) (v6 : Int32), k15 u v6 = some res → At X 9 0 0 (wC V q ts u) 15 [(0, .ref (q 0)), (1, .int v1), (2, .int v2), (3, .int v3), (4, .long v4), (6, .int v6)] []) (hf : fX0_goOn_b84 ts k15 u v1 v2 v3 v4 v6 v7 s0 = some res) : At X 9 0 0 (wC V q ts u) 84 [(0, .ref (q 0)), (1, .int v1), (2, .int v2), (3, .int v3), (4, .long v4), (6, .int v6), (7, .int v7)] [.int s0] := by
  obtain ⟨hX, hT, hF⟩ := id h
  unfold fX0_goOn_b84 at hf
  refine a_istore (lv' := [(8, .int s0), (0, .ref (q 0)), (1, .int v1), (2, .int v2), (3, .int v3), (4, .long v4), (6, .int v6), (7, .int v7)]) hX dX0_goOn_84 (by decide) rfl rfl ?_
  refine a_iload hX dX0_goOn_86 0 rfl rfl ?_
  refine a_if_eq (tgt := 130) hX dX0_goOn_88 rfl rfl hf (fun hf => ?_) (fun hf => ?_)
  · refine a_lv (lv' := [(0, .ref (q 0)), (1, .int v1), (2, .int v2), (3, .int v3), (4, .long v4), (6, .int v6), (7, .int v7)]) [1, 2, 3, 4, 5, 6, 7] rfl ?_
    exact wX0_goOn_b130 h hE hk15 hf
  · refine a_aload_n hX dX0_goOn_91 rfl 1 rfl rfl ?_
    refine gX0_7 hX F_X0_33 dX0_goOn_92 rfl ?_
    refine a_iload_n hX dX0_goOn_95 rfl 2 rfl rfl ?_
    refine a_iload hX dX0_goOn_96 6 rfl rfl ?_
    refine a_iload_n hX dX0_goOn_98 rfl 3 rfl rfl ?_
    obtain ⟨x6, u7, hg6, hf⟩ := cl2_some hf
    refine a_cVsi (q0 := 5) (rest := []) hX hE.1 (ctX3_givesBack (q := q) hE hg6) K_X0_80 ⟨rfl, rfl⟩ ⟨rfl, rfl, by decide, by decide⟩ ⟨Nat.zero_le _, Nat.zero_le _⟩ (Nat.le_of_ble_eq_true rfl) dX0_goOn_99 rfl rfl ?_
    refine a_if_eq (tgt := 130) hX dX0_goOn_102 rfl rfl hf (fun hf => ?_) (fun hf => ?_)
    · refine a_lv (lv' := [(0, .ref (q 0)), (1, .int v1), (2, .int v2), (3, .int v3), (4, .long v4), (6, .int v6), (7, .int v7)]) [1, 2, 3, 4, 5, 6, 7] rfl ?_
      exact wX0_goOn_b130 h hE hk15 hf
    · refine a_aload_n hX dX0_goOn_105 rfl 1 rfl rfl ?_
      refine gX0_2 hX F_X0_15 dX0_goOn_106 rfl ?_
      refine a_iload_n hX dX0_goOn_109 rfl 2 rfl rfl ?_
      refine a_dup2 hX dX0_goOn_110 rfl rfl rfl ?_
      refine lX0_2 hX dX0_goOn_111 rfl hf (fun x8 hf => ?_)
      refine a_lload hX dX0_goOn_112 5 rfl rfl ?_
      refine a_aload_n hX dX0_goOn_114 rfl 1 rfl rfl ?_
      refine gX0_5 hX F_X0_25 dX0_goOn_115 rfl ?_
      refine gX1_2 hX F_X0_71 dX0_goOn_118 rfl ?_
      refine a_iload hX dX0_goOn_121 7 rfl rfl ?_
      refine lX1_2 hX dX0_goOn_123 rfl hf (fun x9 hf => ?_)
      refine a_lmul hX dX0_goOn_124 rfl ?_
      refine a_ladd hX dX0_goOn_125 rfl ?_
      refine sX0_2 hX dX0_goOn_126 rfl hf (fun u10 hf => ?_)
      refine a_goto (pc' := 142) hX dX0_goOn_127 rfl ?_
      refine a_lv (lv' := [(0, .ref (q 0)), (1, .int v1), (2, .int v2), (3, .int v3), (4, .long v4), (6, .int v6)]) [1, 2, 3, 4, 5, 6] rfl ?_
      exact wX0_goOn_b142 h hE hk15 hf
def fX0_goOn_b79 (ts : List Tx) (k15 : St → Int32 → Option (St)) (u : St) (v1 : Int32) (v2 : Int32) (v3 : Int32) (v4 : Int64) (v6 : Int32) (v7 : Int32) : Option (St) := fX0_goOn_b84 ts k15 u v1 v2 v3 v4 v6 v7 1
theorem wX0_goOn_b79 {X : Cx} {V : Vx} {q : Nat → Nat} {g : Nat → Nat} {ts : List Tx} {res : St} (h : Run X cX0_goOn 9 RX0 rmX0_goOn V none (rEq none (wC V q ts res))) (hE : EnvC V g) {u : St} {v1 : Int32} {v2 : Int32} {v3 : Int32} {v4 : Int64} {v6 : Int32} {v7 : Int32} {k15 : St → Int32 → Option (St)} (hk15 : ∀ (u : St) (v6 : Int32), k15 u v6 = some res → At X 9 0 0 (wC V q ts u) 15 [(0, .ref (q 0)), (1, .int v1), (2, .int v2), (3, .int v3), (4, .long v4), (6, .int v6)] []) (hf : fX0_goOn_b79 ts k15 u v1 v2 v3 v4 v6 v7 = some res) : At X 9 0 0 (wC V q ts u) 79 [(0, .ref (q 0)), (1, .int v1), (2, .int v2), (3, .int v3), (4, .long v4), (6, .int v6), (7, .int v7)] [] := by
  obtain ⟨hX, hT, hF⟩ := id h
  unfold fX0_goOn_b79 at hf
  refine a_iconst (v := 1) hX dX0_goOn_79 (by decide) rfl ?_
  refine a_goto (pc' := 84) hX dX0_goOn_80 rfl ?_
  exact wX0_goOn_b84 h hE hk15 hf
def fX0_goOn_b83 (ts : List Tx) (k15 : St → Int32 → Option (St)) (u : St) (v1 : Int32) (v2 : Int32) (v3 : Int32) (v4 : Int64) (v6 : Int32) (v7 : Int32) : Option (St) := fX0_goOn_b84 ts k15 u v1 v2 v3 v4 v6 v7 0
theorem wX0_goOn_b83 {X : Cx} {V : Vx} {q : Nat → Nat} {g : Nat → Nat} {ts : List Tx} {res : St} (h : Run X cX0_goOn 9 RX0 rmX0_goOn V none (rEq none (wC V q ts res))) (hE : EnvC V g) {u : St} {v1 : Int32} {v2 : Int32} {v3 : Int32} {v4 : Int64} {v6 : Int32} {v7 : Int32} {k15 : St → Int32 → Option (St)} (hk15 : ∀ (u : St) (v6 : Int32), k15 u v6 = some res → At X 9 0 0 (wC V q ts u) 15 [(0, .ref (q 0)), (1, .int v1), (2, .int v2), (3, .int v3), (4, .long v4), (6, .int v6)] []) (hf : fX0_goOn_b83 ts k15 u v1 v2 v3 v4 v6 v7 = some res) : At X 9 0 0 (wC V q ts u) 83 [(0, .ref (q 0)), (1, .int v1), (2, .int v2), (3, .int v3), (4, .long v4), (6, .int v6), (7, .int v7)] [] := by
  obtain ⟨hX, hT, hF⟩ := id h
  unfold fX0_goOn_b83 at hf
  refine a_iconst (v := 0) hX dX0_goOn_83 (by decide) rfl ?_
  exact wX0_goOn_b84 h hE hk15 hf
def fX0_goOn_l15b (ts : List Tx) (k15 : St → Int32 → Option (St)) (u : St) (v1 : Int32) (v2 : Int32) (v3 : Int32) (v4 : Int64) (v6 : Int32) : Option (St) := if 5 ≤ v6 then some u else (cl1 (fX11_place v6 (v2 + 1)) (fun x3 => ldL (gB u 22) 60 x3 (fun x4 => if x4 = 0 then fX0_goOn_b142 ts k15 u v1 v2 v3 v4 v6 else (cl1 (fX10_lead u v1 v6 v2) (fun x5 => if x5 = 0 then fX0_goOn_b142 ts k15 u v1 v2 v3 v4 v6 else (if v1 = v6 then fX0_goOn_b83 ts k15 u v1 v2 v3 v4 v6 x3 else (if v3 = (-1) then fX0_goOn_b79 ts k15 u v1 v2 v3 v4 v6 x3 else (if v3 = v1 then fX0_goOn_b79 ts k15 u v1 v2 v3 v4 v6 x3 else (fX0_goOn_b83 ts k15 u v1 v2 v3 v4 v6 x3)))))))))
theorem wX0_goOn_l15b {X : Cx} {V : Vx} {q : Nat → Nat} {g : Nat → Nat} {ts : List Tx} {res : St} (h : Run X cX0_goOn 9 RX0 rmX0_goOn V none (rEq none (wC V q ts res))) (hE : EnvC V g) {u : St} {v1 : Int32} {v2 : Int32} {v3 : Int32} {v4 : Int64} {v6 : Int32} {k15 : St → Int32 → Option (St)} (hk15 : ∀ (u : St) (v6 : Int32), k15 u v6 = some res → At X 9 0 0 (wC V q ts u) 15 [(0, .ref (q 0)), (1, .int v1), (2, .int v2), (3, .int v3), (4, .long v4), (6, .int v6)] []) (hf : fX0_goOn_l15b ts k15 u v1 v2 v3 v4 v6 = some res) : At X 9 0 0 (wC V q ts u) 15 [(0, .ref (q 0)), (1, .int v1), (2, .int v2), (3, .int v3), (4, .long v4), (6, .int v6)] [] := by
  obtain ⟨hX, hT, hF⟩ := id h
  unfold fX0_goOn_l15b at hf
  refine a_iload hX dX0_goOn_15 5 rfl rfl ?_
  refine a_iconst (v := 5) hX dX0_goOn_17 (by decide) rfl ?_
  refine a_icmp_ge (tgt := 148) hX dX0_goOn_18 rfl rfl hf (fun hf => ?_) (fun hf => ?_)
  · exact a_ret hX hT hF (r_vS (wf := (wC V q ts)) hf) dX0_goOn_148
  · refine a_iload hX dX0_goOn_21 5 rfl rfl ?_
    refine a_iload_n hX dX0_goOn_23 rfl 2 rfl rfl ?_
    refine a_iconst (v := 1) hX dX0_goOn_24 (by decide) rfl ?_
    refine a_iadd hX dX0_goOn_25 rfl ?_
    obtain ⟨x3, hg3, hf⟩ := cl1_some hf
    refine a_cNpi (rest := []) hX hE.1 (ctX11_place hE.1 hg3) (e_nw hX hE (w := .methodLinkNest "VaseCourt$Bench" 37 yX11_place "VaseCourt") (List.mem_of_getElem? (i := 9) rfl)) LN_X11_place ⟨rfl, rfl, by decide, by decide⟩ ⟨Nat.zero_le _, Nat.zero_le _⟩ (Nat.le_of_ble_eq_true rfl) dX0_goOn_26 rfl rfl ?_
    refine a_istore (lv' := [(7, .int x3), (0, .ref (q 0)), (1, .int v1), (2, .int v2), (3, .int v3), (4, .long v4), (6, .int v6)]) hX dX0_goOn_29 (by decide) rfl rfl ?_
    refine a_aload_n hX dX0_goOn_31 rfl 1 rfl rfl ?_
    refine gX0_5 hX F_X0_25 dX0_goOn_32 rfl ?_
    refine gX1_2 hX F_X0_71 dX0_goOn_35 rfl ?_
    refine a_iload hX dX0_goOn_38 0 rfl rfl ?_
    refine lX1_2 hX dX0_goOn_40 rfl hf (fun x4 hf => ?_)
    refine a_lconst (v := 0) hX dX0_goOn_41 (by decide) rfl ?_
    refine a_lcmp_eq (tgt := 142) hX dX0_goOn_42 rfl dX0_goOn_43 rfl rfl hf (fun hf => ?_) (fun hf => ?_)
    · refine a_lv (lv' := [(0, .ref (q 0)), (1, .int v1), (2, .int v2), (3, .int v3), (4, .long v4), (6, .int v6)]) [1, 2, 3, 4, 5, 6] rfl ?_
      exact wX0_goOn_b142 h hE hk15 hf
    · refine a_aload_n hX dX0_goOn_46 rfl 1 rfl rfl ?_
      refine gX0_6 hX F_X0_29 dX0_goOn_47 rfl ?_
      refine a_iload_n hX dX0_goOn_50 rfl 2 rfl rfl ?_
      refine a_iload hX dX0_goOn_51 6 rfl rfl ?_
      refine a_iload_n hX dX0_goOn_53 rfl 3 rfl rfl ?_
      obtain ⟨x5, hg5, hf⟩ := cl1_some hf
      refine a_cVsi (q0 := 1) (rest := []) hX hE.1 (ctX10_lead (q := q) hE hg5) K_X0_74 ⟨rfl, rfl⟩ ⟨rfl, rfl, by decide, by decide⟩ ⟨Nat.zero_le _, Nat.zero_le _⟩ (Nat.le_of_ble_eq_true rfl) dX0_goOn_54 rfl rfl ?_
      refine a_if_ne (tgt := 63) hX dX0_goOn_57 rfl rfl hf (fun hf => ?_) (fun hf => ?_)
      · refine a_iload_n hX dX0_goOn_63 rfl 2 rfl rfl ?_
        refine a_iload hX dX0_goOn_64 6 rfl rfl ?_
        refine a_icmp_eq (tgt := 83) hX dX0_goOn_66 rfl rfl hf (fun hf => ?_) (fun hf => ?_)
        · refine a_lv (lv' := [(0, .ref (q 0)), (1, .int v1), (2, .int v2), (3, .int v3), (4, .long v4), (6, .int v6), (7, .int x3)]) [1, 2, 3, 4, 5, 6, 0] rfl ?_
          exact wX0_goOn_b83 h hE hk15 hf
        · refine a_iload_n hX dX0_goOn_69 rfl 4 rfl rfl ?_
          refine a_iconst (v := (-1)) hX dX0_goOn_70 (by decide) rfl ?_
          refine a_icmp_eq (tgt := 79) hX dX0_goOn_71 rfl rfl hf (fun hf => ?_) (fun hf => ?_)
          · refine a_lv (lv' := [(0, .ref (q 0)), (1, .int v1), (2, .int v2), (3, .int v3), (4, .long v4), (6, .int v6), (7, .int x3)]) [1, 2, 3, 4, 5, 6, 0] rfl ?_
            exact wX0_goOn_b79 h hE hk15 hf
          · refine a_iload_n hX dX0_goOn_74 rfl 4 rfl rfl ?_
            refine a_iload_n hX dX0_goOn_75 rfl 2 rfl rfl ?_
            refine a_icmp_ne (tgt := 83) hX dX0_goOn_76 rfl rfl hf (fun hf => ?_) (fun hf => ?_)
            · refine a_lv (lv' := [(0, .ref (q 0)), (1, .int v1), (2, .int v2), (3, .int v3), (4, .long v4), (6, .int v6), (7, .int x3)]) [1, 2, 3, 4, 5, 6, 0] rfl ?_
              exact wX0_goOn_b83 h hE hk15 hf
            · refine a_lv (lv' := [(0, .ref (q 0)), (1, .int v1), (2, .int v2), (3, .int v3), (4, .long v4), (6, .int v6), (7, .int x3)]) [1, 2, 3, 4, 5, 6, 0] rfl ?_
              exact wX0_goOn_b79 h hE hk15 hf
      · refine a_goto (pc' := 142) hX dX0_goOn_60 rfl ?_
        refine a_lv (lv' := [(0, .ref (q 0)), (1, .int v1), (2, .int v2), (3, .int v3), (4, .long v4), (6, .int v6)]) [1, 2, 3, 4, 5, 6] rfl ?_
        exact wX0_goOn_b142 h hE hk15 hf
def fX0_goOn_l15 (ts : List Tx)  (v1 : Int32) (v2 : Int32) (v3 : Int32) (v4 : Int64) : Nat → St → Int32 → Option (St)
  | 0, _, _ => none
  | m + 1, u, v6 => fX0_goOn_l15b ts (fX0_goOn_l15 ts  v1 v2 v3 v4 m) u v1 v2 v3 v4 v6
theorem wX0_goOn_l15 {X : Cx} {V : Vx} {q : Nat → Nat} {g : Nat → Nat} {ts : List Tx} {res : St} (h : Run X cX0_goOn 9 RX0 rmX0_goOn V none (rEq none (wC V q ts res))) (hE : EnvC V g) {v1 : Int32} {v2 : Int32} {v3 : Int32} {v4 : Int64} : ∀ (m : Nat) (u : St) (v6 : Int32), fX0_goOn_l15 ts  v1 v2 v3 v4 m u v6 = some res → At X 9 0 0 (wC V q ts u) 15 [(0, .ref (q 0)), (1, .int v1), (2, .int v2), (3, .int v3), (4, .long v4), (6, .int v6)] [] := by
  intro m
  induction m with
  | zero => intro u v6 hf; cases hf
  | succ m ih => intro u v6 hf; exact wX0_goOn_l15b h hE ih hf
def fX0_goOn (ts : List Tx) (u : St) (v1 : Int32) (v2 : Int32) (v3 : Int32) : Option (St) := cl1 (fX11_place v1 v2) (fun x1 => ldL (gB u 3) 60 x1 (fun x2 => fX0_goOn_l15 ts v1 v2 v3 x2 NF u 0))
theorem wX0_goOn {X : Cx} {V : Vx} {q : Nat → Nat} {g : Nat → Nat} {ts : List Tx} {res : St} (h : Run X cX0_goOn 9 RX0 rmX0_goOn V none (rEq none (wC V q ts res))) (hE : EnvC V g) {u : St} {v1 : Int32} {v2 : Int32} {v3 : Int32} (hf : fX0_goOn ts u v1 v2 v3 = some res) : At X 9 0 0 (wC V q ts u) 0 [(0, .ref (q 0)), (1, .int v1), (2, .int v2), (3, .int v3)] [] := by
  obtain ⟨hX, hT, hF⟩ := id h
  unfold fX0_goOn at hf
  refine a_aload_n hX dX0_goOn_0 rfl 0 rfl rfl ?_
  refine gX0_3 hX F_X0_18 dX0_goOn_1 rfl ?_
  refine a_iload_n hX dX0_goOn_4 rfl 1 rfl rfl ?_
  refine a_iload_n hX dX0_goOn_5 rfl 2 rfl rfl ?_
  obtain ⟨x1, hg1, hf⟩ := cl1_some hf
  refine a_cNpi (rest := [.ref (q 103)]) hX hE.1 (ctX11_place hE.1 hg1) (e_nw hX hE (w := .methodLinkNest "VaseCourt$Bench" 37 yX11_place "VaseCourt") (List.mem_of_getElem? (i := 9) rfl)) LN_X11_place ⟨rfl, rfl, by decide, by decide⟩ ⟨Nat.zero_le _, Nat.zero_le _⟩ (Nat.le_of_ble_eq_true rfl) dX0_goOn_6 rfl rfl ?_
  refine lX0_3 hX dX0_goOn_9 rfl hf (fun x2 hf => ?_)
  refine a_lstore (lv' := [(4, .long x2), (0, .ref (q 0)), (1, .int v1), (2, .int v2), (3, .int v3)]) hX dX0_goOn_10 (by decide) rfl rfl ?_
  refine a_iconst (v := 0) hX dX0_goOn_12 (by decide) rfl ?_
  refine a_istore (lv' := [(6, .int 0), (4, .long x2), (0, .ref (q 0)), (1, .int v1), (2, .int v2), (3, .int v3)]) hX dX0_goOn_13 (by decide) rfl rfl ?_
  refine a_lv (lv' := [(0, .ref (q 0)), (1, .int v1), (2, .int v2), (3, .int v3), (4, .long x2), (6, .int 0)]) [2, 3, 4, 5, 1, 0] rfl ?_
  exact wX0_goOn_l15 h hE NF u 0 hf
theorem ctX0_goOn {V : Vx} {q : Nat → Nat} {u : St} {g : Nat → Nat} {ts : List Tx} {res : St} (hE : EnvC V g) {v1 : Int32} {v2 : Int32} {v3 : Int32} (hf : fX0_goOn ts u v1 v2 v3 = some res) : Ct V yX0_goOn (.code yX0_goOn cX0_goOn 9 none) rmX0_goOn 0 0 [.ref (q 0), .int v1, .int v2, .int v3] (wC V q ts u) (rEq none (wC V q ts res)) :=
  Ct_of (by decide) (Nat.le_of_ble_eq_true rfl) rfl (fun X hX hT _ hF => wX0_goOn ⟨hX, hT, hF⟩ hE hf)
def rmX0_giveBack : Room := { frames := 5, cells := 0, slots := 0, locals := 123 }
def fX0_giveBack_b85 (ts : List Tx) (k46 : St → Int32 → Option (St)) (k58 : St → Int32 → Option (St)) (u : St) (v1 : Int32) (v2 : Int32) (v3 : Int32) : Option (St) := k58 u (v3 + 1)
theorem wX0_giveBack_b85 {X : Cx} {V : Vx} {q : Nat → Nat} {g : Nat → Nat} {ts : List Tx} {res : St} (h : Run X cX0_giveBack 4 RX0 rmX0_giveBack V none (rEq none (wC V q ts res))) (hE : EnvC V g) {u : St} {v1 : Int32} {v2 : Int32} {v3 : Int32} {k46 : St → Int32 → Option (St)} (hk46 : ∀ (u : St) (v2 : Int32), k46 u v2 = some res → At X 4 0 0 (wC V q ts u) 46 [(0, .ref (q 0)), (1, .int v1), (2, .int v2)] []) {k58 : St → Int32 → Option (St)} (hk58 : ∀ (u : St) (v3 : Int32), k58 u v3 = some res → At X 4 0 0 (wC V q ts u) 58 [(0, .ref (q 0)), (1, .int v1), (2, .int v2), (3, .int v3)] []) (hf : fX0_giveBack_b85 ts k46 k58 u v1 v2 v3 = some res) : At X 4 0 0 (wC V q ts u) 85 [(0, .ref (q 0)), (1, .int v1), (2, .int v2), (3, .int v3)] [] := by
  obtain ⟨hX, hT, hF⟩ := id h
  unfold fX0_giveBack_b85 at hf
  refine a_iinc (v := v3 + 1) (lv' := [(3, .int (v3 + 1)), (0, .ref (q 0)), (1, .int v1), (2, .int v2)]) hX dX0_giveBack_85 3 rfl rfl (by decide) rfl rfl ?_
  refine a_goto (pc' := 58) hX dX0_giveBack_88 rfl ?_
  refine a_lv (lv' := [(0, .ref (q 0)), (1, .int v1), (2, .int v2), (3, .int (v3 + 1))]) [1, 2, 3, 0] rfl ?_
  exact hk58 u (v3 + 1) hf
def fX0_giveBack_l58b (ts : List Tx) (k46 : St → Int32 → Option (St)) (k58 : St → Int32 → Option (St)) (u : St) (v1 : Int32) (v2 : Int32) (v3 : Int32) : Option (St) := if 5 ≤ v3 then k46 u (v2 + 1) else (cl1 (fX11_place v3 v2) (fun x7 => ldL (gB u 3) 60 x7 (fun x8 => if x8 = 0 then fX0_giveBack_b85 ts k46 k58 u v1 v2 v3 else (cl1 (fX0_goOn ts u v3 v2 v1) (fun u10 => fX0_giveBack_b85 ts k46 k58 u10 v1 v2 v3)))))
theorem wX0_giveBack_l58b {X : Cx} {V : Vx} {q : Nat → Nat} {g : Nat → Nat} {ts : List Tx} {res : St} (h : Run X cX0_giveBack 4 RX0 rmX0_giveBack V none (rEq none (wC V q ts res))) (hE : EnvC V g) {u : St} {v1 : Int32} {v2 : Int32} {v3 : Int32} {k46 : St → Int32 → Option (St)} (hk46 : ∀ (u : St) (v2 : Int32), k46 u v2 = some res → At X 4 0 0 (wC V q ts u) 46 [(0, .ref (q 0)), (1, .int v1), (2, .int v2)] []) {k58 : St → Int32 → Option (St)} (hk58 : ∀ (u : St) (v3 : Int32), k58 u v3 = some res → At X 4 0 0 (wC V q ts u) 58 [(0, .ref (q 0)), (1, .int v1), (2, .int v2), (3, .int v3)] []) (hf : fX0_giveBack_l58b ts k46 k58 u v1 v2 v3 = some res) : At X 4 0 0 (wC V q ts u) 58 [(0, .ref (q 0)), (1, .int v1), (2, .int v2), (3, .int v3)] [] := by
  obtain ⟨hX, hT, hF⟩ := id h
  unfold fX0_giveBack_l58b at hf
  refine a_iload_n hX dX0_giveBack_58 rfl 3 rfl rfl ?_
  refine a_iconst (v := 5) hX dX0_giveBack_59 (by decide) rfl ?_
  refine a_icmp_ge (tgt := 91) hX dX0_giveBack_60 rfl rfl hf (fun hf => ?_) (fun hf => ?_)
  · refine a_iinc (v := v2 + 1) (lv' := [(2, .int (v2 + 1)), (0, .ref (q 0)), (1, .int v1), (3, .int v3)]) hX dX0_giveBack_91 2 rfl rfl (by decide) rfl rfl ?_
    refine a_goto (pc' := 46) hX dX0_giveBack_94 rfl ?_
    refine a_lv (lv' := [(0, .ref (q 0)), (1, .int v1), (2, .int (v2 + 1))]) [1, 2, 0] rfl ?_
    exact hk46 u (v2 + 1) hf
  · refine a_aload_n hX dX0_giveBack_63 rfl 0 rfl rfl ?_
    refine gX0_3 hX F_X0_18 dX0_giveBack_64 rfl ?_
    refine a_iload_n hX dX0_giveBack_67 rfl 3 rfl rfl ?_
    refine a_iload_n hX dX0_giveBack_68 rfl 2 rfl rfl ?_
    obtain ⟨x7, hg7, hf⟩ := cl1_some hf
    refine a_cNpi (rest := [.ref (q 103)]) hX hE.1 (ctX11_place hE.1 hg7) (e_nw hX hE (w := .methodLinkNest "VaseCourt$Bench" 37 yX11_place "VaseCourt") (List.mem_of_getElem? (i := 9) rfl)) LN_X11_place ⟨rfl, rfl, by decide, by decide⟩ ⟨Nat.zero_le _, Nat.zero_le _⟩ (Nat.le_of_ble_eq_true rfl) dX0_giveBack_69 rfl rfl ?_
    refine lX0_3 hX dX0_giveBack_72 rfl hf (fun x8 hf => ?_)
    refine a_lconst (v := 0) hX dX0_giveBack_73 (by decide) rfl ?_
    refine a_lcmp_eq (tgt := 85) hX dX0_giveBack_74 rfl dX0_giveBack_75 rfl rfl hf (fun hf => ?_) (fun hf => ?_)
    · exact wX0_giveBack_b85 h hE hk46 hk58 hf
    · refine a_aload_n hX dX0_giveBack_78 rfl 0 rfl rfl ?_
      refine a_iload_n hX dX0_giveBack_79 rfl 3 rfl rfl ?_
      refine a_iload_n hX dX0_giveBack_80 rfl 2 rfl rfl ?_
      refine a_iload_n hX dX0_giveBack_81 rfl 1 rfl rfl ?_
      obtain ⟨u10, hg9, hf⟩ := cl1_some hf
      refine a_cVsv (q0 := 6) (rest := []) hX hE.1 (ctX0_goOn (q := q) hE hg9) K_X0_67 ⟨rfl, rfl⟩ ⟨rfl, rfl, by decide, by decide⟩ ⟨Nat.zero_le _, Nat.zero_le _⟩ (Nat.le_of_ble_eq_true rfl) dX0_giveBack_82 rfl rfl ?_
      exact wX0_giveBack_b85 h hE hk46 hk58 hf
def fX0_giveBack_l58 (ts : List Tx) (k46 : St → Int32 → Option (St)) (v1 : Int32) (v2 : Int32) : Nat → St → Int32 → Option (St)
  | 0, _, _ => none
  | m + 1, u, v3 => fX0_giveBack_l58b ts k46 (fX0_giveBack_l58 ts k46 v1 v2 m) u v1 v2 v3
theorem wX0_giveBack_l58 {X : Cx} {V : Vx} {q : Nat → Nat} {g : Nat → Nat} {ts : List Tx} {res : St} (h : Run X cX0_giveBack 4 RX0 rmX0_giveBack V none (rEq none (wC V q ts res))) (hE : EnvC V g) {v1 : Int32} {v2 : Int32} {k46 : St → Int32 → Option (St)} (hk46 : ∀ (u : St) (v2 : Int32), k46 u v2 = some res → At X 4 0 0 (wC V q ts u) 46 [(0, .ref (q 0)), (1, .int v1), (2, .int v2)] []) : ∀ (m : Nat) (u : St) (v3 : Int32), fX0_giveBack_l58 ts k46 v1 v2 m u v3 = some res → At X 4 0 0 (wC V q ts u) 58 [(0, .ref (q 0)), (1, .int v1), (2, .int v2), (3, .int v3)] [] := by
  intro m
  induction m with
  | zero => intro u v3 hf; cases hf
  | succ m ih => intro u v3 hf; exact wX0_giveBack_l58b h hE hk46 ih hf
def fX0_giveBack_l46b (ts : List Tx) (k46 : St → Int32 → Option (St)) (u : St) (v1 : Int32) (v2 : Int32) : Option (St) := if (gZ u 4) - 1 ≤ v2 then some u else (fX0_giveBack_l58 ts k46 v1 v2 NF u 0)
theorem wX0_giveBack_l46b {X : Cx} {V : Vx} {q : Nat → Nat} {g : Nat → Nat} {ts : List Tx} {res : St} (h : Run X cX0_giveBack 4 RX0 rmX0_giveBack V none (rEq none (wC V q ts res))) (hE : EnvC V g) {u : St} {v1 : Int32} {v2 : Int32} {k46 : St → Int32 → Option (St)} (hk46 : ∀ (u : St) (v2 : Int32), k46 u v2 = some res → At X 4 0 0 (wC V q ts u) 46 [(0, .ref (q 0)), (1, .int v1), (2, .int v2)] []) (hf : fX0_giveBack_l46b ts k46 u v1 v2 = some res) : At X 4 0 0 (wC V q ts u) 46 [(0, .ref (q 0)), (1, .int v1), (2, .int v2)] [] := by
  obtain ⟨hX, hT, hF⟩ := id h
  unfold fX0_giveBack_l46b at hf
  refine a_iload_n hX dX0_giveBack_46 rfl 2 rfl rfl ?_
  refine a_aload_n hX dX0_giveBack_47 rfl 0 rfl rfl ?_
  refine gX0_4 hX F_X0_21 dX0_giveBack_48 rfl ?_
  refine a_iconst (v := 1) hX dX0_giveBack_51 (by decide) rfl ?_
  refine a_isub hX dX0_giveBack_52 rfl ?_
  refine a_icmp_ge (tgt := 97) hX dX0_giveBack_53 rfl rfl hf (fun hf => ?_) (fun hf => ?_)
  · exact a_ret hX hT hF (r_vS (wf := (wC V q ts)) hf) dX0_giveBack_97
  · refine a_iconst (v := 0) hX dX0_giveBack_56 (by decide) rfl ?_
    refine a_istore_n (lv' := [(3, .int 0), (0, .ref (q 0)), (1, .int v1), (2, .int v2)]) hX dX0_giveBack_57 rfl (by decide) rfl rfl ?_
    refine a_lv (lv' := [(0, .ref (q 0)), (1, .int v1), (2, .int v2), (3, .int 0)]) [1, 2, 3, 0] rfl ?_
    exact wX0_giveBack_l58 h hE hk46 NF u 0 hf
def fX0_giveBack_l46 (ts : List Tx)  (v1 : Int32) : Nat → St → Int32 → Option (St)
  | 0, _, _ => none
  | m + 1, u, v2 => fX0_giveBack_l46b ts (fX0_giveBack_l46 ts  v1 m) u v1 v2
theorem wX0_giveBack_l46 {X : Cx} {V : Vx} {q : Nat → Nat} {g : Nat → Nat} {ts : List Tx} {res : St} (h : Run X cX0_giveBack 4 RX0 rmX0_giveBack V none (rEq none (wC V q ts res))) (hE : EnvC V g) {v1 : Int32} : ∀ (m : Nat) (u : St) (v2 : Int32), fX0_giveBack_l46 ts  v1 m u v2 = some res → At X 4 0 0 (wC V q ts u) 46 [(0, .ref (q 0)), (1, .int v1), (2, .int v2)] [] := by
  intro m
  induction m with
  | zero => intro u v2 hf; cases hf
  | succ m ih => intro u v2 hf; exact wX0_giveBack_l46b h hE ih hf
def fX0_giveBack_l18b (ts : List Tx) (k18 : St → Int32 → Option (St)) (u : St) (v1 : Int32) (v2 : Int32) : Option (St) := if 5 ≤ v2 then fX0_giveBack_l46 ts v1 NF u 0 else (ldL (gB u 21) 60 v2 (fun x5 => stL u 3 60 v2 x5 (fun u6 => k18 u6 (v2 + 1))))
theorem wX0_giveBack_l18b {X : Cx} {V : Vx} {q : Nat → Nat} {g : Nat → Nat} {ts : List Tx} {res : St} (h : Run X cX0_giveBack 4 RX0 rmX0_giveBack V none (rEq none (wC V q ts res))) (hE : EnvC V g) {u : St} {v1 : Int32} {v2 : Int32} {k18 : St → Int32 → Option (St)} (hk18 : ∀ (u : St) (v2 : Int32), k18 u v2 = some res → At X 4 0 0 (wC V q ts u) 18 [(0, .ref (q 0)), (1, .int v1), (2, .int v2)] []) (hf : fX0_giveBack_l18b ts k18 u v1 v2 = some res) : At X 4 0 0 (wC V q ts u) 18 [(0, .ref (q 0)), (1, .int v1), (2, .int v2)] [] := by
  obtain ⟨hX, hT, hF⟩ := id h
  unfold fX0_giveBack_l18b at hf
  refine a_iload_n hX dX0_giveBack_18 rfl 2 rfl rfl ?_
  refine a_iconst (v := 5) hX dX0_giveBack_19 (by decide) rfl ?_
  refine a_icmp_ge (tgt := 44) hX dX0_giveBack_20 rfl rfl hf (fun hf => ?_) (fun hf => ?_)
  · refine a_iconst (v := 0) hX dX0_giveBack_44 (by decide) rfl ?_
    refine a_istore_n (lv' := [(2, .int 0), (0, .ref (q 0)), (1, .int v1)]) hX dX0_giveBack_45 rfl (by decide) rfl rfl ?_
    refine a_lv (lv' := [(0, .ref (q 0)), (1, .int v1), (2, .int 0)]) [1, 2, 0] rfl ?_
    exact wX0_giveBack_l46 h hE NF u 0 hf
  · refine a_aload_n hX dX0_giveBack_23 rfl 0 rfl rfl ?_
    refine gX0_3 hX F_X0_18 dX0_giveBack_24 rfl ?_
    refine a_iload_n hX dX0_giveBack_27 rfl 2 rfl rfl ?_
    refine a_aload_n hX dX0_giveBack_28 rfl 0 rfl rfl ?_
    refine gX0_5 hX F_X0_25 dX0_giveBack_29 rfl ?_
    refine gX1_1 hX F_X0_62 dX0_giveBack_32 rfl ?_
    refine a_iload_n hX dX0_giveBack_35 rfl 2 rfl rfl ?_
    refine lX1_1 hX dX0_giveBack_36 rfl hf (fun x5 hf => ?_)
    refine sX0_3 hX dX0_giveBack_37 rfl hf (fun u6 hf => ?_)
    refine a_iinc (v := v2 + 1) (lv' := [(2, .int (v2 + 1)), (0, .ref (q 0)), (1, .int v1)]) hX dX0_giveBack_38 2 rfl rfl (by decide) rfl rfl ?_
    refine a_goto (pc' := 18) hX dX0_giveBack_41 rfl ?_
    refine a_lv (lv' := [(0, .ref (q 0)), (1, .int v1), (2, .int (v2 + 1))]) [1, 2, 0] rfl ?_
    exact hk18 u6 (v2 + 1) hf
def fX0_giveBack_l18 (ts : List Tx)  (v1 : Int32) : Nat → St → Int32 → Option (St)
  | 0, _, _ => none
  | m + 1, u, v2 => fX0_giveBack_l18b ts (fX0_giveBack_l18 ts  v1 m) u v1 v2
theorem wX0_giveBack_l18 {X : Cx} {V : Vx} {q : Nat → Nat} {g : Nat → Nat} {ts : List Tx} {res : St} (h : Run X cX0_giveBack 4 RX0 rmX0_giveBack V none (rEq none (wC V q ts res))) (hE : EnvC V g) {v1 : Int32} : ∀ (m : Nat) (u : St) (v2 : Int32), fX0_giveBack_l18 ts  v1 m u v2 = some res → At X 4 0 0 (wC V q ts u) 18 [(0, .ref (q 0)), (1, .int v1), (2, .int v2)] [] := by
  intro m
  induction m with
  | zero => intro u v2 hf; cases hf
  | succ m ih => intro u v2 hf; exact wX0_giveBack_l18b h hE ih hf
def fX0_giveBack (ts : List Tx) (u : St) (v1 : Int32) : Option (St) := cl1 (fJ7_fill_d0a16_X0_2 u 0) (fun u2 => cl1 (fJ7_fill_d0a16_X0_3 u2 0) (fun u4 => fX0_giveBack_l18 ts v1 NF u4 0))
theorem wX0_giveBack {X : Cx} {V : Vx} {q : Nat → Nat} {g : Nat → Nat} {ts : List Tx} {res : St} (h : Run X cX0_giveBack 4 RX0 rmX0_giveBack V none (rEq none (wC V q ts res))) (hE : EnvC V g) {u : St} {v1 : Int32} (hf : fX0_giveBack ts u v1 = some res) : At X 4 0 0 (wC V q ts u) 0 [(0, .ref (q 0)), (1, .int v1)] [] := by
  obtain ⟨hX, hT, hF⟩ := id h
  unfold fX0_giveBack at hf
  refine a_aload_n hX dX0_giveBack_0 rfl 0 rfl rfl ?_
  refine gX0_2 hX F_X0_15 dX0_giveBack_1 rfl ?_
  refine a_lconst (v := 0) hX dX0_giveBack_4 (by decide) rfl ?_
  obtain ⟨u2, hg1, hf⟩ := cl1_some hf
  refine a_cSsv (rest := []) hX hE.1 (ctJ7_fill_d0a16_X0_2 (q := q) hE hg1) K_X0_56 ⟨rfl, rfl, by decide, by decide⟩ ⟨Nat.zero_le _, Nat.zero_le _⟩ (Nat.le_of_ble_eq_true rfl) dX0_giveBack_5 rfl rfl ?_
  refine a_aload_n hX dX0_giveBack_8 rfl 0 rfl rfl ?_
  refine gX0_3 hX F_X0_18 dX0_giveBack_9 rfl ?_
  refine a_lconst (v := 0) hX dX0_giveBack_12 (by decide) rfl ?_
  obtain ⟨u4, hg3, hf⟩ := cl1_some hf
  refine a_cSsv (rest := []) hX hE.1 (ctJ7_fill_d0a16_X0_3 (q := q) hE hg3) K_X0_56 ⟨rfl, rfl, by decide, by decide⟩ ⟨Nat.zero_le _, Nat.zero_le _⟩ (Nat.le_of_ble_eq_true rfl) dX0_giveBack_13 rfl rfl ?_
  refine a_iconst (v := 0) hX dX0_giveBack_16 (by decide) rfl ?_
  refine a_istore_n (lv' := [(2, .int 0), (0, .ref (q 0)), (1, .int v1)]) hX dX0_giveBack_17 rfl (by decide) rfl rfl ?_
  refine a_lv (lv' := [(0, .ref (q 0)), (1, .int v1), (2, .int 0)]) [1, 2, 0] rfl ?_
  exact wX0_giveBack_l18 h hE NF u4 0 hf
theorem ctX0_giveBack {V : Vx} {q : Nat → Nat} {u : St} {g : Nat → Nat} {ts : List Tx} {res : St} (hE : EnvC V g) {v1 : Int32} (hf : fX0_giveBack ts u v1 = some res) : Ct V yX0_giveBack (.code yX0_giveBack cX0_giveBack 4 none) rmX0_giveBack 0 0 [.ref (q 0), .int v1] (wC V q ts u) (rEq none (wC V q ts res)) :=
  Ct_of (by decide) (Nat.le_of_ble_eq_true rfl) rfl (fun X hX hT _ hF => wX0_giveBack ⟨hX, hT, hF⟩ hE hf)
def rmX0_claimsOf : Room := { frames := 6, cells := 0, slots := 0, locals := 146 }
def fX0_claimsOf (ts : List Tx) (u : St) (v1 : Int32) : Option (Int64 × St) := cl1 (fX0_giveBack ts u v1) (fun u2 => ldL (gB u2 2) 5 v1 (fun x3 => some (x3, u2)))
theorem wX0_claimsOf {X : Cx} {V : Vx} {q : Nat → Nat} {g : Nat → Nat} {ts : List Tx} {res : Int64 × St} (h : Run X cX0_claimsOf 2 RX0 rmX0_claimsOf V (some .long) (rEq (some (.long res.1)) (wC V q ts res.2))) (hE : EnvC V g) {u : St} {v1 : Int32} (hf : fX0_claimsOf ts u v1 = some res) : At X 2 0 0 (wC V q ts u) 0 [(0, .ref (q 0)), (1, .int v1)] [] := by
  obtain ⟨hX, hT, hF⟩ := id h
  unfold fX0_claimsOf at hf
  refine a_aload_n hX dX0_claimsOf_0 rfl 0 rfl rfl ?_
  refine a_iload_n hX dX0_claimsOf_1 rfl 1 rfl rfl ?_
  obtain ⟨u2, hg1, hf⟩ := cl1_some hf
  refine a_cVsv (q0 := 6) (rest := []) hX hE.1 (ctX0_giveBack (q := q) hE hg1) K_X0_41 ⟨rfl, rfl⟩ ⟨rfl, rfl, by decide, by decide⟩ ⟨Nat.zero_le _, Nat.zero_le _⟩ (Nat.le_of_ble_eq_true rfl) dX0_claimsOf_2 rfl rfl ?_
  refine a_aload_n hX dX0_claimsOf_5 rfl 0 rfl rfl ?_
  refine gX0_2 hX F_X0_15 dX0_claimsOf_6 rfl ?_
  refine a_iload_n hX dX0_claimsOf_9 rfl 1 rfl rfl ?_
  refine lX0_2 hX dX0_claimsOf_10 rfl hf (fun x3 hf => ?_)
  exact a_lret hX hT hF (r_lS (wf := (wC V q ts)) hf) dX0_claimsOf_11
theorem ctX0_claimsOf {V : Vx} {q : Nat → Nat} {u : St} {g : Nat → Nat} {ts : List Tx} {res : Int64 × St} (hE : EnvC V g) {v1 : Int32} (hf : fX0_claimsOf ts u v1 = some res) : Ct V yX0_claimsOf (.code yX0_claimsOf cX0_claimsOf 2 (some .long)) rmX0_claimsOf 0 0 [.ref (q 0), .int v1] (wC V q ts u) (rEq (some (.long res.1)) (wC V q ts res.2)) :=
  Ct_of (by decide) (Nat.le_of_ble_eq_true rfl) rfl (fun X hX hT _ hF => wX0_claimsOf ⟨hX, hT, hF⟩ hE hf)
def rmX0_has : Room := { frames := 0, cells := 0, slots := 0, locals := 0 }
def fX0_has (u : St) (v1 : Int32) : Option (Int32) := if v1 < 0 then some 0 else (if gZ u 0 ≤ v1 then some 0 else (some 1))
theorem wX0_has {X : Cx} {V : Vx} {q : Nat → Nat} {g : Nat → Nat} {ts : List Tx} {u : St} {res : Int32} (h : Run X cX0_has 2 RX0 rmX0_has V (some .boolean) (rEq (some (.int res)) (wC V q ts u))) (hE : EnvC V g) {v1 : Int32} (hf : fX0_has u v1 = some res) : At X 2 0 0 (wC V q ts u) 0 [(0, .ref (q 0)), (1, .int v1)] [] := by
  obtain ⟨hX, hT, hF⟩ := id h
  unfold fX0_has at hf
  refine a_iload_n hX dX0_has_0 rfl 1 rfl rfl ?_
  refine a_if_lt (tgt := 16) hX dX0_has_1 rfl rfl hf (fun hf => ?_) (fun hf => ?_)
  · refine a_iconst (v := 0) hX dX0_has_16 (by decide) rfl ?_
    exact a_zret hX hT (by decide) hF (r_i hf) dX0_has_17
  · refine a_iload_n hX dX0_has_4 rfl 1 rfl rfl ?_
    refine a_aload_n hX dX0_has_5 rfl 0 rfl rfl ?_
    refine gX0_0 hX F_X0_45 dX0_has_6 rfl ?_
    refine a_icmp_ge (tgt := 16) hX dX0_has_9 rfl rfl hf (fun hf => ?_) (fun hf => ?_)
    · refine a_iconst (v := 0) hX dX0_has_16 (by decide) rfl ?_
      exact a_zret hX hT (by decide) hF (r_i hf) dX0_has_17
    · refine a_iconst (v := 1) hX dX0_has_12 (by decide) rfl ?_
      refine a_goto (pc' := 17) hX dX0_has_13 rfl ?_
      exact a_zret hX hT (by decide) hF (r_i hf) dX0_has_17
theorem ctX0_has {V : Vx} {q : Nat → Nat} {u : St} {g : Nat → Nat} {ts : List Tx} {res : Int32} (hE : EnvC V g) {v1 : Int32} (hf : fX0_has u v1 = some res) : Ct V yX0_has (.code yX0_has cX0_has 2 (some .boolean)) rmX0_has 0 0 [.ref (q 0), .int v1] (wC V q ts u) (rEq (some (.int res)) (wC V q ts u)) :=
  Ct_of (by decide) (Nat.le_of_ble_eq_true rfl) rfl (fun X hX hT _ hF => wX0_has ⟨hX, hT, hF⟩ hE hf)
def rmX0_keep : Room := { frames := 2, cells := 0, slots := 0, locals := 42 }
def fX0_keep_l2b  (k2 : St → Int32 → Option (Int32 × St)) (u : St) (v1 : Int32) : Option (Int32 × St) := if 5 ≤ v1 then nmI (gZ u 0) (fun x1 => nmS (setZ u 0 (x1 + 1)) (fun u2 => some (x1, u2))) else (cl1 (fX0_givenTo u v1) (fun x3 => stL u 1 60 (((gZ u 0) * 5) + v1) x3 (fun u4 => k2 u4 (v1 + 1))))
theorem wX0_keep_l2b {X : Cx} {V : Vx} {q : Nat → Nat} {g : Nat → Nat} {ts : List Tx} {res : Int32 × St} (h : Run X cX0_keep 2 RX0 rmX0_keep V (some .int) (rEq (some (.int res.1)) (wC V q ts res.2))) (hE : EnvC V g) {u : St} {v1 : Int32} {k2 : St → Int32 → Option (Int32 × St)} (hk2 : ∀ (u : St) (v1 : Int32), k2 u v1 = some res → At X 2 0 0 (wC V q ts u) 2 [(0, .ref (q 0)), (1, .int v1)] []) (hf : fX0_keep_l2b  k2 u v1 = some res) : At X 2 0 0 (wC V q ts u) 2 [(0, .ref (q 0)), (1, .int v1)] [] := by
  obtain ⟨hX, hT, hF⟩ := id h
  unfold fX0_keep_l2b at hf
  refine a_iload_n hX dX0_keep_2 rfl 1 rfl rfl ?_
  refine a_iconst (v := 5) hX dX0_keep_3 (by decide) rfl ?_
  refine a_icmp_ge (tgt := 31) hX dX0_keep_4 rfl rfl hf (fun hf => ?_) (fun hf => ?_)
  · refine a_aload_n hX dX0_keep_31 rfl 0 rfl rfl ?_
    refine a_dup hX dX0_keep_32 rfl rfl ?_
    refine gX0_0 hX F_X0_45 dX0_keep_33 rfl ?_
    refine a_nmI hf (fun x1 hf => ?_)
    refine a_dup_x1 hX dX0_keep_36 rfl rfl rfl ?_
    refine a_iconst (v := 1) hX dX0_keep_37 (by decide) rfl ?_
    refine a_iadd hX dX0_keep_38 rfl ?_
    refine pX0_0 hX F_X0_45 dX0_keep_39 rfl hf (fun u2 hf => ?_)
    exact a_iret hX hT hF (r_iS (wf := (wC V q ts)) hf) dX0_keep_42
  · refine a_aload_n hX dX0_keep_7 rfl 0 rfl rfl ?_
    refine gX0_1 hX F_X0_11 dX0_keep_8 rfl ?_
    refine a_aload_n hX dX0_keep_11 rfl 0 rfl rfl ?_
    refine gX0_0 hX F_X0_45 dX0_keep_12 rfl ?_
    refine a_iconst (v := 5) hX dX0_keep_15 (by decide) rfl ?_
    refine a_imul hX dX0_keep_16 rfl ?_
    refine a_iload_n hX dX0_keep_17 rfl 1 rfl rfl ?_
    refine a_iadd hX dX0_keep_18 rfl ?_
    refine a_aload_n hX dX0_keep_19 rfl 0 rfl rfl ?_
    refine a_iload_n hX dX0_keep_20 rfl 1 rfl rfl ?_
    obtain ⟨x3, hg3, hf⟩ := cl1_some hf
    refine a_cVsl (q0 := 6) (rest := [.int (((gZ u 0) * 5) + v1), .ref (q 101)]) hX hE.1 (ctX0_givenTo (q := q) hE hg3) K_X0_48 ⟨rfl, rfl⟩ ⟨rfl, rfl, by decide, by decide⟩ ⟨Nat.zero_le _, Nat.zero_le _⟩ (Nat.le_of_ble_eq_true rfl) dX0_keep_21 rfl rfl ?_
    refine sX0_1 hX dX0_keep_24 rfl hf (fun u4 hf => ?_)
    refine a_iinc (v := v1 + 1) (lv' := [(1, .int (v1 + 1)), (0, .ref (q 0))]) hX dX0_keep_25 1 rfl rfl (by decide) rfl rfl ?_
    refine a_goto (pc' := 2) hX dX0_keep_28 rfl ?_
    refine a_lv (lv' := [(0, .ref (q 0)), (1, .int (v1 + 1))]) [1, 0] rfl ?_
    exact hk2 u4 (v1 + 1) hf
def fX0_keep_l2    : Nat → St → Int32 → Option (Int32 × St)
  | 0, _, _ => none
  | m + 1, u, v1 => fX0_keep_l2b  (fX0_keep_l2    m) u v1
theorem wX0_keep_l2 {X : Cx} {V : Vx} {q : Nat → Nat} {g : Nat → Nat} {ts : List Tx} {res : Int32 × St} (h : Run X cX0_keep 2 RX0 rmX0_keep V (some .int) (rEq (some (.int res.1)) (wC V q ts res.2))) (hE : EnvC V g)  : ∀ (m : Nat) (u : St) (v1 : Int32), fX0_keep_l2    m u v1 = some res → At X 2 0 0 (wC V q ts u) 2 [(0, .ref (q 0)), (1, .int v1)] [] := by
  intro m
  induction m with
  | zero => intro u v1 hf; cases hf
  | succ m ih => intro u v1 hf; exact wX0_keep_l2b h hE ih hf
def fX0_keep (u : St) : Option (Int32 × St) := fX0_keep_l2 NF u 0
theorem wX0_keep {X : Cx} {V : Vx} {q : Nat → Nat} {g : Nat → Nat} {ts : List Tx} {res : Int32 × St} (h : Run X cX0_keep 2 RX0 rmX0_keep V (some .int) (rEq (some (.int res.1)) (wC V q ts res.2))) (hE : EnvC V g) {u : St} (hf : fX0_keep u = some res) : At X 2 0 0 (wC V q ts u) 0 [(0, .ref (q 0))] [] := by
  obtain ⟨hX, hT, hF⟩ := id h
  unfold fX0_keep at hf
  refine a_iconst (v := 0) hX dX0_keep_0 (by decide) rfl ?_
  refine a_istore_n (lv' := [(1, .int 0), (0, .ref (q 0))]) hX dX0_keep_1 rfl (by decide) rfl rfl ?_
  refine a_lv (lv' := [(0, .ref (q 0)), (1, .int 0)]) [1, 0] rfl ?_
  exact wX0_keep_l2 h hE NF u 0 hf
theorem ctX0_keep {V : Vx} {q : Nat → Nat} {u : St} {g : Nat → Nat} {ts : List Tx} {res : Int32 × St} (hE : EnvC V g)  (hf : fX0_keep u = some res) : Ct V yX0_keep (.code yX0_keep cX0_keep 2 (some .int)) rmX0_keep 0 0 [.ref (q 0)] (wC V q ts u) (rEq (some (.int res.1)) (wC V q ts res.2)) :=
  Ct_of (by decide) (Nat.le_of_ble_eq_true rfl) rfl (fun X hX hT _ hF => wX0_keep ⟨hX, hT, hF⟩ hE hf)
def rmX0_keptFor : Room := { frames := 0, cells := 0, slots := 0, locals := 0 }
def fX0_keptFor (u : St) (v1 : Int32) (v2 : Int32) : Option (Int64) := ldL (gB u 1) 60 ((v1 * 5) + v2) (fun x1 => some x1)
theorem wX0_keptFor {X : Cx} {V : Vx} {q : Nat → Nat} {g : Nat → Nat} {ts : List Tx} {u : St} {res : Int64} (h : Run X cX0_keptFor 3 RX0 rmX0_keptFor V (some .long) (rEq (some (.long res)) (wC V q ts u))) (hE : EnvC V g) {v1 : Int32} {v2 : Int32} (hf : fX0_keptFor u v1 v2 = some res) : At X 3 0 0 (wC V q ts u) 0 [(0, .ref (q 0)), (1, .int v1), (2, .int v2)] [] := by
  obtain ⟨hX, hT, hF⟩ := id h
  unfold fX0_keptFor at hf
  refine a_aload_n hX dX0_keptFor_0 rfl 0 rfl rfl ?_
  refine gX0_1 hX F_X0_11 dX0_keptFor_1 rfl ?_
  refine a_iload_n hX dX0_keptFor_4 rfl 1 rfl rfl ?_
  refine a_iconst (v := 5) hX dX0_keptFor_5 (by decide) rfl ?_
  refine a_imul hX dX0_keptFor_6 rfl ?_
  refine a_iload_n hX dX0_keptFor_7 rfl 2 rfl rfl ?_
  refine a_iadd hX dX0_keptFor_8 rfl ?_
  refine lX0_1 hX dX0_keptFor_9 rfl hf (fun x1 hf => ?_)
  exact a_lret hX hT hF (r_l hf) dX0_keptFor_10
theorem ctX0_keptFor {V : Vx} {q : Nat → Nat} {u : St} {g : Nat → Nat} {ts : List Tx} {res : Int64} (hE : EnvC V g) {v1 : Int32} {v2 : Int32} (hf : fX0_keptFor u v1 v2 = some res) : Ct V yX0_keptFor (.code yX0_keptFor cX0_keptFor 3 (some .long)) rmX0_keptFor 0 0 [.ref (q 0), .int v1, .int v2] (wC V q ts u) (rEq (some (.long res)) (wC V q ts u)) :=
  Ct_of (by decide) (Nat.le_of_ble_eq_true rfl) rfl (fun X hX hT _ hF => wX0_keptFor ⟨hX, hT, hF⟩ hE hf)
def rmX0_changedLands : Room := { frames := 2, cells := 0, slots := 0, locals := 42 }
def fX0_changedLands_b30 (u : St) (k4 : Int32 → Int32 → Option (Int32)) (v1 : Int32) (v2 : Int32) (v3 : Int32) : Option (Int32) := k4 v2 (v3 + 1)
theorem wX0_changedLands_b30 {X : Cx} {V : Vx} {q : Nat → Nat} {g : Nat → Nat} {ts : List Tx} {u : St} {res : Int32} (h : Run X cX0_changedLands 4 RX0 rmX0_changedLands V (some .int) (rEq (some (.int res)) (wC V q ts u))) (hE : EnvC V g) {v1 : Int32} {v2 : Int32} {v3 : Int32} {k4 : Int32 → Int32 → Option (Int32)} (hk4 : ∀ (v2 : Int32) (v3 : Int32), k4 v2 v3 = some res → At X 4 0 0 (wC V q ts u) 4 [(0, .ref (q 0)), (1, .int v1), (2, .int v2), (3, .int v3)] []) (hf : fX0_changedLands_b30 u k4 v1 v2 v3 = some res) : At X 4 0 0 (wC V q ts u) 30 [(0, .ref (q 0)), (1, .int v1), (2, .int v2), (3, .int v3)] [] := by
  obtain ⟨hX, hT, hF⟩ := id h
  unfold fX0_changedLands_b30 at hf
  refine a_iinc (v := v3 + 1) (lv' := [(3, .int (v3 + 1)), (0, .ref (q 0)), (1, .int v1), (2, .int v2)]) hX dX0_changedLands_30 3 rfl rfl (by decide) rfl rfl ?_
  refine a_goto (pc' := 4) hX dX0_changedLands_33 rfl ?_
  refine a_lv (lv' := [(0, .ref (q 0)), (1, .int v1), (2, .int v2), (3, .int (v3 + 1))]) [1, 2, 3, 0] rfl ?_
  exact hk4 v2 (v3 + 1) hf
def fX0_changedLands_l4b (u : St) (k4 : Int32 → Int32 → Option (Int32)) (v1 : Int32) (v2 : Int32) (v3 : Int32) : Option (Int32) := if 5 ≤ v3 then some v2 else (cl1 (fX0_givenTo u v3) (fun x1 => cl1 (fX0_keptFor u v1 v3) (fun x2 => if x1 = x2 then fX0_changedLands_b30 u k4 v1 v2 v3 else (nmI (v2 ||| ((1 : Int32) <<< (v3 &&& 31))) (fun x3 => fX0_changedLands_b30 u k4 v1 x3 v3)))))
theorem wX0_changedLands_l4b {X : Cx} {V : Vx} {q : Nat → Nat} {g : Nat → Nat} {ts : List Tx} {u : St} {res : Int32} (h : Run X cX0_changedLands 4 RX0 rmX0_changedLands V (some .int) (rEq (some (.int res)) (wC V q ts u))) (hE : EnvC V g) {v1 : Int32} {v2 : Int32} {v3 : Int32} {k4 : Int32 → Int32 → Option (Int32)} (hk4 : ∀ (v2 : Int32) (v3 : Int32), k4 v2 v3 = some res → At X 4 0 0 (wC V q ts u) 4 [(0, .ref (q 0)), (1, .int v1), (2, .int v2), (3, .int v3)] []) (hf : fX0_changedLands_l4b u k4 v1 v2 v3 = some res) : At X 4 0 0 (wC V q ts u) 4 [(0, .ref (q 0)), (1, .int v1), (2, .int v2), (3, .int v3)] [] := by
  obtain ⟨hX, hT, hF⟩ := id h
  unfold fX0_changedLands_l4b at hf
  refine a_iload_n hX dX0_changedLands_4 rfl 3 rfl rfl ?_
  refine a_iconst (v := 5) hX dX0_changedLands_5 (by decide) rfl ?_
  refine a_icmp_ge (tgt := 36) hX dX0_changedLands_6 rfl rfl hf (fun hf => ?_) (fun hf => ?_)
  · refine a_iload_n hX dX0_changedLands_36 rfl 2 rfl rfl ?_
    exact a_iret hX hT hF (r_i hf) dX0_changedLands_37
  · refine a_aload_n hX dX0_changedLands_9 rfl 0 rfl rfl ?_
    refine a_iload_n hX dX0_changedLands_10 rfl 3 rfl rfl ?_
    obtain ⟨x1, hg1, hf⟩ := cl1_some hf
    refine a_cVsl (q0 := 6) (rest := []) hX hE.1 (ctX0_givenTo (q := q) hE hg1) K_X0_48 ⟨rfl, rfl⟩ ⟨rfl, rfl, by decide, by decide⟩ ⟨Nat.zero_le _, Nat.zero_le _⟩ (Nat.le_of_ble_eq_true rfl) dX0_changedLands_11 rfl rfl ?_
    refine a_aload_n hX dX0_changedLands_14 rfl 0 rfl rfl ?_
    refine a_iload_n hX dX0_changedLands_15 rfl 1 rfl rfl ?_
    refine a_iload_n hX dX0_changedLands_16 rfl 3 rfl rfl ?_
    obtain ⟨x2, hg2, hf⟩ := cl1_some hf
    refine a_cVsl (q0 := 6) (rest := [.long x1]) hX hE.1 (ctX0_keptFor (q := q) hE hg2) K_X0_52 ⟨rfl, rfl⟩ ⟨rfl, rfl, by decide, by decide⟩ ⟨Nat.zero_le _, Nat.zero_le _⟩ (Nat.le_of_ble_eq_true rfl) dX0_changedLands_17 rfl rfl ?_
    refine a_lcmp_eq (tgt := 30) hX dX0_changedLands_20 rfl dX0_changedLands_21 rfl rfl hf (fun hf => ?_) (fun hf => ?_)
    · exact wX0_changedLands_b30 h hE hk4 hf
    · refine a_iload_n hX dX0_changedLands_24 rfl 2 rfl rfl ?_
      refine a_iconst (v := 1) hX dX0_changedLands_25 (by decide) rfl ?_
      refine a_iload_n hX dX0_changedLands_26 rfl 3 rfl rfl ?_
      refine a_ishl hX dX0_changedLands_27 rfl ?_
      refine a_ior hX dX0_changedLands_28 rfl ?_
      refine a_nmI hf (fun x3 hf => ?_)
      refine a_istore_n (lv' := [(2, .int x3), (0, .ref (q 0)), (1, .int v1), (3, .int v3)]) hX dX0_changedLands_29 rfl (by decide) rfl rfl ?_
      refine a_lv (lv' := [(0, .ref (q 0)), (1, .int v1), (2, .int x3), (3, .int v3)]) [1, 2, 0, 3] rfl ?_
      exact wX0_changedLands_b30 h hE hk4 hf
def fX0_changedLands_l4 (u : St)  (v1 : Int32) : Nat → Int32 → Int32 → Option (Int32)
  | 0, _, _ => none
  | m + 1, v2, v3 => fX0_changedLands_l4b u (fX0_changedLands_l4 u  v1 m) v1 v2 v3
theorem wX0_changedLands_l4 {X : Cx} {V : Vx} {q : Nat → Nat} {g : Nat → Nat} {ts : List Tx} {u : St} {res : Int32} (h : Run X cX0_changedLands 4 RX0 rmX0_changedLands V (some .int) (rEq (some (.int res)) (wC V q ts u))) (hE : EnvC V g) {v1 : Int32} : ∀ (m : Nat) (v2 : Int32) (v3 : Int32), fX0_changedLands_l4 u  v1 m v2 v3 = some res → At X 4 0 0 (wC V q ts u) 4 [(0, .ref (q 0)), (1, .int v1), (2, .int v2), (3, .int v3)] [] := by
  intro m
  induction m with
  | zero => intro v2 v3 hf; cases hf
  | succ m ih => intro v2 v3 hf; exact wX0_changedLands_l4b h hE ih hf
def fX0_changedLands (u : St) (v1 : Int32) : Option (Int32) := fX0_changedLands_l4 u v1 NF 0 0
theorem wX0_changedLands {X : Cx} {V : Vx} {q : Nat → Nat} {g : Nat → Nat} {ts : List Tx} {u : St} {res : Int32} (h : Run X cX0_changedLands 4 RX0 rmX0_changedLands V (some .int) (rEq (some (.int res)) (wC V q ts u))) (hE : EnvC V g) {v1 : Int32} (hf : fX0_changedLands u v1 = some res) : At X 4 0 0 (wC V q ts u) 0 [(0, .ref (q 0)), (1, .int v1)] [] := by
  obtain ⟨hX, hT, hF⟩ := id h
  unfold fX0_changedLands at hf
  refine a_iconst (v := 0) hX dX0_changedLands_0 (by decide) rfl ?_
  refine a_istore_n (lv' := [(2, .int 0), (0, .ref (q 0)), (1, .int v1)]) hX dX0_changedLands_1 rfl (by decide) rfl rfl ?_
  refine a_iconst (v := 0) hX dX0_changedLands_2 (by decide) rfl ?_
  refine a_istore_n (lv' := [(3, .int 0), (2, .int 0), (0, .ref (q 0)), (1, .int v1)]) hX dX0_changedLands_3 rfl (by decide) rfl rfl ?_
  refine a_lv (lv' := [(0, .ref (q 0)), (1, .int v1), (2, .int 0), (3, .int 0)]) [2, 3, 1, 0] rfl ?_
  exact wX0_changedLands_l4 h hE NF 0 0 hf
theorem ctX0_changedLands {V : Vx} {q : Nat → Nat} {u : St} {g : Nat → Nat} {ts : List Tx} {res : Int32} (hE : EnvC V g) {v1 : Int32} (hf : fX0_changedLands u v1 = some res) : Ct V yX0_changedLands (.code yX0_changedLands cX0_changedLands 4 (some .int)) rmX0_changedLands 0 0 [.ref (q 0), .int v1] (wC V q ts u) (rEq (some (.int res)) (wC V q ts u)) :=
  Ct_of (by decide) (Nat.le_of_ble_eq_true rfl) rfl (fun X hX hT _ hF => wX0_changedLands ⟨hX, hT, hF⟩ hE hf)
def rmX11_isIn : Room := { frames := 0, cells := 0, slots := 0, locals := 0 }
def fX11_isIn (v0 : Int32) (v1 : Int32) : Option (Int32) := if (v0 >>> (v1 &&& 31)) &&& 1 = 1 then some 1 else (some 0)
theorem wX11_isIn {X : Cx} {V : Vx} {res : Int32} (h : Run X cX11_isIn 2 RX11 rmX11_isIn V (some .boolean) (rEq (some (.int res)) [])) (hE : ZOK (vZ V)) {v0 : Int32} {v1 : Int32} (hf : fX11_isIn v0 v1 = some res) : At X 2 0 0 [] 0 [(0, .int v0), (1, .int v1)] [] := by
  obtain ⟨hX, hT, hF⟩ := id h
  unfold fX11_isIn at hf
  refine a_iload_n hX dX11_isIn_0 rfl 0 rfl rfl ?_
  refine a_iload_n hX dX11_isIn_1 rfl 1 rfl rfl ?_
  refine a_ishr hX dX11_isIn_2 rfl ?_
  refine a_iconst (v := 1) hX dX11_isIn_3 (by decide) rfl ?_
  refine a_iand hX dX11_isIn_4 rfl ?_
  refine a_iconst (v := 1) hX dX11_isIn_5 (by decide) rfl ?_
  refine a_icmp_ne (tgt := 13) hX dX11_isIn_6 rfl rfl hf (fun hf => ?_) (fun hf => ?_)
  · refine a_iconst (v := 0) hX dX11_isIn_13 (by decide) rfl ?_
    exact a_zret hX hT (by decide) hF (r_i hf) dX11_isIn_14
  · refine a_iconst (v := 1) hX dX11_isIn_9 (by decide) rfl ?_
    refine a_goto (pc' := 14) hX dX11_isIn_10 rfl ?_
    exact a_zret hX hT (by decide) hF (r_i hf) dX11_isIn_14
theorem ctX11_isIn {V : Vx} {res : Int32} (hE : ZOK (vZ V)) {v0 : Int32} {v1 : Int32} (hf : fX11_isIn v0 v1 = some res) : Ct V yX11_isIn (.code yX11_isIn cX11_isIn 2 (some .boolean)) rmX11_isIn 0 0 [.int v0, .int v1] [] (rEq (some (.int res)) []) :=
  Ct_of (by decide) (Nat.le_of_ble_eq_true rfl) rfl (fun X hX hT _ hF => wX11_isIn ⟨hX, hT, hF⟩ hE hf)
def rmX4_landsByKind : Room := { frames := 0, cells := 0, slots := 0, locals := 0 }
def fX4_landsByKind_b146 (u : St)  (v5 : Int32) : Option (Int32) := some v5
theorem wX4_landsByKind_b146 {X : Cx} {V : Vx} {q : Nat → Nat} {g : Nat → Nat} {ts : List Tx} {u : St} {res : Int32} (h : Run X cX4_landsByKind 7 RX4 rmX4_landsByKind V (some .int) (rEq (some (.int res)) (wC V q ts u))) (hE : EnvC V g) {v5 : Int32} (hf : fX4_landsByKind_b146 u  v5 = some res) : At X 7 0 0 (wC V q ts u) 146 [(5, .int v5)] [] := by
  obtain ⟨hX, hT, hF⟩ := id h
  unfold fX4_landsByKind_b146 at hf
  refine a_iload hX dX4_landsByKind_146 0 rfl rfl ?_
  refine a_goto (pc' := 153) hX dX4_landsByKind_148 rfl ?_
  exact a_iret hX hT hF (r_i hf) dX4_landsByKind_153
def fX4_landsByKind (u : St) (v1 : Int32) (v2 : Int32) (v3 : Int32) : Option (Int32) := ldI (gA u 86) 16 v2 (fun x1 => nmI (v3 - x1) (fun x2 => ldI (gA u 84) 16 v2 (fun x3 => nmI ((1 : Int32) <<< (x3 &&& 31)) (fun x4 => ldI (gA u 85) 16 v2 (fun x5 => nmI ((1 : Int32) <<< (x5 &&& 31)) (fun x6 => if v1 = 0 then if x2 = 0 then some x4 else (some 31) else (if v1 = 1 then if x2 = 1 then some (x4 ||| x6) else (some 31) else (if v1 = 2 then if 0 ≤ x2 then some 31 else (some (31 &&& (x4 ^^^ (-1)))) else (if v1 = 3 then if 0 ≤ x2 then some 31 else (some (31 &&& (x6 ^^^ (-1)))) else (if v1 = 4 then if x2 = 1 then fX4_landsByKind_b146 u x4 else (if x2 = 2 then fX4_landsByKind_b146 u x4 else (some 31)) else (if v1 = 5 then if x2 = 0 then some (31 &&& (x4 ^^^ (-1))) else (some 31) else (some 31))))))))))))
theorem wX4_landsByKind {X : Cx} {V : Vx} {q : Nat → Nat} {g : Nat → Nat} {ts : List Tx} {u : St} {res : Int32} (h : Run X cX4_landsByKind 7 RX4 rmX4_landsByKind V (some .int) (rEq (some (.int res)) (wC V q ts u))) (hE : EnvC V g) {v1 : Int32} {v2 : Int32} {v3 : Int32} (hf : fX4_landsByKind u v1 v2 v3 = some res) : At X 7 0 0 (wC V q ts u) 0 [(0, .ref (q 4)), (1, .int v1), (2, .int v2), (3, .int v3)] [] := by
  obtain ⟨hX, hT, hF⟩ := id h
  unfold fX4_landsByKind at hf
  refine a_iload_n hX dX4_landsByKind_0 rfl 3 rfl rfl ?_
  refine a_aload_n hX dX4_landsByKind_1 rfl 0 rfl rfl ?_
  refine gX4_6 hX F_X4_21 dX4_landsByKind_2 rfl ?_
  refine a_iload_n hX dX4_landsByKind_5 rfl 2 rfl rfl ?_
  refine lX4_6 hX dX4_landsByKind_6 rfl hf (fun x1 hf => ?_)
  refine a_isub hX dX4_landsByKind_7 rfl ?_
  refine a_nmI hf (fun x2 hf => ?_)
  refine a_istore (lv' := [(4, .int x2), (0, .ref (q 4)), (1, .int v1), (2, .int v2), (3, .int v3)]) hX dX4_landsByKind_8 (by decide) rfl rfl ?_
  refine a_iconst (v := 1) hX dX4_landsByKind_10 (by decide) rfl ?_
  refine a_aload_n hX dX4_landsByKind_11 rfl 1 rfl rfl ?_
  refine gX4_4 hX F_X4_15 dX4_landsByKind_12 rfl ?_
  refine a_iload_n hX dX4_landsByKind_15 rfl 3 rfl rfl ?_
  refine lX4_4 hX dX4_landsByKind_16 rfl hf (fun x3 hf => ?_)
  refine a_ishl hX dX4_landsByKind_17 rfl ?_
  refine a_nmI hf (fun x4 hf => ?_)
  refine a_istore (lv' := [(5, .int x4), (4, .int x2), (0, .ref (q 4)), (1, .int v1), (2, .int v2), (3, .int v3)]) hX dX4_landsByKind_18 (by decide) rfl rfl ?_
  refine a_iconst (v := 1) hX dX4_landsByKind_20 (by decide) rfl ?_
  refine a_aload_n hX dX4_landsByKind_21 rfl 2 rfl rfl ?_
  refine gX4_5 hX F_X4_18 dX4_landsByKind_22 rfl ?_
  refine a_iload_n hX dX4_landsByKind_25 rfl 4 rfl rfl ?_
  refine lX4_5 hX dX4_landsByKind_26 rfl hf (fun x5 hf => ?_)
  refine a_ishl hX dX4_landsByKind_27 rfl ?_
  refine a_nmI hf (fun x6 hf => ?_)
  refine a_istore (lv' := [(6, .int x6), (5, .int x4), (4, .int x2), (0, .ref (q 4)), (1, .int v1), (2, .int v2), (3, .int v3)]) hX dX4_landsByKind_28 (by decide) rfl rfl ?_
  refine a_iload_n hX dX4_landsByKind_30 rfl 4 rfl rfl ?_
  by_cases hs0 : v1 = 0
  · rw [if_pos hs0] at hf
    refine a_tsw (pc' := 68) hX dX4_landsByKind_31 0 hs0 (by decide) (by decide) rfl rfl ?_
    refine a_iload hX dX4_landsByKind_68 2 rfl rfl ?_
    refine a_if_ne (tgt := 78) hX dX4_landsByKind_70 rfl rfl hf (fun hf => ?_) (fun hf => ?_)
    · refine a_bipush (v := 31) hX dX4_landsByKind_78 (by decide) rfl ?_
      exact a_iret hX hT hF (r_i hf) dX4_landsByKind_80
    · refine a_iload hX dX4_landsByKind_73 1 rfl rfl ?_
      refine a_goto (pc' := 80) hX dX4_landsByKind_75 rfl ?_
      exact a_iret hX hT hF (r_i hf) dX4_landsByKind_80
  · rw [if_neg hs0] at hf
    by_cases hs1 : v1 = 1
    · rw [if_pos hs1] at hf
      refine a_tsw (pc' := 81) hX dX4_landsByKind_31 1 hs1 (by decide) (by decide) rfl rfl ?_
      refine a_iload hX dX4_landsByKind_81 2 rfl rfl ?_
      refine a_iconst (v := 1) hX dX4_landsByKind_83 (by decide) rfl ?_
      refine a_icmp_ne (tgt := 95) hX dX4_landsByKind_84 rfl rfl hf (fun hf => ?_) (fun hf => ?_)
      · refine a_bipush (v := 31) hX dX4_landsByKind_95 (by decide) rfl ?_
        exact a_iret hX hT hF (r_i hf) dX4_landsByKind_97
      · refine a_iload hX dX4_landsByKind_87 1 rfl rfl ?_
        refine a_iload hX dX4_landsByKind_89 0 rfl rfl ?_
        refine a_ior hX dX4_landsByKind_91 rfl ?_
        refine a_goto (pc' := 97) hX dX4_landsByKind_92 rfl ?_
        exact a_iret hX hT hF (r_i hf) dX4_landsByKind_97
    · rw [if_neg hs1] at hf
      by_cases hs2 : v1 = 2
      · rw [if_pos hs2] at hf
        refine a_tsw (pc' := 98) hX dX4_landsByKind_31 2 hs2 (by decide) (by decide) rfl rfl ?_
        refine a_iload hX dX4_landsByKind_98 2 rfl rfl ?_
        refine a_if_ge (tgt := 113) hX dX4_landsByKind_100 rfl rfl hf (fun hf => ?_) (fun hf => ?_)
        · refine a_bipush (v := 31) hX dX4_landsByKind_113 (by decide) rfl ?_
          exact a_iret hX hT hF (r_i hf) dX4_landsByKind_115
        · refine a_bipush (v := 31) hX dX4_landsByKind_103 (by decide) rfl ?_
          refine a_iload hX dX4_landsByKind_105 1 rfl rfl ?_
          refine a_iconst (v := (-1)) hX dX4_landsByKind_107 (by decide) rfl ?_
          refine a_ixor hX dX4_landsByKind_108 rfl ?_
          refine a_iand hX dX4_landsByKind_109 rfl ?_
          refine a_goto (pc' := 115) hX dX4_landsByKind_110 rfl ?_
          exact a_iret hX hT hF (r_i hf) dX4_landsByKind_115
      · rw [if_neg hs2] at hf
        by_cases hs3 : v1 = 3
        · rw [if_pos hs3] at hf
          refine a_tsw (pc' := 116) hX dX4_landsByKind_31 3 hs3 (by decide) (by decide) rfl rfl ?_
          refine a_iload hX dX4_landsByKind_116 2 rfl rfl ?_
          refine a_if_ge (tgt := 131) hX dX4_landsByKind_118 rfl rfl hf (fun hf => ?_) (fun hf => ?_)
          · refine a_bipush (v := 31) hX dX4_landsByKind_131 (by decide) rfl ?_
            exact a_iret hX hT hF (r_i hf) dX4_landsByKind_133
          · refine a_bipush (v := 31) hX dX4_landsByKind_121 (by decide) rfl ?_
            refine a_iload hX dX4_landsByKind_123 0 rfl rfl ?_
            refine a_iconst (v := (-1)) hX dX4_landsByKind_125 (by decide) rfl ?_
            refine a_ixor hX dX4_landsByKind_126 rfl ?_
            refine a_iand hX dX4_landsByKind_127 rfl ?_
            refine a_goto (pc' := 133) hX dX4_landsByKind_128 rfl ?_
            exact a_iret hX hT hF (r_i hf) dX4_landsByKind_133
        · rw [if_neg hs3] at hf
          by_cases hs4 : v1 = 4
          · rw [if_pos hs4] at hf
            refine a_tsw (pc' := 134) hX dX4_landsByKind_31 4 hs4 (by decide) (by decide) rfl rfl ?_
            refine a_iload hX dX4_landsByKind_134 2 rfl rfl ?_
            refine a_iconst (v := 1) hX dX4_landsByKind_136 (by decide) rfl ?_
            refine a_icmp_eq (tgt := 146) hX dX4_landsByKind_137 rfl rfl hf (fun hf => ?_) (fun hf => ?_)
            · refine a_lv (lv' := [(5, .int x4)]) [1] rfl ?_
              exact wX4_landsByKind_b146 h hE hf
            · refine a_iload hX dX4_landsByKind_140 2 rfl rfl ?_
              refine a_iconst (v := 2) hX dX4_landsByKind_142 (by decide) rfl ?_
              refine a_icmp_ne (tgt := 151) hX dX4_landsByKind_143 rfl rfl hf (fun hf => ?_) (fun hf => ?_)
              · refine a_bipush (v := 31) hX dX4_landsByKind_151 (by decide) rfl ?_
                exact a_iret hX hT hF (r_i hf) dX4_landsByKind_153
              · refine a_lv (lv' := [(5, .int x4)]) [1] rfl ?_
                exact wX4_landsByKind_b146 h hE hf
          · rw [if_neg hs4] at hf
            by_cases hs5 : v1 = 5
            · rw [if_pos hs5] at hf
              refine a_tsw (pc' := 154) hX dX4_landsByKind_31 5 hs5 (by decide) (by decide) rfl rfl ?_
              refine a_iload hX dX4_landsByKind_154 2 rfl rfl ?_
              refine a_if_ne (tgt := 169) hX dX4_landsByKind_156 rfl rfl hf (fun hf => ?_) (fun hf => ?_)
              · refine a_bipush (v := 31) hX dX4_landsByKind_169 (by decide) rfl ?_
                exact a_iret hX hT hF (r_i hf) dX4_landsByKind_171
              · refine a_bipush (v := 31) hX dX4_landsByKind_159 (by decide) rfl ?_
                refine a_iload hX dX4_landsByKind_161 1 rfl rfl ?_
                refine a_iconst (v := (-1)) hX dX4_landsByKind_163 (by decide) rfl ?_
                refine a_ixor hX dX4_landsByKind_164 rfl ?_
                refine a_iand hX dX4_landsByKind_165 rfl ?_
                refine a_goto (pc' := 171) hX dX4_landsByKind_166 rfl ?_
                exact a_iret hX hT hF (r_i hf) dX4_landsByKind_171
            · rw [if_neg hs5] at hf
              have hs0 : ¬ Int32.toInt v1 = 0 := ne_toInt hs0
              have hs1 : ¬ Int32.toInt v1 = 1 := ne_toInt hs1
              have hs2 : ¬ Int32.toInt v1 = 2 := ne_toInt hs2
              have hs3 : ¬ Int32.toInt v1 = 3 := ne_toInt hs3
              have hs4 : ¬ Int32.toInt v1 = 4 := ne_toInt hs4
              have hs5 : ¬ Int32.toInt v1 = 5 := ne_toInt hs5
              refine a_tswO (pc' := 172) hX dX4_landsByKind_31 (by omega) rfl ?_
              refine a_bipush (v := 31) hX dX4_landsByKind_172 (by decide) rfl ?_
              exact a_iret hX hT hF (r_i hf) dX4_landsByKind_174
theorem ctX4_landsByKind {V : Vx} {q : Nat → Nat} {u : St} {g : Nat → Nat} {ts : List Tx} {res : Int32} (hE : EnvC V g) {v1 : Int32} {v2 : Int32} {v3 : Int32} (hf : fX4_landsByKind u v1 v2 v3 = some res) : Ct V yX4_landsByKind (.code yX4_landsByKind cX4_landsByKind 7 (some .int)) rmX4_landsByKind 0 0 [.ref (q 4), .int v1, .int v2, .int v3] (wC V q ts u) (rEq (some (.int res)) (wC V q ts u)) :=
  Ct_of (by decide) (Nat.le_of_ble_eq_true rfl) rfl (fun X hX hT _ hF => wX4_landsByKind ⟨hX, hT, hF⟩ hE hf)
def rmX4_landsByPaper : Room := { frames := 1, cells := 0, slots := 0, locals := 26 }
def fX4_landsByPaper_b57 (u : St) (k14 : Int32 → Int32 → Int32 → Option (Int32)) (v1 : Int32) (v2 : Int32) (v3 : Int32) (v4 : Int32) (v5 : Int32) : Option (Int32) := ldI kabv 6 v4 (fun x5 => k14 v3 x5 (v5 + 1))
theorem wX4_landsByPaper_b57 {X : Cx} {V : Vx} {q : Nat → Nat} {g : Nat → Nat} {ts : List Tx} {u : St} {res : Int32} (h : Run X cX4_landsByPaper 6 RX4 rmX4_landsByPaper V (some .int) (rEq (some (.int res)) (wC V q ts u))) (hE : EnvC V g) {v1 : Int32} {v2 : Int32} {v3 : Int32} {v4 : Int32} {v5 : Int32} {k14 : Int32 → Int32 → Int32 → Option (Int32)} (hk14 : ∀ (v3 : Int32) (v4 : Int32) (v5 : Int32), k14 v3 v4 v5 = some res → At X 6 0 0 (wC V q ts u) 14 [(0, .ref (q 4)), (1, .int v1), (2, .int v2), (3, .int v3), (4, .int v4), (5, .int v5)] []) (hf : fX4_landsByPaper_b57 u k14 v1 v2 v3 v4 v5 = some res) : At X 6 0 0 (wC V q ts u) 57 [(0, .ref (q 4)), (1, .int v1), (2, .int v2), (3, .int v3), (4, .int v4), (5, .int v5)] [] := by
  obtain ⟨hX, hT, hF⟩ := id h
  unfold fX4_landsByPaper_b57 at hf
  refine a_kab hX hE F_X4_58 dX4_landsByPaper_57 rfl ?_
  refine a_iload hX dX4_landsByPaper_60 4 rfl rfl ?_
  refine a_kald hX hE dX4_landsByPaper_62 rfl hf (fun x5 hf => ?_)
  refine a_istore (lv' := [(4, .int x5), (0, .ref (q 4)), (1, .int v1), (2, .int v2), (3, .int v3), (5, .int v5)]) hX dX4_landsByPaper_63 (by decide) rfl rfl ?_
  refine a_iinc (v := v5 + 1) (lv' := [(5, .int (v5 + 1)), (4, .int x5), (0, .ref (q 4)), (1, .int v1), (2, .int v2), (3, .int v3)]) hX dX4_landsByPaper_65 5 rfl rfl (by decide) rfl rfl ?_
  refine a_goto (pc' := 14) hX dX4_landsByPaper_68 rfl ?_
  refine a_lv (lv' := [(0, .ref (q 4)), (1, .int v1), (2, .int v2), (3, .int v3), (4, .int x5), (5, .int (v5 + 1))]) [2, 3, 4, 5, 1, 0] rfl ?_
  exact hk14 v3 x5 (v5 + 1) hf
def fX4_landsByPaper_l14b (u : St) (k14 : Int32 → Int32 → Int32 → Option (Int32)) (v1 : Int32) (v2 : Int32) (v3 : Int32) (v4 : Int32) (v5 : Int32) : Option (Int32) := if 6 ≤ v5 then some v3 else (if v4 = (-1) then some v3 else (cl1 (fX4_landsByKind u v4 v1 v2) (fun x2 => nmI (v3 &&& x2) (fun x3 => if v4 = 5 then ldI (gA u 86) 16 v1 (fun x4 => if v2 = x4 then some x3 else (fX4_landsByPaper_b57 u k14 v1 v2 x3 v4 v5)) else (fX4_landsByPaper_b57 u k14 v1 v2 x3 v4 v5)))))
theorem wX4_landsByPaper_l14b {X : Cx} {V : Vx} {q : Nat → Nat} {g : Nat → Nat} {ts : List Tx} {u : St} {res : Int32} (h : Run X cX4_landsByPaper 6 RX4 rmX4_landsByPaper V (some .int) (rEq (some (.int res)) (wC V q ts u))) (hE : EnvC V g) {v1 : Int32} {v2 : Int32} {v3 : Int32} {v4 : Int32} {v5 : Int32} {k14 : Int32 → Int32 → Int32 → Option (Int32)} (hk14 : ∀ (v3 : Int32) (v4 : Int32) (v5 : Int32), k14 v3 v4 v5 = some res → At X 6 0 0 (wC V q ts u) 14 [(0, .ref (q 4)), (1, .int v1), (2, .int v2), (3, .int v3), (4, .int v4), (5, .int v5)] []) (hf : fX4_landsByPaper_l14b u k14 v1 v2 v3 v4 v5 = some res) : At X 6 0 0 (wC V q ts u) 14 [(0, .ref (q 4)), (1, .int v1), (2, .int v2), (3, .int v3), (4, .int v4), (5, .int v5)] [] := by
  obtain ⟨hX, hT, hF⟩ := id h
  unfold fX4_landsByPaper_l14b at hf
  refine a_iload hX dX4_landsByPaper_14 5 rfl rfl ?_
  refine a_bipush (v := 6) hX dX4_landsByPaper_16 (by decide) rfl ?_
  refine a_icmp_ge (tgt := 71) hX dX4_landsByPaper_18 rfl rfl hf (fun hf => ?_) (fun hf => ?_)
  · refine a_iload_n hX dX4_landsByPaper_71 rfl 3 rfl rfl ?_
    exact a_iret hX hT hF (r_i hf) dX4_landsByPaper_72
  · refine a_iload hX dX4_landsByPaper_21 4 rfl rfl ?_
    refine a_iconst (v := (-1)) hX dX4_landsByPaper_23 (by decide) rfl ?_
    refine a_icmp_eq (tgt := 71) hX dX4_landsByPaper_24 rfl rfl hf (fun hf => ?_) (fun hf => ?_)
    · refine a_iload_n hX dX4_landsByPaper_71 rfl 3 rfl rfl ?_
      exact a_iret hX hT hF (r_i hf) dX4_landsByPaper_72
    · refine a_iload_n hX dX4_landsByPaper_27 rfl 3 rfl rfl ?_
      refine a_aload_n hX dX4_landsByPaper_28 rfl 0 rfl rfl ?_
      refine a_iload hX dX4_landsByPaper_29 4 rfl rfl ?_
      refine a_iload_n hX dX4_landsByPaper_31 rfl 1 rfl rfl ?_
      refine a_iload_n hX dX4_landsByPaper_32 rfl 2 rfl rfl ?_
      obtain ⟨x2, hg2, hf⟩ := cl1_some hf
      refine a_cVsi (q0 := 2) (rest := [.int v3]) hX hE.1 (ctX4_landsByKind (q := q) hE hg2) K_X4_54 ⟨rfl, rfl⟩ ⟨rfl, rfl, by decide, by decide⟩ ⟨Nat.zero_le _, Nat.zero_le _⟩ (Nat.le_of_ble_eq_true rfl) dX4_landsByPaper_33 rfl rfl ?_
      refine a_iand hX dX4_landsByPaper_36 rfl ?_
      refine a_nmI hf (fun x3 hf => ?_)
      refine a_istore_n (lv' := [(3, .int x3), (0, .ref (q 4)), (1, .int v1), (2, .int v2), (4, .int v4), (5, .int v5)]) hX dX4_landsByPaper_37 rfl (by decide) rfl rfl ?_
      refine a_iload hX dX4_landsByPaper_38 4 rfl rfl ?_
      refine a_iconst (v := 5) hX dX4_landsByPaper_40 (by decide) rfl ?_
      refine a_icmp_ne (tgt := 57) hX dX4_landsByPaper_41 rfl rfl hf (fun hf => ?_) (fun hf => ?_)
      · refine a_lv (lv' := [(0, .ref (q 4)), (1, .int v1), (2, .int v2), (3, .int x3), (4, .int v4), (5, .int v5)]) [1, 2, 3, 0, 4, 5] rfl ?_
        exact wX4_landsByPaper_b57 h hE hk14 hf
      · refine a_iload_n hX dX4_landsByPaper_44 rfl 3 rfl rfl ?_
        refine a_aload_n hX dX4_landsByPaper_45 rfl 1 rfl rfl ?_
        refine gX4_6 hX F_X4_21 dX4_landsByPaper_46 rfl ?_
        refine a_iload_n hX dX4_landsByPaper_49 rfl 2 rfl rfl ?_
        refine lX4_6 hX dX4_landsByPaper_50 rfl hf (fun x4 hf => ?_)
        refine a_icmp_ne (tgt := 57) hX dX4_landsByPaper_51 rfl rfl hf (fun hf => ?_) (fun hf => ?_)
        · refine a_lv (lv' := [(0, .ref (q 4)), (1, .int v1), (2, .int v2), (3, .int x3), (4, .int v4), (5, .int v5)]) [1, 2, 3, 0, 4, 5] rfl ?_
          exact wX4_landsByPaper_b57 h hE hk14 hf
        · refine a_goto (pc' := 71) hX dX4_landsByPaper_54 rfl ?_
          refine a_iload_n hX dX4_landsByPaper_71 rfl 0 rfl rfl ?_
          exact a_iret hX hT hF (r_i hf) dX4_landsByPaper_72
def fX4_landsByPaper_l14 (u : St)  (v1 : Int32) (v2 : Int32) : Nat → Int32 → Int32 → Int32 → Option (Int32)
  | 0, _, _, _ => none
  | m + 1, v3, v4, v5 => fX4_landsByPaper_l14b u (fX4_landsByPaper_l14 u  v1 v2 m) v1 v2 v3 v4 v5
theorem wX4_landsByPaper_l14 {X : Cx} {V : Vx} {q : Nat → Nat} {g : Nat → Nat} {ts : List Tx} {u : St} {res : Int32} (h : Run X cX4_landsByPaper 6 RX4 rmX4_landsByPaper V (some .int) (rEq (some (.int res)) (wC V q ts u))) (hE : EnvC V g) {v1 : Int32} {v2 : Int32} : ∀ (m : Nat) (v3 : Int32) (v4 : Int32) (v5 : Int32), fX4_landsByPaper_l14 u  v1 v2 m v3 v4 v5 = some res → At X 6 0 0 (wC V q ts u) 14 [(0, .ref (q 4)), (1, .int v1), (2, .int v2), (3, .int v3), (4, .int v4), (5, .int v5)] [] := by
  intro m
  induction m with
  | zero => intro v3 v4 v5 hf; cases hf
  | succ m ih => intro v3 v4 v5 hf; exact wX4_landsByPaper_l14b h hE ih hf
def fX4_landsByPaper (u : St) (v1 : Int32) (v2 : Int32) : Option (Int32) := ldI (gA u 83) 16 v1 (fun x1 => fX4_landsByPaper_l14 u v1 v2 NF 31 x1 0)
theorem wX4_landsByPaper {X : Cx} {V : Vx} {q : Nat → Nat} {g : Nat → Nat} {ts : List Tx} {u : St} {res : Int32} (h : Run X cX4_landsByPaper 6 RX4 rmX4_landsByPaper V (some .int) (rEq (some (.int res)) (wC V q ts u))) (hE : EnvC V g) {v1 : Int32} {v2 : Int32} (hf : fX4_landsByPaper u v1 v2 = some res) : At X 6 0 0 (wC V q ts u) 0 [(0, .ref (q 4)), (1, .int v1), (2, .int v2)] [] := by
  obtain ⟨hX, hT, hF⟩ := id h
  unfold fX4_landsByPaper at hf
  refine a_bipush (v := 31) hX dX4_landsByPaper_0 (by decide) rfl ?_
  refine a_istore_n (lv' := [(3, .int 31), (0, .ref (q 4)), (1, .int v1), (2, .int v2)]) hX dX4_landsByPaper_2 rfl (by decide) rfl rfl ?_
  refine a_aload_n hX dX4_landsByPaper_3 rfl 1 rfl rfl ?_
  refine gX4_3 hX F_X4_11 dX4_landsByPaper_4 rfl ?_
  refine a_iload_n hX dX4_landsByPaper_7 rfl 2 rfl rfl ?_
  refine lX4_3 hX dX4_landsByPaper_8 rfl hf (fun x1 hf => ?_)
  refine a_istore (lv' := [(4, .int x1), (3, .int 31), (0, .ref (q 4)), (1, .int v1), (2, .int v2)]) hX dX4_landsByPaper_9 (by decide) rfl rfl ?_
  refine a_iconst (v := 0) hX dX4_landsByPaper_11 (by decide) rfl ?_
  refine a_istore (lv' := [(5, .int 0), (4, .int x1), (3, .int 31), (0, .ref (q 4)), (1, .int v1), (2, .int v2)]) hX dX4_landsByPaper_12 (by decide) rfl rfl ?_
  refine a_lv (lv' := [(0, .ref (q 4)), (1, .int v1), (2, .int v2), (3, .int 31), (4, .int x1), (5, .int 0)]) [3, 4, 5, 2, 1, 0] rfl ?_
  exact wX4_landsByPaper_l14 h hE NF 31 x1 0 hf
theorem ctX4_landsByPaper {V : Vx} {q : Nat → Nat} {u : St} {g : Nat → Nat} {ts : List Tx} {res : Int32} (hE : EnvC V g) {v1 : Int32} {v2 : Int32} (hf : fX4_landsByPaper u v1 v2 = some res) : Ct V yX4_landsByPaper (.code yX4_landsByPaper cX4_landsByPaper 6 (some .int)) rmX4_landsByPaper 0 0 [.ref (q 4), .int v1, .int v2] (wC V q ts u) (rEq (some (.int res)) (wC V q ts u)) :=
  Ct_of (by decide) (Nat.le_of_ble_eq_true rfl) rfl (fun X hX hT _ hF => wX4_landsByPaper ⟨hX, hT, hF⟩ hE hf)
def rmX4_allowedLands : Room := { frames := 2, cells := 0, slots := 0, locals := 51 }
def fX4_allowedLands_b33 (u : St) (k5 : Int32 → Int32 → Option (Int32)) (v1 : Int32) (v2 : Int32) (v3 : Int32) : Option (Int32) := k5 v2 (v3 + 1)
theorem wX4_allowedLands_b33 {X : Cx} {V : Vx} {q : Nat → Nat} {g : Nat → Nat} {ts : List Tx} {u : St} {res : Int32} (h : Run X cX4_allowedLands 4 RX4 rmX4_allowedLands V (some .int) (rEq (some (.int res)) (wC V q ts u))) (hE : EnvC V g) {v1 : Int32} {v2 : Int32} {v3 : Int32} {k5 : Int32 → Int32 → Option (Int32)} (hk5 : ∀ (v2 : Int32) (v3 : Int32), k5 v2 v3 = some res → At X 4 0 0 (wC V q ts u) 5 [(0, .ref (q 4)), (1, .int v1), (2, .int v2), (3, .int v3)] []) (hf : fX4_allowedLands_b33 u k5 v1 v2 v3 = some res) : At X 4 0 0 (wC V q ts u) 33 [(0, .ref (q 4)), (1, .int v1), (2, .int v2), (3, .int v3)] [] := by
  obtain ⟨hX, hT, hF⟩ := id h
  unfold fX4_allowedLands_b33 at hf
  refine a_iinc (v := v3 + 1) (lv' := [(3, .int (v3 + 1)), (0, .ref (q 4)), (1, .int v1), (2, .int v2)]) hX dX4_allowedLands_33 3 rfl rfl (by decide) rfl rfl ?_
  refine a_goto (pc' := 5) hX dX4_allowedLands_36 rfl ?_
  refine a_lv (lv' := [(0, .ref (q 4)), (1, .int v1), (2, .int v2), (3, .int (v3 + 1))]) [1, 2, 3, 0] rfl ?_
  exact hk5 v2 (v3 + 1) hf
def fX4_allowedLands_l5b (u : St) (k5 : Int32 → Int32 → Option (Int32)) (v1 : Int32) (v2 : Int32) (v3 : Int32) : Option (Int32) := if gZ u 80 ≤ v3 then some v2 else (cl1 (fX11_isIn (gZ u 82) v3) (fun x1 => if x1 = 0 then fX4_allowedLands_b33 u k5 v1 v2 v3 else (cl1 (fX4_landsByPaper u v3 v1) (fun x2 => nmI (v2 &&& x2) (fun x3 => fX4_allowedLands_b33 u k5 v1 x3 v3)))))
theorem wX4_allowedLands_l5b {X : Cx} {V : Vx} {q : Nat → Nat} {g : Nat → Nat} {ts : List Tx} {u : St} {res : Int32} (h : Run X cX4_allowedLands 4 RX4 rmX4_allowedLands V (some .int) (rEq (some (.int res)) (wC V q ts u))) (hE : EnvC V g) {v1 : Int32} {v2 : Int32} {v3 : Int32} {k5 : Int32 → Int32 → Option (Int32)} (hk5 : ∀ (v2 : Int32) (v3 : Int32), k5 v2 v3 = some res → At X 4 0 0 (wC V q ts u) 5 [(0, .ref (q 4)), (1, .int v1), (2, .int v2), (3, .int v3)] []) (hf : fX4_allowedLands_l5b u k5 v1 v2 v3 = some res) : At X 4 0 0 (wC V q ts u) 5 [(0, .ref (q 4)), (1, .int v1), (2, .int v2), (3, .int v3)] [] := by
  obtain ⟨hX, hT, hF⟩ := id h
  unfold fX4_allowedLands_l5b at hf
  refine a_iload_n hX dX4_allowedLands_5 rfl 3 rfl rfl ?_
  refine a_aload_n hX dX4_allowedLands_6 rfl 0 rfl rfl ?_
  refine gX4_0 hX F_X4_27 dX4_allowedLands_7 rfl ?_
  refine a_icmp_ge (tgt := 39) hX dX4_allowedLands_10 rfl rfl hf (fun hf => ?_) (fun hf => ?_)
  · refine a_iload_n hX dX4_allowedLands_39 rfl 2 rfl rfl ?_
    exact a_iret hX hT hF (r_i hf) dX4_allowedLands_40
  · refine a_aload_n hX dX4_allowedLands_13 rfl 0 rfl rfl ?_
    refine gX4_2 hX F_X4_38 dX4_allowedLands_14 rfl ?_
    refine a_iload_n hX dX4_allowedLands_17 rfl 3 rfl rfl ?_
    obtain ⟨x1, hg1, hf⟩ := cl1_some hf
    refine a_cNpi (rest := []) hX hE.1 (ctX11_isIn hE.1 hg1) (e_nw hX hE (w := .methodLinkNest "VaseCourt$PaperFile" 46 yX11_isIn "VaseCourt") (List.mem_of_getElem? (i := 6) rfl)) LN_X11_isIn ⟨rfl, rfl, by decide, by decide⟩ ⟨Nat.zero_le _, Nat.zero_le _⟩ (Nat.le_of_ble_eq_true rfl) dX4_allowedLands_18 rfl rfl ?_
    refine a_if_eq (tgt := 33) hX dX4_allowedLands_21 rfl rfl hf (fun hf => ?_) (fun hf => ?_)
    · exact wX4_allowedLands_b33 h hE hk5 hf
    · refine a_iload_n hX dX4_allowedLands_24 rfl 2 rfl rfl ?_
      refine a_aload_n hX dX4_allowedLands_25 rfl 0 rfl rfl ?_
      refine a_iload_n hX dX4_allowedLands_26 rfl 3 rfl rfl ?_
      refine a_iload_n hX dX4_allowedLands_27 rfl 1 rfl rfl ?_
      obtain ⟨x2, hg2, hf⟩ := cl1_some hf
      refine a_cVsi (q0 := 2) (rest := [.int v2]) hX hE.1 (ctX4_landsByPaper (q := q) hE hg2) K_X4_50 ⟨rfl, rfl⟩ ⟨rfl, rfl, by decide, by decide⟩ ⟨Nat.zero_le _, Nat.zero_le _⟩ (Nat.le_of_ble_eq_true rfl) dX4_allowedLands_28 rfl rfl ?_
      refine a_iand hX dX4_allowedLands_31 rfl ?_
      refine a_nmI hf (fun x3 hf => ?_)
      refine a_istore_n (lv' := [(2, .int x3), (0, .ref (q 4)), (1, .int v1), (3, .int v3)]) hX dX4_allowedLands_32 rfl (by decide) rfl rfl ?_
      refine a_lv (lv' := [(0, .ref (q 4)), (1, .int v1), (2, .int x3), (3, .int v3)]) [1, 2, 0, 3] rfl ?_
      exact wX4_allowedLands_b33 h hE hk5 hf
def fX4_allowedLands_l5 (u : St)  (v1 : Int32) : Nat → Int32 → Int32 → Option (Int32)
  | 0, _, _ => none
  | m + 1, v2, v3 => fX4_allowedLands_l5b u (fX4_allowedLands_l5 u  v1 m) v1 v2 v3
theorem wX4_allowedLands_l5 {X : Cx} {V : Vx} {q : Nat → Nat} {g : Nat → Nat} {ts : List Tx} {u : St} {res : Int32} (h : Run X cX4_allowedLands 4 RX4 rmX4_allowedLands V (some .int) (rEq (some (.int res)) (wC V q ts u))) (hE : EnvC V g) {v1 : Int32} : ∀ (m : Nat) (v2 : Int32) (v3 : Int32), fX4_allowedLands_l5 u  v1 m v2 v3 = some res → At X 4 0 0 (wC V q ts u) 5 [(0, .ref (q 4)), (1, .int v1), (2, .int v2), (3, .int v3)] [] := by
  intro m
  induction m with
  | zero => intro v2 v3 hf; cases hf
  | succ m ih => intro v2 v3 hf; exact wX4_allowedLands_l5b h hE ih hf
def fX4_allowedLands (u : St) (v1 : Int32) : Option (Int32) := fX4_allowedLands_l5 u v1 NF 31 0
theorem wX4_allowedLands {X : Cx} {V : Vx} {q : Nat → Nat} {g : Nat → Nat} {ts : List Tx} {u : St} {res : Int32} (h : Run X cX4_allowedLands 4 RX4 rmX4_allowedLands V (some .int) (rEq (some (.int res)) (wC V q ts u))) (hE : EnvC V g) {v1 : Int32} (hf : fX4_allowedLands u v1 = some res) : At X 4 0 0 (wC V q ts u) 0 [(0, .ref (q 4)), (1, .int v1)] [] := by
  obtain ⟨hX, hT, hF⟩ := id h
  unfold fX4_allowedLands at hf
  refine a_bipush (v := 31) hX dX4_allowedLands_0 (by decide) rfl ?_
  refine a_istore_n (lv' := [(2, .int 31), (0, .ref (q 4)), (1, .int v1)]) hX dX4_allowedLands_2 rfl (by decide) rfl rfl ?_
  refine a_iconst (v := 0) hX dX4_allowedLands_3 (by decide) rfl ?_
  refine a_istore_n (lv' := [(3, .int 0), (2, .int 31), (0, .ref (q 4)), (1, .int v1)]) hX dX4_allowedLands_4 rfl (by decide) rfl rfl ?_
  refine a_lv (lv' := [(0, .ref (q 4)), (1, .int v1), (2, .int 31), (3, .int 0)]) [2, 3, 1, 0] rfl ?_
  exact wX4_allowedLands_l5 h hE NF 31 0 hf
theorem ctX4_allowedLands {V : Vx} {q : Nat → Nat} {u : St} {g : Nat → Nat} {ts : List Tx} {res : Int32} (hE : EnvC V g) {v1 : Int32} (hf : fX4_allowedLands u v1 = some res) : Ct V yX4_allowedLands (.code yX4_allowedLands cX4_allowedLands 4 (some .int)) rmX4_allowedLands 0 0 [.ref (q 4), .int v1] (wC V q ts u) (rEq (some (.int res)) (wC V q ts u)) :=
  Ct_of (by decide) (Nat.le_of_ble_eq_true rfl) rfl (fun X hX hT _ hF => wX4_allowedLands ⟨hX, hT, hF⟩ hE hf)
def rmX1_sumBefore_X1_1 : Room := { frames := 2, cells := 0, slots := 0, locals := 46 }
def fX1_sumBefore_X1_1_b43 (u : St) (k6 : Int64 → Int32 → Option (Int64)) (v2 : Int32) (v3 : Int32) (v4 : Int64) (v6 : Int32) : Option (Int64) := k6 v4 (v6 + 1)
theorem wX1_sumBefore_X1_1_b43 {X : Cx} {V : Vx} {q : Nat → Nat} {g : Nat → Nat} {ts : List Tx} {u : St} {res : Int64} (h : Run X cX1_sumBefore 7 RX1 rmX1_sumBefore_X1_1 V (some .long) (rEq (some (.long res)) (wC V q ts u))) (hE : EnvC V g) {v2 : Int32} {v3 : Int32} {v4 : Int64} {v6 : Int32} {k6 : Int64 → Int32 → Option (Int64)} (hk6 : ∀ (v4 : Int64) (v6 : Int32), k6 v4 v6 = some res → At X 7 0 0 (wC V q ts u) 6 [(0, .ref (q 1)), (1, .ref (q 121)), (2, .int v2), (3, .int v3), (4, .long v4), (6, .int v6)] []) (hf : fX1_sumBefore_X1_1_b43 u k6 v2 v3 v4 v6 = some res) : At X 7 0 0 (wC V q ts u) 43 [(0, .ref (q 1)), (1, .ref (q 121)), (2, .int v2), (3, .int v3), (4, .long v4), (6, .int v6)] [] := by
  obtain ⟨hX, hT, hF⟩ := id h
  unfold fX1_sumBefore_X1_1_b43 at hf
  refine a_iinc (v := v6 + 1) (lv' := [(6, .int (v6 + 1)), (0, .ref (q 1)), (1, .ref (q 121)), (2, .int v2), (3, .int v3), (4, .long v4)]) hX dX1_sumBefore_43 5 rfl rfl (by decide) rfl rfl ?_
  refine a_goto (pc' := 6) hX dX1_sumBefore_46 rfl ?_
  refine a_lv (lv' := [(0, .ref (q 1)), (1, .ref (q 121)), (2, .int v2), (3, .int v3), (4, .long v4), (6, .int (v6 + 1))]) [1, 2, 3, 4, 5, 0] rfl ?_
  exact hk6 v4 (v6 + 1) hf
def fX1_sumBefore_X1_1_l6b (u : St) (k6 : Int64 → Int32 → Option (Int64)) (v2 : Int32) (v3 : Int32) (v4 : Int64) (v6 : Int32) : Option (Int64) := if 5 ≤ v6 then some v4 else (cl1 (fX10_lead u v6 v2 (v3 - 1)) (fun x1 => if x1 = 0 then fX1_sumBefore_X1_1_b43 u k6 v2 v3 v4 v6 else (cl1 (fX11_place v6 (v3 - 1)) (fun x2 => ldL (gB u 21) 60 x2 (fun x3 => nmL (v4 + x3) (fun x4 => fX1_sumBefore_X1_1_b43 u k6 v2 v3 x4 v6))))))
theorem wX1_sumBefore_X1_1_l6b {X : Cx} {V : Vx} {q : Nat → Nat} {g : Nat → Nat} {ts : List Tx} {u : St} {res : Int64} (h : Run X cX1_sumBefore 7 RX1 rmX1_sumBefore_X1_1 V (some .long) (rEq (some (.long res)) (wC V q ts u))) (hE : EnvC V g) {v2 : Int32} {v3 : Int32} {v4 : Int64} {v6 : Int32} {k6 : Int64 → Int32 → Option (Int64)} (hk6 : ∀ (v4 : Int64) (v6 : Int32), k6 v4 v6 = some res → At X 7 0 0 (wC V q ts u) 6 [(0, .ref (q 1)), (1, .ref (q 121)), (2, .int v2), (3, .int v3), (4, .long v4), (6, .int v6)] []) (hf : fX1_sumBefore_X1_1_l6b u k6 v2 v3 v4 v6 = some res) : At X 7 0 0 (wC V q ts u) 6 [(0, .ref (q 1)), (1, .ref (q 121)), (2, .int v2), (3, .int v3), (4, .long v4), (6, .int v6)] [] := by
  obtain ⟨hX, hT, hF⟩ := id h
  unfold fX1_sumBefore_X1_1_l6b at hf
  refine a_iload hX dX1_sumBefore_6 5 rfl rfl ?_
  refine a_iconst (v := 5) hX dX1_sumBefore_8 (by decide) rfl ?_
  refine a_icmp_ge (tgt := 49) hX dX1_sumBefore_9 rfl rfl hf (fun hf => ?_) (fun hf => ?_)
  · refine a_lload hX dX1_sumBefore_49 4 rfl rfl ?_
    exact a_lret hX hT hF (r_l hf) dX1_sumBefore_51
  · refine a_aload_n hX dX1_sumBefore_12 rfl 0 rfl rfl ?_
    refine gX1_5 hX F_X1_28 dX1_sumBefore_13 rfl ?_
    refine a_iload hX dX1_sumBefore_16 5 rfl rfl ?_
    refine a_iload_n hX dX1_sumBefore_18 rfl 2 rfl rfl ?_
    refine a_iload_n hX dX1_sumBefore_19 rfl 3 rfl rfl ?_
    refine a_iconst (v := 1) hX dX1_sumBefore_20 (by decide) rfl ?_
    refine a_isub hX dX1_sumBefore_21 rfl ?_
    obtain ⟨x1, hg1, hf⟩ := cl1_some hf
    refine a_cVsi (q0 := 1) (rest := []) hX hE.1 (ctX10_lead (q := q) hE hg1) K_X1_64 ⟨rfl, rfl⟩ ⟨rfl, rfl, by decide, by decide⟩ ⟨Nat.zero_le _, Nat.zero_le _⟩ (Nat.le_of_ble_eq_true rfl) dX1_sumBefore_22 rfl rfl ?_
    refine a_if_eq (tgt := 43) hX dX1_sumBefore_25 rfl rfl hf (fun hf => ?_) (fun hf => ?_)
    · exact wX1_sumBefore_X1_1_b43 h hE hk6 hf
    · refine a_lload hX dX1_sumBefore_28 4 rfl rfl ?_
      refine a_aload_n hX dX1_sumBefore_30 rfl 1 rfl rfl ?_
      refine a_iload hX dX1_sumBefore_31 5 rfl rfl ?_
      refine a_iload_n hX dX1_sumBefore_33 rfl 3 rfl rfl ?_
      refine a_iconst (v := 1) hX dX1_sumBefore_34 (by decide) rfl ?_
      refine a_isub hX dX1_sumBefore_35 rfl ?_
      obtain ⟨x2, hg2, hf⟩ := cl1_some hf
      refine a_cNpi (rest := [.ref (q 121), .long v4]) hX hE.1 (ctX11_place hE.1 hg2) (e_nw hX hE (w := .methodLinkNest "VaseCourt$Chronicle" 42 yX11_place "VaseCourt") (List.mem_of_getElem? (i := 7) rfl)) LN_X11_place ⟨rfl, rfl, by decide, by decide⟩ ⟨Nat.zero_le _, Nat.zero_le _⟩ (Nat.le_of_ble_eq_true rfl) dX1_sumBefore_36 rfl rfl ?_
      refine lX1_1 hX dX1_sumBefore_39 rfl hf (fun x3 hf => ?_)
      refine a_ladd hX dX1_sumBefore_40 rfl ?_
      refine a_nmL hf (fun x4 hf => ?_)
      refine a_lstore (lv' := [(4, .long x4), (0, .ref (q 1)), (1, .ref (q 121)), (2, .int v2), (3, .int v3), (6, .int v6)]) hX dX1_sumBefore_41 (by decide) rfl rfl ?_
      refine a_lv (lv' := [(0, .ref (q 1)), (1, .ref (q 121)), (2, .int v2), (3, .int v3), (4, .long x4), (6, .int v6)]) [1, 2, 3, 4, 0, 5] rfl ?_
      exact wX1_sumBefore_X1_1_b43 h hE hk6 hf
def fX1_sumBefore_X1_1_l6 (u : St)  (v2 : Int32) (v3 : Int32) : Nat → Int64 → Int32 → Option (Int64)
  | 0, _, _ => none
  | m + 1, v4, v6 => fX1_sumBefore_X1_1_l6b u (fX1_sumBefore_X1_1_l6 u  v2 v3 m) v2 v3 v4 v6
theorem wX1_sumBefore_X1_1_l6 {X : Cx} {V : Vx} {q : Nat → Nat} {g : Nat → Nat} {ts : List Tx} {u : St} {res : Int64} (h : Run X cX1_sumBefore 7 RX1 rmX1_sumBefore_X1_1 V (some .long) (rEq (some (.long res)) (wC V q ts u))) (hE : EnvC V g) {v2 : Int32} {v3 : Int32} : ∀ (m : Nat) (v4 : Int64) (v6 : Int32), fX1_sumBefore_X1_1_l6 u  v2 v3 m v4 v6 = some res → At X 7 0 0 (wC V q ts u) 6 [(0, .ref (q 1)), (1, .ref (q 121)), (2, .int v2), (3, .int v3), (4, .long v4), (6, .int v6)] [] := by
  intro m
  induction m with
  | zero => intro v4 v6 hf; cases hf
  | succ m ih => intro v4 v6 hf; exact wX1_sumBefore_X1_1_l6b h hE ih hf
def fX1_sumBefore_X1_1 (u : St) (v2 : Int32) (v3 : Int32) : Option (Int64) := fX1_sumBefore_X1_1_l6 u v2 v3 NF 0 0
theorem wX1_sumBefore_X1_1 {X : Cx} {V : Vx} {q : Nat → Nat} {g : Nat → Nat} {ts : List Tx} {u : St} {res : Int64} (h : Run X cX1_sumBefore 7 RX1 rmX1_sumBefore_X1_1 V (some .long) (rEq (some (.long res)) (wC V q ts u))) (hE : EnvC V g) {v2 : Int32} {v3 : Int32} (hf : fX1_sumBefore_X1_1 u v2 v3 = some res) : At X 7 0 0 (wC V q ts u) 0 [(0, .ref (q 1)), (1, .ref (q 121)), (2, .int v2), (3, .int v3)] [] := by
  obtain ⟨hX, hT, hF⟩ := id h
  unfold fX1_sumBefore_X1_1 at hf
  refine a_lconst (v := 0) hX dX1_sumBefore_0 (by decide) rfl ?_
  refine a_lstore (lv' := [(4, .long 0), (0, .ref (q 1)), (1, .ref (q 121)), (2, .int v2), (3, .int v3)]) hX dX1_sumBefore_1 (by decide) rfl rfl ?_
  refine a_iconst (v := 0) hX dX1_sumBefore_3 (by decide) rfl ?_
  refine a_istore (lv' := [(6, .int 0), (4, .long 0), (0, .ref (q 1)), (1, .ref (q 121)), (2, .int v2), (3, .int v3)]) hX dX1_sumBefore_4 (by decide) rfl rfl ?_
  refine a_lv (lv' := [(0, .ref (q 1)), (1, .ref (q 121)), (2, .int v2), (3, .int v3), (4, .long 0), (6, .int 0)]) [2, 3, 4, 5, 1, 0] rfl ?_
  exact wX1_sumBefore_X1_1_l6 h hE NF 0 0 hf
theorem ctX1_sumBefore_X1_1 {V : Vx} {q : Nat → Nat} {u : St} {g : Nat → Nat} {ts : List Tx} {res : Int64} (hE : EnvC V g) {v2 : Int32} {v3 : Int32} (hf : fX1_sumBefore_X1_1 u v2 v3 = some res) : Ct V yX1_sumBefore (.code yX1_sumBefore cX1_sumBefore 7 (some .long)) rmX1_sumBefore_X1_1 0 0 [.ref (q 1), .ref (q 121), .int v2, .int v3] (wC V q ts u) (rEq (some (.long res)) (wC V q ts u)) :=
  Ct_of (by decide) (Nat.le_of_ble_eq_true rfl) rfl (fun X hX hT _ hF => wX1_sumBefore_X1_1 ⟨hX, hT, hF⟩ hE hf)
def rmX1_beginningsTo : Room := { frames := 3, cells := 0, slots := 0, locals := 72 }
def fX1_beginningsTo (u : St) (v1 : Int32) (v2 : Int32) : Option (Int64) := if v2 = 0 then cl1 (fX11_isIn (gZ u 20) v1) (fun x2 => if x2 = 0 then some 0 else (some 1)) else (cl1 (fX1_sumBefore_X1_1 u v1 v2) (fun x1 => some x1))
theorem wX1_beginningsTo {X : Cx} {V : Vx} {q : Nat → Nat} {g : Nat → Nat} {ts : List Tx} {u : St} {res : Int64} (h : Run X cX1_beginningsTo 3 RX1 rmX1_beginningsTo V (some .long) (rEq (some (.long res)) (wC V q ts u))) (hE : EnvC V g) {v1 : Int32} {v2 : Int32} (hf : fX1_beginningsTo u v1 v2 = some res) : At X 3 0 0 (wC V q ts u) 0 [(0, .ref (q 1)), (1, .int v1), (2, .int v2)] [] := by
  obtain ⟨hX, hT, hF⟩ := id h
  unfold fX1_beginningsTo at hf
  refine a_iload_n hX dX1_beginningsTo_0 rfl 2 rfl rfl ?_
  refine a_if_ne (tgt := 21) hX dX1_beginningsTo_1 rfl rfl hf (fun hf => ?_) (fun hf => ?_)
  · refine a_aload_n hX dX1_beginningsTo_21 rfl 0 rfl rfl ?_
    refine a_aload_n hX dX1_beginningsTo_22 rfl 0 rfl rfl ?_
    refine gX1_1 hX F_X1_15 dX1_beginningsTo_23 rfl ?_
    refine a_iload_n hX dX1_beginningsTo_26 rfl 1 rfl rfl ?_
    refine a_iload_n hX dX1_beginningsTo_27 rfl 2 rfl rfl ?_
    obtain ⟨x1, hg1, hf⟩ := cl1_some hf
    refine a_cVsl (q0 := 3) (rest := []) hX hE.1 (ctX1_sumBefore_X1_1 (q := q) hE hg1) K_X1_57 ⟨rfl, rfl⟩ ⟨rfl, rfl, by decide, by decide⟩ ⟨Nat.zero_le _, Nat.zero_le _⟩ (Nat.le_of_ble_eq_true rfl) dX1_beginningsTo_28 rfl rfl ?_
    exact a_lret hX hT hF (r_l hf) dX1_beginningsTo_31
  · refine a_aload_n hX dX1_beginningsTo_4 rfl 0 rfl rfl ?_
    refine gX1_0 hX F_X1_9 dX1_beginningsTo_5 rfl ?_
    refine a_iload_n hX dX1_beginningsTo_8 rfl 1 rfl rfl ?_
    obtain ⟨x2, hg2, hf⟩ := cl1_some hf
    refine a_cNpi (rest := []) hX hE.1 (ctX11_isIn hE.1 hg2) (e_nw hX hE (w := .methodLinkNest "VaseCourt$Chronicle" 46 yX11_isIn "VaseCourt") (List.mem_of_getElem? (i := 8) rfl)) LN_X11_isIn ⟨rfl, rfl, by decide, by decide⟩ ⟨Nat.zero_le _, Nat.zero_le _⟩ (Nat.le_of_ble_eq_true rfl) dX1_beginningsTo_9 rfl rfl ?_
    refine a_if_eq (tgt := 19) hX dX1_beginningsTo_12 rfl rfl hf (fun hf => ?_) (fun hf => ?_)
    · refine a_lconst (v := 0) hX dX1_beginningsTo_19 (by decide) rfl ?_
      exact a_lret hX hT hF (r_l hf) dX1_beginningsTo_20
    · refine a_lconst (v := 1) hX dX1_beginningsTo_15 (by decide) rfl ?_
      refine a_goto (pc' := 20) hX dX1_beginningsTo_16 rfl ?_
      exact a_lret hX hT hF (r_l hf) dX1_beginningsTo_20
theorem ctX1_beginningsTo {V : Vx} {q : Nat → Nat} {u : St} {g : Nat → Nat} {ts : List Tx} {res : Int64} (hE : EnvC V g) {v1 : Int32} {v2 : Int32} (hf : fX1_beginningsTo u v1 v2 = some res) : Ct V yX1_beginningsTo (.code yX1_beginningsTo cX1_beginningsTo 3 (some .long)) rmX1_beginningsTo 0 0 [.ref (q 1), .int v1, .int v2] (wC V q ts u) (rEq (some (.long res)) (wC V q ts u)) :=
  Ct_of (by decide) (Nat.le_of_ble_eq_true rfl) rfl (fun X hX hT _ hF => wX1_beginningsTo ⟨hX, hT, hF⟩ hE hf)
def rmX1_sumBehind_X1_2 : Room := { frames := 2, cells := 0, slots := 0, locals := 46 }
def fX1_sumBehind_X1_2_b41 (u : St) (k6 : Int64 → Int32 → Option (Int64)) (v2 : Int32) (v3 : Int32) (v4 : Int64) (v6 : Int32) : Option (Int64) := k6 v4 (v6 + 1)
theorem wX1_sumBehind_X1_2_b41 {X : Cx} {V : Vx} {q : Nat → Nat} {g : Nat → Nat} {ts : List Tx} {u : St} {res : Int64} (h : Run X cX1_sumBehind 7 RX1 rmX1_sumBehind_X1_2 V (some .long) (rEq (some (.long res)) (wC V q ts u))) (hE : EnvC V g) {v2 : Int32} {v3 : Int32} {v4 : Int64} {v6 : Int32} {k6 : Int64 → Int32 → Option (Int64)} (hk6 : ∀ (v4 : Int64) (v6 : Int32), k6 v4 v6 = some res → At X 7 0 0 (wC V q ts u) 6 [(0, .ref (q 1)), (1, .ref (q 122)), (2, .int v2), (3, .int v3), (4, .long v4), (6, .int v6)] []) (hf : fX1_sumBehind_X1_2_b41 u k6 v2 v3 v4 v6 = some res) : At X 7 0 0 (wC V q ts u) 41 [(0, .ref (q 1)), (1, .ref (q 122)), (2, .int v2), (3, .int v3), (4, .long v4), (6, .int v6)] [] := by
  obtain ⟨hX, hT, hF⟩ := id h
  unfold fX1_sumBehind_X1_2_b41 at hf
  refine a_iinc (v := v6 + 1) (lv' := [(6, .int (v6 + 1)), (0, .ref (q 1)), (1, .ref (q 122)), (2, .int v2), (3, .int v3), (4, .long v4)]) hX dX1_sumBehind_41 5 rfl rfl (by decide) rfl rfl ?_
  refine a_goto (pc' := 6) hX dX1_sumBehind_44 rfl ?_
  refine a_lv (lv' := [(0, .ref (q 1)), (1, .ref (q 122)), (2, .int v2), (3, .int v3), (4, .long v4), (6, .int (v6 + 1))]) [1, 2, 3, 4, 5, 0] rfl ?_
  exact hk6 v4 (v6 + 1) hf
def fX1_sumBehind_X1_2_l6b (u : St) (k6 : Int64 → Int32 → Option (Int64)) (v2 : Int32) (v3 : Int32) (v4 : Int64) (v6 : Int32) : Option (Int64) := if 5 ≤ v6 then some v4 else (cl1 (fX10_lead u v2 v6 v3) (fun x1 => if x1 = 0 then fX1_sumBehind_X1_2_b41 u k6 v2 v3 v4 v6 else (cl1 (fX11_place v6 (v3 + 1)) (fun x2 => ldL (gB u 22) 60 x2 (fun x3 => nmL (v4 + x3) (fun x4 => fX1_sumBehind_X1_2_b41 u k6 v2 v3 x4 v6))))))
theorem wX1_sumBehind_X1_2_l6b {X : Cx} {V : Vx} {q : Nat → Nat} {g : Nat → Nat} {ts : List Tx} {u : St} {res : Int64} (h : Run X cX1_sumBehind 7 RX1 rmX1_sumBehind_X1_2 V (some .long) (rEq (some (.long res)) (wC V q ts u))) (hE : EnvC V g) {v2 : Int32} {v3 : Int32} {v4 : Int64} {v6 : Int32} {k6 : Int64 → Int32 → Option (Int64)} (hk6 : ∀ (v4 : Int64) (v6 : Int32), k6 v4 v6 = some res → At X 7 0 0 (wC V q ts u) 6 [(0, .ref (q 1)), (1, .ref (q 122)), (2, .int v2), (3, .int v3), (4, .long v4), (6, .int v6)] []) (hf : fX1_sumBehind_X1_2_l6b u k6 v2 v3 v4 v6 = some res) : At X 7 0 0 (wC V q ts u) 6 [(0, .ref (q 1)), (1, .ref (q 122)), (2, .int v2), (3, .int v3), (4, .long v4), (6, .int v6)] [] := by
  obtain ⟨hX, hT, hF⟩ := id h
  unfold fX1_sumBehind_X1_2_l6b at hf
  refine a_iload hX dX1_sumBehind_6 5 rfl rfl ?_
  refine a_iconst (v := 5) hX dX1_sumBehind_8 (by decide) rfl ?_
  refine a_icmp_ge (tgt := 47) hX dX1_sumBehind_9 rfl rfl hf (fun hf => ?_) (fun hf => ?_)
  · refine a_lload hX dX1_sumBehind_47 4 rfl rfl ?_
    exact a_lret hX hT hF (r_l hf) dX1_sumBehind_49
  · refine a_aload_n hX dX1_sumBehind_12 rfl 0 rfl rfl ?_
    refine gX1_5 hX F_X1_28 dX1_sumBehind_13 rfl ?_
    refine a_iload_n hX dX1_sumBehind_16 rfl 2 rfl rfl ?_
    refine a_iload hX dX1_sumBehind_17 5 rfl rfl ?_
    refine a_iload_n hX dX1_sumBehind_19 rfl 3 rfl rfl ?_
    obtain ⟨x1, hg1, hf⟩ := cl1_some hf
    refine a_cVsi (q0 := 1) (rest := []) hX hE.1 (ctX10_lead (q := q) hE hg1) K_X1_64 ⟨rfl, rfl⟩ ⟨rfl, rfl, by decide, by decide⟩ ⟨Nat.zero_le _, Nat.zero_le _⟩ (Nat.le_of_ble_eq_true rfl) dX1_sumBehind_20 rfl rfl ?_
    refine a_if_eq (tgt := 41) hX dX1_sumBehind_23 rfl rfl hf (fun hf => ?_) (fun hf => ?_)
    · exact wX1_sumBehind_X1_2_b41 h hE hk6 hf
    · refine a_lload hX dX1_sumBehind_26 4 rfl rfl ?_
      refine a_aload_n hX dX1_sumBehind_28 rfl 1 rfl rfl ?_
      refine a_iload hX dX1_sumBehind_29 5 rfl rfl ?_
      refine a_iload_n hX dX1_sumBehind_31 rfl 3 rfl rfl ?_
      refine a_iconst (v := 1) hX dX1_sumBehind_32 (by decide) rfl ?_
      refine a_iadd hX dX1_sumBehind_33 rfl ?_
      obtain ⟨x2, hg2, hf⟩ := cl1_some hf
      refine a_cNpi (rest := [.ref (q 122), .long v4]) hX hE.1 (ctX11_place hE.1 hg2) (e_nw hX hE (w := .methodLinkNest "VaseCourt$Chronicle" 42 yX11_place "VaseCourt") (List.mem_of_getElem? (i := 7) rfl)) LN_X11_place ⟨rfl, rfl, by decide, by decide⟩ ⟨Nat.zero_le _, Nat.zero_le _⟩ (Nat.le_of_ble_eq_true rfl) dX1_sumBehind_34 rfl rfl ?_
      refine lX1_2 hX dX1_sumBehind_37 rfl hf (fun x3 hf => ?_)
      refine a_ladd hX dX1_sumBehind_38 rfl ?_
      refine a_nmL hf (fun x4 hf => ?_)
      refine a_lstore (lv' := [(4, .long x4), (0, .ref (q 1)), (1, .ref (q 122)), (2, .int v2), (3, .int v3), (6, .int v6)]) hX dX1_sumBehind_39 (by decide) rfl rfl ?_
      refine a_lv (lv' := [(0, .ref (q 1)), (1, .ref (q 122)), (2, .int v2), (3, .int v3), (4, .long x4), (6, .int v6)]) [1, 2, 3, 4, 0, 5] rfl ?_
      exact wX1_sumBehind_X1_2_b41 h hE hk6 hf
def fX1_sumBehind_X1_2_l6 (u : St)  (v2 : Int32) (v3 : Int32) : Nat → Int64 → Int32 → Option (Int64)
  | 0, _, _ => none
  | m + 1, v4, v6 => fX1_sumBehind_X1_2_l6b u (fX1_sumBehind_X1_2_l6 u  v2 v3 m) v2 v3 v4 v6
theorem wX1_sumBehind_X1_2_l6 {X : Cx} {V : Vx} {q : Nat → Nat} {g : Nat → Nat} {ts : List Tx} {u : St} {res : Int64} (h : Run X cX1_sumBehind 7 RX1 rmX1_sumBehind_X1_2 V (some .long) (rEq (some (.long res)) (wC V q ts u))) (hE : EnvC V g) {v2 : Int32} {v3 : Int32} : ∀ (m : Nat) (v4 : Int64) (v6 : Int32), fX1_sumBehind_X1_2_l6 u  v2 v3 m v4 v6 = some res → At X 7 0 0 (wC V q ts u) 6 [(0, .ref (q 1)), (1, .ref (q 122)), (2, .int v2), (3, .int v3), (4, .long v4), (6, .int v6)] [] := by
  intro m
  induction m with
  | zero => intro v4 v6 hf; cases hf
  | succ m ih => intro v4 v6 hf; exact wX1_sumBehind_X1_2_l6b h hE ih hf
def fX1_sumBehind_X1_2 (u : St) (v2 : Int32) (v3 : Int32) : Option (Int64) := fX1_sumBehind_X1_2_l6 u v2 v3 NF 0 0
theorem wX1_sumBehind_X1_2 {X : Cx} {V : Vx} {q : Nat → Nat} {g : Nat → Nat} {ts : List Tx} {u : St} {res : Int64} (h : Run X cX1_sumBehind 7 RX1 rmX1_sumBehind_X1_2 V (some .long) (rEq (some (.long res)) (wC V q ts u))) (hE : EnvC V g) {v2 : Int32} {v3 : Int32} (hf : fX1_sumBehind_X1_2 u v2 v3 = some res) : At X 7 0 0 (wC V q ts u) 0 [(0, .ref (q 1)), (1, .ref (q 122)), (2, .int v2), (3, .int v3)] [] := by
  obtain ⟨hX, hT, hF⟩ := id h
  unfold fX1_sumBehind_X1_2 at hf
  refine a_lconst (v := 0) hX dX1_sumBehind_0 (by decide) rfl ?_
  refine a_lstore (lv' := [(4, .long 0), (0, .ref (q 1)), (1, .ref (q 122)), (2, .int v2), (3, .int v3)]) hX dX1_sumBehind_1 (by decide) rfl rfl ?_
  refine a_iconst (v := 0) hX dX1_sumBehind_3 (by decide) rfl ?_
  refine a_istore (lv' := [(6, .int 0), (4, .long 0), (0, .ref (q 1)), (1, .ref (q 122)), (2, .int v2), (3, .int v3)]) hX dX1_sumBehind_4 (by decide) rfl rfl ?_
  refine a_lv (lv' := [(0, .ref (q 1)), (1, .ref (q 122)), (2, .int v2), (3, .int v3), (4, .long 0), (6, .int 0)]) [2, 3, 4, 5, 1, 0] rfl ?_
  exact wX1_sumBehind_X1_2_l6 h hE NF 0 0 hf
theorem ctX1_sumBehind_X1_2 {V : Vx} {q : Nat → Nat} {u : St} {g : Nat → Nat} {ts : List Tx} {res : Int64} (hE : EnvC V g) {v2 : Int32} {v3 : Int32} (hf : fX1_sumBehind_X1_2 u v2 v3 = some res) : Ct V yX1_sumBehind (.code yX1_sumBehind cX1_sumBehind 7 (some .long)) rmX1_sumBehind_X1_2 0 0 [.ref (q 1), .ref (q 122), .int v2, .int v3] (wC V q ts u) (rEq (some (.long res)) (wC V q ts u)) :=
  Ct_of (by decide) (Nat.le_of_ble_eq_true rfl) rfl (fun X hX hT _ hF => wX1_sumBehind_X1_2 ⟨hX, hT, hF⟩ hE hf)
def rmX1_endsFrom : Room := { frames := 3, cells := 0, slots := 0, locals := 72 }
def fX1_endsFrom (u : St) (v1 : Int32) (v2 : Int32) : Option (Int64) := if v2 = (gZ u 24) - 1 then some 1 else (cl1 (fX1_sumBehind_X1_2 u v1 v2) (fun x1 => some x1))
theorem wX1_endsFrom {X : Cx} {V : Vx} {q : Nat → Nat} {g : Nat → Nat} {ts : List Tx} {u : St} {res : Int64} (h : Run X cX1_endsFrom 3 RX1 rmX1_endsFrom V (some .long) (rEq (some (.long res)) (wC V q ts u))) (hE : EnvC V g) {v1 : Int32} {v2 : Int32} (hf : fX1_endsFrom u v1 v2 = some res) : At X 3 0 0 (wC V q ts u) 0 [(0, .ref (q 1)), (1, .int v1), (2, .int v2)] [] := by
  obtain ⟨hX, hT, hF⟩ := id h
  unfold fX1_endsFrom at hf
  refine a_iload_n hX dX1_endsFrom_0 rfl 2 rfl rfl ?_
  refine a_aload_n hX dX1_endsFrom_1 rfl 0 rfl rfl ?_
  refine gX1_4 hX F_X1_25 dX1_endsFrom_2 rfl ?_
  refine a_iconst (v := 1) hX dX1_endsFrom_5 (by decide) rfl ?_
  refine a_isub hX dX1_endsFrom_6 rfl ?_
  refine a_icmp_ne (tgt := 12) hX dX1_endsFrom_7 rfl rfl hf (fun hf => ?_) (fun hf => ?_)
  · refine a_aload_n hX dX1_endsFrom_12 rfl 0 rfl rfl ?_
    refine a_aload_n hX dX1_endsFrom_13 rfl 0 rfl rfl ?_
    refine gX1_2 hX F_X1_19 dX1_endsFrom_14 rfl ?_
    refine a_iload_n hX dX1_endsFrom_17 rfl 1 rfl rfl ?_
    refine a_iload_n hX dX1_endsFrom_18 rfl 2 rfl rfl ?_
    obtain ⟨x1, hg1, hf⟩ := cl1_some hf
    refine a_cVsl (q0 := 3) (rest := []) hX hE.1 (ctX1_sumBehind_X1_2 (q := q) hE hg1) K_X1_61 ⟨rfl, rfl⟩ ⟨rfl, rfl, by decide, by decide⟩ ⟨Nat.zero_le _, Nat.zero_le _⟩ (Nat.le_of_ble_eq_true rfl) dX1_endsFrom_19 rfl rfl ?_
    exact a_lret hX hT hF (r_l hf) dX1_endsFrom_22
  · refine a_lconst (v := 1) hX dX1_endsFrom_10 (by decide) rfl ?_
    exact a_lret hX hT hF (r_l hf) dX1_endsFrom_11
theorem ctX1_endsFrom {V : Vx} {q : Nat → Nat} {u : St} {g : Nat → Nat} {ts : List Tx} {res : Int64} (hE : EnvC V g) {v1 : Int32} {v2 : Int32} (hf : fX1_endsFrom u v1 v2 = some res) : Ct V yX1_endsFrom (.code yX1_endsFrom cX1_endsFrom 3 (some .long)) rmX1_endsFrom 0 0 [.ref (q 1), .int v1, .int v2] (wC V q ts u) (rEq (some (.long res)) (wC V q ts u)) :=
  Ct_of (by decide) (Nat.le_of_ble_eq_true rfl) rfl (fun X hX hT _ hF => wX1_endsFrom ⟨hX, hT, hF⟩ hE hf)
def rmX1_recount : Room := { frames := 4, cells := 0, slots := 0, locals := 94 }
def fX1_recount_b53  (k2 : St → Int32 → Option (St)) (k21 : St → Int32 → Option (St)) (u : St) (v1 : Int32) (v2 : Int32) (v3 : Int32) (s0 : Int64) (s1 : Int32) : Option (St) := stL u 21 60 s1 s0 (fun u6 => k21 u6 (v3 + 1))
theorem wX1_recount_b53 {X : Cx} {V : Vx} {q : Nat → Nat} {g : Nat → Nat} {ts : List Tx} {res : St} (h : Run X cX1_recount 4 RX1 rmX1_recount V none (rEq none (wC V q ts res))) (hE : EnvC V g) {u : St} {v1 : Int32} {v2 : Int32} {v3 : Int32} {s0 : Int64} {s1 : Int32} {k2 : St → Int32 → Option (St)} (hk2 : ∀ (u : St) (v1 : Int32), k2 u v1 = some res → At X 4 0 0 (wC V q ts u) 2 [(0, .ref (q 1)), (1, .int v1)] []) {k21 : St → Int32 → Option (St)} (hk21 : ∀ (u : St) (v3 : Int32), k21 u v3 = some res → At X 4 0 0 (wC V q ts u) 21 [(0, .ref (q 1)), (1, .int v1), (2, .int v2), (3, .int v3)] []) (hf : fX1_recount_b53  k2 k21 u v1 v2 v3 s0 s1 = some res) : At X 4 0 0 (wC V q ts u) 53 [(0, .ref (q 1)), (1, .int v1), (2, .int v2), (3, .int v3)] [.long s0, .int s1, .ref (q 121)] := by
  obtain ⟨hX, hT, hF⟩ := id h
  unfold fX1_recount_b53 at hf
  refine sX1_1 hX dX1_recount_53 rfl hf (fun u6 hf => ?_)
  refine a_iinc (v := v3 + 1) (lv' := [(3, .int (v3 + 1)), (0, .ref (q 1)), (1, .int v1), (2, .int v2)]) hX dX1_recount_54 3 rfl rfl (by decide) rfl rfl ?_
  refine a_goto (pc' := 21) hX dX1_recount_57 rfl ?_
  refine a_lv (lv' := [(0, .ref (q 1)), (1, .int v1), (2, .int v2), (3, .int (v3 + 1))]) [1, 2, 3, 0] rfl ?_
  exact hk21 u6 (v3 + 1) hf
def fX1_recount_l21b  (k2 : St → Int32 → Option (St)) (k21 : St → Int32 → Option (St)) (u : St) (v1 : Int32) (v2 : Int32) (v3 : Int32) : Option (St) := if 5 ≤ v3 then k2 u (v1 + 1) else (cl1 (fX11_place v3 v1) (fun x3 => cl1 (fX11_isIn v2 v3) (fun x4 => if x4 = 0 then fX1_recount_b53 k2 k21 u v1 v2 v3 0 x3 else (cl1 (fX1_beginningsTo u v3 v1) (fun x5 => fX1_recount_b53 k2 k21 u v1 v2 v3 x5 x3)))))
theorem wX1_recount_l21b {X : Cx} {V : Vx} {q : Nat → Nat} {g : Nat → Nat} {ts : List Tx} {res : St} (h : Run X cX1_recount 4 RX1 rmX1_recount V none (rEq none (wC V q ts res))) (hE : EnvC V g) {u : St} {v1 : Int32} {v2 : Int32} {v3 : Int32} {k2 : St → Int32 → Option (St)} (hk2 : ∀ (u : St) (v1 : Int32), k2 u v1 = some res → At X 4 0 0 (wC V q ts u) 2 [(0, .ref (q 1)), (1, .int v1)] []) {k21 : St → Int32 → Option (St)} (hk21 : ∀ (u : St) (v3 : Int32), k21 u v3 = some res → At X 4 0 0 (wC V q ts u) 21 [(0, .ref (q 1)), (1, .int v1), (2, .int v2), (3, .int v3)] []) (hf : fX1_recount_l21b  k2 k21 u v1 v2 v3 = some res) : At X 4 0 0 (wC V q ts u) 21 [(0, .ref (q 1)), (1, .int v1), (2, .int v2), (3, .int v3)] [] := by
  obtain ⟨hX, hT, hF⟩ := id h
  unfold fX1_recount_l21b at hf
  refine a_iload_n hX dX1_recount_21 rfl 3 rfl rfl ?_
  refine a_iconst (v := 5) hX dX1_recount_22 (by decide) rfl ?_
  refine a_icmp_ge (tgt := 60) hX dX1_recount_23 rfl rfl hf (fun hf => ?_) (fun hf => ?_)
  · refine a_iinc (v := v1 + 1) (lv' := [(1, .int (v1 + 1)), (0, .ref (q 1)), (2, .int v2), (3, .int v3)]) hX dX1_recount_60 1 rfl rfl (by decide) rfl rfl ?_
    refine a_goto (pc' := 2) hX dX1_recount_63 rfl ?_
    refine a_lv (lv' := [(0, .ref (q 1)), (1, .int (v1 + 1))]) [1, 0] rfl ?_
    exact hk2 u (v1 + 1) hf
  · refine a_aload_n hX dX1_recount_26 rfl 0 rfl rfl ?_
    refine gX1_1 hX F_X1_15 dX1_recount_27 rfl ?_
    refine a_iload_n hX dX1_recount_30 rfl 3 rfl rfl ?_
    refine a_iload_n hX dX1_recount_31 rfl 1 rfl rfl ?_
    obtain ⟨x3, hg3, hf⟩ := cl1_some hf
    refine a_cNpi (rest := [.ref (q 121)]) hX hE.1 (ctX11_place hE.1 hg3) (e_nw hX hE (w := .methodLinkNest "VaseCourt$Chronicle" 42 yX11_place "VaseCourt") (List.mem_of_getElem? (i := 7) rfl)) LN_X11_place ⟨rfl, rfl, by decide, by decide⟩ ⟨Nat.zero_le _, Nat.zero_le _⟩ (Nat.le_of_ble_eq_true rfl) dX1_recount_32 rfl rfl ?_
    refine a_iload_n hX dX1_recount_35 rfl 2 rfl rfl ?_
    refine a_iload_n hX dX1_recount_36 rfl 3 rfl rfl ?_
    obtain ⟨x4, hg4, hf⟩ := cl1_some hf
    refine a_cNpi (rest := [.int x3, .ref (q 121)]) hX hE.1 (ctX11_isIn hE.1 hg4) (e_nw hX hE (w := .methodLinkNest "VaseCourt$Chronicle" 46 yX11_isIn "VaseCourt") (List.mem_of_getElem? (i := 8) rfl)) LN_X11_isIn ⟨rfl, rfl, by decide, by decide⟩ ⟨Nat.zero_le _, Nat.zero_le _⟩ (Nat.le_of_ble_eq_true rfl) dX1_recount_37 rfl rfl ?_
    refine a_if_eq (tgt := 52) hX dX1_recount_40 rfl rfl hf (fun hf => ?_) (fun hf => ?_)
    · refine a_lconst (v := 0) hX dX1_recount_52 (by decide) rfl ?_
      exact wX1_recount_b53 h hE hk2 hk21 hf
    · refine a_aload_n hX dX1_recount_43 rfl 0 rfl rfl ?_
      refine a_iload_n hX dX1_recount_44 rfl 3 rfl rfl ?_
      refine a_iload_n hX dX1_recount_45 rfl 1 rfl rfl ?_
      obtain ⟨x5, hg5, hf⟩ := cl1_some hf
      refine a_cVsl (q0 := 3) (rest := [.int x3, .ref (q 121)]) hX hE.1 (ctX1_beginningsTo (q := q) hE hg5) K_X1_50 ⟨rfl, rfl⟩ ⟨rfl, rfl, by decide, by decide⟩ ⟨Nat.zero_le _, Nat.zero_le _⟩ (Nat.le_of_ble_eq_true rfl) dX1_recount_46 rfl rfl ?_
      refine a_goto (pc' := 53) hX dX1_recount_49 rfl ?_
      exact wX1_recount_b53 h hE hk2 hk21 hf
def fX1_recount_l21  (k2 : St → Int32 → Option (St)) (v1 : Int32) (v2 : Int32) : Nat → St → Int32 → Option (St)
  | 0, _, _ => none
  | m + 1, u, v3 => fX1_recount_l21b  k2 (fX1_recount_l21  k2 v1 v2 m) u v1 v2 v3
theorem wX1_recount_l21 {X : Cx} {V : Vx} {q : Nat → Nat} {g : Nat → Nat} {ts : List Tx} {res : St} (h : Run X cX1_recount 4 RX1 rmX1_recount V none (rEq none (wC V q ts res))) (hE : EnvC V g) {v1 : Int32} {v2 : Int32} {k2 : St → Int32 → Option (St)} (hk2 : ∀ (u : St) (v1 : Int32), k2 u v1 = some res → At X 4 0 0 (wC V q ts u) 2 [(0, .ref (q 1)), (1, .int v1)] []) : ∀ (m : Nat) (u : St) (v3 : Int32), fX1_recount_l21  k2 v1 v2 m u v3 = some res → At X 4 0 0 (wC V q ts u) 21 [(0, .ref (q 1)), (1, .int v1), (2, .int v2), (3, .int v3)] [] := by
  intro m
  induction m with
  | zero => intro u v3 hf; cases hf
  | succ m ih => intro u v3 hf; exact wX1_recount_l21b h hE hk2 ih hf
def fX1_recount_b120  (k73 : St → Int32 → Option (St)) (k88 : St → Int32 → Option (St)) (u : St) (v1 : Int32) (v2 : Int32) (v3 : Int32) (s0 : Int64) (s1 : Int32) : Option (St) := stL u 22 60 s1 s0 (fun u11 => k88 u11 (v3 + 1))
theorem wX1_recount_b120 {X : Cx} {V : Vx} {q : Nat → Nat} {g : Nat → Nat} {ts : List Tx} {res : St} (h : Run X cX1_recount 4 RX1 rmX1_recount V none (rEq none (wC V q ts res))) (hE : EnvC V g) {u : St} {v1 : Int32} {v2 : Int32} {v3 : Int32} {s0 : Int64} {s1 : Int32} {k73 : St → Int32 → Option (St)} (hk73 : ∀ (u : St) (v1 : Int32), k73 u v1 = some res → At X 4 0 0 (wC V q ts u) 73 [(0, .ref (q 1)), (1, .int v1)] []) {k88 : St → Int32 → Option (St)} (hk88 : ∀ (u : St) (v3 : Int32), k88 u v3 = some res → At X 4 0 0 (wC V q ts u) 88 [(0, .ref (q 1)), (1, .int v1), (2, .int v2), (3, .int v3)] []) (hf : fX1_recount_b120  k73 k88 u v1 v2 v3 s0 s1 = some res) : At X 4 0 0 (wC V q ts u) 120 [(0, .ref (q 1)), (1, .int v1), (2, .int v2), (3, .int v3)] [.long s0, .int s1, .ref (q 122)] := by
  obtain ⟨hX, hT, hF⟩ := id h
  unfold fX1_recount_b120 at hf
  refine sX1_2 hX dX1_recount_120 rfl hf (fun u11 hf => ?_)
  refine a_iinc (v := v3 + 1) (lv' := [(3, .int (v3 + 1)), (0, .ref (q 1)), (1, .int v1), (2, .int v2)]) hX dX1_recount_121 3 rfl rfl (by decide) rfl rfl ?_
  refine a_goto (pc' := 88) hX dX1_recount_124 rfl ?_
  refine a_lv (lv' := [(0, .ref (q 1)), (1, .int v1), (2, .int v2), (3, .int (v3 + 1))]) [1, 2, 3, 0] rfl ?_
  exact hk88 u11 (v3 + 1) hf
def fX1_recount_l88b  (k73 : St → Int32 → Option (St)) (k88 : St → Int32 → Option (St)) (u : St) (v1 : Int32) (v2 : Int32) (v3 : Int32) : Option (St) := if 5 ≤ v3 then k73 u (v1 + (-1)) else (cl1 (fX11_place v3 v1) (fun x8 => cl1 (fX11_isIn v2 v3) (fun x9 => if x9 = 0 then fX1_recount_b120 k73 k88 u v1 v2 v3 0 x8 else (cl1 (fX1_endsFrom u v3 v1) (fun x10 => fX1_recount_b120 k73 k88 u v1 v2 v3 x10 x8)))))
theorem wX1_recount_l88b {X : Cx} {V : Vx} {q : Nat → Nat} {g : Nat → Nat} {ts : List Tx} {res : St} (h : Run X cX1_recount 4 RX1 rmX1_recount V none (rEq none (wC V q ts res))) (hE : EnvC V g) {u : St} {v1 : Int32} {v2 : Int32} {v3 : Int32} {k73 : St → Int32 → Option (St)} (hk73 : ∀ (u : St) (v1 : Int32), k73 u v1 = some res → At X 4 0 0 (wC V q ts u) 73 [(0, .ref (q 1)), (1, .int v1)] []) {k88 : St → Int32 → Option (St)} (hk88 : ∀ (u : St) (v3 : Int32), k88 u v3 = some res → At X 4 0 0 (wC V q ts u) 88 [(0, .ref (q 1)), (1, .int v1), (2, .int v2), (3, .int v3)] []) (hf : fX1_recount_l88b  k73 k88 u v1 v2 v3 = some res) : At X 4 0 0 (wC V q ts u) 88 [(0, .ref (q 1)), (1, .int v1), (2, .int v2), (3, .int v3)] [] := by
  obtain ⟨hX, hT, hF⟩ := id h
  unfold fX1_recount_l88b at hf
  refine a_iload_n hX dX1_recount_88 rfl 3 rfl rfl ?_
  refine a_iconst (v := 5) hX dX1_recount_89 (by decide) rfl ?_
  refine a_icmp_ge (tgt := 127) hX dX1_recount_90 rfl rfl hf (fun hf => ?_) (fun hf => ?_)
  · refine a_iinc (v := v1 + (-1)) (lv' := [(1, .int (v1 + (-1))), (0, .ref (q 1)), (2, .int v2), (3, .int v3)]) hX dX1_recount_127 1 rfl rfl (by decide) rfl rfl ?_
    refine a_goto (pc' := 73) hX dX1_recount_130 rfl ?_
    refine a_lv (lv' := [(0, .ref (q 1)), (1, .int (v1 + (-1)))]) [1, 0] rfl ?_
    exact hk73 u (v1 + (-1)) hf
  · refine a_aload_n hX dX1_recount_93 rfl 0 rfl rfl ?_
    refine gX1_2 hX F_X1_19 dX1_recount_94 rfl ?_
    refine a_iload_n hX dX1_recount_97 rfl 3 rfl rfl ?_
    refine a_iload_n hX dX1_recount_98 rfl 1 rfl rfl ?_
    obtain ⟨x8, hg8, hf⟩ := cl1_some hf
    refine a_cNpi (rest := [.ref (q 122)]) hX hE.1 (ctX11_place hE.1 hg8) (e_nw hX hE (w := .methodLinkNest "VaseCourt$Chronicle" 42 yX11_place "VaseCourt") (List.mem_of_getElem? (i := 7) rfl)) LN_X11_place ⟨rfl, rfl, by decide, by decide⟩ ⟨Nat.zero_le _, Nat.zero_le _⟩ (Nat.le_of_ble_eq_true rfl) dX1_recount_99 rfl rfl ?_
    refine a_iload_n hX dX1_recount_102 rfl 2 rfl rfl ?_
    refine a_iload_n hX dX1_recount_103 rfl 3 rfl rfl ?_
    obtain ⟨x9, hg9, hf⟩ := cl1_some hf
    refine a_cNpi (rest := [.int x8, .ref (q 122)]) hX hE.1 (ctX11_isIn hE.1 hg9) (e_nw hX hE (w := .methodLinkNest "VaseCourt$Chronicle" 46 yX11_isIn "VaseCourt") (List.mem_of_getElem? (i := 8) rfl)) LN_X11_isIn ⟨rfl, rfl, by decide, by decide⟩ ⟨Nat.zero_le _, Nat.zero_le _⟩ (Nat.le_of_ble_eq_true rfl) dX1_recount_104 rfl rfl ?_
    refine a_if_eq (tgt := 119) hX dX1_recount_107 rfl rfl hf (fun hf => ?_) (fun hf => ?_)
    · refine a_lconst (v := 0) hX dX1_recount_119 (by decide) rfl ?_
      exact wX1_recount_b120 h hE hk73 hk88 hf
    · refine a_aload_n hX dX1_recount_110 rfl 0 rfl rfl ?_
      refine a_iload_n hX dX1_recount_111 rfl 3 rfl rfl ?_
      refine a_iload_n hX dX1_recount_112 rfl 1 rfl rfl ?_
      obtain ⟨x10, hg10, hf⟩ := cl1_some hf
      refine a_cVsl (q0 := 3) (rest := [.int x8, .ref (q 122)]) hX hE.1 (ctX1_endsFrom (q := q) hE hg10) K_X1_54 ⟨rfl, rfl⟩ ⟨rfl, rfl, by decide, by decide⟩ ⟨Nat.zero_le _, Nat.zero_le _⟩ (Nat.le_of_ble_eq_true rfl) dX1_recount_113 rfl rfl ?_
      refine a_goto (pc' := 120) hX dX1_recount_116 rfl ?_
      exact wX1_recount_b120 h hE hk73 hk88 hf
def fX1_recount_l88  (k73 : St → Int32 → Option (St)) (v1 : Int32) (v2 : Int32) : Nat → St → Int32 → Option (St)
  | 0, _, _ => none
  | m + 1, u, v3 => fX1_recount_l88b  k73 (fX1_recount_l88  k73 v1 v2 m) u v1 v2 v3
theorem wX1_recount_l88 {X : Cx} {V : Vx} {q : Nat → Nat} {g : Nat → Nat} {ts : List Tx} {res : St} (h : Run X cX1_recount 4 RX1 rmX1_recount V none (rEq none (wC V q ts res))) (hE : EnvC V g) {v1 : Int32} {v2 : Int32} {k73 : St → Int32 → Option (St)} (hk73 : ∀ (u : St) (v1 : Int32), k73 u v1 = some res → At X 4 0 0 (wC V q ts u) 73 [(0, .ref (q 1)), (1, .int v1)] []) : ∀ (m : Nat) (u : St) (v3 : Int32), fX1_recount_l88  k73 v1 v2 m u v3 = some res → At X 4 0 0 (wC V q ts u) 88 [(0, .ref (q 1)), (1, .int v1), (2, .int v2), (3, .int v3)] [] := by
  intro m
  induction m with
  | zero => intro u v3 hf; cases hf
  | succ m ih => intro u v3 hf; exact wX1_recount_l88b h hE hk73 ih hf
def fX1_recount_l73b  (k73 : St → Int32 → Option (St)) (u : St) (v1 : Int32) : Option (St) := if v1 < 0 then some u else (cl1 (fX4_allowedLands u v1) (fun x7 => fX1_recount_l88 k73 v1 x7 NF u 0))
theorem wX1_recount_l73b {X : Cx} {V : Vx} {q : Nat → Nat} {g : Nat → Nat} {ts : List Tx} {res : St} (h : Run X cX1_recount 4 RX1 rmX1_recount V none (rEq none (wC V q ts res))) (hE : EnvC V g) {u : St} {v1 : Int32} {k73 : St → Int32 → Option (St)} (hk73 : ∀ (u : St) (v1 : Int32), k73 u v1 = some res → At X 4 0 0 (wC V q ts u) 73 [(0, .ref (q 1)), (1, .int v1)] []) (hf : fX1_recount_l73b  k73 u v1 = some res) : At X 4 0 0 (wC V q ts u) 73 [(0, .ref (q 1)), (1, .int v1)] [] := by
  obtain ⟨hX, hT, hF⟩ := id h
  unfold fX1_recount_l73b at hf
  refine a_iload_n hX dX1_recount_73 rfl 1 rfl rfl ?_
  refine a_if_lt (tgt := 133) hX dX1_recount_74 rfl rfl hf (fun hf => ?_) (fun hf => ?_)
  · exact a_ret hX hT hF (r_vS (wf := (wC V q ts)) hf) dX1_recount_133
  · refine a_aload_n hX dX1_recount_77 rfl 0 rfl rfl ?_
    refine gX1_6 hX F_X1_32 dX1_recount_78 rfl ?_
    refine a_iload_n hX dX1_recount_81 rfl 1 rfl rfl ?_
    obtain ⟨x7, hg7, hf⟩ := cl1_some hf
    refine a_cVsi (q0 := 2) (rest := []) hX hE.1 (ctX4_allowedLands (q := q) hE hg7) K_X1_36 ⟨rfl, rfl⟩ ⟨rfl, rfl, by decide, by decide⟩ ⟨Nat.zero_le _, Nat.zero_le _⟩ (Nat.le_of_ble_eq_true rfl) dX1_recount_82 rfl rfl ?_
    refine a_istore_n (lv' := [(2, .int x7), (0, .ref (q 1)), (1, .int v1)]) hX dX1_recount_85 rfl (by decide) rfl rfl ?_
    refine a_iconst (v := 0) hX dX1_recount_86 (by decide) rfl ?_
    refine a_istore_n (lv' := [(3, .int 0), (2, .int x7), (0, .ref (q 1)), (1, .int v1)]) hX dX1_recount_87 rfl (by decide) rfl rfl ?_
    refine a_lv (lv' := [(0, .ref (q 1)), (1, .int v1), (2, .int x7), (3, .int 0)]) [2, 3, 1, 0] rfl ?_
    exact wX1_recount_l88 h hE hk73 NF u 0 hf
def fX1_recount_l73    : Nat → St → Int32 → Option (St)
  | 0, _, _ => none
  | m + 1, u, v1 => fX1_recount_l73b  (fX1_recount_l73    m) u v1
theorem wX1_recount_l73 {X : Cx} {V : Vx} {q : Nat → Nat} {g : Nat → Nat} {ts : List Tx} {res : St} (h : Run X cX1_recount 4 RX1 rmX1_recount V none (rEq none (wC V q ts res))) (hE : EnvC V g)  : ∀ (m : Nat) (u : St) (v1 : Int32), fX1_recount_l73    m u v1 = some res → At X 4 0 0 (wC V q ts u) 73 [(0, .ref (q 1)), (1, .int v1)] [] := by
  intro m
  induction m with
  | zero => intro u v1 hf; cases hf
  | succ m ih => intro u v1 hf; exact wX1_recount_l73b h hE ih hf
def fX1_recount_l2b  (k2 : St → Int32 → Option (St)) (u : St) (v1 : Int32) : Option (St) := if gZ u 24 ≤ v1 then nmI ((gZ u 24) - 1) (fun x1 => fX1_recount_l73 NF u x1) else (cl1 (fX4_allowedLands u v1) (fun x2 => fX1_recount_l21 k2 v1 x2 NF u 0))
theorem wX1_recount_l2b {X : Cx} {V : Vx} {q : Nat → Nat} {g : Nat → Nat} {ts : List Tx} {res : St} (h : Run X cX1_recount 4 RX1 rmX1_recount V none (rEq none (wC V q ts res))) (hE : EnvC V g) {u : St} {v1 : Int32} {k2 : St → Int32 → Option (St)} (hk2 : ∀ (u : St) (v1 : Int32), k2 u v1 = some res → At X 4 0 0 (wC V q ts u) 2 [(0, .ref (q 1)), (1, .int v1)] []) (hf : fX1_recount_l2b  k2 u v1 = some res) : At X 4 0 0 (wC V q ts u) 2 [(0, .ref (q 1)), (1, .int v1)] [] := by
  obtain ⟨hX, hT, hF⟩ := id h
  unfold fX1_recount_l2b at hf
  refine a_iload_n hX dX1_recount_2 rfl 1 rfl rfl ?_
  refine a_aload_n hX dX1_recount_3 rfl 0 rfl rfl ?_
  refine gX1_4 hX F_X1_25 dX1_recount_4 rfl ?_
  refine a_icmp_ge (tgt := 66) hX dX1_recount_7 rfl rfl hf (fun hf => ?_) (fun hf => ?_)
  · refine a_aload_n hX dX1_recount_66 rfl 0 rfl rfl ?_
    refine gX1_4 hX F_X1_25 dX1_recount_67 rfl ?_
    refine a_iconst (v := 1) hX dX1_recount_70 (by decide) rfl ?_
    refine a_isub hX dX1_recount_71 rfl ?_
    refine a_nmI hf (fun x1 hf => ?_)
    refine a_istore_n (lv' := [(1, .int x1), (0, .ref (q 1))]) hX dX1_recount_72 rfl (by decide) rfl rfl ?_
    refine a_lv (lv' := [(0, .ref (q 1)), (1, .int x1)]) [1, 0] rfl ?_
    exact wX1_recount_l73 h hE NF u x1 hf
  · refine a_aload_n hX dX1_recount_10 rfl 0 rfl rfl ?_
    refine gX1_6 hX F_X1_32 dX1_recount_11 rfl ?_
    refine a_iload_n hX dX1_recount_14 rfl 1 rfl rfl ?_
    obtain ⟨x2, hg2, hf⟩ := cl1_some hf
    refine a_cVsi (q0 := 2) (rest := []) hX hE.1 (ctX4_allowedLands (q := q) hE hg2) K_X1_36 ⟨rfl, rfl⟩ ⟨rfl, rfl, by decide, by decide⟩ ⟨Nat.zero_le _, Nat.zero_le _⟩ (Nat.le_of_ble_eq_true rfl) dX1_recount_15 rfl rfl ?_
    refine a_istore_n (lv' := [(2, .int x2), (0, .ref (q 1)), (1, .int v1)]) hX dX1_recount_18 rfl (by decide) rfl rfl ?_
    refine a_iconst (v := 0) hX dX1_recount_19 (by decide) rfl ?_
    refine a_istore_n (lv' := [(3, .int 0), (2, .int x2), (0, .ref (q 1)), (1, .int v1)]) hX dX1_recount_20 rfl (by decide) rfl rfl ?_
    refine a_lv (lv' := [(0, .ref (q 1)), (1, .int v1), (2, .int x2), (3, .int 0)]) [2, 3, 1, 0] rfl ?_
    exact wX1_recount_l21 h hE hk2 NF u 0 hf
def fX1_recount_l2    : Nat → St → Int32 → Option (St)
  | 0, _, _ => none
  | m + 1, u, v1 => fX1_recount_l2b  (fX1_recount_l2    m) u v1
theorem wX1_recount_l2 {X : Cx} {V : Vx} {q : Nat → Nat} {g : Nat → Nat} {ts : List Tx} {res : St} (h : Run X cX1_recount 4 RX1 rmX1_recount V none (rEq none (wC V q ts res))) (hE : EnvC V g)  : ∀ (m : Nat) (u : St) (v1 : Int32), fX1_recount_l2    m u v1 = some res → At X 4 0 0 (wC V q ts u) 2 [(0, .ref (q 1)), (1, .int v1)] [] := by
  intro m
  induction m with
  | zero => intro u v1 hf; cases hf
  | succ m ih => intro u v1 hf; exact wX1_recount_l2b h hE ih hf
def fX1_recount (u : St) : Option (St) := fX1_recount_l2 NF u 0
theorem wX1_recount {X : Cx} {V : Vx} {q : Nat → Nat} {g : Nat → Nat} {ts : List Tx} {res : St} (h : Run X cX1_recount 4 RX1 rmX1_recount V none (rEq none (wC V q ts res))) (hE : EnvC V g) {u : St} (hf : fX1_recount u = some res) : At X 4 0 0 (wC V q ts u) 0 [(0, .ref (q 1))] [] := by
  obtain ⟨hX, hT, hF⟩ := id h
  unfold fX1_recount at hf
  refine a_iconst (v := 0) hX dX1_recount_0 (by decide) rfl ?_
  refine a_istore_n (lv' := [(1, .int 0), (0, .ref (q 1))]) hX dX1_recount_1 rfl (by decide) rfl rfl ?_
  refine a_lv (lv' := [(0, .ref (q 1)), (1, .int 0)]) [1, 0] rfl ?_
  exact wX1_recount_l2 h hE NF u 0 hf
theorem ctX1_recount {V : Vx} {q : Nat → Nat} {u : St} {g : Nat → Nat} {ts : List Tx} {res : St} (hE : EnvC V g)  (hf : fX1_recount u = some res) : Ct V yX1_recount (.code yX1_recount cX1_recount 4 none) rmX1_recount 0 0 [.ref (q 1)] (wC V q ts u) (rEq none (wC V q ts res)) :=
  Ct_of (by decide) (Nat.le_of_ble_eq_true rfl) rfl (fun X hX hT _ hF => wX1_recount ⟨hX, hT, hF⟩ hE hf)
def rmX1_through : Room := { frames := 0, cells := 0, slots := 0, locals := 0 }
def fX1_through (u : St) (v1 : Int32) : Option (Int64) := ldL (gB u 21) 60 v1 (fun x1 => ldL (gB u 22) 60 v1 (fun x2 => some (x1 * x2)))
theorem wX1_through {X : Cx} {V : Vx} {q : Nat → Nat} {g : Nat → Nat} {ts : List Tx} {u : St} {res : Int64} (h : Run X cX1_through 2 RX1 rmX1_through V (some .long) (rEq (some (.long res)) (wC V q ts u))) (hE : EnvC V g) {v1 : Int32} (hf : fX1_through u v1 = some res) : At X 2 0 0 (wC V q ts u) 0 [(0, .ref (q 1)), (1, .int v1)] [] := by
  obtain ⟨hX, hT, hF⟩ := id h
  unfold fX1_through at hf
  refine a_aload_n hX dX1_through_0 rfl 0 rfl rfl ?_
  refine gX1_1 hX F_X1_15 dX1_through_1 rfl ?_
  refine a_iload_n hX dX1_through_4 rfl 1 rfl rfl ?_
  refine lX1_1 hX dX1_through_5 rfl hf (fun x1 hf => ?_)
  refine a_aload_n hX dX1_through_6 rfl 0 rfl rfl ?_
  refine gX1_2 hX F_X1_19 dX1_through_7 rfl ?_
  refine a_iload_n hX dX1_through_10 rfl 1 rfl rfl ?_
  refine lX1_2 hX dX1_through_11 rfl hf (fun x2 hf => ?_)
  refine a_lmul hX dX1_through_12 rfl ?_
  exact a_lret hX hT hF (r_l hf) dX1_through_13
theorem ctX1_through {V : Vx} {q : Nat → Nat} {u : St} {g : Nat → Nat} {ts : List Tx} {res : Int64} (hE : EnvC V g) {v1 : Int32} (hf : fX1_through u v1 = some res) : Ct V yX1_through (.code yX1_through cX1_through 2 (some .long)) rmX1_through 0 0 [.ref (q 1), .int v1] (wC V q ts u) (rEq (some (.long res)) (wC V q ts u)) :=
  Ct_of (by decide) (Nat.le_of_ble_eq_true rfl) rfl (fun X hX hT _ hF => wX1_through ⟨hX, hT, hF⟩ hE hf)
def rmX1_total : Room := { frames := 1, cells := 0, slots := 0, locals := 21 }
def fX1_total_l4b (u : St) (k4 : Int64 → Int32 → Option (Int64)) (v1 : Int64) (v3 : Int32) : Option (Int64) := if 5 ≤ v3 then some v1 else (cl1 (fX11_place v3 0) (fun x1 => cl1 (fX1_through u x1) (fun x2 => nmL (v1 + x2) (fun x3 => k4 x3 (v3 + 1)))))
theorem wX1_total_l4b {X : Cx} {V : Vx} {q : Nat → Nat} {g : Nat → Nat} {ts : List Tx} {u : St} {res : Int64} (h : Run X cX1_total 4 RX1 rmX1_total V (some .long) (rEq (some (.long res)) (wC V q ts u))) (hE : EnvC V g) {v1 : Int64} {v3 : Int32} {k4 : Int64 → Int32 → Option (Int64)} (hk4 : ∀ (v1 : Int64) (v3 : Int32), k4 v1 v3 = some res → At X 4 0 0 (wC V q ts u) 4 [(0, .ref (q 1)), (1, .long v1), (3, .int v3)] []) (hf : fX1_total_l4b u k4 v1 v3 = some res) : At X 4 0 0 (wC V q ts u) 4 [(0, .ref (q 1)), (1, .long v1), (3, .int v3)] [] := by
  obtain ⟨hX, hT, hF⟩ := id h
  unfold fX1_total_l4b at hf
  refine a_iload_n hX dX1_total_4 rfl 2 rfl rfl ?_
  refine a_iconst (v := 5) hX dX1_total_5 (by decide) rfl ?_
  refine a_icmp_ge (tgt := 27) hX dX1_total_6 rfl rfl hf (fun hf => ?_) (fun hf => ?_)
  · refine a_lload_n hX dX1_total_27 rfl 1 rfl rfl ?_
    exact a_lret hX hT hF (r_l hf) dX1_total_28
  · refine a_lload_n hX dX1_total_9 rfl 1 rfl rfl ?_
    refine a_aload_n hX dX1_total_10 rfl 0 rfl rfl ?_
    refine a_iload_n hX dX1_total_11 rfl 2 rfl rfl ?_
    refine a_iconst (v := 0) hX dX1_total_12 (by decide) rfl ?_
    obtain ⟨x1, hg1, hf⟩ := cl1_some hf
    refine a_cNpi (rest := [.ref (q 1), .long v1]) hX hE.1 (ctX11_place hE.1 hg1) (e_nw hX hE (w := .methodLinkNest "VaseCourt$Chronicle" 42 yX11_place "VaseCourt") (List.mem_of_getElem? (i := 7) rfl)) LN_X11_place ⟨rfl, rfl, by decide, by decide⟩ ⟨Nat.zero_le _, Nat.zero_le _⟩ (Nat.le_of_ble_eq_true rfl) dX1_total_13 rfl rfl ?_
    obtain ⟨x2, hg2, hf⟩ := cl1_some hf
    refine a_cVsl (q0 := 3) (rest := [.long v1]) hX hE.1 (ctX1_through (q := q) hE hg2) K_X1_70 ⟨rfl, rfl⟩ ⟨rfl, rfl, by decide, by decide⟩ ⟨Nat.zero_le _, Nat.zero_le _⟩ (Nat.le_of_ble_eq_true rfl) dX1_total_16 rfl rfl ?_
    refine a_ladd hX dX1_total_19 rfl ?_
    refine a_nmL hf (fun x3 hf => ?_)
    refine a_lstore_n (lv' := [(1, .long x3), (0, .ref (q 1)), (3, .int v3)]) hX dX1_total_20 rfl (by decide) rfl rfl ?_
    refine a_iinc (v := v3 + 1) (lv' := [(3, .int (v3 + 1)), (1, .long x3), (0, .ref (q 1))]) hX dX1_total_21 2 rfl rfl (by decide) rfl rfl ?_
    refine a_goto (pc' := 4) hX dX1_total_24 rfl ?_
    refine a_lv (lv' := [(0, .ref (q 1)), (1, .long x3), (3, .int (v3 + 1))]) [2, 1, 0] rfl ?_
    exact hk4 x3 (v3 + 1) hf
def fX1_total_l4 (u : St)   : Nat → Int64 → Int32 → Option (Int64)
  | 0, _, _ => none
  | m + 1, v1, v3 => fX1_total_l4b u (fX1_total_l4 u   m) v1 v3
theorem wX1_total_l4 {X : Cx} {V : Vx} {q : Nat → Nat} {g : Nat → Nat} {ts : List Tx} {u : St} {res : Int64} (h : Run X cX1_total 4 RX1 rmX1_total V (some .long) (rEq (some (.long res)) (wC V q ts u))) (hE : EnvC V g)  : ∀ (m : Nat) (v1 : Int64) (v3 : Int32), fX1_total_l4 u   m v1 v3 = some res → At X 4 0 0 (wC V q ts u) 4 [(0, .ref (q 1)), (1, .long v1), (3, .int v3)] [] := by
  intro m
  induction m with
  | zero => intro v1 v3 hf; cases hf
  | succ m ih => intro v1 v3 hf; exact wX1_total_l4b h hE ih hf
def fX1_total (u : St) : Option (Int64) := fX1_total_l4 u NF 0 0
theorem wX1_total {X : Cx} {V : Vx} {q : Nat → Nat} {g : Nat → Nat} {ts : List Tx} {u : St} {res : Int64} (h : Run X cX1_total 4 RX1 rmX1_total V (some .long) (rEq (some (.long res)) (wC V q ts u))) (hE : EnvC V g)  (hf : fX1_total u = some res) : At X 4 0 0 (wC V q ts u) 0 [(0, .ref (q 1))] [] := by
  obtain ⟨hX, hT, hF⟩ := id h
  unfold fX1_total at hf
  refine a_lconst (v := 0) hX dX1_total_0 (by decide) rfl ?_
  refine a_lstore_n (lv' := [(1, .long 0), (0, .ref (q 1))]) hX dX1_total_1 rfl (by decide) rfl rfl ?_
  refine a_iconst (v := 0) hX dX1_total_2 (by decide) rfl ?_
  refine a_istore_n (lv' := [(3, .int 0), (1, .long 0), (0, .ref (q 1))]) hX dX1_total_3 rfl (by decide) rfl rfl ?_
  refine a_lv (lv' := [(0, .ref (q 1)), (1, .long 0), (3, .int 0)]) [2, 1, 0] rfl ?_
  exact wX1_total_l4 h hE NF 0 0 hf
theorem ctX1_total {V : Vx} {q : Nat → Nat} {u : St} {g : Nat → Nat} {ts : List Tx} {res : Int64} (hE : EnvC V g)  (hf : fX1_total u = some res) : Ct V yX1_total (.code yX1_total cX1_total 4 (some .long)) rmX1_total 0 0 [.ref (q 1)] (wC V q ts u) (rEq (some (.long res)) (wC V q ts u)) :=
  Ct_of (by decide) (Nat.le_of_ble_eq_true rfl) rfl (fun X hX hT _ hF => wX1_total ⟨hX, hT, hF⟩ hE hf)
def rmJ7_fill_d0a16_X1_3 : Room := { frames := 0, cells := 0, slots := 0, locals := 0 }
def fJ7_fill_d0a16_X1_3_l6b  (k6 : St → Int32 → Option (St)) (u : St) (v1 : Int64) (v3 : Int32) (v4 : Int32) : Option (St) := if v4 ≤ v3 then some u else (stL u 23 60 v3 v1 (fun u1 => k6 u1 (v3 + 1)))
theorem wJ7_fill_d0a16_X1_3_l6b {X : Cx} {V : Vx} {q : Nat → Nat} {g : Nat → Nat} {ts : List Tx} {res : St} (h : Run X cJ7_fill_d0a16 5 RJ7 rmJ7_fill_d0a16_X1_3 V none (rEq none (wC V q ts res))) (hE : EnvC V g) {u : St} {v1 : Int64} {v3 : Int32} {v4 : Int32} {k6 : St → Int32 → Option (St)} (hk6 : ∀ (u : St) (v3 : Int32), k6 u v3 = some res → At X 5 0 0 (wC V q ts u) 6 [(0, .ref (q 123)), (1, .long v1), (3, .int v3), (4, .int v4)] []) (hf : fJ7_fill_d0a16_X1_3_l6b  k6 u v1 v3 v4 = some res) : At X 5 0 0 (wC V q ts u) 6 [(0, .ref (q 123)), (1, .long v1), (3, .int v3), (4, .int v4)] [] := by
  obtain ⟨hX, hT, hF⟩ := id h
  unfold fJ7_fill_d0a16_X1_3_l6b at hf
  refine a_iload_n hX dJ7_fill_d0a16_6 rfl 2 rfl rfl ?_
  refine a_iload hX dJ7_fill_d0a16_7 3 rfl rfl ?_
  refine a_icmp_ge (tgt := 22) hX dJ7_fill_d0a16_9 rfl rfl hf (fun hf => ?_) (fun hf => ?_)
  · exact a_ret hX hT hF (r_vS (wf := (wC V q ts)) hf) dJ7_fill_d0a16_22
  · refine a_aload_n hX dJ7_fill_d0a16_12 rfl 0 rfl rfl ?_
    refine a_iload_n hX dJ7_fill_d0a16_13 rfl 2 rfl rfl ?_
    refine a_lload_n hX dJ7_fill_d0a16_14 rfl 1 rfl rfl ?_
    refine sX1_3 hX dJ7_fill_d0a16_15 rfl hf (fun u1 hf => ?_)
    refine a_iinc (v := v3 + 1) (lv' := [(3, .int (v3 + 1)), (0, .ref (q 123)), (1, .long v1), (4, .int v4)]) hX dJ7_fill_d0a16_16 2 rfl rfl (by decide) rfl rfl ?_
    refine a_goto (pc' := 6) hX dJ7_fill_d0a16_19 rfl ?_
    refine a_lv (lv' := [(0, .ref (q 123)), (1, .long v1), (3, .int (v3 + 1)), (4, .int v4)]) [1, 2, 0, 3] rfl ?_
    exact hk6 u1 (v3 + 1) hf
def fJ7_fill_d0a16_X1_3_l6   (v1 : Int64) (v4 : Int32) : Nat → St → Int32 → Option (St)
  | 0, _, _ => none
  | m + 1, u, v3 => fJ7_fill_d0a16_X1_3_l6b  (fJ7_fill_d0a16_X1_3_l6   v1 v4 m) u v1 v3 v4
theorem wJ7_fill_d0a16_X1_3_l6 {X : Cx} {V : Vx} {q : Nat → Nat} {g : Nat → Nat} {ts : List Tx} {res : St} (h : Run X cJ7_fill_d0a16 5 RJ7 rmJ7_fill_d0a16_X1_3 V none (rEq none (wC V q ts res))) (hE : EnvC V g) {v1 : Int64} {v4 : Int32} : ∀ (m : Nat) (u : St) (v3 : Int32), fJ7_fill_d0a16_X1_3_l6   v1 v4 m u v3 = some res → At X 5 0 0 (wC V q ts u) 6 [(0, .ref (q 123)), (1, .long v1), (3, .int v3), (4, .int v4)] [] := by
  intro m
  induction m with
  | zero => intro u v3 hf; cases hf
  | succ m ih => intro u v3 hf; exact wJ7_fill_d0a16_X1_3_l6b h hE ih hf
def fJ7_fill_d0a16_X1_3 (u : St) (v1 : Int64) : Option (St) := fJ7_fill_d0a16_X1_3_l6 v1 60 NF u 0
theorem wJ7_fill_d0a16_X1_3 {X : Cx} {V : Vx} {q : Nat → Nat} {g : Nat → Nat} {ts : List Tx} {res : St} (h : Run X cJ7_fill_d0a16 5 RJ7 rmJ7_fill_d0a16_X1_3 V none (rEq none (wC V q ts res))) (hE : EnvC V g) {u : St} {v1 : Int64} (hf : fJ7_fill_d0a16_X1_3 u v1 = some res) : At X 5 0 0 (wC V q ts u) 0 [(0, .ref (q 123)), (1, .long v1)] [] := by
  obtain ⟨hX, hT, hF⟩ := id h
  unfold fJ7_fill_d0a16_X1_3 at hf
  refine a_iconst (v := 0) hX dJ7_fill_d0a16_0 (by decide) rfl ?_
  refine a_istore_n (lv' := [(3, .int 0), (0, .ref (q 123)), (1, .long v1)]) hX dJ7_fill_d0a16_1 rfl (by decide) rfl rfl ?_
  refine a_aload_n hX dJ7_fill_d0a16_2 rfl 1 rfl rfl ?_
  refine a_alen (v := 60) hX 19 1 rfl rfl rfl dJ7_fill_d0a16_3 rfl ?_
  refine a_istore (lv' := [(4, .int 60), (3, .int 0), (0, .ref (q 123)), (1, .long v1)]) hX dJ7_fill_d0a16_4 (by decide) rfl rfl ?_
  refine a_lv (lv' := [(0, .ref (q 123)), (1, .long v1), (3, .int 0), (4, .int 60)]) [2, 3, 1, 0] rfl ?_
  exact wJ7_fill_d0a16_X1_3_l6 h hE NF u 0 hf
theorem ctJ7_fill_d0a16_X1_3 {V : Vx} {q : Nat → Nat} {u : St} {g : Nat → Nat} {ts : List Tx} {res : St} (hE : EnvC V g) {v1 : Int64} (hf : fJ7_fill_d0a16_X1_3 u v1 = some res) : Ct V yJ7_fill_d0a16 (.code yJ7_fill_d0a16 cJ7_fill_d0a16 5 none) rmJ7_fill_d0a16_X1_3 0 0 [.ref (q 123), .long v1] (wC V q ts u) (rEq none (wC V q ts res)) :=
  Ct_of (by decide) (Nat.le_of_ble_eq_true rfl) rfl (fun X hX hT _ hF => wJ7_fill_d0a16_X1_3 ⟨hX, hT, hF⟩ hE hf)
def rmX1_sumBefore_X1_3 : Room := { frames := 2, cells := 0, slots := 0, locals := 46 }
def fX1_sumBefore_X1_3_b43 (u : St) (k6 : Int64 → Int32 → Option (Int64)) (v2 : Int32) (v3 : Int32) (v4 : Int64) (v6 : Int32) : Option (Int64) := k6 v4 (v6 + 1)
theorem wX1_sumBefore_X1_3_b43 {X : Cx} {V : Vx} {q : Nat → Nat} {g : Nat → Nat} {ts : List Tx} {u : St} {res : Int64} (h : Run X cX1_sumBefore 7 RX1 rmX1_sumBefore_X1_3 V (some .long) (rEq (some (.long res)) (wC V q ts u))) (hE : EnvC V g) {v2 : Int32} {v3 : Int32} {v4 : Int64} {v6 : Int32} {k6 : Int64 → Int32 → Option (Int64)} (hk6 : ∀ (v4 : Int64) (v6 : Int32), k6 v4 v6 = some res → At X 7 0 0 (wC V q ts u) 6 [(0, .ref (q 1)), (1, .ref (q 123)), (2, .int v2), (3, .int v3), (4, .long v4), (6, .int v6)] []) (hf : fX1_sumBefore_X1_3_b43 u k6 v2 v3 v4 v6 = some res) : At X 7 0 0 (wC V q ts u) 43 [(0, .ref (q 1)), (1, .ref (q 123)), (2, .int v2), (3, .int v3), (4, .long v4), (6, .int v6)] [] := by
  obtain ⟨hX, hT, hF⟩ := id h
  unfold fX1_sumBefore_X1_3_b43 at hf
  refine a_iinc (v := v6 + 1) (lv' := [(6, .int (v6 + 1)), (0, .ref (q 1)), (1, .ref (q 123)), (2, .int v2), (3, .int v3), (4, .long v4)]) hX dX1_sumBefore_43 5 rfl rfl (by decide) rfl rfl ?_
  refine a_goto (pc' := 6) hX dX1_sumBefore_46 rfl ?_
  refine a_lv (lv' := [(0, .ref (q 1)), (1, .ref (q 123)), (2, .int v2), (3, .int v3), (4, .long v4), (6, .int (v6 + 1))]) [1, 2, 3, 4, 5, 0] rfl ?_
  exact hk6 v4 (v6 + 1) hf
def fX1_sumBefore_X1_3_l6b (u : St) (k6 : Int64 → Int32 → Option (Int64)) (v2 : Int32) (v3 : Int32) (v4 : Int64) (v6 : Int32) : Option (Int64) := if 5 ≤ v6 then some v4 else (cl1 (fX10_lead u v6 v2 (v3 - 1)) (fun x1 => if x1 = 0 then fX1_sumBefore_X1_3_b43 u k6 v2 v3 v4 v6 else (cl1 (fX11_place v6 (v3 - 1)) (fun x2 => ldL (gB u 23) 60 x2 (fun x3 => nmL (v4 + x3) (fun x4 => fX1_sumBefore_X1_3_b43 u k6 v2 v3 x4 v6))))))
theorem wX1_sumBefore_X1_3_l6b {X : Cx} {V : Vx} {q : Nat → Nat} {g : Nat → Nat} {ts : List Tx} {u : St} {res : Int64} (h : Run X cX1_sumBefore 7 RX1 rmX1_sumBefore_X1_3 V (some .long) (rEq (some (.long res)) (wC V q ts u))) (hE : EnvC V g) {v2 : Int32} {v3 : Int32} {v4 : Int64} {v6 : Int32} {k6 : Int64 → Int32 → Option (Int64)} (hk6 : ∀ (v4 : Int64) (v6 : Int32), k6 v4 v6 = some res → At X 7 0 0 (wC V q ts u) 6 [(0, .ref (q 1)), (1, .ref (q 123)), (2, .int v2), (3, .int v3), (4, .long v4), (6, .int v6)] []) (hf : fX1_sumBefore_X1_3_l6b u k6 v2 v3 v4 v6 = some res) : At X 7 0 0 (wC V q ts u) 6 [(0, .ref (q 1)), (1, .ref (q 123)), (2, .int v2), (3, .int v3), (4, .long v4), (6, .int v6)] [] := by
  obtain ⟨hX, hT, hF⟩ := id h
  unfold fX1_sumBefore_X1_3_l6b at hf
  refine a_iload hX dX1_sumBefore_6 5 rfl rfl ?_
  refine a_iconst (v := 5) hX dX1_sumBefore_8 (by decide) rfl ?_
  refine a_icmp_ge (tgt := 49) hX dX1_sumBefore_9 rfl rfl hf (fun hf => ?_) (fun hf => ?_)
  · refine a_lload hX dX1_sumBefore_49 4 rfl rfl ?_
    exact a_lret hX hT hF (r_l hf) dX1_sumBefore_51
  · refine a_aload_n hX dX1_sumBefore_12 rfl 0 rfl rfl ?_
    refine gX1_5 hX F_X1_28 dX1_sumBefore_13 rfl ?_
    refine a_iload hX dX1_sumBefore_16 5 rfl rfl ?_
    refine a_iload_n hX dX1_sumBefore_18 rfl 2 rfl rfl ?_
    refine a_iload_n hX dX1_sumBefore_19 rfl 3 rfl rfl ?_
    refine a_iconst (v := 1) hX dX1_sumBefore_20 (by decide) rfl ?_
    refine a_isub hX dX1_sumBefore_21 rfl ?_
    obtain ⟨x1, hg1, hf⟩ := cl1_some hf
    refine a_cVsi (q0 := 1) (rest := []) hX hE.1 (ctX10_lead (q := q) hE hg1) K_X1_64 ⟨rfl, rfl⟩ ⟨rfl, rfl, by decide, by decide⟩ ⟨Nat.zero_le _, Nat.zero_le _⟩ (Nat.le_of_ble_eq_true rfl) dX1_sumBefore_22 rfl rfl ?_
    refine a_if_eq (tgt := 43) hX dX1_sumBefore_25 rfl rfl hf (fun hf => ?_) (fun hf => ?_)
    · exact wX1_sumBefore_X1_3_b43 h hE hk6 hf
    · refine a_lload hX dX1_sumBefore_28 4 rfl rfl ?_
      refine a_aload_n hX dX1_sumBefore_30 rfl 1 rfl rfl ?_
      refine a_iload hX dX1_sumBefore_31 5 rfl rfl ?_
      refine a_iload_n hX dX1_sumBefore_33 rfl 3 rfl rfl ?_
      refine a_iconst (v := 1) hX dX1_sumBefore_34 (by decide) rfl ?_
      refine a_isub hX dX1_sumBefore_35 rfl ?_
      obtain ⟨x2, hg2, hf⟩ := cl1_some hf
      refine a_cNpi (rest := [.ref (q 123), .long v4]) hX hE.1 (ctX11_place hE.1 hg2) (e_nw hX hE (w := .methodLinkNest "VaseCourt$Chronicle" 42 yX11_place "VaseCourt") (List.mem_of_getElem? (i := 7) rfl)) LN_X11_place ⟨rfl, rfl, by decide, by decide⟩ ⟨Nat.zero_le _, Nat.zero_le _⟩ (Nat.le_of_ble_eq_true rfl) dX1_sumBefore_36 rfl rfl ?_
      refine lX1_3 hX dX1_sumBefore_39 rfl hf (fun x3 hf => ?_)
      refine a_ladd hX dX1_sumBefore_40 rfl ?_
      refine a_nmL hf (fun x4 hf => ?_)
      refine a_lstore (lv' := [(4, .long x4), (0, .ref (q 1)), (1, .ref (q 123)), (2, .int v2), (3, .int v3), (6, .int v6)]) hX dX1_sumBefore_41 (by decide) rfl rfl ?_
      refine a_lv (lv' := [(0, .ref (q 1)), (1, .ref (q 123)), (2, .int v2), (3, .int v3), (4, .long x4), (6, .int v6)]) [1, 2, 3, 4, 0, 5] rfl ?_
      exact wX1_sumBefore_X1_3_b43 h hE hk6 hf
def fX1_sumBefore_X1_3_l6 (u : St)  (v2 : Int32) (v3 : Int32) : Nat → Int64 → Int32 → Option (Int64)
  | 0, _, _ => none
  | m + 1, v4, v6 => fX1_sumBefore_X1_3_l6b u (fX1_sumBefore_X1_3_l6 u  v2 v3 m) v2 v3 v4 v6
theorem wX1_sumBefore_X1_3_l6 {X : Cx} {V : Vx} {q : Nat → Nat} {g : Nat → Nat} {ts : List Tx} {u : St} {res : Int64} (h : Run X cX1_sumBefore 7 RX1 rmX1_sumBefore_X1_3 V (some .long) (rEq (some (.long res)) (wC V q ts u))) (hE : EnvC V g) {v2 : Int32} {v3 : Int32} : ∀ (m : Nat) (v4 : Int64) (v6 : Int32), fX1_sumBefore_X1_3_l6 u  v2 v3 m v4 v6 = some res → At X 7 0 0 (wC V q ts u) 6 [(0, .ref (q 1)), (1, .ref (q 123)), (2, .int v2), (3, .int v3), (4, .long v4), (6, .int v6)] [] := by
  intro m
  induction m with
  | zero => intro v4 v6 hf; cases hf
  | succ m ih => intro v4 v6 hf; exact wX1_sumBefore_X1_3_l6b h hE ih hf
def fX1_sumBefore_X1_3 (u : St) (v2 : Int32) (v3 : Int32) : Option (Int64) := fX1_sumBefore_X1_3_l6 u v2 v3 NF 0 0
theorem wX1_sumBefore_X1_3 {X : Cx} {V : Vx} {q : Nat → Nat} {g : Nat → Nat} {ts : List Tx} {u : St} {res : Int64} (h : Run X cX1_sumBefore 7 RX1 rmX1_sumBefore_X1_3 V (some .long) (rEq (some (.long res)) (wC V q ts u))) (hE : EnvC V g) {v2 : Int32} {v3 : Int32} (hf : fX1_sumBefore_X1_3 u v2 v3 = some res) : At X 7 0 0 (wC V q ts u) 0 [(0, .ref (q 1)), (1, .ref (q 123)), (2, .int v2), (3, .int v3)] [] := by
  obtain ⟨hX, hT, hF⟩ := id h
  unfold fX1_sumBefore_X1_3 at hf
  refine a_lconst (v := 0) hX dX1_sumBefore_0 (by decide) rfl ?_
  refine a_lstore (lv' := [(4, .long 0), (0, .ref (q 1)), (1, .ref (q 123)), (2, .int v2), (3, .int v3)]) hX dX1_sumBefore_1 (by decide) rfl rfl ?_
  refine a_iconst (v := 0) hX dX1_sumBefore_3 (by decide) rfl ?_
  refine a_istore (lv' := [(6, .int 0), (4, .long 0), (0, .ref (q 1)), (1, .ref (q 123)), (2, .int v2), (3, .int v3)]) hX dX1_sumBefore_4 (by decide) rfl rfl ?_
  refine a_lv (lv' := [(0, .ref (q 1)), (1, .ref (q 123)), (2, .int v2), (3, .int v3), (4, .long 0), (6, .int 0)]) [2, 3, 4, 5, 1, 0] rfl ?_
  exact wX1_sumBefore_X1_3_l6 h hE NF 0 0 hf
theorem ctX1_sumBefore_X1_3 {V : Vx} {q : Nat → Nat} {u : St} {g : Nat → Nat} {ts : List Tx} {res : Int64} (hE : EnvC V g) {v2 : Int32} {v3 : Int32} (hf : fX1_sumBefore_X1_3 u v2 v3 = some res) : Ct V yX1_sumBefore (.code yX1_sumBefore cX1_sumBefore 7 (some .long)) rmX1_sumBefore_X1_3 0 0 [.ref (q 1), .ref (q 123), .int v2, .int v3] (wC V q ts u) (rEq (some (.long res)) (wC V q ts u)) :=
  Ct_of (by decide) (Nat.le_of_ble_eq_true rfl) rfl (fun X hX hT _ hF => wX1_sumBefore_X1_3 ⟨hX, hT, hF⟩ hE hf)
def rmX1_sumBehind_X1_3 : Room := { frames := 2, cells := 0, slots := 0, locals := 46 }
def fX1_sumBehind_X1_3_b41 (u : St) (k6 : Int64 → Int32 → Option (Int64)) (v2 : Int32) (v3 : Int32) (v4 : Int64) (v6 : Int32) : Option (Int64) := k6 v4 (v6 + 1)
theorem wX1_sumBehind_X1_3_b41 {X : Cx} {V : Vx} {q : Nat → Nat} {g : Nat → Nat} {ts : List Tx} {u : St} {res : Int64} (h : Run X cX1_sumBehind 7 RX1 rmX1_sumBehind_X1_3 V (some .long) (rEq (some (.long res)) (wC V q ts u))) (hE : EnvC V g) {v2 : Int32} {v3 : Int32} {v4 : Int64} {v6 : Int32} {k6 : Int64 → Int32 → Option (Int64)} (hk6 : ∀ (v4 : Int64) (v6 : Int32), k6 v4 v6 = some res → At X 7 0 0 (wC V q ts u) 6 [(0, .ref (q 1)), (1, .ref (q 123)), (2, .int v2), (3, .int v3), (4, .long v4), (6, .int v6)] []) (hf : fX1_sumBehind_X1_3_b41 u k6 v2 v3 v4 v6 = some res) : At X 7 0 0 (wC V q ts u) 41 [(0, .ref (q 1)), (1, .ref (q 123)), (2, .int v2), (3, .int v3), (4, .long v4), (6, .int v6)] [] := by
  obtain ⟨hX, hT, hF⟩ := id h
  unfold fX1_sumBehind_X1_3_b41 at hf
  refine a_iinc (v := v6 + 1) (lv' := [(6, .int (v6 + 1)), (0, .ref (q 1)), (1, .ref (q 123)), (2, .int v2), (3, .int v3), (4, .long v4)]) hX dX1_sumBehind_41 5 rfl rfl (by decide) rfl rfl ?_
  refine a_goto (pc' := 6) hX dX1_sumBehind_44 rfl ?_
  refine a_lv (lv' := [(0, .ref (q 1)), (1, .ref (q 123)), (2, .int v2), (3, .int v3), (4, .long v4), (6, .int (v6 + 1))]) [1, 2, 3, 4, 5, 0] rfl ?_
  exact hk6 v4 (v6 + 1) hf
def fX1_sumBehind_X1_3_l6b (u : St) (k6 : Int64 → Int32 → Option (Int64)) (v2 : Int32) (v3 : Int32) (v4 : Int64) (v6 : Int32) : Option (Int64) := if 5 ≤ v6 then some v4 else (cl1 (fX10_lead u v2 v6 v3) (fun x1 => if x1 = 0 then fX1_sumBehind_X1_3_b41 u k6 v2 v3 v4 v6 else (cl1 (fX11_place v6 (v3 + 1)) (fun x2 => ldL (gB u 23) 60 x2 (fun x3 => nmL (v4 + x3) (fun x4 => fX1_sumBehind_X1_3_b41 u k6 v2 v3 x4 v6))))))
theorem wX1_sumBehind_X1_3_l6b {X : Cx} {V : Vx} {q : Nat → Nat} {g : Nat → Nat} {ts : List Tx} {u : St} {res : Int64} (h : Run X cX1_sumBehind 7 RX1 rmX1_sumBehind_X1_3 V (some .long) (rEq (some (.long res)) (wC V q ts u))) (hE : EnvC V g) {v2 : Int32} {v3 : Int32} {v4 : Int64} {v6 : Int32} {k6 : Int64 → Int32 → Option (Int64)} (hk6 : ∀ (v4 : Int64) (v6 : Int32), k6 v4 v6 = some res → At X 7 0 0 (wC V q ts u) 6 [(0, .ref (q 1)), (1, .ref (q 123)), (2, .int v2), (3, .int v3), (4, .long v4), (6, .int v6)] []) (hf : fX1_sumBehind_X1_3_l6b u k6 v2 v3 v4 v6 = some res) : At X 7 0 0 (wC V q ts u) 6 [(0, .ref (q 1)), (1, .ref (q 123)), (2, .int v2), (3, .int v3), (4, .long v4), (6, .int v6)] [] := by
  obtain ⟨hX, hT, hF⟩ := id h
  unfold fX1_sumBehind_X1_3_l6b at hf
  refine a_iload hX dX1_sumBehind_6 5 rfl rfl ?_
  refine a_iconst (v := 5) hX dX1_sumBehind_8 (by decide) rfl ?_
  refine a_icmp_ge (tgt := 47) hX dX1_sumBehind_9 rfl rfl hf (fun hf => ?_) (fun hf => ?_)
  · refine a_lload hX dX1_sumBehind_47 4 rfl rfl ?_
    exact a_lret hX hT hF (r_l hf) dX1_sumBehind_49
  · refine a_aload_n hX dX1_sumBehind_12 rfl 0 rfl rfl ?_
    refine gX1_5 hX F_X1_28 dX1_sumBehind_13 rfl ?_
    refine a_iload_n hX dX1_sumBehind_16 rfl 2 rfl rfl ?_
    refine a_iload hX dX1_sumBehind_17 5 rfl rfl ?_
    refine a_iload_n hX dX1_sumBehind_19 rfl 3 rfl rfl ?_
    obtain ⟨x1, hg1, hf⟩ := cl1_some hf
    refine a_cVsi (q0 := 1) (rest := []) hX hE.1 (ctX10_lead (q := q) hE hg1) K_X1_64 ⟨rfl, rfl⟩ ⟨rfl, rfl, by decide, by decide⟩ ⟨Nat.zero_le _, Nat.zero_le _⟩ (Nat.le_of_ble_eq_true rfl) dX1_sumBehind_20 rfl rfl ?_
    refine a_if_eq (tgt := 41) hX dX1_sumBehind_23 rfl rfl hf (fun hf => ?_) (fun hf => ?_)
    · exact wX1_sumBehind_X1_3_b41 h hE hk6 hf
    · refine a_lload hX dX1_sumBehind_26 4 rfl rfl ?_
      refine a_aload_n hX dX1_sumBehind_28 rfl 1 rfl rfl ?_
      refine a_iload hX dX1_sumBehind_29 5 rfl rfl ?_
      refine a_iload_n hX dX1_sumBehind_31 rfl 3 rfl rfl ?_
      refine a_iconst (v := 1) hX dX1_sumBehind_32 (by decide) rfl ?_
      refine a_iadd hX dX1_sumBehind_33 rfl ?_
      obtain ⟨x2, hg2, hf⟩ := cl1_some hf
      refine a_cNpi (rest := [.ref (q 123), .long v4]) hX hE.1 (ctX11_place hE.1 hg2) (e_nw hX hE (w := .methodLinkNest "VaseCourt$Chronicle" 42 yX11_place "VaseCourt") (List.mem_of_getElem? (i := 7) rfl)) LN_X11_place ⟨rfl, rfl, by decide, by decide⟩ ⟨Nat.zero_le _, Nat.zero_le _⟩ (Nat.le_of_ble_eq_true rfl) dX1_sumBehind_34 rfl rfl ?_
      refine lX1_3 hX dX1_sumBehind_37 rfl hf (fun x3 hf => ?_)
      refine a_ladd hX dX1_sumBehind_38 rfl ?_
      refine a_nmL hf (fun x4 hf => ?_)
      refine a_lstore (lv' := [(4, .long x4), (0, .ref (q 1)), (1, .ref (q 123)), (2, .int v2), (3, .int v3), (6, .int v6)]) hX dX1_sumBehind_39 (by decide) rfl rfl ?_
      refine a_lv (lv' := [(0, .ref (q 1)), (1, .ref (q 123)), (2, .int v2), (3, .int v3), (4, .long x4), (6, .int v6)]) [1, 2, 3, 4, 0, 5] rfl ?_
      exact wX1_sumBehind_X1_3_b41 h hE hk6 hf
def fX1_sumBehind_X1_3_l6 (u : St)  (v2 : Int32) (v3 : Int32) : Nat → Int64 → Int32 → Option (Int64)
  | 0, _, _ => none
  | m + 1, v4, v6 => fX1_sumBehind_X1_3_l6b u (fX1_sumBehind_X1_3_l6 u  v2 v3 m) v2 v3 v4 v6
theorem wX1_sumBehind_X1_3_l6 {X : Cx} {V : Vx} {q : Nat → Nat} {g : Nat → Nat} {ts : List Tx} {u : St} {res : Int64} (h : Run X cX1_sumBehind 7 RX1 rmX1_sumBehind_X1_3 V (some .long) (rEq (some (.long res)) (wC V q ts u))) (hE : EnvC V g) {v2 : Int32} {v3 : Int32} : ∀ (m : Nat) (v4 : Int64) (v6 : Int32), fX1_sumBehind_X1_3_l6 u  v2 v3 m v4 v6 = some res → At X 7 0 0 (wC V q ts u) 6 [(0, .ref (q 1)), (1, .ref (q 123)), (2, .int v2), (3, .int v3), (4, .long v4), (6, .int v6)] [] := by
  intro m
  induction m with
  | zero => intro v4 v6 hf; cases hf
  | succ m ih => intro v4 v6 hf; exact wX1_sumBehind_X1_3_l6b h hE ih hf
def fX1_sumBehind_X1_3 (u : St) (v2 : Int32) (v3 : Int32) : Option (Int64) := fX1_sumBehind_X1_3_l6 u v2 v3 NF 0 0
theorem wX1_sumBehind_X1_3 {X : Cx} {V : Vx} {q : Nat → Nat} {g : Nat → Nat} {ts : List Tx} {u : St} {res : Int64} (h : Run X cX1_sumBehind 7 RX1 rmX1_sumBehind_X1_3 V (some .long) (rEq (some (.long res)) (wC V q ts u))) (hE : EnvC V g) {v2 : Int32} {v3 : Int32} (hf : fX1_sumBehind_X1_3 u v2 v3 = some res) : At X 7 0 0 (wC V q ts u) 0 [(0, .ref (q 1)), (1, .ref (q 123)), (2, .int v2), (3, .int v3)] [] := by
  obtain ⟨hX, hT, hF⟩ := id h
  unfold fX1_sumBehind_X1_3 at hf
  refine a_lconst (v := 0) hX dX1_sumBehind_0 (by decide) rfl ?_
  refine a_lstore (lv' := [(4, .long 0), (0, .ref (q 1)), (1, .ref (q 123)), (2, .int v2), (3, .int v3)]) hX dX1_sumBehind_1 (by decide) rfl rfl ?_
  refine a_iconst (v := 0) hX dX1_sumBehind_3 (by decide) rfl ?_
  refine a_istore (lv' := [(6, .int 0), (4, .long 0), (0, .ref (q 1)), (1, .ref (q 123)), (2, .int v2), (3, .int v3)]) hX dX1_sumBehind_4 (by decide) rfl rfl ?_
  refine a_lv (lv' := [(0, .ref (q 1)), (1, .ref (q 123)), (2, .int v2), (3, .int v3), (4, .long 0), (6, .int 0)]) [2, 3, 4, 5, 1, 0] rfl ?_
  exact wX1_sumBehind_X1_3_l6 h hE NF 0 0 hf
theorem ctX1_sumBehind_X1_3 {V : Vx} {q : Nat → Nat} {u : St} {g : Nat → Nat} {ts : List Tx} {res : Int64} (hE : EnvC V g) {v2 : Int32} {v3 : Int32} (hf : fX1_sumBehind_X1_3 u v2 v3 = some res) : Ct V yX1_sumBehind (.code yX1_sumBehind cX1_sumBehind 7 (some .long)) rmX1_sumBehind_X1_3 0 0 [.ref (q 1), .ref (q 123), .int v2, .int v3] (wC V q ts u) (rEq (some (.long res)) (wC V q ts u)) :=
  Ct_of (by decide) (Nat.le_of_ble_eq_true rfl) rfl (fun X hX hT _ hF => wX1_sumBehind_X1_3 ⟨hX, hT, hF⟩ hE hf)
