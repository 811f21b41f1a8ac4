def rmX1_countWith : Room := { frames := 3, cells := 0, slots := 0, locals := 72 }
def fX1_countWith_b85  (k26 : St → Int32 → Option (St)) (k38 : St → Int32 → Option (St)) (u : St) (v2 : Int32) (v3 : Int32) (v4 : Int32) (v5 : Int32) : Option (St) := k38 u (v5 + 1)
theorem wX1_countWith_b85 {X : Cx} {V : Vx} {q : Nat → Nat} {g : Nat → Nat} {ts : List Tx} {res : St} (h : Run X cX1_countWith 7 RX1 rmX1_countWith V none (rEq none (wC V q ts res))) (hE : EnvC V g) {u : St} {v2 : Int32} {v3 : Int32} {v4 : Int32} {v5 : Int32} {k26 : St → Int32 → Option (St)} (hk26 : ∀ (u : St) (v4 : Int32), k26 u v4 = some res → At X 7 0 0 (wC V q ts u) 26 [(0, .ref (q 1)), (2, .int v2), (3, .int v3), (4, .int v4)] []) {k38 : St → Int32 → Option (St)} (hk38 : ∀ (u : St) (v5 : Int32), k38 u v5 = some res → At X 7 0 0 (wC V q ts u) 38 [(0, .ref (q 1)), (2, .int v2), (3, .int v3), (4, .int v4), (5, .int v5)] []) (hf : fX1_countWith_b85  k26 k38 u v2 v3 v4 v5 = some res) : At X 7 0 0 (wC V q ts u) 85 [(0, .ref (q 1)), (2, .int v2), (3, .int v3), (4, .int v4), (5, .int v5)] [] := by
  obtain ⟨hX, hT, hF⟩ := id h
  unfold fX1_countWith_b85 at hf
  refine a_iinc (v := v5 + 1) (lv' := [(5, .int (v5 + 1)), (0, .ref (q 1)), (2, .int v2), (3, .int v3), (4, .int v4)]) hX dX1_countWith_85 4 rfl rfl (by decide) rfl rfl ?_
  refine a_goto (pc' := 38) hX dX1_countWith_88 rfl ?_
  refine a_lv (lv' := [(0, .ref (q 1)), (2, .int v2), (3, .int v3), (4, .int v4), (5, .int (v5 + 1))]) [1, 2, 3, 4, 0] rfl ?_
  exact hk38 u (v5 + 1) hf
def fX1_countWith_l38b  (k26 : St → Int32 → Option (St)) (k38 : St → Int32 → Option (St)) (u : St) (v2 : Int32) (v3 : Int32) (v4 : Int32) (v5 : Int32) : Option (St) := if 5 ≤ v5 then k26 u (v4 + 1) else (cl1 (fX11_place v5 v4) (fun x7 => ldL (gB u 22) 60 x7 (fun x8 => if x8 = 0 then fX1_countWith_b85 k26 k38 u v2 v3 v4 v5 else (cl1 (fX11_place v5 v4) (fun x9 => cl1 (fX1_sumBefore_X1_3 u v5 v4) (fun x10 => stL u 23 60 x9 x10 (fun u11 => fX1_countWith_b85 k26 k38 u11 v2 v3 v4 v5)))))))
theorem wX1_countWith_l38b {X : Cx} {V : Vx} {q : Nat → Nat} {g : Nat → Nat} {ts : List Tx} {res : St} (h : Run X cX1_countWith 7 RX1 rmX1_countWith V none (rEq none (wC V q ts res))) (hE : EnvC V g) {u : St} {v2 : Int32} {v3 : Int32} {v4 : Int32} {v5 : Int32} {k26 : St → Int32 → Option (St)} (hk26 : ∀ (u : St) (v4 : Int32), k26 u v4 = some res → At X 7 0 0 (wC V q ts u) 26 [(0, .ref (q 1)), (2, .int v2), (3, .int v3), (4, .int v4)] []) {k38 : St → Int32 → Option (St)} (hk38 : ∀ (u : St) (v5 : Int32), k38 u v5 = some res → At X 7 0 0 (wC V q ts u) 38 [(0, .ref (q 1)), (2, .int v2), (3, .int v3), (4, .int v4), (5, .int v5)] []) (hf : fX1_countWith_l38b  k26 k38 u v2 v3 v4 v5 = some res) : At X 7 0 0 (wC V q ts u) 38 [(0, .ref (q 1)), (2, .int v2), (3, .int v3), (4, .int v4), (5, .int v5)] [] := by
  obtain ⟨hX, hT, hF⟩ := id h
  unfold fX1_countWith_l38b at hf
  refine a_iload hX dX1_countWith_38 4 rfl rfl ?_
  refine a_iconst (v := 5) hX dX1_countWith_40 (by decide) rfl ?_
  refine a_icmp_ge (tgt := 91) hX dX1_countWith_41 rfl rfl hf (fun hf => ?_) (fun hf => ?_)
  · refine a_iinc (v := v4 + 1) (lv' := [(4, .int (v4 + 1)), (0, .ref (q 1)), (2, .int v2), (3, .int v3), (5, .int v5)]) hX dX1_countWith_91 3 rfl rfl (by decide) rfl rfl ?_
    refine a_goto (pc' := 26) hX dX1_countWith_94 rfl ?_
    refine a_lv (lv' := [(0, .ref (q 1)), (2, .int v2), (3, .int v3), (4, .int (v4 + 1))]) [1, 2, 3, 0] rfl ?_
    exact hk26 u (v4 + 1) hf
  · refine a_aload_n hX dX1_countWith_44 rfl 0 rfl rfl ?_
    refine gX1_2 hX F_X1_19 dX1_countWith_45 rfl ?_
    refine a_iload hX dX1_countWith_48 4 rfl rfl ?_
    refine a_iload hX dX1_countWith_50 3 rfl rfl ?_
    obtain ⟨x7, hg7, hf⟩ := cl1_some hf
    refine a_cNpi (rest := [.ref (q 122)]) hX hE.1 (ctX11_place hE.1 hg7) (e_nw hX hE (w := .methodLinkNest "VaseCourt$Chronicle" 42 yX11_place "VaseCourt") (List.mem_of_getElem? (i := 7) rfl)) LN_X11_place ⟨rfl, rfl, by decide, by decide⟩ ⟨Nat.zero_le _, Nat.zero_le _⟩ (Nat.le_of_ble_eq_true rfl) dX1_countWith_52 rfl rfl ?_
    refine lX1_2 hX dX1_countWith_55 rfl hf (fun x8 hf => ?_)
    refine a_lconst (v := 0) hX dX1_countWith_56 (by decide) rfl ?_
    refine a_lcmp_eq (tgt := 85) hX dX1_countWith_57 rfl dX1_countWith_58 rfl rfl hf (fun hf => ?_) (fun hf => ?_)
    · exact wX1_countWith_b85 h hE hk26 hk38 hf
    · refine a_aload_n hX dX1_countWith_61 rfl 0 rfl rfl ?_
      refine gX1_3 hX F_X1_22 dX1_countWith_62 rfl ?_
      refine a_iload hX dX1_countWith_65 4 rfl rfl ?_
      refine a_iload hX dX1_countWith_67 3 rfl rfl ?_
      obtain ⟨x9, hg9, hf⟩ := cl1_some hf
      refine a_cNpi (rest := [.ref (q 123)]) hX hE.1 (ctX11_place hE.1 hg9) (e_nw hX hE (w := .methodLinkNest "VaseCourt$Chronicle" 42 yX11_place "VaseCourt") (List.mem_of_getElem? (i := 7) rfl)) LN_X11_place ⟨rfl, rfl, by decide, by decide⟩ ⟨Nat.zero_le _, Nat.zero_le _⟩ (Nat.le_of_ble_eq_true rfl) dX1_countWith_69 rfl rfl ?_
      refine a_aload_n hX dX1_countWith_72 rfl 0 rfl rfl ?_
      refine a_aload_n hX dX1_countWith_73 rfl 0 rfl rfl ?_
      refine gX1_3 hX F_X1_22 dX1_countWith_74 rfl ?_
      refine a_iload hX dX1_countWith_77 4 rfl rfl ?_
      refine a_iload hX dX1_countWith_79 3 rfl rfl ?_
      obtain ⟨x10, hg10, hf⟩ := cl1_some hf
      refine a_cVsl (q0 := 3) (rest := [.int x9, .ref (q 123)]) hX hE.1 (ctX1_sumBefore_X1_3 (q := q) hE hg10) K_X1_57 ⟨rfl, rfl⟩ ⟨rfl, rfl, by decide, by decide⟩ ⟨Nat.zero_le _, Nat.zero_le _⟩ (Nat.le_of_ble_eq_true rfl) dX1_countWith_81 rfl rfl ?_
      refine sX1_3 hX dX1_countWith_84 rfl hf (fun u11 hf => ?_)
      exact wX1_countWith_b85 h hE hk26 hk38 hf
def fX1_countWith_l38  (k26 : St → Int32 → Option (St)) (v2 : Int32) (v3 : Int32) (v4 : Int32) : Nat → St → Int32 → Option (St)
  | 0, _, _ => none
  | m + 1, u, v5 => fX1_countWith_l38b  k26 (fX1_countWith_l38  k26 v2 v3 v4 m) u v2 v3 v4 v5
theorem wX1_countWith_l38 {X : Cx} {V : Vx} {q : Nat → Nat} {g : Nat → Nat} {ts : List Tx} {res : St} (h : Run X cX1_countWith 7 RX1 rmX1_countWith V none (rEq none (wC V q ts res))) (hE : EnvC V g) {v2 : Int32} {v3 : Int32} {v4 : Int32} {k26 : St → Int32 → Option (St)} (hk26 : ∀ (u : St) (v4 : Int32), k26 u v4 = some res → At X 7 0 0 (wC V q ts u) 26 [(0, .ref (q 1)), (2, .int v2), (3, .int v3), (4, .int v4)] []) : ∀ (m : Nat) (u : St) (v5 : Int32), fX1_countWith_l38  k26 v2 v3 v4 m u v5 = some res → At X 7 0 0 (wC V q ts u) 38 [(0, .ref (q 1)), (2, .int v2), (3, .int v3), (4, .int v4), (5, .int v5)] [] := by
  intro m
  induction m with
  | zero => intro u v5 hf; cases hf
  | succ m ih => intro u v5 hf; exact wX1_countWith_l38b h hE hk26 ih hf
def fX1_countWith_b157  (k102 : St → Int32 → Option (St)) (k110 : St → Int32 → Option (St)) (u : St) (v3 : Int32) (v4 : Int32) (v5 : Int32) : Option (St) := k110 u (v5 + 1)
theorem wX1_countWith_b157 {X : Cx} {V : Vx} {q : Nat → Nat} {g : Nat → Nat} {ts : List Tx} {res : St} (h : Run X cX1_countWith 7 RX1 rmX1_countWith V none (rEq none (wC V q ts res))) (hE : EnvC V g) {u : St} {v3 : Int32} {v4 : Int32} {v5 : Int32} {k102 : St → Int32 → Option (St)} (hk102 : ∀ (u : St) (v4 : Int32), k102 u v4 = some res → At X 7 0 0 (wC V q ts u) 102 [(0, .ref (q 1)), (3, .int v3), (4, .int v4)] []) {k110 : St → Int32 → Option (St)} (hk110 : ∀ (u : St) (v5 : Int32), k110 u v5 = some res → At X 7 0 0 (wC V q ts u) 110 [(0, .ref (q 1)), (3, .int v3), (4, .int v4), (5, .int v5)] []) (hf : fX1_countWith_b157  k102 k110 u v3 v4 v5 = some res) : At X 7 0 0 (wC V q ts u) 157 [(0, .ref (q 1)), (3, .int v3), (4, .int v4), (5, .int v5)] [] := by
  obtain ⟨hX, hT, hF⟩ := id h
  unfold fX1_countWith_b157 at hf
  refine a_iinc (v := v5 + 1) (lv' := [(5, .int (v5 + 1)), (0, .ref (q 1)), (3, .int v3), (4, .int v4)]) hX dX1_countWith_157 3 rfl rfl (by decide) rfl rfl ?_
  refine a_goto (pc' := 110) hX dX1_countWith_160 rfl ?_
  refine a_lv (lv' := [(0, .ref (q 1)), (3, .int v3), (4, .int v4), (5, .int (v5 + 1))]) [1, 2, 3, 0] rfl ?_
  exact hk110 u (v5 + 1) hf
def fX1_countWith_l110b  (k102 : St → Int32 → Option (St)) (k110 : St → Int32 → Option (St)) (u : St) (v3 : Int32) (v4 : Int32) (v5 : Int32) : Option (St) := if 5 ≤ v5 then k102 u (v4 + (-1)) else (cl1 (fX11_place v5 v4) (fun x12 => ldL (gB u 21) 60 x12 (fun x13 => if x13 = 0 then fX1_countWith_b157 k102 k110 u v3 v4 v5 else (cl1 (fX11_place v5 v4) (fun x14 => cl1 (fX1_sumBehind_X1_3 u v5 v4) (fun x15 => stL u 23 60 x14 x15 (fun u16 => fX1_countWith_b157 k102 k110 u16 v3 v4 v5)))))))
theorem wX1_countWith_l110b {X : Cx} {V : Vx} {q : Nat → Nat} {g : Nat → Nat} {ts : List Tx} {res : St} (h : Run X cX1_countWith 7 RX1 rmX1_countWith V none (rEq none (wC V q ts res))) (hE : EnvC V g) {u : St} {v3 : Int32} {v4 : Int32} {v5 : Int32} {k102 : St → Int32 → Option (St)} (hk102 : ∀ (u : St) (v4 : Int32), k102 u v4 = some res → At X 7 0 0 (wC V q ts u) 102 [(0, .ref (q 1)), (3, .int v3), (4, .int v4)] []) {k110 : St → Int32 → Option (St)} (hk110 : ∀ (u : St) (v5 : Int32), k110 u v5 = some res → At X 7 0 0 (wC V q ts u) 110 [(0, .ref (q 1)), (3, .int v3), (4, .int v4), (5, .int v5)] []) (hf : fX1_countWith_l110b  k102 k110 u v3 v4 v5 = some res) : At X 7 0 0 (wC V q ts u) 110 [(0, .ref (q 1)), (3, .int v3), (4, .int v4), (5, .int v5)] [] := by
  obtain ⟨hX, hT, hF⟩ := id h
  unfold fX1_countWith_l110b at hf
  refine a_iload hX dX1_countWith_110 3 rfl rfl ?_
  refine a_iconst (v := 5) hX dX1_countWith_112 (by decide) rfl ?_
  refine a_icmp_ge (tgt := 163) hX dX1_countWith_113 rfl rfl hf (fun hf => ?_) (fun hf => ?_)
  · refine a_iinc (v := v4 + (-1)) (lv' := [(4, .int (v4 + (-1))), (0, .ref (q 1)), (3, .int v3), (5, .int v5)]) hX dX1_countWith_163 2 rfl rfl (by decide) rfl rfl ?_
    refine a_goto (pc' := 102) hX dX1_countWith_166 rfl ?_
    refine a_lv (lv' := [(0, .ref (q 1)), (3, .int v3), (4, .int (v4 + (-1)))]) [1, 2, 0] rfl ?_
    exact hk102 u (v4 + (-1)) hf
  · refine a_aload_n hX dX1_countWith_116 rfl 0 rfl rfl ?_
    refine gX1_1 hX F_X1_15 dX1_countWith_117 rfl ?_
    refine a_iload hX dX1_countWith_120 3 rfl rfl ?_
    refine a_iload hX dX1_countWith_122 2 rfl rfl ?_
    obtain ⟨x12, hg12, hf⟩ := cl1_some hf
    refine a_cNpi (rest := [.ref (q 121)]) hX hE.1 (ctX11_place hE.1 hg12) (e_nw hX hE (w := .methodLinkNest "VaseCourt$Chronicle" 42 yX11_place "VaseCourt") (List.mem_of_getElem? (i := 7) rfl)) LN_X11_place ⟨rfl, rfl, by decide, by decide⟩ ⟨Nat.zero_le _, Nat.zero_le _⟩ (Nat.le_of_ble_eq_true rfl) dX1_countWith_124 rfl rfl ?_
    refine lX1_1 hX dX1_countWith_127 rfl hf (fun x13 hf => ?_)
    refine a_lconst (v := 0) hX dX1_countWith_128 (by decide) rfl ?_
    refine a_lcmp_eq (tgt := 157) hX dX1_countWith_129 rfl dX1_countWith_130 rfl rfl hf (fun hf => ?_) (fun hf => ?_)
    · exact wX1_countWith_b157 h hE hk102 hk110 hf
    · refine a_aload_n hX dX1_countWith_133 rfl 0 rfl rfl ?_
      refine gX1_3 hX F_X1_22 dX1_countWith_134 rfl ?_
      refine a_iload hX dX1_countWith_137 3 rfl rfl ?_
      refine a_iload hX dX1_countWith_139 2 rfl rfl ?_
      obtain ⟨x14, hg14, hf⟩ := cl1_some hf
      refine a_cNpi (rest := [.ref (q 123)]) hX hE.1 (ctX11_place hE.1 hg14) (e_nw hX hE (w := .methodLinkNest "VaseCourt$Chronicle" 42 yX11_place "VaseCourt") (List.mem_of_getElem? (i := 7) rfl)) LN_X11_place ⟨rfl, rfl, by decide, by decide⟩ ⟨Nat.zero_le _, Nat.zero_le _⟩ (Nat.le_of_ble_eq_true rfl) dX1_countWith_141 rfl rfl ?_
      refine a_aload_n hX dX1_countWith_144 rfl 0 rfl rfl ?_
      refine a_aload_n hX dX1_countWith_145 rfl 0 rfl rfl ?_
      refine gX1_3 hX F_X1_22 dX1_countWith_146 rfl ?_
      refine a_iload hX dX1_countWith_149 3 rfl rfl ?_
      refine a_iload hX dX1_countWith_151 2 rfl rfl ?_
      obtain ⟨x15, hg15, hf⟩ := cl1_some hf
      refine a_cVsl (q0 := 3) (rest := [.int x14, .ref (q 123)]) hX hE.1 (ctX1_sumBehind_X1_3 (q := q) hE hg15) K_X1_61 ⟨rfl, rfl⟩ ⟨rfl, rfl, by decide, by decide⟩ ⟨Nat.zero_le _, Nat.zero_le _⟩ (Nat.le_of_ble_eq_true rfl) dX1_countWith_153 rfl rfl ?_
      refine sX1_3 hX dX1_countWith_156 rfl hf (fun u16 hf => ?_)
      exact wX1_countWith_b157 h hE hk102 hk110 hf
def fX1_countWith_l110  (k102 : St → Int32 → Option (St)) (v3 : Int32) (v4 : Int32) : Nat → St → Int32 → Option (St)
  | 0, _, _ => none
  | m + 1, u, v5 => fX1_countWith_l110b  k102 (fX1_countWith_l110  k102 v3 v4 m) u v3 v4 v5
theorem wX1_countWith_l110 {X : Cx} {V : Vx} {q : Nat → Nat} {g : Nat → Nat} {ts : List Tx} {res : St} (h : Run X cX1_countWith 7 RX1 rmX1_countWith V none (rEq none (wC V q ts res))) (hE : EnvC V g) {v3 : Int32} {v4 : Int32} {k102 : St → Int32 → Option (St)} (hk102 : ∀ (u : St) (v4 : Int32), k102 u v4 = some res → At X 7 0 0 (wC V q ts u) 102 [(0, .ref (q 1)), (3, .int v3), (4, .int v4)] []) : ∀ (m : Nat) (u : St) (v5 : Int32), fX1_countWith_l110  k102 v3 v4 m u v5 = some res → At X 7 0 0 (wC V q ts u) 110 [(0, .ref (q 1)), (3, .int v3), (4, .int v4), (5, .int v5)] [] := by
  intro m
  induction m with
  | zero => intro u v5 hf; cases hf
  | succ m ih => intro u v5 hf; exact wX1_countWith_l110b h hE hk102 ih hf
def fX1_countWith_l172b  (k172 : St → Int32 → Option (St)) (u : St) (v3 : Int32) (v4 : Int32) : Option (St) := if (gZ u 24) * 5 ≤ v4 then some u else (nmI (jmin v3 v4) (fun x17 => nmI (jmax v3 v4) (fun x18 => ldL (gB u 23) 60 v4 (fun x19 => ldL (gB u 21) 60 x17 (fun x20 => ldL (gB u 22) 60 x18 (fun x21 => stL u 23 60 v4 (x19 * (x20 * x21)) (fun u22 => k172 u22 (v4 + 1))))))))
theorem wX1_countWith_l172b {X : Cx} {V : Vx} {q : Nat → Nat} {g : Nat → Nat} {ts : List Tx} {res : St} (h : Run X cX1_countWith 7 RX1 rmX1_countWith V none (rEq none (wC V q ts res))) (hE : EnvC V g) {u : St} {v3 : Int32} {v4 : Int32} {k172 : St → Int32 → Option (St)} (hk172 : ∀ (u : St) (v4 : Int32), k172 u v4 = some res → At X 7 0 0 (wC V q ts u) 172 [(0, .ref (q 1)), (3, .int v3), (4, .int v4)] []) (hf : fX1_countWith_l172b  k172 u v3 v4 = some res) : At X 7 0 0 (wC V q ts u) 172 [(0, .ref (q 1)), (3, .int v3), (4, .int v4)] [] := by
  obtain ⟨hX, hT, hF⟩ := id h
  unfold fX1_countWith_l172b at hf
  refine a_iload hX dX1_countWith_172 2 rfl rfl ?_
  refine a_aload_n hX dX1_countWith_174 rfl 0 rfl rfl ?_
  refine gX1_4 hX F_X1_25 dX1_countWith_175 rfl ?_
  refine a_iconst (v := 5) hX dX1_countWith_178 (by decide) rfl ?_
  refine a_imul hX dX1_countWith_179 rfl ?_
  refine a_icmp_ge (tgt := 230) hX dX1_countWith_180 rfl rfl hf (fun hf => ?_) (fun hf => ?_)
  · exact a_ret hX hT hF (r_vS (wf := (wC V q ts)) hf) dX1_countWith_230
  · refine a_iload_n hX dX1_countWith_183 rfl 1 rfl rfl ?_
    refine a_iload hX dX1_countWith_184 2 rfl rfl ?_
    refine a_jmin hX K_X1_80 (by decide) (Nat.le_of_ble_eq_true rfl) dX1_countWith_186 rfl ?_
    refine a_nmI hf (fun x17 hf => ?_)
    refine a_istore (lv' := [(5, .int x17), (0, .ref (q 1)), (3, .int v3), (4, .int v4)]) hX dX1_countWith_189 (by decide) rfl rfl ?_
    refine a_iload_n hX dX1_countWith_191 rfl 2 rfl rfl ?_
    refine a_iload hX dX1_countWith_192 3 rfl rfl ?_
    refine a_jmax hX K_X1_85 (by decide) (Nat.le_of_ble_eq_true rfl) dX1_countWith_194 rfl ?_
    refine a_nmI hf (fun x18 hf => ?_)
    refine a_istore (lv' := [(6, .int x18), (5, .int x17), (0, .ref (q 1)), (3, .int v3), (4, .int v4)]) hX dX1_countWith_197 (by decide) rfl rfl ?_
    refine a_aload_n hX dX1_countWith_199 rfl 2 rfl rfl ?_
    refine gX1_3 hX F_X1_22 dX1_countWith_200 rfl ?_
    refine a_iload hX dX1_countWith_203 4 rfl rfl ?_
    refine a_dup2 hX dX1_countWith_205 rfl rfl rfl ?_
    refine lX1_3 hX dX1_countWith_206 rfl hf (fun x19 hf => ?_)
    refine a_aload_n hX dX1_countWith_207 rfl 2 rfl rfl ?_
    refine gX1_1 hX F_X1_15 dX1_countWith_208 rfl ?_
    refine a_iload hX dX1_countWith_211 1 rfl rfl ?_
    refine lX1_1 hX dX1_countWith_213 rfl hf (fun x20 hf => ?_)
    refine a_aload_n hX dX1_countWith_214 rfl 2 rfl rfl ?_
    refine gX1_2 hX F_X1_19 dX1_countWith_215 rfl ?_
    refine a_iload hX dX1_countWith_218 0 rfl rfl ?_
    refine lX1_2 hX dX1_countWith_220 rfl hf (fun x21 hf => ?_)
    refine a_lmul hX dX1_countWith_221 rfl ?_
    refine a_lmul hX dX1_countWith_222 rfl ?_
    refine sX1_3 hX dX1_countWith_223 rfl hf (fun u22 hf => ?_)
    refine a_iinc (v := v4 + 1) (lv' := [(4, .int (v4 + 1)), (6, .int x18), (5, .int x17), (0, .ref (q 1)), (3, .int v3)]) hX dX1_countWith_224 4 rfl rfl (by decide) rfl rfl ?_
    refine a_goto (pc' := 172) hX dX1_countWith_227 rfl ?_
    refine a_lv (lv' := [(0, .ref (q 1)), (3, .int v3), (4, .int (v4 + 1))]) [3, 4, 0] rfl ?_
    exact hk172 u22 (v4 + 1) hf
def fX1_countWith_l172   (v3 : Int32) : Nat → St → Int32 → Option (St)
  | 0, _, _ => none
  | m + 1, u, v4 => fX1_countWith_l172b  (fX1_countWith_l172   v3 m) u v3 v4
theorem wX1_countWith_l172 {X : Cx} {V : Vx} {q : Nat → Nat} {g : Nat → Nat} {ts : List Tx} {res : St} (h : Run X cX1_countWith 7 RX1 rmX1_countWith V none (rEq none (wC V q ts res))) (hE : EnvC V g) {v3 : Int32} : ∀ (m : Nat) (u : St) (v4 : Int32), fX1_countWith_l172   v3 m u v4 = some res → At X 7 0 0 (wC V q ts u) 172 [(0, .ref (q 1)), (3, .int v3), (4, .int v4)] [] := by
  intro m
  induction m with
  | zero => intro u v4 hf; cases hf
  | succ m ih => intro u v4 hf; exact wX1_countWith_l172b h hE ih hf
def fX1_countWith_l102b  (k102 : St → Int32 → Option (St)) (u : St) (v3 : Int32) (v4 : Int32) : Option (St) := if v4 < 0 then fX1_countWith_l172 v3 NF u 0 else (fX1_countWith_l110 k102 v3 v4 NF u 0)
theorem wX1_countWith_l102b {X : Cx} {V : Vx} {q : Nat → Nat} {g : Nat → Nat} {ts : List Tx} {res : St} (h : Run X cX1_countWith 7 RX1 rmX1_countWith V none (rEq none (wC V q ts res))) (hE : EnvC V g) {u : St} {v3 : Int32} {v4 : Int32} {k102 : St → Int32 → Option (St)} (hk102 : ∀ (u : St) (v4 : Int32), k102 u v4 = some res → At X 7 0 0 (wC V q ts u) 102 [(0, .ref (q 1)), (3, .int v3), (4, .int v4)] []) (hf : fX1_countWith_l102b  k102 u v3 v4 = some res) : At X 7 0 0 (wC V q ts u) 102 [(0, .ref (q 1)), (3, .int v3), (4, .int v4)] [] := by
  obtain ⟨hX, hT, hF⟩ := id h
  unfold fX1_countWith_l102b at hf
  refine a_iload hX dX1_countWith_102 2 rfl rfl ?_
  refine a_if_lt (tgt := 169) hX dX1_countWith_104 rfl rfl hf (fun hf => ?_) (fun hf => ?_)
  · refine a_iconst (v := 0) hX dX1_countWith_169 (by decide) rfl ?_
    refine a_istore (lv' := [(4, .int 0), (0, .ref (q 1)), (3, .int v3)]) hX dX1_countWith_170 (by decide) rfl rfl ?_
    refine a_lv (lv' := [(0, .ref (q 1)), (3, .int v3), (4, .int 0)]) [1, 2, 0] rfl ?_
    exact wX1_countWith_l172 h hE NF u 0 hf
  · refine a_iconst (v := 0) hX dX1_countWith_107 (by decide) rfl ?_
    refine a_istore (lv' := [(5, .int 0), (0, .ref (q 1)), (3, .int v3), (4, .int v4)]) hX dX1_countWith_108 (by decide) rfl rfl ?_
    refine a_lv (lv' := [(0, .ref (q 1)), (3, .int v3), (4, .int v4), (5, .int 0)]) [1, 2, 3, 0] rfl ?_
    exact wX1_countWith_l110 h hE hk102 NF u 0 hf
def fX1_countWith_l102   (v3 : Int32) : Nat → St → Int32 → Option (St)
  | 0, _, _ => none
  | m + 1, u, v4 => fX1_countWith_l102b  (fX1_countWith_l102   v3 m) u v3 v4
theorem wX1_countWith_l102 {X : Cx} {V : Vx} {q : Nat → Nat} {g : Nat → Nat} {ts : List Tx} {res : St} (h : Run X cX1_countWith 7 RX1 rmX1_countWith V none (rEq none (wC V q ts res))) (hE : EnvC V g) {v3 : Int32} : ∀ (m : Nat) (u : St) (v4 : Int32), fX1_countWith_l102   v3 m u v4 = some res → At X 7 0 0 (wC V q ts u) 102 [(0, .ref (q 1)), (3, .int v3), (4, .int v4)] [] := by
  intro m
  induction m with
  | zero => intro u v4 hf; cases hf
  | succ m ih => intro u v4 hf; exact wX1_countWith_l102b h hE ih hf
def fX1_countWith_l26b  (k26 : St → Int32 → Option (St)) (u : St) (v2 : Int32) (v3 : Int32) (v4 : Int32) : Option (St) := if gZ u 24 ≤ v4 then nmI (v2 - 1) (fun x6 => fX1_countWith_l102 v3 NF u x6) else (fX1_countWith_l38 k26 v2 v3 v4 NF u 0)
theorem wX1_countWith_l26b {X : Cx} {V : Vx} {q : Nat → Nat} {g : Nat → Nat} {ts : List Tx} {res : St} (h : Run X cX1_countWith 7 RX1 rmX1_countWith V none (rEq none (wC V q ts res))) (hE : EnvC V g) {u : St} {v2 : Int32} {v3 : Int32} {v4 : Int32} {k26 : St → Int32 → Option (St)} (hk26 : ∀ (u : St) (v4 : Int32), k26 u v4 = some res → At X 7 0 0 (wC V q ts u) 26 [(0, .ref (q 1)), (2, .int v2), (3, .int v3), (4, .int v4)] []) (hf : fX1_countWith_l26b  k26 u v2 v3 v4 = some res) : At X 7 0 0 (wC V q ts u) 26 [(0, .ref (q 1)), (2, .int v2), (3, .int v3), (4, .int v4)] [] := by
  obtain ⟨hX, hT, hF⟩ := id h
  unfold fX1_countWith_l26b at hf
  refine a_iload hX dX1_countWith_26 3 rfl rfl ?_
  refine a_aload_n hX dX1_countWith_28 rfl 0 rfl rfl ?_
  refine gX1_4 hX F_X1_25 dX1_countWith_29 rfl ?_
  refine a_icmp_ge (tgt := 97) hX dX1_countWith_32 rfl rfl hf (fun hf => ?_) (fun hf => ?_)
  · refine a_iload_n hX dX1_countWith_97 rfl 1 rfl rfl ?_
    refine a_iconst (v := 1) hX dX1_countWith_98 (by decide) rfl ?_
    refine a_isub hX dX1_countWith_99 rfl ?_
    refine a_nmI hf (fun x6 hf => ?_)
    refine a_istore (lv' := [(4, .int x6), (0, .ref (q 1)), (2, .int v2), (3, .int v3)]) hX dX1_countWith_100 (by decide) rfl rfl ?_
    refine a_lv (lv' := [(0, .ref (q 1)), (3, .int v3), (4, .int x6)]) [1, 3, 0] rfl ?_
    exact wX1_countWith_l102 h hE NF u x6 hf
  · refine a_iconst (v := 0) hX dX1_countWith_35 (by decide) rfl ?_
    refine a_istore (lv' := [(5, .int 0), (0, .ref (q 1)), (2, .int v2), (3, .int v3), (4, .int v4)]) hX dX1_countWith_36 (by decide) rfl rfl ?_
    refine a_lv (lv' := [(0, .ref (q 1)), (2, .int v2), (3, .int v3), (4, .int v4), (5, .int 0)]) [1, 2, 3, 4, 0] rfl ?_
    exact wX1_countWith_l38 h hE hk26 NF u 0 hf
def fX1_countWith_l26   (v2 : Int32) (v3 : Int32) : Nat → St → Int32 → Option (St)
  | 0, _, _ => none
  | m + 1, u, v4 => fX1_countWith_l26b  (fX1_countWith_l26   v2 v3 m) u v2 v3 v4
theorem wX1_countWith_l26 {X : Cx} {V : Vx} {q : Nat → Nat} {g : Nat → Nat} {ts : List Tx} {res : St} (h : Run X cX1_countWith 7 RX1 rmX1_countWith V none (rEq none (wC V q ts res))) (hE : EnvC V g) {v2 : Int32} {v3 : Int32} : ∀ (m : Nat) (u : St) (v4 : Int32), fX1_countWith_l26   v2 v3 m u v4 = some res → At X 7 0 0 (wC V q ts u) 26 [(0, .ref (q 1)), (2, .int v2), (3, .int v3), (4, .int v4)] [] := by
  intro m
  induction m with
  | zero => intro u v4 hf; cases hf
  | succ m ih => intro u v4 hf; exact wX1_countWith_l26b h hE ih hf
def fX1_countWith (u : St) (v1 : Int32) (v2 : Int32) : Option (St) := cl1 (fX11_place v1 v2) (fun x1 => cl1 (fJ7_fill_d0a16_X1_3 u 0) (fun u3 => stL u3 23 60 x1 1 (fun u4 => nmI (v2 + 1) (fun x5 => fX1_countWith_l26 v2 x1 NF u4 x5))))
theorem wX1_countWith {X : Cx} {V : Vx} {q : Nat → Nat} {g : Nat → Nat} {ts : List Tx} {res : St} (h : Run X cX1_countWith 7 RX1 rmX1_countWith V none (rEq none (wC V q ts res))) (hE : EnvC V g) {u : St} {v1 : Int32} {v2 : Int32} (hf : fX1_countWith u v1 v2 = some res) : At X 7 0 0 (wC V q ts u) 0 [(0, .ref (q 1)), (1, .int v1), (2, .int v2)] [] := by
  obtain ⟨hX, hT, hF⟩ := id h
  unfold fX1_countWith at hf
  refine a_iload_n hX dX1_countWith_0 rfl 1 rfl rfl ?_
  refine a_iload_n hX dX1_countWith_1 rfl 2 rfl rfl ?_
  obtain ⟨x1, hg1, hf⟩ := cl1_some hf
  refine a_cNpi (rest := []) hX hE.1 (ctX11_place hE.1 hg1) (e_nw hX hE (w := .methodLinkNest "VaseCourt$Chronicle" 42 yX11_place "VaseCourt") (List.mem_of_getElem? (i := 7) rfl)) LN_X11_place ⟨rfl, rfl, by decide, by decide⟩ ⟨Nat.zero_le _, Nat.zero_le _⟩ (Nat.le_of_ble_eq_true rfl) dX1_countWith_2 rfl rfl ?_
  refine a_istore_n (lv' := [(3, .int x1), (0, .ref (q 1)), (1, .int v1), (2, .int v2)]) hX dX1_countWith_5 rfl (by decide) rfl rfl ?_
  refine a_aload_n hX dX1_countWith_6 rfl 1 rfl rfl ?_
  refine gX1_3 hX F_X1_22 dX1_countWith_7 rfl ?_
  refine a_lconst (v := 0) hX dX1_countWith_10 (by decide) rfl ?_
  obtain ⟨u3, hg2, hf⟩ := cl1_some hf
  refine a_cSsv (rest := []) hX hE.1 (ctJ7_fill_d0a16_X1_3 (q := q) hE hg2) K_X1_74 ⟨rfl, rfl, by decide, by decide⟩ ⟨Nat.zero_le _, Nat.zero_le _⟩ (Nat.le_of_ble_eq_true rfl) dX1_countWith_11 rfl rfl ?_
  refine a_aload_n hX dX1_countWith_14 rfl 1 rfl rfl ?_
  refine gX1_3 hX F_X1_22 dX1_countWith_15 rfl ?_
  refine a_iload_n hX dX1_countWith_18 rfl 0 rfl rfl ?_
  refine a_lconst (v := 1) hX dX1_countWith_19 (by decide) rfl ?_
  refine sX1_3 hX dX1_countWith_20 rfl hf (fun u4 hf => ?_)
  refine a_iload_n hX dX1_countWith_21 rfl 3 rfl rfl ?_
  refine a_iconst (v := 1) hX dX1_countWith_22 (by decide) rfl ?_
  refine a_iadd hX dX1_countWith_23 rfl ?_
  refine a_nmI hf (fun x5 hf => ?_)
  refine a_istore (lv' := [(4, .int x5), (3, .int x1), (0, .ref (q 1)), (1, .int v1), (2, .int v2)]) hX dX1_countWith_24 (by decide) rfl rfl ?_
  refine a_lv (lv' := [(0, .ref (q 1)), (2, .int v2), (3, .int x1), (4, .int x5)]) [2, 4, 1, 0] rfl ?_
  exact wX1_countWith_l26 h hE NF u4 x5 hf
theorem ctX1_countWith {V : Vx} {q : Nat → Nat} {u : St} {g : Nat → Nat} {ts : List Tx} {res : St} (hE : EnvC V g) {v1 : Int32} {v2 : Int32} (hf : fX1_countWith u v1 v2 = some res) : Ct V yX1_countWith (.code yX1_countWith cX1_countWith 7 none) rmX1_countWith 0 0 [.ref (q 1), .int v1, .int v2] (wC V q ts u) (rEq none (wC V q ts res)) :=
  Ct_of (by decide) (Nat.le_of_ble_eq_true rfl) rfl (fun X hX hT _ hF => wX1_countWith ⟨hX, hT, hF⟩ hE hf)
def rmX1_goingTo : Room := { frames := 2, cells := 0, slots := 0, locals := 46 }
def fX1_goingTo (u : St) (v1 : Int32) (v2 : Int32) (v3 : Int32) : Option (Int64) := if v2 = 0 then cl1 (fX11_place v1 0) (fun x4 => cl1 (fX1_through u x4) (fun x5 => some x5)) else (if v3 = (-1) then some 0 else (cl1 (fX10_lead u v3 v1 (v2 - 1)) (fun x1 => if x1 = 0 then some 0 else (cl1 (fX11_place v1 v2) (fun x2 => ldL (gB u 22) 60 x2 (fun x3 => some x3))))))
theorem wX1_goingTo {X : Cx} {V : Vx} {q : Nat → Nat} {g : Nat → Nat} {ts : List Tx} {u : St} {res : Int64} (h : Run X cX1_goingTo 4 RX1 rmX1_goingTo V (some .long) (rEq (some (.long res)) (wC V q ts u))) (hE : EnvC V g) {v1 : Int32} {v2 : Int32} {v3 : Int32} (hf : fX1_goingTo u v1 v2 v3 = some res) : At X 4 0 0 (wC V q ts u) 0 [(0, .ref (q 1)), (1, .int v1), (2, .int v2), (3, .int v3)] [] := by
  obtain ⟨hX, hT, hF⟩ := id h
  unfold fX1_goingTo at hf
  refine a_iload_n hX dX1_goingTo_0 rfl 2 rfl rfl ?_
  refine a_if_ne (tgt := 14) hX dX1_goingTo_1 rfl rfl hf (fun hf => ?_) (fun hf => ?_)
  · refine a_iload_n hX dX1_goingTo_14 rfl 3 rfl rfl ?_
    refine a_iconst (v := (-1)) hX dX1_goingTo_15 (by decide) rfl ?_
    refine a_icmp_eq (tgt := 34) hX dX1_goingTo_16 rfl rfl hf (fun hf => ?_) (fun hf => ?_)
    · refine a_lconst (v := 0) hX dX1_goingTo_34 (by decide) rfl ?_
      exact a_lret hX hT hF (r_l hf) dX1_goingTo_35
    · refine a_aload_n hX dX1_goingTo_19 rfl 0 rfl rfl ?_
      refine gX1_5 hX F_X1_28 dX1_goingTo_20 rfl ?_
      refine a_iload_n hX dX1_goingTo_23 rfl 3 rfl rfl ?_
      refine a_iload_n hX dX1_goingTo_24 rfl 1 rfl rfl ?_
      refine a_iload_n hX dX1_goingTo_25 rfl 2 rfl rfl ?_
      refine a_iconst (v := 1) hX dX1_goingTo_26 (by decide) rfl ?_
      refine a_isub hX dX1_goingTo_27 rfl ?_
      obtain ⟨x1, hg1, hf⟩ := cl1_some hf
      refine a_cVsi (q0 := 1) (rest := []) hX hE.1 (ctX10_lead (q := q) hE hg1) K_X1_64 ⟨rfl, rfl⟩ ⟨rfl, rfl, by decide, by decide⟩ ⟨Nat.zero_le _, Nat.zero_le _⟩ (Nat.le_of_ble_eq_true rfl) dX1_goingTo_28 rfl rfl ?_
      refine a_if_ne (tgt := 36) hX dX1_goingTo_31 rfl rfl hf (fun hf => ?_) (fun hf => ?_)
      · refine a_aload_n hX dX1_goingTo_36 rfl 0 rfl rfl ?_
        refine gX1_2 hX F_X1_19 dX1_goingTo_37 rfl ?_
        refine a_iload_n hX dX1_goingTo_40 rfl 1 rfl rfl ?_
        refine a_iload_n hX dX1_goingTo_41 rfl 2 rfl rfl ?_
        obtain ⟨x2, hg2, hf⟩ := cl1_some hf
        refine a_cNpi (rest := [.ref (q 122)]) hX hE.1 (ctX11_place hE.1 hg2) (e_nw hX hE (w := .methodLinkNest "VaseCourt$Chronicle" 42 yX11_place "VaseCourt") (List.mem_of_getElem? (i := 7) rfl)) LN_X11_place ⟨rfl, rfl, by decide, by decide⟩ ⟨Nat.zero_le _, Nat.zero_le _⟩ (Nat.le_of_ble_eq_true rfl) dX1_goingTo_42 rfl rfl ?_
        refine lX1_2 hX dX1_goingTo_45 rfl hf (fun x3 hf => ?_)
        exact a_lret hX hT hF (r_l hf) dX1_goingTo_46
      · refine a_lconst (v := 0) hX dX1_goingTo_34 (by decide) rfl ?_
        exact a_lret hX hT hF (r_l hf) dX1_goingTo_35
  · refine a_aload_n hX dX1_goingTo_4 rfl 0 rfl rfl ?_
    refine a_iload_n hX dX1_goingTo_5 rfl 1 rfl rfl ?_
    refine a_iconst (v := 0) hX dX1_goingTo_6 (by decide) rfl ?_
    obtain ⟨x4, hg4, hf⟩ := cl1_some hf
    refine a_cNpi (rest := [.ref (q 1)]) hX hE.1 (ctX11_place hE.1 hg4) (e_nw hX hE (w := .methodLinkNest "VaseCourt$Chronicle" 42 yX11_place "VaseCourt") (List.mem_of_getElem? (i := 7) rfl)) LN_X11_place ⟨rfl, rfl, by decide, by decide⟩ ⟨Nat.zero_le _, Nat.zero_le _⟩ (Nat.le_of_ble_eq_true rfl) dX1_goingTo_7 rfl rfl ?_
    obtain ⟨x5, hg5, hf⟩ := cl1_some hf
    refine a_cVsl (q0 := 3) (rest := []) hX hE.1 (ctX1_through (q := q) hE hg5) K_X1_70 ⟨rfl, rfl⟩ ⟨rfl, rfl, by decide, by decide⟩ ⟨Nat.zero_le _, Nat.zero_le _⟩ (Nat.le_of_ble_eq_true rfl) dX1_goingTo_10 rfl rfl ?_
    exact a_lret hX hT hF (r_l hf) dX1_goingTo_13
theorem ctX1_goingTo {V : Vx} {q : Nat → Nat} {u : St} {g : Nat → Nat} {ts : List Tx} {res : Int64} (hE : EnvC V g) {v1 : Int32} {v2 : Int32} {v3 : Int32} (hf : fX1_goingTo u v1 v2 v3 = some res) : Ct V yX1_goingTo (.code yX1_goingTo cX1_goingTo 4 (some .long)) rmX1_goingTo 0 0 [.ref (q 1), .int v1, .int v2, .int v3] (wC V q ts u) (rEq (some (.long res)) (wC V q ts u)) :=
  Ct_of (by decide) (Nat.le_of_ble_eq_true rfl) rfl (fun X hX hT _ hF => wX1_goingTo ⟨hX, hT, hF⟩ hE hf)
def rmX1_landOf : Room := { frames := 3, cells := 0, slots := 0, locals := 69 }
def fX1_landOf_b68 (u : St) (k9 : Int64 → Int32 → Int32 → Option (Int32)) (k25 : Int64 → Int32 → Int32 → Option (Int32)) (v2 : Int32) (v3 : Int64) (v5 : Int32) (v6 : Int32) (v7 : Int32) (v8 : Int32) : Option (Int32) := k25 v3 v5 (v8 + 1)
theorem wX1_landOf_b68 {X : Cx} {V : Vx} {q : Nat → Nat} {g : Nat → Nat} {ts : List Tx} {u : St} {res : Int32} (h : Run X cX1_landOf 11 RX1 rmX1_landOf V (some .int) (rEq (some (.int res)) (wC V q ts u))) (hE : EnvC V g) {v2 : Int32} {v3 : Int64} {v5 : Int32} {v6 : Int32} {v7 : Int32} {v8 : Int32} {k9 : Int64 → Int32 → Int32 → Option (Int32)} (hk9 : ∀ (v3 : Int64) (v5 : Int32) (v6 : Int32), k9 v3 v5 v6 = some res → At X 11 0 0 (wC V q ts u) 9 [(0, .ref (q 1)), (2, .int v2), (3, .long v3), (5, .int v5), (6, .int v6)] []) {k25 : Int64 → Int32 → Int32 → Option (Int32)} (hk25 : ∀ (v3 : Int64) (v5 : Int32) (v8 : Int32), k25 v3 v5 v8 = some res → At X 11 0 0 (wC V q ts u) 25 [(0, .ref (q 1)), (2, .int v2), (3, .long v3), (5, .int v5), (6, .int v6), (7, .int v7), (8, .int v8)] []) (hf : fX1_landOf_b68 u k9 k25 v2 v3 v5 v6 v7 v8 = some res) : At X 11 0 0 (wC V q ts u) 68 [(0, .ref (q 1)), (2, .int v2), (3, .long v3), (5, .int v5), (6, .int v6), (7, .int v7), (8, .int v8)] [] := by
  obtain ⟨hX, hT, hF⟩ := id h
  unfold fX1_landOf_b68 at hf
  refine a_iinc (v := v8 + 1) (lv' := [(8, .int (v8 + 1)), (0, .ref (q 1)), (2, .int v2), (3, .long v3), (5, .int v5), (6, .int v6), (7, .int v7)]) hX dX1_landOf_68 6 rfl rfl (by decide) rfl rfl ?_
  refine a_goto (pc' := 25) hX dX1_landOf_71 rfl ?_
  refine a_lv (lv' := [(0, .ref (q 1)), (2, .int v2), (3, .long v3), (5, .int v5), (6, .int v6), (7, .int v7), (8, .int (v8 + 1))]) [1, 2, 3, 4, 5, 6, 0] rfl ?_
  exact hk25 v3 v5 (v8 + 1) hf
def fX1_landOf_b74 (u : St) (k9 : Int64 → Int32 → Int32 → Option (Int32)) (v2 : Int32) (v3 : Int64) (v5 : Int32) (v6 : Int32) : Option (Int32) := k9 v3 v5 (v6 + 1)
theorem wX1_landOf_b74 {X : Cx} {V : Vx} {q : Nat → Nat} {g : Nat → Nat} {ts : List Tx} {u : St} {res : Int32} (h : Run X cX1_landOf 11 RX1 rmX1_landOf V (some .int) (rEq (some (.int res)) (wC V q ts u))) (hE : EnvC V g) {v2 : Int32} {v3 : Int64} {v5 : Int32} {v6 : Int32} {k9 : Int64 → Int32 → Int32 → Option (Int32)} (hk9 : ∀ (v3 : Int64) (v5 : Int32) (v6 : Int32), k9 v3 v5 v6 = some res → At X 11 0 0 (wC V q ts u) 9 [(0, .ref (q 1)), (2, .int v2), (3, .long v3), (5, .int v5), (6, .int v6)] []) (hf : fX1_landOf_b74 u k9 v2 v3 v5 v6 = some res) : At X 11 0 0 (wC V q ts u) 74 [(0, .ref (q 1)), (2, .int v2), (3, .long v3), (5, .int v5), (6, .int v6)] [] := by
  obtain ⟨hX, hT, hF⟩ := id h
  unfold fX1_landOf_b74 at hf
  refine a_iinc (v := v6 + 1) (lv' := [(6, .int (v6 + 1)), (0, .ref (q 1)), (2, .int v2), (3, .long v3), (5, .int v5)]) hX dX1_landOf_74 4 rfl rfl (by decide) rfl rfl ?_
  refine a_goto (pc' := 9) hX dX1_landOf_77 rfl ?_
  refine a_lv (lv' := [(0, .ref (q 1)), (2, .int v2), (3, .long v3), (5, .int v5), (6, .int (v6 + 1))]) [1, 2, 3, 4, 0] rfl ?_
  exact hk9 v3 v5 (v6 + 1) hf
def fX1_landOf_l25b (u : St) (k9 : Int64 → Int32 → Int32 → Option (Int32)) (k25 : Int64 → Int32 → Int32 → Option (Int32)) (v2 : Int32) (v3 : Int64) (v5 : Int32) (v6 : Int32) (v7 : Int32) (v8 : Int32) : Option (Int32) := if 5 ≤ v8 then fX1_landOf_b74 u k9 v2 v3 v5 v6 else (if v5 = (-1) then cl1 (fX1_goingTo u v8 v6 v7) (fun x2 => if x2 ≤ v3 then nmL (v3 - x2) (fun x3 => fX1_landOf_b68 u k9 k25 v2 x3 v5 v6 v7 v8) else (fX1_landOf_b68 u k9 k25 v2 v3 v8 v6 v7 v8)) else (fX1_landOf_b74 u k9 v2 v3 v5 v6))
theorem wX1_landOf_l25b {X : Cx} {V : Vx} {q : Nat → Nat} {g : Nat → Nat} {ts : List Tx} {u : St} {res : Int32} (h : Run X cX1_landOf 11 RX1 rmX1_landOf V (some .int) (rEq (some (.int res)) (wC V q ts u))) (hE : EnvC V g) {v2 : Int32} {v3 : Int64} {v5 : Int32} {v6 : Int32} {v7 : Int32} {v8 : Int32} {k9 : Int64 → Int32 → Int32 → Option (Int32)} (hk9 : ∀ (v3 : Int64) (v5 : Int32) (v6 : Int32), k9 v3 v5 v6 = some res → At X 11 0 0 (wC V q ts u) 9 [(0, .ref (q 1)), (2, .int v2), (3, .long v3), (5, .int v5), (6, .int v6)] []) {k25 : Int64 → Int32 → Int32 → Option (Int32)} (hk25 : ∀ (v3 : Int64) (v5 : Int32) (v8 : Int32), k25 v3 v5 v8 = some res → At X 11 0 0 (wC V q ts u) 25 [(0, .ref (q 1)), (2, .int v2), (3, .long v3), (5, .int v5), (6, .int v6), (7, .int v7), (8, .int v8)] []) (hf : fX1_landOf_l25b u k9 k25 v2 v3 v5 v6 v7 v8 = some res) : At X 11 0 0 (wC V q ts u) 25 [(0, .ref (q 1)), (2, .int v2), (3, .long v3), (5, .int v5), (6, .int v6), (7, .int v7), (8, .int v8)] [] := by
  obtain ⟨hX, hT, hF⟩ := id h
  unfold fX1_landOf_l25b at hf
  refine a_iload hX dX1_landOf_25 6 rfl rfl ?_
  refine a_iconst (v := 5) hX dX1_landOf_27 (by decide) rfl ?_
  refine a_icmp_ge (tgt := 74) hX dX1_landOf_28 rfl rfl hf (fun hf => ?_) (fun hf => ?_)
  · refine a_lv (lv' := [(0, .ref (q 1)), (2, .int v2), (3, .long v3), (5, .int v5), (6, .int v6)]) [0, 1, 2, 3, 4] rfl ?_
    exact wX1_landOf_b74 h hE hk9 hf
  · refine a_iload hX dX1_landOf_31 3 rfl rfl ?_
    refine a_iconst (v := (-1)) hX dX1_landOf_33 (by decide) rfl ?_
    refine a_icmp_ne (tgt := 74) hX dX1_landOf_34 rfl rfl hf (fun hf => ?_) (fun hf => ?_)
    · refine a_lv (lv' := [(0, .ref (q 1)), (2, .int v2), (3, .long v3), (5, .int v5), (6, .int v6)]) [0, 1, 2, 3, 4] rfl ?_
      exact wX1_landOf_b74 h hE hk9 hf
    · refine a_aload_n hX dX1_landOf_37 rfl 0 rfl rfl ?_
      refine a_iload hX dX1_landOf_38 6 rfl rfl ?_
      refine a_iload hX dX1_landOf_40 4 rfl rfl ?_
      refine a_iload hX dX1_landOf_42 5 rfl rfl ?_
      obtain ⟨x2, hg2, hf⟩ := cl1_some hf
      refine a_cVsl (q0 := 3) (rest := []) hX hE.1 (ctX1_goingTo (q := q) hE hg2) K_X1_88 ⟨rfl, rfl⟩ ⟨rfl, rfl, by decide, by decide⟩ ⟨Nat.zero_le _, Nat.zero_le _⟩ (Nat.le_of_ble_eq_true rfl) dX1_landOf_44 rfl rfl ?_
      refine a_lstore (lv' := [(9, .long x2), (0, .ref (q 1)), (2, .int v2), (3, .long v3), (5, .int v5), (6, .int v6), (7, .int v7), (8, .int v8)]) hX dX1_landOf_47 (by decide) rfl rfl ?_
      refine a_lload_n hX dX1_landOf_49 rfl 3 rfl rfl ?_
      refine a_lload hX dX1_landOf_50 0 rfl rfl ?_
      refine a_lcmp_ge (tgt := 63) hX dX1_landOf_52 rfl dX1_landOf_53 rfl rfl hf (fun hf => ?_) (fun hf => ?_)
      · refine a_lload_n hX dX1_landOf_63 rfl 3 rfl rfl ?_
        refine a_lload hX dX1_landOf_64 0 rfl rfl ?_
        refine a_lsub hX dX1_landOf_66 rfl ?_
        refine a_nmL hf (fun x3 hf => ?_)
        refine a_lstore_n (lv' := [(3, .long x3), (9, .long x2), (0, .ref (q 1)), (2, .int v2), (5, .int v5), (6, .int v6), (7, .int v7), (8, .int v8)]) hX dX1_landOf_67 rfl (by decide) rfl rfl ?_
        refine a_lv (lv' := [(0, .ref (q 1)), (2, .int v2), (3, .long x3), (5, .int v5), (6, .int v6), (7, .int v7), (8, .int v8)]) [2, 3, 0, 4, 5, 6, 7] rfl ?_
        exact wX1_landOf_b68 h hE hk9 hk25 hf
      · refine a_iload hX dX1_landOf_56 7 rfl rfl ?_
        refine a_istore (lv' := [(5, .int v8), (9, .long x2), (0, .ref (q 1)), (2, .int v2), (3, .long v3), (6, .int v6), (7, .int v7), (8, .int v8)]) hX dX1_landOf_58 (by decide) rfl rfl ?_
        refine a_goto (pc' := 68) hX dX1_landOf_60 rfl ?_
        refine a_lv (lv' := [(0, .ref (q 1)), (2, .int v2), (3, .long v3), (5, .int v8), (6, .int v6), (7, .int v7), (8, .int v8)]) [2, 3, 4, 0, 5, 6, 7] rfl ?_
        exact wX1_landOf_b68 h hE hk9 hk25 hf
def fX1_landOf_l25 (u : St) (k9 : Int64 → Int32 → Int32 → Option (Int32)) (v2 : Int32) (v6 : Int32) (v7 : Int32) : Nat → Int64 → Int32 → Int32 → Option (Int32)
  | 0, _, _, _ => none
  | m + 1, v3, v5, v8 => fX1_landOf_l25b u k9 (fX1_landOf_l25 u k9 v2 v6 v7 m) v2 v3 v5 v6 v7 v8
theorem wX1_landOf_l25 {X : Cx} {V : Vx} {q : Nat → Nat} {g : Nat → Nat} {ts : List Tx} {u : St} {res : Int32} (h : Run X cX1_landOf 11 RX1 rmX1_landOf V (some .int) (rEq (some (.int res)) (wC V q ts u))) (hE : EnvC V g) {v2 : Int32} {v6 : Int32} {v7 : Int32} {k9 : Int64 → Int32 → Int32 → Option (Int32)} (hk9 : ∀ (v3 : Int64) (v5 : Int32) (v6 : Int32), k9 v3 v5 v6 = some res → At X 11 0 0 (wC V q ts u) 9 [(0, .ref (q 1)), (2, .int v2), (3, .long v3), (5, .int v5), (6, .int v6)] []) : ∀ (m : Nat) (v3 : Int64) (v5 : Int32) (v8 : Int32), fX1_landOf_l25 u k9 v2 v6 v7 m v3 v5 v8 = some res → At X 11 0 0 (wC V q ts u) 25 [(0, .ref (q 1)), (2, .int v2), (3, .long v3), (5, .int v5), (6, .int v6), (7, .int v7), (8, .int v8)] [] := by
  intro m
  induction m with
  | zero => intro v3 v5 v8 hf; cases hf
  | succ m ih => intro v3 v5 v8 hf; exact wX1_landOf_l25b h hE hk9 ih hf
def fX1_landOf_l9b (u : St) (k9 : Int64 → Int32 → Int32 → Option (Int32)) (v2 : Int32) (v3 : Int64) (v5 : Int32) (v6 : Int32) : Option (Int32) := if v2 < v6 then some v5 else (fX1_landOf_l25 u k9 v2 v6 v5 NF v3 (-1) 0)
theorem wX1_landOf_l9b {X : Cx} {V : Vx} {q : Nat → Nat} {g : Nat → Nat} {ts : List Tx} {u : St} {res : Int32} (h : Run X cX1_landOf 11 RX1 rmX1_landOf V (some .int) (rEq (some (.int res)) (wC V q ts u))) (hE : EnvC V g) {v2 : Int32} {v3 : Int64} {v5 : Int32} {v6 : Int32} {k9 : Int64 → Int32 → Int32 → Option (Int32)} (hk9 : ∀ (v3 : Int64) (v5 : Int32) (v6 : Int32), k9 v3 v5 v6 = some res → At X 11 0 0 (wC V q ts u) 9 [(0, .ref (q 1)), (2, .int v2), (3, .long v3), (5, .int v5), (6, .int v6)] []) (hf : fX1_landOf_l9b u k9 v2 v3 v5 v6 = some res) : At X 11 0 0 (wC V q ts u) 9 [(0, .ref (q 1)), (2, .int v2), (3, .long v3), (5, .int v5), (6, .int v6)] [] := by
  obtain ⟨hX, hT, hF⟩ := id h
  unfold fX1_landOf_l9b at hf
  refine a_iload hX dX1_landOf_9 4 rfl rfl ?_
  refine a_iload_n hX dX1_landOf_11 rfl 1 rfl rfl ?_
  refine a_icmp_gt (tgt := 80) hX dX1_landOf_12 rfl rfl hf (fun hf => ?_) (fun hf => ?_)
  · refine a_iload hX dX1_landOf_80 3 rfl rfl ?_
    exact a_iret hX hT hF (r_i hf) dX1_landOf_82
  · refine a_iload hX dX1_landOf_15 3 rfl rfl ?_
    refine a_istore (lv' := [(7, .int v5), (0, .ref (q 1)), (2, .int v2), (3, .long v3), (5, .int v5), (6, .int v6)]) hX dX1_landOf_17 (by decide) rfl rfl ?_
    refine a_iconst (v := (-1)) hX dX1_landOf_19 (by decide) rfl ?_
    refine a_istore (lv' := [(5, .int (-1)), (7, .int v5), (0, .ref (q 1)), (2, .int v2), (3, .long v3), (6, .int v6)]) hX dX1_landOf_20 (by decide) rfl rfl ?_
    refine a_iconst (v := 0) hX dX1_landOf_22 (by decide) rfl ?_
    refine a_istore (lv' := [(8, .int 0), (5, .int (-1)), (7, .int v5), (0, .ref (q 1)), (2, .int v2), (3, .long v3), (6, .int v6)]) hX dX1_landOf_23 (by decide) rfl rfl ?_
    refine a_lv (lv' := [(0, .ref (q 1)), (2, .int v2), (3, .long v3), (5, .int (-1)), (6, .int v6), (7, .int v5), (8, .int 0)]) [3, 4, 5, 1, 6, 2, 0] rfl ?_
    exact wX1_landOf_l25 h hE hk9 NF v3 (-1) 0 hf
def fX1_landOf_l9 (u : St)  (v2 : Int32) : Nat → Int64 → Int32 → Int32 → Option (Int32)
  | 0, _, _, _ => none
  | m + 1, v3, v5, v6 => fX1_landOf_l9b u (fX1_landOf_l9 u  v2 m) v2 v3 v5 v6
theorem wX1_landOf_l9 {X : Cx} {V : Vx} {q : Nat → Nat} {g : Nat → Nat} {ts : List Tx} {u : St} {res : Int32} (h : Run X cX1_landOf 11 RX1 rmX1_landOf V (some .int) (rEq (some (.int res)) (wC V q ts u))) (hE : EnvC V g) {v2 : Int32} : ∀ (m : Nat) (v3 : Int64) (v5 : Int32) (v6 : Int32), fX1_landOf_l9 u  v2 m v3 v5 v6 = some res → At X 11 0 0 (wC V q ts u) 9 [(0, .ref (q 1)), (2, .int v2), (3, .long v3), (5, .int v5), (6, .int v6)] [] := by
  intro m
  induction m with
  | zero => intro v3 v5 v6 hf; cases hf
  | succ m ih => intro v3 v5 v6 hf; exact wX1_landOf_l9b h hE ih hf
def fX1_landOf (u : St) (v1 : Int32) (v2 : Int32) : Option (Int32) := nmL (Int32.toInt64 v1) (fun x1 => fX1_landOf_l9 u v2 NF x1 (-1) 0)
theorem wX1_landOf {X : Cx} {V : Vx} {q : Nat → Nat} {g : Nat → Nat} {ts : List Tx} {u : St} {res : Int32} (h : Run X cX1_landOf 11 RX1 rmX1_landOf V (some .int) (rEq (some (.int res)) (wC V q ts u))) (hE : EnvC V g) {v1 : Int32} {v2 : Int32} (hf : fX1_landOf u v1 v2 = some res) : At X 11 0 0 (wC V q ts u) 0 [(0, .ref (q 1)), (1, .int v1), (2, .int v2)] [] := by
  obtain ⟨hX, hT, hF⟩ := id h
  unfold fX1_landOf at hf
  refine a_iload_n hX dX1_landOf_0 rfl 1 rfl rfl ?_
  refine a_i2l hX dX1_landOf_1 rfl ?_
  refine a_nmL hf (fun x1 hf => ?_)
  refine a_lstore_n (lv' := [(3, .long x1), (0, .ref (q 1)), (1, .int v1), (2, .int v2)]) hX dX1_landOf_2 rfl (by decide) rfl rfl ?_
  refine a_iconst (v := (-1)) hX dX1_landOf_3 (by decide) rfl ?_
  refine a_istore (lv' := [(5, .int (-1)), (3, .long x1), (0, .ref (q 1)), (1, .int v1), (2, .int v2)]) hX dX1_landOf_4 (by decide) rfl rfl ?_
  refine a_iconst (v := 0) hX dX1_landOf_6 (by decide) rfl ?_
  refine a_istore (lv' := [(6, .int 0), (5, .int (-1)), (3, .long x1), (0, .ref (q 1)), (1, .int v1), (2, .int v2)]) hX dX1_landOf_7 (by decide) rfl rfl ?_
  refine a_lv (lv' := [(0, .ref (q 1)), (2, .int v2), (3, .long x1), (5, .int (-1)), (6, .int 0)]) [3, 5, 2, 1, 0] rfl ?_
  exact wX1_landOf_l9 h hE NF x1 (-1) 0 hf
theorem ctX1_landOf {V : Vx} {q : Nat → Nat} {u : St} {g : Nat → Nat} {ts : List Tx} {res : Int32} (hE : EnvC V g) {v1 : Int32} {v2 : Int32} (hf : fX1_landOf u v1 v2 = some res) : Ct V yX1_landOf (.code yX1_landOf cX1_landOf 11 (some .int)) rmX1_landOf 0 0 [.ref (q 1), .int v1, .int v2] (wC V q ts u) (rEq (some (.int res)) (wC V q ts u)) :=
  Ct_of (by decide) (Nat.le_of_ble_eq_true rfl) rfl (fun X hX hT _ hF => wX1_landOf ⟨hX, hT, hF⟩ hE hf)
def rmX2_worstOf : Room := { frames := 2, cells := 0, slots := 0, locals := 44 }
def fX2_worstOf (u : St) (v1 : Int32) : Option (Int64) := cl1 (fX1_through u v1) (fun x1 => cl1 (fX1_total u) (fun x2 => some (jmaxL x1 (x2 - x1))))
theorem wX2_worstOf {X : Cx} {V : Vx} {q : Nat → Nat} {g : Nat → Nat} {ts : List Tx} {u : St} {res : Int64} (h : Run X cX2_worstOf 4 RX2 rmX2_worstOf V (some .long) (rEq (some (.long res)) (wC V q ts u))) (hE : EnvC V g) {v1 : Int32} (hf : fX2_worstOf u v1 = some res) : At X 4 0 0 (wC V q ts u) 0 [(0, .ref (q 2)), (1, .int v1)] [] := by
  obtain ⟨hX, hT, hF⟩ := id h
  unfold fX2_worstOf at hf
  refine a_aload_n hX dX2_worstOf_0 rfl 0 rfl rfl ?_
  refine gX2_1 hX F_X2_15 dX2_worstOf_1 rfl ?_
  refine a_iload_n hX dX2_worstOf_4 rfl 1 rfl rfl ?_
  obtain ⟨x1, hg1, hf⟩ := cl1_some hf
  refine a_cVsl (q0 := 3) (rest := []) hX hE.1 (ctX1_through (q := q) hE hg1) K_X2_19 ⟨rfl, rfl⟩ ⟨rfl, rfl, by decide, by decide⟩ ⟨Nat.zero_le _, Nat.zero_le _⟩ (Nat.le_of_ble_eq_true rfl) dX2_worstOf_5 rfl rfl ?_
  refine a_lstore_n (lv' := [(2, .long x1), (0, .ref (q 2)), (1, .int v1)]) hX dX2_worstOf_8 rfl (by decide) rfl rfl ?_
  refine a_lload_n hX dX2_worstOf_9 rfl 0 rfl rfl ?_
  refine a_aload_n hX dX2_worstOf_10 rfl 1 rfl rfl ?_
  refine gX2_1 hX F_X2_15 dX2_worstOf_11 rfl ?_
  obtain ⟨x2, hg2, hf⟩ := cl1_some hf
  refine a_cVsl (q0 := 3) (rest := [.long x1]) hX hE.1 (ctX1_total (q := q) hE hg2) K_X2_25 ⟨rfl, rfl⟩ ⟨rfl, rfl, by decide, by decide⟩ ⟨Nat.zero_le _, Nat.zero_le _⟩ (Nat.le_of_ble_eq_true rfl) dX2_worstOf_14 rfl rfl ?_
  refine a_lload_n hX dX2_worstOf_17 rfl 0 rfl rfl ?_
  refine a_lsub hX dX2_worstOf_18 rfl ?_
  refine a_jmaxL hX K_X2_29 (by decide) (Nat.le_of_ble_eq_true rfl) dX2_worstOf_19 rfl ?_
  exact a_lret hX hT hF (r_l hf) dX2_worstOf_22
theorem ctX2_worstOf {V : Vx} {q : Nat → Nat} {u : St} {g : Nat → Nat} {ts : List Tx} {res : Int64} (hE : EnvC V g) {v1 : Int32} (hf : fX2_worstOf u v1 = some res) : Ct V yX2_worstOf (.code yX2_worstOf cX2_worstOf 4 (some .long)) rmX2_worstOf 0 0 [.ref (q 2), .int v1] (wC V q ts u) (rEq (some (.long res)) (wC V q ts u)) :=
  Ct_of (by decide) (Nat.le_of_ble_eq_true rfl) rfl (fun X hX hT _ hF => wX2_worstOf ⟨hX, hT, hF⟩ hE hf)
def rmX2_told : Room := { frames := 0, cells := 0, slots := 0, locals := 0 }
def fX2_told (v0 : Int32) : Option (Int32) := if v0 = (-1) then some (-1) else (some ((10 * (v0 / 5)) + (v0 - v0 / 5 * 5)))
theorem wX2_told {X : Cx} {V : Vx} {res : Int32} (h : Run X cX2_told 1 RX2 rmX2_told V (some .int) (rEq (some (.int res)) [])) (hE : ZOK (vZ V)) {v0 : Int32} (hf : fX2_told v0 = some res) : At X 1 0 0 [] 0 [(0, .int v0)] [] := by
  obtain ⟨hX, hT, hF⟩ := id h
  unfold fX2_told at hf
  refine a_iload_n hX dX2_told_0 rfl 0 rfl rfl ?_
  refine a_iconst (v := (-1)) hX dX2_told_1 (by decide) rfl ?_
  refine a_icmp_ne (tgt := 9) hX dX2_told_2 rfl rfl hf (fun hf => ?_) (fun hf => ?_)
  · refine a_bipush (v := 10) hX dX2_told_9 (by decide) rfl ?_
    refine a_iload_n hX dX2_told_11 rfl 0 rfl rfl ?_
    refine a_iconst (v := 5) hX dX2_told_12 (by decide) rfl ?_
    refine a_idiv hX dX2_told_13 (by decide) rfl ?_
    refine a_imul hX dX2_told_14 rfl ?_
    refine a_iload_n hX dX2_told_15 rfl 0 rfl rfl ?_
    refine a_iconst (v := 5) hX dX2_told_16 (by decide) rfl ?_
    refine a_irem hX dX2_told_17 (by decide) rfl ?_
    refine a_iadd hX dX2_told_18 rfl ?_
    exact a_iret hX hT hF (r_i hf) dX2_told_19
  · refine a_iconst (v := (-1)) hX dX2_told_5 (by decide) rfl ?_
    refine a_goto (pc' := 19) hX dX2_told_6 rfl ?_
    exact a_iret hX hT hF (r_i hf) dX2_told_19
theorem ctX2_told {V : Vx} {res : Int32} (hE : ZOK (vZ V)) {v0 : Int32} (hf : fX2_told v0 = some res) : Ct V yX2_told (.code yX2_told cX2_told 1 (some .int)) rmX2_told 0 0 [.int v0] [] (rEq (some (.int res)) []) :=
  Ct_of (by decide) (Nat.le_of_ble_eq_true rfl) rfl (fun X hX hT _ hF => wX2_told ⟨hX, hT, hF⟩ hE hf)
def rmX2_best : Room := { frames := 2, cells := 0, slots := 0, locals := 44 }
def fX2_best_b63 (u : St) (k16 : Int64 → Int32 → Int32 → Option (Int32)) (v1 : Int64) (v3 : Int64) (v5 : Int32) (v6 : Int32) : Option (Int32) := k16 v3 v5 (v6 + 1)
theorem wX2_best_b63 {X : Cx} {V : Vx} {q : Nat → Nat} {g : Nat → Nat} {ts : List Tx} {u : St} {res : Int32} (h : Run X cX2_best 11 RX2 rmX2_best V (some .int) (rEq (some (.int res)) (wC V q ts u))) (hE : EnvC V g) {v1 : Int64} {v3 : Int64} {v5 : Int32} {v6 : Int32} {k16 : Int64 → Int32 → Int32 → Option (Int32)} (hk16 : ∀ (v3 : Int64) (v5 : Int32) (v6 : Int32), k16 v3 v5 v6 = some res → At X 11 0 0 (wC V q ts u) 16 [(0, .ref (q 2)), (1, .long v1), (3, .long v3), (5, .int v5), (6, .int v6)] []) (hf : fX2_best_b63 u k16 v1 v3 v5 v6 = some res) : At X 11 0 0 (wC V q ts u) 63 [(0, .ref (q 2)), (1, .long v1), (3, .long v3), (5, .int v5), (6, .int v6)] [] := by
  obtain ⟨hX, hT, hF⟩ := id h
  unfold fX2_best_b63 at hf
  refine a_iinc (v := v6 + 1) (lv' := [(6, .int (v6 + 1)), (0, .ref (q 2)), (1, .long v1), (3, .long v3), (5, .int v5)]) hX dX2_best_63 4 rfl rfl (by decide) rfl rfl ?_
  refine a_goto (pc' := 16) hX dX2_best_66 rfl ?_
  refine a_lv (lv' := [(0, .ref (q 2)), (1, .long v1), (3, .long v3), (5, .int v5), (6, .int (v6 + 1))]) [1, 2, 3, 4, 0] rfl ?_
  exact hk16 v3 v5 (v6 + 1) hf
def fX2_best_l16b (u : St) (k16 : Int64 → Int32 → Int32 → Option (Int32)) (v1 : Int64) (v3 : Int64) (v5 : Int32) (v6 : Int32) : Option (Int32) := if (gZ u 40) * 5 ≤ v6 then cl1 (fX2_told v5) (fun x2 => some x2) else (cl1 (fX1_through u v6) (fun x3 => nmL (jmaxL x3 (v1 - x3)) (fun x4 => if v3 ≤ x4 then fX2_best_b63 u k16 v1 v3 v5 v6 else (fX2_best_b63 u k16 v1 x4 v6 v6))))
theorem wX2_best_l16b {X : Cx} {V : Vx} {q : Nat → Nat} {g : Nat → Nat} {ts : List Tx} {u : St} {res : Int32} (h : Run X cX2_best 11 RX2 rmX2_best V (some .int) (rEq (some (.int res)) (wC V q ts u))) (hE : EnvC V g) {v1 : Int64} {v3 : Int64} {v5 : Int32} {v6 : Int32} {k16 : Int64 → Int32 → Int32 → Option (Int32)} (hk16 : ∀ (v3 : Int64) (v5 : Int32) (v6 : Int32), k16 v3 v5 v6 = some res → At X 11 0 0 (wC V q ts u) 16 [(0, .ref (q 2)), (1, .long v1), (3, .long v3), (5, .int v5), (6, .int v6)] []) (hf : fX2_best_l16b u k16 v1 v3 v5 v6 = some res) : At X 11 0 0 (wC V q ts u) 16 [(0, .ref (q 2)), (1, .long v1), (3, .long v3), (5, .int v5), (6, .int v6)] [] := by
  obtain ⟨hX, hT, hF⟩ := id h
  unfold fX2_best_l16b at hf
  refine a_iload hX dX2_best_16 4 rfl rfl ?_
  refine a_aload_n hX dX2_best_18 rfl 0 rfl rfl ?_
  refine gX2_0 hX F_X2_9 dX2_best_19 rfl ?_
  refine a_iconst (v := 5) hX dX2_best_22 (by decide) rfl ?_
  refine a_imul hX dX2_best_23 rfl ?_
  refine a_icmp_ge (tgt := 69) hX dX2_best_24 rfl rfl hf (fun hf => ?_) (fun hf => ?_)
  · refine a_iload hX dX2_best_69 3 rfl rfl ?_
    obtain ⟨x2, hg2, hf⟩ := cl1_some hf
    refine a_cSpi (rest := []) hX hE.1 (ctX2_told hE.1 hg2) K_X2_35 ⟨rfl, rfl, by decide, by decide⟩ ⟨Nat.zero_le _, Nat.zero_le _⟩ (Nat.le_of_ble_eq_true rfl) dX2_best_71 rfl rfl ?_
    exact a_iret hX hT hF (r_i hf) dX2_best_74
  · refine a_aload_n hX dX2_best_27 rfl 0 rfl rfl ?_
    refine gX2_1 hX F_X2_15 dX2_best_28 rfl ?_
    refine a_iload hX dX2_best_31 4 rfl rfl ?_
    obtain ⟨x3, hg3, hf⟩ := cl1_some hf
    refine a_cVsl (q0 := 3) (rest := []) hX hE.1 (ctX1_through (q := q) hE hg3) K_X2_19 ⟨rfl, rfl⟩ ⟨rfl, rfl, by decide, by decide⟩ ⟨Nat.zero_le _, Nat.zero_le _⟩ (Nat.le_of_ble_eq_true rfl) dX2_best_33 rfl rfl ?_
    refine a_lstore (lv' := [(7, .long x3), (0, .ref (q 2)), (1, .long v1), (3, .long v3), (5, .int v5), (6, .int v6)]) hX dX2_best_36 (by decide) rfl rfl ?_
    refine a_lload hX dX2_best_38 0 rfl rfl ?_
    refine a_lload_n hX dX2_best_40 rfl 2 rfl rfl ?_
    refine a_lload hX dX2_best_41 0 rfl rfl ?_
    refine a_lsub hX dX2_best_43 rfl ?_
    refine a_jmaxL hX K_X2_29 (by decide) (Nat.le_of_ble_eq_true rfl) dX2_best_44 rfl ?_
    refine a_nmL hf (fun x4 hf => ?_)
    refine a_lstore (lv' := [(9, .long x4), (7, .long x3), (0, .ref (q 2)), (1, .long v1), (3, .long v3), (5, .int v5), (6, .int v6)]) hX dX2_best_47 (by decide) rfl rfl ?_
    refine a_lload hX dX2_best_49 0 rfl rfl ?_
    refine a_lload_n hX dX2_best_51 rfl 4 rfl rfl ?_
    refine a_lcmp_ge (tgt := 63) hX dX2_best_52 rfl dX2_best_53 rfl rfl hf (fun hf => ?_) (fun hf => ?_)
    · refine a_lv (lv' := [(0, .ref (q 2)), (1, .long v1), (3, .long v3), (5, .int v5), (6, .int v6)]) [2, 3, 4, 5, 6] rfl ?_
      exact wX2_best_b63 h hE hk16 hf
    · refine a_lload hX dX2_best_56 0 rfl rfl ?_
      refine a_lstore_n (lv' := [(3, .long x4), (9, .long x4), (7, .long x3), (0, .ref (q 2)), (1, .long v1), (5, .int v5), (6, .int v6)]) hX dX2_best_58 rfl (by decide) rfl rfl ?_
      refine a_iload hX dX2_best_59 6 rfl rfl ?_
      refine a_istore (lv' := [(5, .int v6), (3, .long x4), (9, .long x4), (7, .long x3), (0, .ref (q 2)), (1, .long v1), (6, .int v6)]) hX dX2_best_61 (by decide) rfl rfl ?_
      refine a_lv (lv' := [(0, .ref (q 2)), (1, .long v1), (3, .long x4), (5, .int v6), (6, .int v6)]) [4, 5, 1, 0, 6] rfl ?_
      exact wX2_best_b63 h hE hk16 hf
def fX2_best_l16 (u : St)  (v1 : Int64) : Nat → Int64 → Int32 → Int32 → Option (Int32)
  | 0, _, _, _ => none
  | m + 1, v3, v5, v6 => fX2_best_l16b u (fX2_best_l16 u  v1 m) v1 v3 v5 v6
theorem wX2_best_l16 {X : Cx} {V : Vx} {q : Nat → Nat} {g : Nat → Nat} {ts : List Tx} {u : St} {res : Int32} (h : Run X cX2_best 11 RX2 rmX2_best V (some .int) (rEq (some (.int res)) (wC V q ts u))) (hE : EnvC V g) {v1 : Int64} : ∀ (m : Nat) (v3 : Int64) (v5 : Int32) (v6 : Int32), fX2_best_l16 u  v1 m v3 v5 v6 = some res → At X 11 0 0 (wC V q ts u) 16 [(0, .ref (q 2)), (1, .long v1), (3, .long v3), (5, .int v5), (6, .int v6)] [] := by
  intro m
  induction m with
  | zero => intro v3 v5 v6 hf; cases hf
  | succ m ih => intro v3 v5 v6 hf; exact wX2_best_l16b h hE ih hf
def fX2_best (u : St) : Option (Int32) := cl1 (fX1_total u) (fun x1 => fX2_best_l16 u x1 NF x1 (-1) 0)
theorem wX2_best {X : Cx} {V : Vx} {q : Nat → Nat} {g : Nat → Nat} {ts : List Tx} {u : St} {res : Int32} (h : Run X cX2_best 11 RX2 rmX2_best V (some .int) (rEq (some (.int res)) (wC V q ts u))) (hE : EnvC V g)  (hf : fX2_best u = some res) : At X 11 0 0 (wC V q ts u) 0 [(0, .ref (q 2))] [] := by
  obtain ⟨hX, hT, hF⟩ := id h
  unfold fX2_best at hf
  refine a_aload_n hX dX2_best_0 rfl 0 rfl rfl ?_
  refine gX2_1 hX F_X2_15 dX2_best_1 rfl ?_
  obtain ⟨x1, hg1, hf⟩ := cl1_some hf
  refine a_cVsl (q0 := 3) (rest := []) hX hE.1 (ctX1_total (q := q) hE hg1) K_X2_25 ⟨rfl, rfl⟩ ⟨rfl, rfl, by decide, by decide⟩ ⟨Nat.zero_le _, Nat.zero_le _⟩ (Nat.le_of_ble_eq_true rfl) dX2_best_4 rfl rfl ?_
  refine a_lstore_n (lv' := [(1, .long x1), (0, .ref (q 2))]) hX dX2_best_7 rfl (by decide) rfl rfl ?_
  refine a_lload_n hX dX2_best_8 rfl 0 rfl rfl ?_
  refine a_lstore_n (lv' := [(3, .long x1), (1, .long x1), (0, .ref (q 2))]) hX dX2_best_9 rfl (by decide) rfl rfl ?_
  refine a_iconst (v := (-1)) hX dX2_best_10 (by decide) rfl ?_
  refine a_istore (lv' := [(5, .int (-1)), (3, .long x1), (1, .long x1), (0, .ref (q 2))]) hX dX2_best_11 (by decide) rfl rfl ?_
  refine a_iconst (v := 0) hX dX2_best_13 (by decide) rfl ?_
  refine a_istore (lv' := [(6, .int 0), (5, .int (-1)), (3, .long x1), (1, .long x1), (0, .ref (q 2))]) hX dX2_best_14 (by decide) rfl rfl ?_
  refine a_lv (lv' := [(0, .ref (q 2)), (1, .long x1), (3, .long x1), (5, .int (-1)), (6, .int 0)]) [4, 3, 2, 1, 0] rfl ?_
  exact wX2_best_l16 h hE NF x1 (-1) 0 hf
theorem ctX2_best {V : Vx} {q : Nat → Nat} {u : St} {g : Nat → Nat} {ts : List Tx} {res : Int32} (hE : EnvC V g)  (hf : fX2_best u = some res) : Ct V yX2_best (.code yX2_best cX2_best 11 (some .int)) rmX2_best 0 0 [.ref (q 2)] (wC V q ts u) (rEq (some (.int res)) (wC V q ts u)) :=
  Ct_of (by decide) (Nat.le_of_ble_eq_true rfl) rfl (fun X hX hT _ hF => wX2_best ⟨hX, hT, hF⟩ hE hf)
def rmX2_worstWithNext : Room := { frames := 4, cells := 0, slots := 0, locals := 98 }
def fX2_worstWithNext_l43b  (k43 : Int64 → Int64 → Int32 → Option (Int64 × St)) (u : St) (v3 : Int64) (v5 : Int64) (v7 : Int64) (v9 : Int64) (v11 : Int32) : Option (Int64 × St) := if (gZ u 40) * 5 ≤ v11 then some (jmaxL v7 v9, u) else (ldL (gB u 23) 60 v11 (fun x7 => cl1 (fX1_through u v11) (fun x8 => nmL (x8 - x7) (fun x9 => nmL (jminL v7 (jmaxL x7 (v3 - x7))) (fun x10 => nmL (jminL v9 (jmaxL x9 (v5 - x9))) (fun x11 => k43 x10 x11 (v11 + 1)))))))
theorem wX2_worstWithNext_l43b {X : Cx} {V : Vx} {q : Nat → Nat} {g : Nat → Nat} {ts : List Tx} {res : Int64 × St} (h : Run X cX2_worstWithNext 16 RX2 rmX2_worstWithNext V (some .long) (rEq (some (.long res.1)) (wC V q ts res.2))) (hE : EnvC V g) {u : St} {v3 : Int64} {v5 : Int64} {v7 : Int64} {v9 : Int64} {v11 : Int32} {k43 : Int64 → Int64 → Int32 → Option (Int64 × St)} (hk43 : ∀ (v7 : Int64) (v9 : Int64) (v11 : Int32), k43 v7 v9 v11 = some res → At X 16 0 0 (wC V q ts u) 43 [(0, .ref (q 2)), (3, .long v3), (5, .long v5), (7, .long v7), (9, .long v9), (11, .int v11)] []) (hf : fX2_worstWithNext_l43b  k43 u v3 v5 v7 v9 v11 = some res) : At X 16 0 0 (wC V q ts u) 43 [(0, .ref (q 2)), (3, .long v3), (5, .long v5), (7, .long v7), (9, .long v9), (11, .int v11)] [] := by
  obtain ⟨hX, hT, hF⟩ := id h
  unfold fX2_worstWithNext_l43b at hf
  refine a_iload hX dX2_worstWithNext_43 5 rfl rfl ?_
  refine a_aload_n hX dX2_worstWithNext_45 rfl 0 rfl rfl ?_
  refine gX2_0 hX F_X2_9 dX2_worstWithNext_46 rfl ?_
  refine a_iconst (v := 5) hX dX2_worstWithNext_49 (by decide) rfl ?_
  refine a_imul hX dX2_worstWithNext_50 rfl ?_
  refine a_icmp_ge (tgt := 119) hX dX2_worstWithNext_51 rfl rfl hf (fun hf => ?_) (fun hf => ?_)
  · refine a_lload hX dX2_worstWithNext_119 3 rfl rfl ?_
    refine a_lload hX dX2_worstWithNext_121 4 rfl rfl ?_
    refine a_jmaxL hX K_X2_29 (by decide) (Nat.le_of_ble_eq_true rfl) dX2_worstWithNext_123 rfl ?_
    exact a_lret hX hT hF (r_lS (wf := (wC V q ts)) hf) dX2_worstWithNext_126
  · refine a_aload_n hX dX2_worstWithNext_54 rfl 0 rfl rfl ?_
    refine gX2_1 hX F_X2_15 dX2_worstWithNext_55 rfl ?_
    refine gX1_3 hX F_X2_47 dX2_worstWithNext_58 rfl ?_
    refine a_iload hX dX2_worstWithNext_61 5 rfl rfl ?_
    refine lX1_3 hX dX2_worstWithNext_63 rfl hf (fun x7 hf => ?_)
    refine a_lstore (lv' := [(12, .long x7), (0, .ref (q 2)), (3, .long v3), (5, .long v5), (7, .long v7), (9, .long v9), (11, .int v11)]) hX dX2_worstWithNext_64 (by decide) rfl rfl ?_
    refine a_aload_n hX dX2_worstWithNext_66 rfl 1 rfl rfl ?_
    refine gX2_1 hX F_X2_15 dX2_worstWithNext_67 rfl ?_
    refine a_iload hX dX2_worstWithNext_70 6 rfl rfl ?_
    obtain ⟨x8, hg8, hf⟩ := cl1_some hf
    refine a_cVsl (q0 := 3) (rest := []) hX hE.1 (ctX1_through (q := q) hE hg8) K_X2_19 ⟨rfl, rfl⟩ ⟨rfl, rfl, by decide, by decide⟩ ⟨Nat.zero_le _, Nat.zero_le _⟩ (Nat.le_of_ble_eq_true rfl) dX2_worstWithNext_72 rfl rfl ?_
    refine a_lload hX dX2_worstWithNext_75 0 rfl rfl ?_
    refine a_lsub hX dX2_worstWithNext_77 rfl ?_
    refine a_nmL hf (fun x9 hf => ?_)
    refine a_lstore (lv' := [(14, .long x9), (12, .long x7), (0, .ref (q 2)), (3, .long v3), (5, .long v5), (7, .long v7), (9, .long v9), (11, .int v11)]) hX dX2_worstWithNext_78 (by decide) rfl rfl ?_
    refine a_lload hX dX2_worstWithNext_80 5 rfl rfl ?_
    refine a_lload hX dX2_worstWithNext_82 1 rfl rfl ?_
    refine a_lload_n hX dX2_worstWithNext_84 rfl 3 rfl rfl ?_
    refine a_lload hX dX2_worstWithNext_85 1 rfl rfl ?_
    refine a_lsub hX dX2_worstWithNext_87 rfl ?_
    refine a_jmaxL hX K_X2_29 (by decide) (Nat.le_of_ble_eq_true rfl) dX2_worstWithNext_88 rfl ?_
    refine a_jminL hX K_X2_51 (by decide) (Nat.le_of_ble_eq_true rfl) dX2_worstWithNext_91 rfl ?_
    refine a_nmL hf (fun x10 hf => ?_)
    refine a_lstore (lv' := [(7, .long x10), (14, .long x9), (12, .long x7), (0, .ref (q 2)), (3, .long v3), (5, .long v5), (9, .long v9), (11, .int v11)]) hX dX2_worstWithNext_94 (by decide) rfl rfl ?_
    refine a_lload hX dX2_worstWithNext_96 6 rfl rfl ?_
    refine a_lload hX dX2_worstWithNext_98 1 rfl rfl ?_
    refine a_lload hX dX2_worstWithNext_100 5 rfl rfl ?_
    refine a_lload hX dX2_worstWithNext_102 1 rfl rfl ?_
    refine a_lsub hX dX2_worstWithNext_104 rfl ?_
    refine a_jmaxL hX K_X2_29 (by decide) (Nat.le_of_ble_eq_true rfl) dX2_worstWithNext_105 rfl ?_
    refine a_jminL hX K_X2_51 (by decide) (Nat.le_of_ble_eq_true rfl) dX2_worstWithNext_108 rfl ?_
    refine a_nmL hf (fun x11 hf => ?_)
    refine a_lstore (lv' := [(9, .long x11), (7, .long x10), (14, .long x9), (12, .long x7), (0, .ref (q 2)), (3, .long v3), (5, .long v5), (11, .int v11)]) hX dX2_worstWithNext_111 (by decide) rfl rfl ?_
    refine a_iinc (v := v11 + 1) (lv' := [(11, .int (v11 + 1)), (9, .long x11), (7, .long x10), (14, .long x9), (12, .long x7), (0, .ref (q 2)), (3, .long v3), (5, .long v5)]) hX dX2_worstWithNext_113 7 rfl rfl (by decide) rfl rfl ?_
    refine a_goto (pc' := 43) hX dX2_worstWithNext_116 rfl ?_
    refine a_lv (lv' := [(0, .ref (q 2)), (3, .long v3), (5, .long v5), (7, .long x10), (9, .long x11), (11, .int (v11 + 1))]) [5, 6, 7, 2, 1, 0] rfl ?_
    exact hk43 x10 x11 (v11 + 1) hf
def fX2_worstWithNext_l43   (u : St) (v3 : Int64) (v5 : Int64) : Nat → Int64 → Int64 → Int32 → Option (Int64 × St)
  | 0, _, _, _ => none
  | m + 1, v7, v9, v11 => fX2_worstWithNext_l43b  (fX2_worstWithNext_l43   u v3 v5 m) u v3 v5 v7 v9 v11
theorem wX2_worstWithNext_l43 {X : Cx} {V : Vx} {q : Nat → Nat} {g : Nat → Nat} {ts : List Tx} {res : Int64 × St} (h : Run X cX2_worstWithNext 16 RX2 rmX2_worstWithNext V (some .long) (rEq (some (.long res.1)) (wC V q ts res.2))) (hE : EnvC V g) {u : St} {v3 : Int64} {v5 : Int64} : ∀ (m : Nat) (v7 : Int64) (v9 : Int64) (v11 : Int32), fX2_worstWithNext_l43   u v3 v5 m v7 v9 v11 = some res → At X 16 0 0 (wC V q ts u) 43 [(0, .ref (q 2)), (3, .long v3), (5, .long v5), (7, .long v7), (9, .long v9), (11, .int v11)] [] := by
  intro m
  induction m with
  | zero => intro v7 v9 v11 hf; cases hf
  | succ m ih => intro v7 v9 v11 hf; exact wX2_worstWithNext_l43b h hE ih hf
def fX2_worstWithNext (u : St) (v1 : Int32) (v2 : Int32) : Option (Int64 × St) := cl1 (fX1_countWith u v1 v2) (fun u2 => cl1 (fX11_place v1 v2) (fun x3 => cl1 (fX1_through u2 x3) (fun x4 => cl1 (fX1_total u2) (fun x5 => nmL (x5 - x4) (fun x6 => fX2_worstWithNext_l43 u2 x4 x6 NF x4 x6 0)))))
theorem wX2_worstWithNext {X : Cx} {V : Vx} {q : Nat → Nat} {g : Nat → Nat} {ts : List Tx} {res : Int64 × St} (h : Run X cX2_worstWithNext 16 RX2 rmX2_worstWithNext V (some .long) (rEq (some (.long res.1)) (wC V q ts res.2))) (hE : EnvC V g) {u : St} {v1 : Int32} {v2 : Int32} (hf : fX2_worstWithNext u v1 v2 = some res) : At X 16 0 0 (wC V q ts u) 0 [(0, .ref (q 2)), (1, .int v1), (2, .int v2)] [] := by
  obtain ⟨hX, hT, hF⟩ := id h
  unfold fX2_worstWithNext at hf
  refine a_aload_n hX dX2_worstWithNext_0 rfl 0 rfl rfl ?_
  refine gX2_1 hX F_X2_15 dX2_worstWithNext_1 rfl ?_
  refine a_iload_n hX dX2_worstWithNext_4 rfl 1 rfl rfl ?_
  refine a_iload_n hX dX2_worstWithNext_5 rfl 2 rfl rfl ?_
  obtain ⟨u2, hg1, hf⟩ := cl1_some hf
  refine a_cVsv (q0 := 3) (rest := []) hX hE.1 (ctX1_countWith (q := q) hE hg1) K_X2_39 ⟨rfl, rfl⟩ ⟨rfl, rfl, by decide, by decide⟩ ⟨Nat.zero_le _, Nat.zero_le _⟩ (Nat.le_of_ble_eq_true rfl) dX2_worstWithNext_6 rfl rfl ?_
  refine a_aload_n hX dX2_worstWithNext_9 rfl 0 rfl rfl ?_
  refine gX2_1 hX F_X2_15 dX2_worstWithNext_10 rfl ?_
  refine a_iload_n hX dX2_worstWithNext_13 rfl 1 rfl rfl ?_
  refine a_iload_n hX dX2_worstWithNext_14 rfl 2 rfl rfl ?_
  obtain ⟨x3, hg3, hf⟩ := cl1_some hf
  refine a_cNpi (rest := [.ref (q 1)]) hX hE.1 (ctX11_place hE.1 hg3) (e_nw hX hE (w := .methodLinkNest "VaseCourt$Inquiry" 43 yX11_place "VaseCourt") (List.mem_of_getElem? (i := 10) rfl)) LN_X11_place ⟨rfl, rfl, by decide, by decide⟩ ⟨Nat.zero_le _, Nat.zero_le _⟩ (Nat.le_of_ble_eq_true rfl) dX2_worstWithNext_15 rfl rfl ?_
  obtain ⟨x4, hg4, hf⟩ := cl1_some hf
  refine a_cVsl (q0 := 3) (rest := []) hX hE.1 (ctX1_through (q := q) hE hg4) K_X2_19 ⟨rfl, rfl⟩ ⟨rfl, rfl, by decide, by decide⟩ ⟨Nat.zero_le _, Nat.zero_le _⟩ (Nat.le_of_ble_eq_true rfl) dX2_worstWithNext_18 rfl rfl ?_
  refine a_lstore_n (lv' := [(3, .long x4), (0, .ref (q 2)), (1, .int v1), (2, .int v2)]) hX dX2_worstWithNext_21 rfl (by decide) rfl rfl ?_
  refine a_aload_n hX dX2_worstWithNext_22 rfl 1 rfl rfl ?_
  refine gX2_1 hX F_X2_15 dX2_worstWithNext_23 rfl ?_
  obtain ⟨x5, hg5, hf⟩ := cl1_some hf
  refine a_cVsl (q0 := 3) (rest := []) hX hE.1 (ctX1_total (q := q) hE hg5) K_X2_25 ⟨rfl, rfl⟩ ⟨rfl, rfl, by decide, by decide⟩ ⟨Nat.zero_le _, Nat.zero_le _⟩ (Nat.le_of_ble_eq_true rfl) dX2_worstWithNext_26 rfl rfl ?_
  refine a_lload_n hX dX2_worstWithNext_29 rfl 0 rfl rfl ?_
  refine a_lsub hX dX2_worstWithNext_30 rfl ?_
  refine a_nmL hf (fun x6 hf => ?_)
  refine a_lstore (lv' := [(5, .long x6), (3, .long x4), (0, .ref (q 2)), (1, .int v1), (2, .int v2)]) hX dX2_worstWithNext_31 (by decide) rfl rfl ?_
  refine a_lload_n hX dX2_worstWithNext_33 rfl 1 rfl rfl ?_
  refine a_lstore (lv' := [(7, .long x4), (5, .long x6), (3, .long x4), (0, .ref (q 2)), (1, .int v1), (2, .int v2)]) hX dX2_worstWithNext_34 (by decide) rfl rfl ?_
  refine a_lload hX dX2_worstWithNext_36 1 rfl rfl ?_
  refine a_lstore (lv' := [(9, .long x6), (7, .long x4), (5, .long x6), (3, .long x4), (0, .ref (q 2)), (1, .int v1), (2, .int v2)]) hX dX2_worstWithNext_38 (by decide) rfl rfl ?_
  refine a_iconst (v := 0) hX dX2_worstWithNext_40 (by decide) rfl ?_
  refine a_istore (lv' := [(11, .int 0), (9, .long x6), (7, .long x4), (5, .long x6), (3, .long x4), (0, .ref (q 2)), (1, .int v1), (2, .int v2)]) hX dX2_worstWithNext_41 (by decide) rfl rfl ?_
  refine a_lv (lv' := [(0, .ref (q 2)), (3, .long x4), (5, .long x6), (7, .long x4), (9, .long x6), (11, .int 0)]) [5, 4, 3, 2, 1, 0] rfl ?_
  exact wX2_worstWithNext_l43 h hE NF x4 x6 0 hf
theorem ctX2_worstWithNext {V : Vx} {q : Nat → Nat} {u : St} {g : Nat → Nat} {ts : List Tx} {res : Int64 × St} (hE : EnvC V g) {v1 : Int32} {v2 : Int32} (hf : fX2_worstWithNext u v1 v2 = some res) : Ct V yX2_worstWithNext (.code yX2_worstWithNext cX2_worstWithNext 16 (some .long)) rmX2_worstWithNext 0 0 [.ref (q 2), .int v1, .int v2] (wC V q ts u) (rEq (some (.long res.1)) (wC V q ts res.2)) :=
  Ct_of (by decide) (Nat.le_of_ble_eq_true rfl) rfl (fun X hX hT _ hF => wX2_worstWithNext ⟨hX, hT, hF⟩ hE hf)
def rmX2_bestWithNext : Room := { frames := 5, cells := 0, slots := 0, locals := 133 }
def fX2_bestWithNext_b59  (k13 : St → Int64 → Int32 → Int32 → Option (Int32 × St)) (k25 : St → Int64 → Int32 → Int32 → Option (Int32 × St)) (u : St) (v1 : Int64) (v3 : Int32) (v4 : Int32) (v5 : Int32) : Option (Int32 × St) := k25 u v1 v3 (v5 + 1)
theorem wX2_bestWithNext_b59 {X : Cx} {V : Vx} {q : Nat → Nat} {g : Nat → Nat} {ts : List Tx} {res : Int32 × St} (h : Run X cX2_bestWithNext 8 RX2 rmX2_bestWithNext V (some .int) (rEq (some (.int res.1)) (wC V q ts res.2))) (hE : EnvC V g) {u : St} {v1 : Int64} {v3 : Int32} {v4 : Int32} {v5 : Int32} {k13 : St → Int64 → Int32 → Int32 → Option (Int32 × St)} (hk13 : ∀ (u : St) (v1 : Int64) (v3 : Int32) (v4 : Int32), k13 u v1 v3 v4 = some res → At X 8 0 0 (wC V q ts u) 13 [(0, .ref (q 2)), (1, .long v1), (3, .int v3), (4, .int v4)] []) {k25 : St → Int64 → Int32 → Int32 → Option (Int32 × St)} (hk25 : ∀ (u : St) (v1 : Int64) (v3 : Int32) (v5 : Int32), k25 u v1 v3 v5 = some res → At X 8 0 0 (wC V q ts u) 25 [(0, .ref (q 2)), (1, .long v1), (3, .int v3), (4, .int v4), (5, .int v5)] []) (hf : fX2_bestWithNext_b59  k13 k25 u v1 v3 v4 v5 = some res) : At X 8 0 0 (wC V q ts u) 59 [(0, .ref (q 2)), (1, .long v1), (3, .int v3), (4, .int v4), (5, .int v5)] [] := by
  obtain ⟨hX, hT, hF⟩ := id h
  unfold fX2_bestWithNext_b59 at hf
  refine a_iinc (v := v5 + 1) (lv' := [(5, .int (v5 + 1)), (0, .ref (q 2)), (1, .long v1), (3, .int v3), (4, .int v4)]) hX dX2_bestWithNext_59 4 rfl rfl (by decide) rfl rfl ?_
  refine a_goto (pc' := 25) hX dX2_bestWithNext_62 rfl ?_
  refine a_lv (lv' := [(0, .ref (q 2)), (1, .long v1), (3, .int v3), (4, .int v4), (5, .int (v5 + 1))]) [1, 2, 3, 4, 0] rfl ?_
  exact hk25 u v1 v3 (v5 + 1) hf
def fX2_bestWithNext_l25b  (k13 : St → Int64 → Int32 → Int32 → Option (Int32 × St)) (k25 : St → Int64 → Int32 → Int32 → Option (Int32 × St)) (u : St) (v1 : Int64) (v3 : Int32) (v4 : Int32) (v5 : Int32) : Option (Int32 × St) := if 5 ≤ v5 then k13 u v1 v3 (v4 + 1) else (cl2 (fX2_worstWithNext u v5 v4) (fun x3 u4 => if v1 ≤ x3 then fX2_bestWithNext_b59 k13 k25 u4 v1 v3 v4 v5 else (cl1 (fX11_place v5 v4) (fun x5 => fX2_bestWithNext_b59 k13 k25 u4 x3 x5 v4 v5))))
theorem wX2_bestWithNext_l25b {X : Cx} {V : Vx} {q : Nat → Nat} {g : Nat → Nat} {ts : List Tx} {res : Int32 × St} (h : Run X cX2_bestWithNext 8 RX2 rmX2_bestWithNext V (some .int) (rEq (some (.int res.1)) (wC V q ts res.2))) (hE : EnvC V g) {u : St} {v1 : Int64} {v3 : Int32} {v4 : Int32} {v5 : Int32} {k13 : St → Int64 → Int32 → Int32 → Option (Int32 × St)} (hk13 : ∀ (u : St) (v1 : Int64) (v3 : Int32) (v4 : Int32), k13 u v1 v3 v4 = some res → At X 8 0 0 (wC V q ts u) 13 [(0, .ref (q 2)), (1, .long v1), (3, .int v3), (4, .int v4)] []) {k25 : St → Int64 → Int32 → Int32 → Option (Int32 × St)} (hk25 : ∀ (u : St) (v1 : Int64) (v3 : Int32) (v5 : Int32), k25 u v1 v3 v5 = some res → At X 8 0 0 (wC V q ts u) 25 [(0, .ref (q 2)), (1, .long v1), (3, .int v3), (4, .int v4), (5, .int v5)] []) (hf : fX2_bestWithNext_l25b  k13 k25 u v1 v3 v4 v5 = some res) : At X 8 0 0 (wC V q ts u) 25 [(0, .ref (q 2)), (1, .long v1), (3, .int v3), (4, .int v4), (5, .int v5)] [] := by
  obtain ⟨hX, hT, hF⟩ := id h
  unfold fX2_bestWithNext_l25b at hf
  refine a_iload hX dX2_bestWithNext_25 4 rfl rfl ?_
  refine a_iconst (v := 5) hX dX2_bestWithNext_27 (by decide) rfl ?_
  refine a_icmp_ge (tgt := 65) hX dX2_bestWithNext_28 rfl rfl hf (fun hf => ?_) (fun hf => ?_)
  · refine a_iinc (v := v4 + 1) (lv' := [(4, .int (v4 + 1)), (0, .ref (q 2)), (1, .long v1), (3, .int v3), (5, .int v5)]) hX dX2_bestWithNext_65 3 rfl rfl (by decide) rfl rfl ?_
    refine a_goto (pc' := 13) hX dX2_bestWithNext_68 rfl ?_
    refine a_lv (lv' := [(0, .ref (q 2)), (1, .long v1), (3, .int v3), (4, .int (v4 + 1))]) [1, 2, 3, 0] rfl ?_
    exact hk13 u v1 v3 (v4 + 1) hf
  · refine a_aload_n hX dX2_bestWithNext_31 rfl 0 rfl rfl ?_
    refine a_iload hX dX2_bestWithNext_32 4 rfl rfl ?_
    refine a_iload hX dX2_bestWithNext_34 3 rfl rfl ?_
    obtain ⟨x3, u4, hg3, hf⟩ := cl2_some hf
    refine a_cVsl (q0 := 7) (rest := []) hX hE.1 (ctX2_worstWithNext (q := q) hE hg3) K_X2_54 ⟨rfl, rfl⟩ ⟨rfl, rfl, by decide, by decide⟩ ⟨Nat.zero_le _, Nat.zero_le _⟩ (Nat.le_of_ble_eq_true rfl) dX2_bestWithNext_36 rfl rfl ?_
    refine a_lstore (lv' := [(6, .long x3), (0, .ref (q 2)), (1, .long v1), (3, .int v3), (4, .int v4), (5, .int v5)]) hX dX2_bestWithNext_39 (by decide) rfl rfl ?_
    refine a_lload hX dX2_bestWithNext_41 0 rfl rfl ?_
    refine a_lload_n hX dX2_bestWithNext_43 rfl 2 rfl rfl ?_
    refine a_lcmp_ge (tgt := 59) hX dX2_bestWithNext_44 rfl dX2_bestWithNext_45 rfl rfl hf (fun hf => ?_) (fun hf => ?_)
    · refine a_lv (lv' := [(0, .ref (q 2)), (1, .long v1), (3, .int v3), (4, .int v4), (5, .int v5)]) [1, 2, 3, 4, 5] rfl ?_
      exact wX2_bestWithNext_b59 h hE hk13 hk25 hf
    · refine a_lload hX dX2_bestWithNext_48 0 rfl rfl ?_
      refine a_lstore_n (lv' := [(1, .long x3), (6, .long x3), (0, .ref (q 2)), (3, .int v3), (4, .int v4), (5, .int v5)]) hX dX2_bestWithNext_50 rfl (by decide) rfl rfl ?_
      refine a_iload hX dX2_bestWithNext_51 5 rfl rfl ?_
      refine a_iload hX dX2_bestWithNext_53 4 rfl rfl ?_
      obtain ⟨x5, hg5, hf⟩ := cl1_some hf
      refine a_cNpi (rest := []) hX hE.1 (ctX11_place hE.1 hg5) (e_nw hX hE (w := .methodLinkNest "VaseCourt$Inquiry" 43 yX11_place "VaseCourt") (List.mem_of_getElem? (i := 10) rfl)) LN_X11_place ⟨rfl, rfl, by decide, by decide⟩ ⟨Nat.zero_le _, Nat.zero_le _⟩ (Nat.le_of_ble_eq_true rfl) dX2_bestWithNext_55 rfl rfl ?_
      refine a_istore_n (lv' := [(3, .int x5), (1, .long x3), (6, .long x3), (0, .ref (q 2)), (4, .int v4), (5, .int v5)]) hX dX2_bestWithNext_58 rfl (by decide) rfl rfl ?_
      refine a_lv (lv' := [(0, .ref (q 2)), (1, .long x3), (3, .int x5), (4, .int v4), (5, .int v5)]) [3, 1, 0, 4, 5] rfl ?_
      exact wX2_bestWithNext_b59 h hE hk13 hk25 hf
def fX2_bestWithNext_l25  (k13 : St → Int64 → Int32 → Int32 → Option (Int32 × St)) (v4 : Int32) : Nat → St → Int64 → Int32 → Int32 → Option (Int32 × St)
  | 0, _, _, _, _ => none
  | m + 1, u, v1, v3, v5 => fX2_bestWithNext_l25b  k13 (fX2_bestWithNext_l25  k13 v4 m) u v1 v3 v4 v5
theorem wX2_bestWithNext_l25 {X : Cx} {V : Vx} {q : Nat → Nat} {g : Nat → Nat} {ts : List Tx} {res : Int32 × St} (h : Run X cX2_bestWithNext 8 RX2 rmX2_bestWithNext V (some .int) (rEq (some (.int res.1)) (wC V q ts res.2))) (hE : EnvC V g) {v4 : Int32} {k13 : St → Int64 → Int32 → Int32 → Option (Int32 × St)} (hk13 : ∀ (u : St) (v1 : Int64) (v3 : Int32) (v4 : Int32), k13 u v1 v3 v4 = some res → At X 8 0 0 (wC V q ts u) 13 [(0, .ref (q 2)), (1, .long v1), (3, .int v3), (4, .int v4)] []) : ∀ (m : Nat) (u : St) (v1 : Int64) (v3 : Int32) (v5 : Int32), fX2_bestWithNext_l25  k13 v4 m u v1 v3 v5 = some res → At X 8 0 0 (wC V q ts u) 25 [(0, .ref (q 2)), (1, .long v1), (3, .int v3), (4, .int v4), (5, .int v5)] [] := by
  intro m
  induction m with
  | zero => intro u v1 v3 v5 hf; cases hf
  | succ m ih => intro u v1 v3 v5 hf; exact wX2_bestWithNext_l25b h hE hk13 ih hf
def fX2_bestWithNext_l13b  (k13 : St → Int64 → Int32 → Int32 → Option (Int32 × St)) (u : St) (v1 : Int64) (v3 : Int32) (v4 : Int32) : Option (Int32 × St) := if gZ u 40 ≤ v4 then cl1 (fX2_told v3) (fun x2 => some (x2, u)) else (fX2_bestWithNext_l25 k13 v4 NF u v1 v3 0)
theorem wX2_bestWithNext_l13b {X : Cx} {V : Vx} {q : Nat → Nat} {g : Nat → Nat} {ts : List Tx} {res : Int32 × St} (h : Run X cX2_bestWithNext 8 RX2 rmX2_bestWithNext V (some .int) (rEq (some (.int res.1)) (wC V q ts res.2))) (hE : EnvC V g) {u : St} {v1 : Int64} {v3 : Int32} {v4 : Int32} {k13 : St → Int64 → Int32 → Int32 → Option (Int32 × St)} (hk13 : ∀ (u : St) (v1 : Int64) (v3 : Int32) (v4 : Int32), k13 u v1 v3 v4 = some res → At X 8 0 0 (wC V q ts u) 13 [(0, .ref (q 2)), (1, .long v1), (3, .int v3), (4, .int v4)] []) (hf : fX2_bestWithNext_l13b  k13 u v1 v3 v4 = some res) : At X 8 0 0 (wC V q ts u) 13 [(0, .ref (q 2)), (1, .long v1), (3, .int v3), (4, .int v4)] [] := by
  obtain ⟨hX, hT, hF⟩ := id h
  unfold fX2_bestWithNext_l13b at hf
  refine a_iload hX dX2_bestWithNext_13 3 rfl rfl ?_
  refine a_aload_n hX dX2_bestWithNext_15 rfl 0 rfl rfl ?_
  refine gX2_0 hX F_X2_9 dX2_bestWithNext_16 rfl ?_
  refine a_icmp_ge (tgt := 71) hX dX2_bestWithNext_19 rfl rfl hf (fun hf => ?_) (fun hf => ?_)
  · refine a_iload_n hX dX2_bestWithNext_71 rfl 2 rfl rfl ?_
    obtain ⟨x2, hg2, hf⟩ := cl1_some hf
    refine a_cSpi (rest := []) hX hE.1 (ctX2_told hE.1 hg2) K_X2_35 ⟨rfl, rfl, by decide, by decide⟩ ⟨Nat.zero_le _, Nat.zero_le _⟩ (Nat.le_of_ble_eq_true rfl) dX2_bestWithNext_72 rfl rfl ?_
    exact a_iret hX hT hF (r_iS (wf := (wC V q ts)) hf) dX2_bestWithNext_75
  · refine a_iconst (v := 0) hX dX2_bestWithNext_22 (by decide) rfl ?_
    refine a_istore (lv' := [(5, .int 0), (0, .ref (q 2)), (1, .long v1), (3, .int v3), (4, .int v4)]) hX dX2_bestWithNext_23 (by decide) rfl rfl ?_
    refine a_lv (lv' := [(0, .ref (q 2)), (1, .long v1), (3, .int v3), (4, .int v4), (5, .int 0)]) [1, 2, 3, 4, 0] rfl ?_
    exact wX2_bestWithNext_l25 h hE hk13 NF u v1 v3 0 hf
def fX2_bestWithNext_l13    : Nat → St → Int64 → Int32 → Int32 → Option (Int32 × St)
  | 0, _, _, _, _ => none
  | m + 1, u, v1, v3, v4 => fX2_bestWithNext_l13b  (fX2_bestWithNext_l13    m) u v1 v3 v4
theorem wX2_bestWithNext_l13 {X : Cx} {V : Vx} {q : Nat → Nat} {g : Nat → Nat} {ts : List Tx} {res : Int32 × St} (h : Run X cX2_bestWithNext 8 RX2 rmX2_bestWithNext V (some .int) (rEq (some (.int res.1)) (wC V q ts res.2))) (hE : EnvC V g)  : ∀ (m : Nat) (u : St) (v1 : Int64) (v3 : Int32) (v4 : Int32), fX2_bestWithNext_l13    m u v1 v3 v4 = some res → At X 8 0 0 (wC V q ts u) 13 [(0, .ref (q 2)), (1, .long v1), (3, .int v3), (4, .int v4)] [] := by
  intro m
  induction m with
  | zero => intro u v1 v3 v4 hf; cases hf
  | succ m ih => intro u v1 v3 v4 hf; exact wX2_bestWithNext_l13b h hE ih hf
def fX2_bestWithNext (u : St) : Option (Int32 × St) := cl1 (fX1_total u) (fun x1 => fX2_bestWithNext_l13 NF u x1 (-1) 0)
theorem wX2_bestWithNext {X : Cx} {V : Vx} {q : Nat → Nat} {g : Nat → Nat} {ts : List Tx} {res : Int32 × St} (h : Run X cX2_bestWithNext 8 RX2 rmX2_bestWithNext V (some .int) (rEq (some (.int res.1)) (wC V q ts res.2))) (hE : EnvC V g) {u : St} (hf : fX2_bestWithNext u = some res) : At X 8 0 0 (wC V q ts u) 0 [(0, .ref (q 2))] [] := by
  obtain ⟨hX, hT, hF⟩ := id h
  unfold fX2_bestWithNext at hf
  refine a_aload_n hX dX2_bestWithNext_0 rfl 0 rfl rfl ?_
  refine gX2_1 hX F_X2_15 dX2_bestWithNext_1 rfl ?_
  obtain ⟨x1, hg1, hf⟩ := cl1_some hf
  refine a_cVsl (q0 := 3) (rest := []) hX hE.1 (ctX1_total (q := q) hE hg1) K_X2_25 ⟨rfl, rfl⟩ ⟨rfl, rfl, by decide, by decide⟩ ⟨Nat.zero_le _, Nat.zero_le _⟩ (Nat.le_of_ble_eq_true rfl) dX2_bestWithNext_4 rfl rfl ?_
  refine a_lstore_n (lv' := [(1, .long x1), (0, .ref (q 2))]) hX dX2_bestWithNext_7 rfl (by decide) rfl rfl ?_
  refine a_iconst (v := (-1)) hX dX2_bestWithNext_8 (by decide) rfl ?_
  refine a_istore_n (lv' := [(3, .int (-1)), (1, .long x1), (0, .ref (q 2))]) hX dX2_bestWithNext_9 rfl (by decide) rfl rfl ?_
  refine a_iconst (v := 0) hX dX2_bestWithNext_10 (by decide) rfl ?_
  refine a_istore (lv' := [(4, .int 0), (3, .int (-1)), (1, .long x1), (0, .ref (q 2))]) hX dX2_bestWithNext_11 (by decide) rfl rfl ?_
  refine a_lv (lv' := [(0, .ref (q 2)), (1, .long x1), (3, .int (-1)), (4, .int 0)]) [3, 2, 1, 0] rfl ?_
  exact wX2_bestWithNext_l13 h hE NF u x1 (-1) 0 hf
theorem ctX2_bestWithNext {V : Vx} {q : Nat → Nat} {u : St} {g : Nat → Nat} {ts : List Tx} {res : Int32 × St} (hE : EnvC V g)  (hf : fX2_bestWithNext u = some res) : Ct V yX2_bestWithNext (.code yX2_bestWithNext cX2_bestWithNext 8 (some .int)) rmX2_bestWithNext 0 0 [.ref (q 2)] (wC V q ts u) (rEq (some (.int res.1)) (wC V q ts res.2)) :=
  Ct_of (by decide) (Nat.le_of_ble_eq_true rfl) rfl (fun X hX hT _ hF => wX2_bestWithNext ⟨hX, hT, hF⟩ hE hf)
def rmX3_add : Room := { frames := 0, cells := 0, slots := 0, locals := 0 }
def fX3_add (u : St) (v1 : Int32) (v2 : Int32) (v3 : Int32) : Option (Int32 × St) := stI u 63 20 (gZ u 60) v1 (fun u1 => stI u1 64 20 (gZ u1 60) v2 (fun u2 => stI u2 65 20 (gZ u2 60) v3 (fun u3 => nmI (gZ u3 60) (fun x4 => nmS (setZ u3 60 (x4 + 1)) (fun u5 => some (x4, u5))))))
theorem wX3_add {X : Cx} {V : Vx} {q : Nat → Nat} {g : Nat → Nat} {ts : List Tx} {res : Int32 × St} (h : Run X cX3_add 4 RX3 rmX3_add V (some .int) (rEq (some (.int res.1)) (wC V q ts res.2))) (hE : EnvC V g) {u : St} {v1 : Int32} {v2 : Int32} {v3 : Int32} (hf : fX3_add u v1 v2 v3 = some res) : At X 4 0 0 (wC V q ts u) 0 [(0, .ref (q 3)), (1, .int v1), (2, .int v2), (3, .int v3)] [] := by
  obtain ⟨hX, hT, hF⟩ := id h
  unfold fX3_add at hf
  refine a_aload_n hX dX3_add_0 rfl 0 rfl rfl ?_
  refine gX3_3 hX F_X3_17 dX3_add_1 rfl ?_
  refine a_aload_n hX dX3_add_4 rfl 0 rfl rfl ?_
  refine gX3_0 hX F_X3_53 dX3_add_5 rfl ?_
  refine a_iload_n hX dX3_add_8 rfl 1 rfl rfl ?_
  refine sX3_3 hX dX3_add_9 rfl hf (fun u1 hf => ?_)
  refine a_aload_n hX dX3_add_10 rfl 0 rfl rfl ?_
  refine gX3_4 hX F_X3_21 dX3_add_11 rfl ?_
  refine a_aload_n hX dX3_add_14 rfl 0 rfl rfl ?_
  refine gX3_0 hX F_X3_53 dX3_add_15 rfl ?_
  refine a_iload_n hX dX3_add_18 rfl 2 rfl rfl ?_
  refine sX3_4 hX dX3_add_19 rfl hf (fun u2 hf => ?_)
  refine a_aload_n hX dX3_add_20 rfl 0 rfl rfl ?_
  refine gX3_5 hX F_X3_24 dX3_add_21 rfl ?_
  refine a_aload_n hX dX3_add_24 rfl 0 rfl rfl ?_
  refine gX3_0 hX F_X3_53 dX3_add_25 rfl ?_
  refine a_iload_n hX dX3_add_28 rfl 3 rfl rfl ?_
  refine sX3_5 hX dX3_add_29 rfl hf (fun u3 hf => ?_)
  refine a_aload_n hX dX3_add_30 rfl 0 rfl rfl ?_
  refine a_dup hX dX3_add_31 rfl rfl ?_
  refine gX3_0 hX F_X3_53 dX3_add_32 rfl ?_
  refine a_nmI hf (fun x4 hf => ?_)
  refine a_dup_x1 hX dX3_add_35 rfl rfl rfl ?_
  refine a_iconst (v := 1) hX dX3_add_36 (by decide) rfl ?_
  refine a_iadd hX dX3_add_37 rfl ?_
  refine pX3_0 hX F_X3_53 dX3_add_38 rfl hf (fun u5 hf => ?_)
  exact a_iret hX hT hF (r_iS (wf := (wC V q ts)) hf) dX3_add_41
theorem ctX3_add {V : Vx} {q : Nat → Nat} {u : St} {g : Nat → Nat} {ts : List Tx} {res : Int32 × St} (hE : EnvC V g) {v1 : Int32} {v2 : Int32} {v3 : Int32} (hf : fX3_add u v1 v2 v3 = some res) : Ct V yX3_add (.code yX3_add cX3_add 4 (some .int)) rmX3_add 0 0 [.ref (q 3), .int v1, .int v2, .int v3] (wC V q ts u) (rEq (some (.int res.1)) (wC V q ts res.2)) :=
  Ct_of (by decide) (Nat.le_of_ble_eq_true rfl) rfl (fun X hX hT _ hF => wX3_add ⟨hX, hT, hF⟩ hE hf)
def rmX4_has : Room := { frames := 0, cells := 0, slots := 0, locals := 0 }
def fX4_has (u : St) (v1 : Int32) : Option (Int32) := if v1 < 0 then some 0 else (if gZ u 80 ≤ v1 then some 0 else (some 1))
theorem wX4_has {X : Cx} {V : Vx} {q : Nat → Nat} {g : Nat → Nat} {ts : List Tx} {u : St} {res : Int32} (h : Run X cX4_has 2 RX4 rmX4_has V (some .boolean) (rEq (some (.int res)) (wC V q ts u))) (hE : EnvC V g) {v1 : Int32} (hf : fX4_has u v1 = some res) : At X 2 0 0 (wC V q ts u) 0 [(0, .ref (q 4)), (1, .int v1)] [] := by
  obtain ⟨hX, hT, hF⟩ := id h
  unfold fX4_has at hf
  refine a_iload_n hX dX4_has_0 rfl 1 rfl rfl ?_
  refine a_if_lt (tgt := 16) hX dX4_has_1 rfl rfl hf (fun hf => ?_) (fun hf => ?_)
  · refine a_iconst (v := 0) hX dX4_has_16 (by decide) rfl ?_
    exact a_zret hX hT (by decide) hF (r_i hf) dX4_has_17
  · refine a_iload_n hX dX4_has_4 rfl 1 rfl rfl ?_
    refine a_aload_n hX dX4_has_5 rfl 0 rfl rfl ?_
    refine gX4_0 hX F_X4_27 dX4_has_6 rfl ?_
    refine a_icmp_ge (tgt := 16) hX dX4_has_9 rfl rfl hf (fun hf => ?_) (fun hf => ?_)
    · refine a_iconst (v := 0) hX dX4_has_16 (by decide) rfl ?_
      exact a_zret hX hT (by decide) hF (r_i hf) dX4_has_17
    · refine a_iconst (v := 1) hX dX4_has_12 (by decide) rfl ?_
      refine a_goto (pc' := 17) hX dX4_has_13 rfl ?_
      exact a_zret hX hT (by decide) hF (r_i hf) dX4_has_17
theorem ctX4_has {V : Vx} {q : Nat → Nat} {u : St} {g : Nat → Nat} {ts : List Tx} {res : Int32} (hE : EnvC V g) {v1 : Int32} (hf : fX4_has u v1 = some res) : Ct V yX4_has (.code yX4_has cX4_has 2 (some .boolean)) rmX4_has 0 0 [.ref (q 4), .int v1] (wC V q ts u) (rEq (some (.int res)) (wC V q ts u)) :=
  Ct_of (by decide) (Nat.le_of_ble_eq_true rfl) rfl (fun X hX hT _ hF => wX4_has ⟨hX, hT, hF⟩ hE hf)
def rmX4_hasAll : Room := { frames := 0, cells := 0, slots := 0, locals := 0 }
def fX4_hasAll (u : St) (v1 : Int32) : Option (Int32) := if v1 < 0 then some 0 else (if (1 : Int32) <<< ((gZ u 80) &&& 31) ≤ v1 then some 0 else (some 1))
theorem wX4_hasAll {X : Cx} {V : Vx} {q : Nat → Nat} {g : Nat → Nat} {ts : List Tx} {u : St} {res : Int32} (h : Run X cX4_hasAll 2 RX4 rmX4_hasAll V (some .boolean) (rEq (some (.int res)) (wC V q ts u))) (hE : EnvC V g) {v1 : Int32} (hf : fX4_hasAll u v1 = some res) : At X 2 0 0 (wC V q ts u) 0 [(0, .ref (q 4)), (1, .int v1)] [] := by
  obtain ⟨hX, hT, hF⟩ := id h
  unfold fX4_hasAll at hf
  refine a_iload_n hX dX4_hasAll_0 rfl 1 rfl rfl ?_
  refine a_if_lt (tgt := 18) hX dX4_hasAll_1 rfl rfl hf (fun hf => ?_) (fun hf => ?_)
  · refine a_iconst (v := 0) hX dX4_hasAll_18 (by decide) rfl ?_
    exact a_zret hX hT (by decide) hF (r_i hf) dX4_hasAll_19
  · refine a_iload_n hX dX4_hasAll_4 rfl 1 rfl rfl ?_
    refine a_iconst (v := 1) hX dX4_hasAll_5 (by decide) rfl ?_
    refine a_aload_n hX dX4_hasAll_6 rfl 0 rfl rfl ?_
    refine gX4_0 hX F_X4_27 dX4_hasAll_7 rfl ?_
    refine a_ishl hX dX4_hasAll_10 rfl ?_
    refine a_icmp_ge (tgt := 18) hX dX4_hasAll_11 rfl rfl hf (fun hf => ?_) (fun hf => ?_)
    · refine a_iconst (v := 0) hX dX4_hasAll_18 (by decide) rfl ?_
      exact a_zret hX hT (by decide) hF (r_i hf) dX4_hasAll_19
    · refine a_iconst (v := 1) hX dX4_hasAll_14 (by decide) rfl ?_
      refine a_goto (pc' := 19) hX dX4_hasAll_15 rfl ?_
      exact a_zret hX hT (by decide) hF (r_i hf) dX4_hasAll_19
theorem ctX4_hasAll {V : Vx} {q : Nat → Nat} {u : St} {g : Nat → Nat} {ts : List Tx} {res : Int32} (hE : EnvC V g) {v1 : Int32} (hf : fX4_hasAll u v1 = some res) : Ct V yX4_hasAll (.code yX4_hasAll cX4_hasAll 2 (some .boolean)) rmX4_hasAll 0 0 [.ref (q 4), .int v1] (wC V q ts u) (rEq (some (.int res)) (wC V q ts u)) :=
  Ct_of (by decide) (Nat.le_of_ble_eq_true rfl) rfl (fun X hX hT _ hF => wX4_hasAll ⟨hX, hT, hF⟩ hE hf)
def rmX4_standingWithout : Room := { frames := 1, cells := 0, slots := 0, locals := 21 }
def fX4_standingWithout_b39 (u : St) (k4 : Int32 → Int32 → Option (Int32)) (v1 : Int32) (v2 : Int32) (v3 : Int32) : Option (Int32) := k4 v2 (v3 + 1)
theorem wX4_standingWithout_b39 {X : Cx} {V : Vx} {q : Nat → Nat} {g : Nat → Nat} {ts : List Tx} {u : St} {res : Int32} (h : Run X cX4_standingWithout 4 RX4 rmX4_standingWithout V (some .int) (rEq (some (.int res)) (wC V q ts u))) (hE : EnvC V g) {v1 : Int32} {v2 : Int32} {v3 : Int32} {k4 : Int32 → Int32 → Option (Int32)} (hk4 : ∀ (v2 : Int32) (v3 : Int32), k4 v2 v3 = some res → At X 4 0 0 (wC V q ts u) 4 [(0, .ref (q 4)), (1, .int v1), (2, .int v2), (3, .int v3)] []) (hf : fX4_standingWithout_b39 u k4 v1 v2 v3 = some res) : At X 4 0 0 (wC V q ts u) 39 [(0, .ref (q 4)), (1, .int v1), (2, .int v2), (3, .int v3)] [] := by
  obtain ⟨hX, hT, hF⟩ := id h
  unfold fX4_standingWithout_b39 at hf
  refine a_iinc (v := v3 + 1) (lv' := [(3, .int (v3 + 1)), (0, .ref (q 4)), (1, .int v1), (2, .int v2)]) hX dX4_standingWithout_39 3 rfl rfl (by decide) rfl rfl ?_
  refine a_goto (pc' := 4) hX dX4_standingWithout_42 rfl ?_
  refine a_lv (lv' := [(0, .ref (q 4)), (1, .int v1), (2, .int v2), (3, .int (v3 + 1))]) [1, 2, 3, 0] rfl ?_
  exact hk4 v2 (v3 + 1) hf
def fX4_standingWithout_l4b (u : St) (k4 : Int32 → Int32 → Option (Int32)) (v1 : Int32) (v2 : Int32) (v3 : Int32) : Option (Int32) := if gZ u 80 ≤ v3 then some v2 else (cl1 (fX11_isIn v1 v3) (fun x1 => if x1 = 0 then ldI (gA u 87) 16 v3 (fun x2 => if x2 &&& (v2 ^^^ (-1)) = 0 then nmI (v2 ||| ((1 : Int32) <<< (v3 &&& 31))) (fun x3 => fX4_standingWithout_b39 u k4 v1 x3 v3) else (fX4_standingWithout_b39 u k4 v1 v2 v3)) else (fX4_standingWithout_b39 u k4 v1 v2 v3)))
theorem wX4_standingWithout_l4b {X : Cx} {V : Vx} {q : Nat → Nat} {g : Nat → Nat} {ts : List Tx} {u : St} {res : Int32} (h : Run X cX4_standingWithout 4 RX4 rmX4_standingWithout V (some .int) (rEq (some (.int res)) (wC V q ts u))) (hE : EnvC V g) {v1 : Int32} {v2 : Int32} {v3 : Int32} {k4 : Int32 → Int32 → Option (Int32)} (hk4 : ∀ (v2 : Int32) (v3 : Int32), k4 v2 v3 = some res → At X 4 0 0 (wC V q ts u) 4 [(0, .ref (q 4)), (1, .int v1), (2, .int v2), (3, .int v3)] []) (hf : fX4_standingWithout_l4b u k4 v1 v2 v3 = some res) : At X 4 0 0 (wC V q ts u) 4 [(0, .ref (q 4)), (1, .int v1), (2, .int v2), (3, .int v3)] [] := by
  obtain ⟨hX, hT, hF⟩ := id h
  unfold fX4_standingWithout_l4b at hf
  refine a_iload_n hX dX4_standingWithout_4 rfl 3 rfl rfl ?_
  refine a_aload_n hX dX4_standingWithout_5 rfl 0 rfl rfl ?_
  refine gX4_0 hX F_X4_27 dX4_standingWithout_6 rfl ?_
  refine a_icmp_ge (tgt := 45) hX dX4_standingWithout_9 rfl rfl hf (fun hf => ?_) (fun hf => ?_)
  · refine a_iload_n hX dX4_standingWithout_45 rfl 2 rfl rfl ?_
    exact a_iret hX hT hF (r_i hf) dX4_standingWithout_46
  · refine a_iload_n hX dX4_standingWithout_12 rfl 1 rfl rfl ?_
    refine a_iload_n hX dX4_standingWithout_13 rfl 3 rfl rfl ?_
    obtain ⟨x1, hg1, hf⟩ := cl1_some hf
    refine a_cNpi (rest := []) hX hE.1 (ctX11_isIn hE.1 hg1) (e_nw hX hE (w := .methodLinkNest "VaseCourt$PaperFile" 46 yX11_isIn "VaseCourt") (List.mem_of_getElem? (i := 6) rfl)) LN_X11_isIn ⟨rfl, rfl, by decide, by decide⟩ ⟨Nat.zero_le _, Nat.zero_le _⟩ (Nat.le_of_ble_eq_true rfl) dX4_standingWithout_14 rfl rfl ?_
    refine a_if_ne (tgt := 39) hX dX4_standingWithout_17 rfl rfl hf (fun hf => ?_) (fun hf => ?_)
    · exact wX4_standingWithout_b39 h hE hk4 hf
    · refine a_aload_n hX dX4_standingWithout_20 rfl 0 rfl rfl ?_
      refine gX4_7 hX F_X4_24 dX4_standingWithout_21 rfl ?_
      refine a_iload_n hX dX4_standingWithout_24 rfl 3 rfl rfl ?_
      refine lX4_7 hX dX4_standingWithout_25 rfl hf (fun x2 hf => ?_)
      refine a_iload_n hX dX4_standingWithout_26 rfl 2 rfl rfl ?_
      refine a_iconst (v := (-1)) hX dX4_standingWithout_27 (by decide) rfl ?_
      refine a_ixor hX dX4_standingWithout_28 rfl ?_
      refine a_iand hX dX4_standingWithout_29 rfl ?_
      refine a_if_ne (tgt := 39) hX dX4_standingWithout_30 rfl rfl hf (fun hf => ?_) (fun hf => ?_)
      · exact wX4_standingWithout_b39 h hE hk4 hf
      · refine a_iload_n hX dX4_standingWithout_33 rfl 2 rfl rfl ?_
        refine a_iconst (v := 1) hX dX4_standingWithout_34 (by decide) rfl ?_
        refine a_iload_n hX dX4_standingWithout_35 rfl 3 rfl rfl ?_
        refine a_ishl hX dX4_standingWithout_36 rfl ?_
        refine a_ior hX dX4_standingWithout_37 rfl ?_
        refine a_nmI hf (fun x3 hf => ?_)
        refine a_istore_n (lv' := [(2, .int x3), (0, .ref (q 4)), (1, .int v1), (3, .int v3)]) hX dX4_standingWithout_38 rfl (by decide) rfl rfl ?_
        refine a_lv (lv' := [(0, .ref (q 4)), (1, .int v1), (2, .int x3), (3, .int v3)]) [1, 2, 0, 3] rfl ?_
        exact wX4_standingWithout_b39 h hE hk4 hf
def fX4_standingWithout_l4 (u : St)  (v1 : Int32) : Nat → Int32 → Int32 → Option (Int32)
  | 0, _, _ => none
  | m + 1, v2, v3 => fX4_standingWithout_l4b u (fX4_standingWithout_l4 u  v1 m) v1 v2 v3
theorem wX4_standingWithout_l4 {X : Cx} {V : Vx} {q : Nat → Nat} {g : Nat → Nat} {ts : List Tx} {u : St} {res : Int32} (h : Run X cX4_standingWithout 4 RX4 rmX4_standingWithout V (some .int) (rEq (some (.int res)) (wC V q ts u))) (hE : EnvC V g) {v1 : Int32} : ∀ (m : Nat) (v2 : Int32) (v3 : Int32), fX4_standingWithout_l4 u  v1 m v2 v3 = some res → At X 4 0 0 (wC V q ts u) 4 [(0, .ref (q 4)), (1, .int v1), (2, .int v2), (3, .int v3)] [] := by
  intro m
  induction m with
  | zero => intro v2 v3 hf; cases hf
  | succ m ih => intro v2 v3 hf; exact wX4_standingWithout_l4b h hE ih hf
def fX4_standingWithout (u : St) (v1 : Int32) : Option (Int32) := fX4_standingWithout_l4 u v1 NF 0 0
theorem wX4_standingWithout {X : Cx} {V : Vx} {q : Nat → Nat} {g : Nat → Nat} {ts : List Tx} {u : St} {res : Int32} (h : Run X cX4_standingWithout 4 RX4 rmX4_standingWithout V (some .int) (rEq (some (.int res)) (wC V q ts u))) (hE : EnvC V g) {v1 : Int32} (hf : fX4_standingWithout u v1 = some res) : At X 4 0 0 (wC V q ts u) 0 [(0, .ref (q 4)), (1, .int v1)] [] := by
  obtain ⟨hX, hT, hF⟩ := id h
  unfold fX4_standingWithout at hf
  refine a_iconst (v := 0) hX dX4_standingWithout_0 (by decide) rfl ?_
  refine a_istore_n (lv' := [(2, .int 0), (0, .ref (q 4)), (1, .int v1)]) hX dX4_standingWithout_1 rfl (by decide) rfl rfl ?_
  refine a_iconst (v := 0) hX dX4_standingWithout_2 (by decide) rfl ?_
  refine a_istore_n (lv' := [(3, .int 0), (2, .int 0), (0, .ref (q 4)), (1, .int v1)]) hX dX4_standingWithout_3 rfl (by decide) rfl rfl ?_
  refine a_lv (lv' := [(0, .ref (q 4)), (1, .int v1), (2, .int 0), (3, .int 0)]) [2, 3, 1, 0] rfl ?_
  exact wX4_standingWithout_l4 h hE NF 0 0 hf
theorem ctX4_standingWithout {V : Vx} {q : Nat → Nat} {u : St} {g : Nat → Nat} {ts : List Tx} {res : Int32} (hE : EnvC V g) {v1 : Int32} (hf : fX4_standingWithout u v1 = some res) : Ct V yX4_standingWithout (.code yX4_standingWithout cX4_standingWithout 4 (some .int)) rmX4_standingWithout 0 0 [.ref (q 4), .int v1] (wC V q ts u) (rEq (some (.int res)) (wC V q ts u)) :=
  Ct_of (by decide) (Nat.le_of_ble_eq_true rfl) rfl (fun X hX hT _ hF => wX4_standingWithout ⟨hX, hT, hF⟩ hE hf)
def rmX4_add : Room := { frames := 2, cells := 0, slots := 0, locals := 44 }
def fX4_add (u : St) (v1 : Int32) (v2 : Int32) (v3 : Int32) (v4 : Int32) (v5 : Int32) : Option (Int32 × St) := stI u 83 16 (gZ u 80) v1 (fun u1 => stI u1 84 16 (gZ u1 80) v2 (fun u2 => stI u2 85 16 (gZ u2 80) v3 (fun u3 => stI u3 86 16 (gZ u3 80) v4 (fun u4 => stI u4 87 16 (gZ u4 80) v5 (fun u5 => nmS (setZ u5 80 ((gZ u5 80) + 1)) (fun u6 => cl1 (fX4_standingWithout u6 (gZ u6 81)) (fun x7 => nmS (setZ u6 82 x7) (fun u8 => some ((gZ u8 80) - 1, u8)))))))))
theorem wX4_add {X : Cx} {V : Vx} {q : Nat → Nat} {g : Nat → Nat} {ts : List Tx} {res : Int32 × St} (h : Run X cX4_add 6 RX4 rmX4_add V (some .int) (rEq (some (.int res.1)) (wC V q ts res.2))) (hE : EnvC V g) {u : St} {v1 : Int32} {v2 : Int32} {v3 : Int32} {v4 : Int32} {v5 : Int32} (hf : fX4_add u v1 v2 v3 v4 v5 = some res) : At X 6 0 0 (wC V q ts u) 0 [(0, .ref (q 4)), (1, .int v1), (2, .int v2), (3, .int v3), (4, .int v4), (5, .int v5)] [] := by
  obtain ⟨hX, hT, hF⟩ := id h
  unfold fX4_add at hf
  refine a_aload_n hX dX4_add_0 rfl 0 rfl rfl ?_
  refine gX4_3 hX F_X4_11 dX4_add_1 rfl ?_
  refine a_aload_n hX dX4_add_4 rfl 0 rfl rfl ?_
  refine gX4_0 hX F_X4_27 dX4_add_5 rfl ?_
  refine a_iload_n hX dX4_add_8 rfl 1 rfl rfl ?_
  refine sX4_3 hX dX4_add_9 rfl hf (fun u1 hf => ?_)
  refine a_aload_n hX dX4_add_10 rfl 0 rfl rfl ?_
  refine gX4_4 hX F_X4_15 dX4_add_11 rfl ?_
  refine a_aload_n hX dX4_add_14 rfl 0 rfl rfl ?_
  refine gX4_0 hX F_X4_27 dX4_add_15 rfl ?_
  refine a_iload_n hX dX4_add_18 rfl 2 rfl rfl ?_
  refine sX4_4 hX dX4_add_19 rfl hf (fun u2 hf => ?_)
  refine a_aload_n hX dX4_add_20 rfl 0 rfl rfl ?_
  refine gX4_5 hX F_X4_18 dX4_add_21 rfl ?_
  refine a_aload_n hX dX4_add_24 rfl 0 rfl rfl ?_
  refine gX4_0 hX F_X4_27 dX4_add_25 rfl ?_
  refine a_iload_n hX dX4_add_28 rfl 3 rfl rfl ?_
  refine sX4_5 hX dX4_add_29 rfl hf (fun u3 hf => ?_)
  refine a_aload_n hX dX4_add_30 rfl 0 rfl rfl ?_
  refine gX4_6 hX F_X4_21 dX4_add_31 rfl ?_
  refine a_aload_n hX dX4_add_34 rfl 0 rfl rfl ?_
  refine gX4_0 hX F_X4_27 dX4_add_35 rfl ?_
  refine a_iload hX dX4_add_38 4 rfl rfl ?_
  refine sX4_6 hX dX4_add_40 rfl hf (fun u4 hf => ?_)
  refine a_aload_n hX dX4_add_41 rfl 0 rfl rfl ?_
  refine gX4_7 hX F_X4_24 dX4_add_42 rfl ?_
  refine a_aload_n hX dX4_add_45 rfl 0 rfl rfl ?_
  refine gX4_0 hX F_X4_27 dX4_add_46 rfl ?_
  refine a_iload hX dX4_add_49 5 rfl rfl ?_
  refine sX4_7 hX dX4_add_51 rfl hf (fun u5 hf => ?_)
  refine a_aload_n hX dX4_add_52 rfl 0 rfl rfl ?_
  refine a_dup hX dX4_add_53 rfl rfl ?_
  refine gX4_0 hX F_X4_27 dX4_add_54 rfl ?_
  refine a_iconst (v := 1) hX dX4_add_57 (by decide) rfl ?_
  refine a_iadd hX dX4_add_58 rfl ?_
  refine pX4_0 hX F_X4_27 dX4_add_59 rfl hf (fun u6 hf => ?_)
  refine a_aload_n hX dX4_add_62 rfl 0 rfl rfl ?_
  refine a_aload_n hX dX4_add_63 rfl 0 rfl rfl ?_
  refine a_aload_n hX dX4_add_64 rfl 0 rfl rfl ?_
  refine gX4_1 hX F_X4_31 dX4_add_65 rfl ?_
  obtain ⟨x7, hg7, hf⟩ := cl1_some hf
  refine a_cVsi (q0 := 2) (rest := [.ref (q 4)]) hX hE.1 (ctX4_standingWithout (q := q) hE hg7) K_X4_34 ⟨rfl, rfl⟩ ⟨rfl, rfl, by decide, by decide⟩ ⟨Nat.zero_le _, Nat.zero_le _⟩ (Nat.le_of_ble_eq_true rfl) dX4_add_68 rfl rfl ?_
  refine pX4_2 hX F_X4_38 dX4_add_71 rfl hf (fun u8 hf => ?_)
  refine a_aload_n hX dX4_add_74 rfl 0 rfl rfl ?_
  refine gX4_0 hX F_X4_27 dX4_add_75 rfl ?_
  refine a_iconst (v := 1) hX dX4_add_78 (by decide) rfl ?_
  refine a_isub hX dX4_add_79 rfl ?_
  exact a_iret hX hT hF (r_iS (wf := (wC V q ts)) hf) dX4_add_80
theorem ctX4_add {V : Vx} {q : Nat → Nat} {u : St} {g : Nat → Nat} {ts : List Tx} {res : Int32 × St} (hE : EnvC V g) {v1 : Int32} {v2 : Int32} {v3 : Int32} {v4 : Int32} {v5 : Int32} (hf : fX4_add u v1 v2 v3 v4 v5 = some res) : Ct V yX4_add (.code yX4_add cX4_add 6 (some .int)) rmX4_add 0 0 [.ref (q 4), .int v1, .int v2, .int v3, .int v4, .int v5] (wC V q ts u) (rEq (some (.int res.1)) (wC V q ts res.2)) :=
  Ct_of (by decide) (Nat.le_of_ble_eq_true rfl) rfl (fun X hX hT _ hF => wX4_add ⟨hX, hT, hF⟩ hE hf)
def rmX4_markForged : Room := { frames := 2, cells := 0, slots := 0, locals := 44 }
def fX4_markForged_b26   (u : St) (s0 : Int32) : Option (St) := nmS (setZ u 81 s0) (fun u1 => cl1 (fX4_standingWithout u1 (gZ u1 81)) (fun x2 => nmS (setZ u1 82 x2) (fun u3 => some u3)))
theorem wX4_markForged_b26 {X : Cx} {V : Vx} {q : Nat → Nat} {g : Nat → Nat} {ts : List Tx} {res : St} (h : Run X cX4_markForged 3 RX4 rmX4_markForged V none (rEq none (wC V q ts res))) (hE : EnvC V g) {u : St} {s0 : Int32} (hf : fX4_markForged_b26   u s0 = some res) : At X 3 0 0 (wC V q ts u) 26 [(0, .ref (q 4))] [.int s0, .ref (q 4)] := by
  obtain ⟨hX, hT, hF⟩ := id h
  unfold fX4_markForged_b26 at hf
  refine pX4_1 hX F_X4_31 dX4_markForged_26 rfl hf (fun u1 hf => ?_)
  refine a_aload_n hX dX4_markForged_29 rfl 0 rfl rfl ?_
  refine a_aload_n hX dX4_markForged_30 rfl 0 rfl rfl ?_
  refine a_aload_n hX dX4_markForged_31 rfl 0 rfl rfl ?_
  refine gX4_1 hX F_X4_31 dX4_markForged_32 rfl ?_
  obtain ⟨x2, hg2, hf⟩ := cl1_some hf
  refine a_cVsi (q0 := 2) (rest := [.ref (q 4)]) hX hE.1 (ctX4_standingWithout (q := q) hE hg2) K_X4_34 ⟨rfl, rfl⟩ ⟨rfl, rfl, by decide, by decide⟩ ⟨Nat.zero_le _, Nat.zero_le _⟩ (Nat.le_of_ble_eq_true rfl) dX4_markForged_35 rfl rfl ?_
  refine pX4_2 hX F_X4_38 dX4_markForged_38 rfl hf (fun u3 hf => ?_)
  exact a_ret hX hT hF (r_vS (wf := (wC V q ts)) hf) dX4_markForged_41
def fX4_markForged (u : St) (v1 : Int32) (v2 : Int32) : Option (St) := if v2 = 0 then fX4_markForged_b26 u ((gZ u 81) &&& (((1 : Int32) <<< (v1 &&& 31)) ^^^ (-1))) else (fX4_markForged_b26 u ((gZ u 81) ||| ((1 : Int32) <<< (v1 &&& 31))))
theorem wX4_markForged {X : Cx} {V : Vx} {q : Nat → Nat} {g : Nat → Nat} {ts : List Tx} {res : St} (h : Run X cX4_markForged 3 RX4 rmX4_markForged V none (rEq none (wC V q ts res))) (hE : EnvC V g) {u : St} {v1 : Int32} {v2 : Int32} (hf : fX4_markForged u v1 v2 = some res) : At X 3 0 0 (wC V q ts u) 0 [(0, .ref (q 4)), (1, .int v1), (2, .int v2)] [] := by
  obtain ⟨hX, hT, hF⟩ := id h
  unfold fX4_markForged at hf
  refine a_aload_n hX dX4_markForged_0 rfl 0 rfl rfl ?_
  refine a_iload_n hX dX4_markForged_1 rfl 2 rfl rfl ?_
  refine a_if_eq (tgt := 16) hX dX4_markForged_2 rfl rfl hf (fun hf => ?_) (fun hf => ?_)
  · refine a_aload_n hX dX4_markForged_16 rfl 0 rfl rfl ?_
    refine gX4_1 hX F_X4_31 dX4_markForged_17 rfl ?_
    refine a_iconst (v := 1) hX dX4_markForged_20 (by decide) rfl ?_
    refine a_iload_n hX dX4_markForged_21 rfl 1 rfl rfl ?_
    refine a_ishl hX dX4_markForged_22 rfl ?_
    refine a_iconst (v := (-1)) hX dX4_markForged_23 (by decide) rfl ?_
    refine a_ixor hX dX4_markForged_24 rfl ?_
    refine a_iand hX dX4_markForged_25 rfl ?_
    refine a_lv (lv' := [(0, .ref (q 4))]) [0] rfl ?_
    exact wX4_markForged_b26 h hE hf
  · refine a_aload_n hX dX4_markForged_5 rfl 0 rfl rfl ?_
    refine gX4_1 hX F_X4_31 dX4_markForged_6 rfl ?_
    refine a_iconst (v := 1) hX dX4_markForged_9 (by decide) rfl ?_
    refine a_iload_n hX dX4_markForged_10 rfl 1 rfl rfl ?_
    refine a_ishl hX dX4_markForged_11 rfl ?_
    refine a_ior hX dX4_markForged_12 rfl ?_
    refine a_goto (pc' := 26) hX dX4_markForged_13 rfl ?_
    refine a_lv (lv' := [(0, .ref (q 4))]) [0] rfl ?_
    exact wX4_markForged_b26 h hE hf
theorem ctX4_markForged {V : Vx} {q : Nat → Nat} {u : St} {g : Nat → Nat} {ts : List Tx} {res : St} (hE : EnvC V g) {v1 : Int32} {v2 : Int32} (hf : fX4_markForged u v1 v2 = some res) : Ct V yX4_markForged (.code yX4_markForged cX4_markForged 3 none) rmX4_markForged 0 0 [.ref (q 4), .int v1, .int v2] (wC V q ts u) (rEq none (wC V q ts res)) :=
  Ct_of (by decide) (Nat.le_of_ble_eq_true rfl) rfl (fun X hX hT _ hF => wX4_markForged ⟨hX, hT, hF⟩ hE hf)
def rmX4_standingCount : Room := { frames := 1, cells := 0, slots := 0, locals := 20 }
def fX4_standingCount (u : St) : Option (Int32) := cl1 (fJ6_bitCount_0f7a4 (gZ u 82)) (fun x1 => some x1)
theorem wX4_standingCount {X : Cx} {V : Vx} {q : Nat → Nat} {g : Nat → Nat} {ts : List Tx} {u : St} {res : Int32} (h : Run X cX4_standingCount 1 RX4 rmX4_standingCount V (some .int) (rEq (some (.int res)) (wC V q ts u))) (hE : EnvC V g)  (hf : fX4_standingCount u = some res) : At X 1 0 0 (wC V q ts u) 0 [(0, .ref (q 4))] [] := by
  obtain ⟨hX, hT, hF⟩ := id h
  unfold fX4_standingCount at hf
  refine a_aload_n hX dX4_standingCount_0 rfl 0 rfl rfl ?_
  refine gX4_2 hX F_X4_38 dX4_standingCount_1 rfl ?_
  obtain ⟨x1, hg1, hf⟩ := cl1_some hf
  refine a_cSpi (rest := []) hX hE.1 (ctJ6_bitCount_0f7a4 hE.1 hg1) K_X4_41 ⟨rfl, rfl, by decide, by decide⟩ ⟨Nat.zero_le _, Nat.zero_le _⟩ (Nat.le_of_ble_eq_true rfl) dX4_standingCount_4 rfl rfl ?_
  exact a_iret hX hT hF (r_i hf) dX4_standingCount_7
theorem ctX4_standingCount {V : Vx} {q : Nat → Nat} {u : St} {g : Nat → Nat} {ts : List Tx} {res : Int32} (hE : EnvC V g)  (hf : fX4_standingCount u = some res) : Ct V yX4_standingCount (.code yX4_standingCount cX4_standingCount 1 (some .int)) rmX4_standingCount 0 0 [.ref (q 4)] (wC V q ts u) (rEq (some (.int res)) (wC V q ts u)) :=
  Ct_of (by decide) (Nat.le_of_ble_eq_true rfl) rfl (fun X hX hT _ hF => wX4_standingCount ⟨hX, hT, hF⟩ hE hf)
def rmX4_fallingWith : Room := { frames := 2, cells := 0, slots := 0, locals := 44 }
def fX4_fallingWith (u : St) (v1 : Int32) : Option (Int32) := cl1 (fX4_standingWithout u ((gZ u 81) ||| ((1 : Int32) <<< (v1 &&& 31)))) (fun x1 => some ((gZ u 82) &&& (x1 ^^^ (-1))))
theorem wX4_fallingWith {X : Cx} {V : Vx} {q : Nat → Nat} {g : Nat → Nat} {ts : List Tx} {u : St} {res : Int32} (h : Run X cX4_fallingWith 2 RX4 rmX4_fallingWith V (some .int) (rEq (some (.int res)) (wC V q ts u))) (hE : EnvC V g) {v1 : Int32} (hf : fX4_fallingWith u v1 = some res) : At X 2 0 0 (wC V q ts u) 0 [(0, .ref (q 4)), (1, .int v1)] [] := by
  obtain ⟨hX, hT, hF⟩ := id h
  unfold fX4_fallingWith at hf
  refine a_aload_n hX dX4_fallingWith_0 rfl 0 rfl rfl ?_
  refine gX4_2 hX F_X4_38 dX4_fallingWith_1 rfl ?_
  refine a_aload_n hX dX4_fallingWith_4 rfl 0 rfl rfl ?_
  refine a_aload_n hX dX4_fallingWith_5 rfl 0 rfl rfl ?_
  refine gX4_1 hX F_X4_31 dX4_fallingWith_6 rfl ?_
  refine a_iconst (v := 1) hX dX4_fallingWith_9 (by decide) rfl ?_
  refine a_iload_n hX dX4_fallingWith_10 rfl 1 rfl rfl ?_
  refine a_ishl hX dX4_fallingWith_11 rfl ?_
  refine a_ior hX dX4_fallingWith_12 rfl ?_
  obtain ⟨x1, hg1, hf⟩ := cl1_some hf
  refine a_cVsi (q0 := 2) (rest := [.int (gZ u 82)]) hX hE.1 (ctX4_standingWithout (q := q) hE hg1) K_X4_34 ⟨rfl, rfl⟩ ⟨rfl, rfl, by decide, by decide⟩ ⟨Nat.zero_le _, Nat.zero_le _⟩ (Nat.le_of_ble_eq_true rfl) dX4_fallingWith_13 rfl rfl ?_
  refine a_iconst (v := (-1)) hX dX4_fallingWith_16 (by decide) rfl ?_
  refine a_ixor hX dX4_fallingWith_17 rfl ?_
  refine a_iand hX dX4_fallingWith_18 rfl ?_
  exact a_iret hX hT hF (r_i hf) dX4_fallingWith_19
theorem ctX4_fallingWith {V : Vx} {q : Nat → Nat} {u : St} {g : Nat → Nat} {ts : List Tx} {res : Int32} (hE : EnvC V g) {v1 : Int32} (hf : fX4_fallingWith u v1 = some res) : Ct V yX4_fallingWith (.code yX4_fallingWith cX4_fallingWith 2 (some .int)) rmX4_fallingWith 0 0 [.ref (q 4), .int v1] (wC V q ts u) (rEq (some (.int res)) (wC V q ts u)) :=
  Ct_of (by decide) (Nat.le_of_ble_eq_true rfl) rfl (fun X hX hT _ hF => wX4_fallingWith ⟨hX, hT, hF⟩ hE hf)
def rmX4_isUnder : Room := { frames := 0, cells := 0, slots := 0, locals := 0 }
def fX4_isUnder_l4b (u : St) (k4 : Int32 → Int32 → Option (Int32)) (v1 : Int32) (v2 : Int32) (v3 : Int32) : Option (Int32) := if 6 ≤ v3 then some 0 else (if v2 = (-1) then some 0 else (if v2 = v1 then some 1 else (ldI kabv 6 v2 (fun x1 => k4 x1 (v3 + 1)))))
theorem wX4_isUnder_l4b {X : Cx} {V : Vx} {q : Nat → Nat} {g : Nat → Nat} {ts : List Tx} {u : St} {res : Int32} (h : Run X cX4_isUnder 4 RX4 rmX4_isUnder V (some .boolean) (rEq (some (.int res)) (wC V q ts u))) (hE : EnvC V g) {v1 : Int32} {v2 : Int32} {v3 : Int32} {k4 : Int32 → Int32 → Option (Int32)} (hk4 : ∀ (v2 : Int32) (v3 : Int32), k4 v2 v3 = some res → At X 4 0 0 (wC V q ts u) 4 [(1, .int v1), (2, .int v2), (3, .int v3)] []) (hf : fX4_isUnder_l4b u k4 v1 v2 v3 = some res) : At X 4 0 0 (wC V q ts u) 4 [(1, .int v1), (2, .int v2), (3, .int v3)] [] := by
  obtain ⟨hX, hT, hF⟩ := id h
  unfold fX4_isUnder_l4b at hf
  refine a_iload_n hX dX4_isUnder_4 rfl 2 rfl rfl ?_
  refine a_bipush (v := 6) hX dX4_isUnder_5 (by decide) rfl ?_
  refine a_icmp_ge (tgt := 34) hX dX4_isUnder_7 rfl rfl hf (fun hf => ?_) (fun hf => ?_)
  · refine a_iconst (v := 0) hX dX4_isUnder_34 (by decide) rfl ?_
    exact a_zret hX hT (by decide) hF (r_i hf) dX4_isUnder_35
  · refine a_iload_n hX dX4_isUnder_10 rfl 1 rfl rfl ?_
    refine a_iconst (v := (-1)) hX dX4_isUnder_11 (by decide) rfl ?_
    refine a_icmp_eq (tgt := 34) hX dX4_isUnder_12 rfl rfl hf (fun hf => ?_) (fun hf => ?_)
    · refine a_iconst (v := 0) hX dX4_isUnder_34 (by decide) rfl ?_
      exact a_zret hX hT (by decide) hF (r_i hf) dX4_isUnder_35
    · refine a_iload_n hX dX4_isUnder_15 rfl 1 rfl rfl ?_
      refine a_iload_n hX dX4_isUnder_16 rfl 0 rfl rfl ?_
      refine a_icmp_ne (tgt := 22) hX dX4_isUnder_17 rfl rfl hf (fun hf => ?_) (fun hf => ?_)
      · refine a_kab hX hE F_X4_58 dX4_isUnder_22 rfl ?_
        refine a_iload_n hX dX4_isUnder_25 rfl 1 rfl rfl ?_
        refine a_kald hX hE dX4_isUnder_26 rfl hf (fun x1 hf => ?_)
        refine a_istore_n (lv' := [(2, .int x1), (1, .int v1), (3, .int v3)]) hX dX4_isUnder_27 rfl (by decide) rfl rfl ?_
        refine a_iinc (v := v3 + 1) (lv' := [(3, .int (v3 + 1)), (2, .int x1), (1, .int v1)]) hX dX4_isUnder_28 2 rfl rfl (by decide) rfl rfl ?_
        refine a_goto (pc' := 4) hX dX4_isUnder_31 rfl ?_
        refine a_lv (lv' := [(1, .int v1), (2, .int x1), (3, .int (v3 + 1))]) [2, 1, 0] rfl ?_
        exact hk4 x1 (v3 + 1) hf
      · refine a_iconst (v := 1) hX dX4_isUnder_20 (by decide) rfl ?_
        exact a_zret hX hT (by decide) hF (r_i hf) dX4_isUnder_21
def fX4_isUnder_l4 (u : St)  (v1 : Int32) : Nat → Int32 → Int32 → Option (Int32)
  | 0, _, _ => none
  | m + 1, v2, v3 => fX4_isUnder_l4b u (fX4_isUnder_l4 u  v1 m) v1 v2 v3
theorem wX4_isUnder_l4 {X : Cx} {V : Vx} {q : Nat → Nat} {g : Nat → Nat} {ts : List Tx} {u : St} {res : Int32} (h : Run X cX4_isUnder 4 RX4 rmX4_isUnder V (some .boolean) (rEq (some (.int res)) (wC V q ts u))) (hE : EnvC V g) {v1 : Int32} : ∀ (m : Nat) (v2 : Int32) (v3 : Int32), fX4_isUnder_l4 u  v1 m v2 v3 = some res → At X 4 0 0 (wC V q ts u) 4 [(1, .int v1), (2, .int v2), (3, .int v3)] [] := by
  intro m
  induction m with
  | zero => intro v2 v3 hf; cases hf
  | succ m ih => intro v2 v3 hf; exact wX4_isUnder_l4b h hE ih hf
def fX4_isUnder (u : St) (v0 : Int32) (v1 : Int32) : Option (Int32) := fX4_isUnder_l4 u v1 NF v0 0
theorem wX4_isUnder {X : Cx} {V : Vx} {q : Nat → Nat} {g : Nat → Nat} {ts : List Tx} {u : St} {res : Int32} (h : Run X cX4_isUnder 4 RX4 rmX4_isUnder V (some .boolean) (rEq (some (.int res)) (wC V q ts u))) (hE : EnvC V g) {v0 : Int32} {v1 : Int32} (hf : fX4_isUnder u v0 v1 = some res) : At X 4 0 0 (wC V q ts u) 0 [(0, .int v0), (1, .int v1)] [] := by
  obtain ⟨hX, hT, hF⟩ := id h
  unfold fX4_isUnder at hf
  refine a_iload_n hX dX4_isUnder_0 rfl 0 rfl rfl ?_
  refine a_istore_n (lv' := [(2, .int v0), (0, .int v0), (1, .int v1)]) hX dX4_isUnder_1 rfl (by decide) rfl rfl ?_
  refine a_iconst (v := 0) hX dX4_isUnder_2 (by decide) rfl ?_
  refine a_istore_n (lv' := [(3, .int 0), (2, .int v0), (0, .int v0), (1, .int v1)]) hX dX4_isUnder_3 rfl (by decide) rfl rfl ?_
  refine a_lv (lv' := [(1, .int v1), (2, .int v0), (3, .int 0)]) [3, 1, 0] rfl ?_
  exact wX4_isUnder_l4 h hE NF v0 0 hf
theorem ctX4_isUnder {V : Vx} {q : Nat → Nat} {u : St} {g : Nat → Nat} {ts : List Tx} {res : Int32} (hE : EnvC V g) {v0 : Int32} {v1 : Int32} (hf : fX4_isUnder u v0 v1 = some res) : Ct V yX4_isUnder (.code yX4_isUnder cX4_isUnder 4 (some .boolean)) rmX4_isUnder 0 0 [.int v0, .int v1] (wC V q ts u) (rEq (some (.int res)) (wC V q ts u)) :=
  Ct_of (by decide) (Nat.le_of_ble_eq_true rfl) rfl (fun X hX hT _ hF => wX4_isUnder ⟨hX, hT, hF⟩ hE hf)
def rmX5_take : Room := { frames := 0, cells := 0, slots := 0, locals := 0 }
def fX5_take_l3b  (k3 : St → Int32 → Option (Int32 × St)) (u : St) (v1 : Int32) (v2 : Int64) (v4 : Int32) : Option (Int32 × St) := if v1 ≤ v4 then nmS (setZ u 100 ((gZ u 100) + v1)) (fun u1 => some (gZ u1 100, u1)) else (stB u 102 160 ((gZ u 100) + v4) ((Int32.toInt8 (Int64.toInt32 (v2 >>> (Int32.toInt64 (8 * v4) &&& 63)))).toInt32) (fun u2 => k3 u2 (v4 + 1)))
theorem wX5_take_l3b {X : Cx} {V : Vx} {q : Nat → Nat} {g : Nat → Nat} {ts : List Tx} {res : Int32 × St} (h : Run X cX5_take 5 RX5 rmX5_take V (some .int) (rEq (some (.int res.1)) (wC V q ts res.2))) (hE : EnvC V g) {u : St} {v1 : Int32} {v2 : Int64} {v4 : Int32} {k3 : St → Int32 → Option (Int32 × St)} (hk3 : ∀ (u : St) (v4 : Int32), k3 u v4 = some res → At X 5 0 0 (wC V q ts u) 3 [(0, .ref (q 5)), (1, .int v1), (2, .long v2), (4, .int v4)] []) (hf : fX5_take_l3b  k3 u v1 v2 v4 = some res) : At X 5 0 0 (wC V q ts u) 3 [(0, .ref (q 5)), (1, .int v1), (2, .long v2), (4, .int v4)] [] := by
  obtain ⟨hX, hT, hF⟩ := id h
  unfold fX5_take_l3b at hf
  refine a_iload hX dX5_take_3 3 rfl rfl ?_
  refine a_iload_n hX dX5_take_5 rfl 1 rfl rfl ?_
  refine a_icmp_ge (tgt := 36) hX dX5_take_6 rfl rfl hf (fun hf => ?_) (fun hf => ?_)
  · refine a_aload_n hX dX5_take_36 rfl 0 rfl rfl ?_
    refine a_dup hX dX5_take_37 rfl rfl ?_
    refine gX5_0 hX F_X5_17 dX5_take_38 rfl ?_
    refine a_iload_n hX dX5_take_41 rfl 1 rfl rfl ?_
    refine a_iadd hX dX5_take_42 rfl ?_
    refine pX5_0 hX F_X5_17 dX5_take_43 rfl hf (fun u1 hf => ?_)
    refine a_aload_n hX dX5_take_46 rfl 0 rfl rfl ?_
    refine gX5_0 hX F_X5_17 dX5_take_47 rfl ?_
    exact a_iret hX hT hF (r_iS (wf := (wC V q ts)) hf) dX5_take_50
  · refine a_aload_n hX dX5_take_9 rfl 0 rfl rfl ?_
    refine gX5_2 hX F_X5_9 dX5_take_10 rfl ?_
    refine a_aload_n hX dX5_take_13 rfl 0 rfl rfl ?_
    refine gX5_0 hX F_X5_17 dX5_take_14 rfl ?_
    refine a_iload hX dX5_take_17 3 rfl rfl ?_
    refine a_iadd hX dX5_take_19 rfl ?_
    refine a_lload_n hX dX5_take_20 rfl 2 rfl rfl ?_
    refine a_bipush (v := 8) hX dX5_take_21 (by decide) rfl ?_
    refine a_iload hX dX5_take_23 3 rfl rfl ?_
    refine a_imul hX dX5_take_25 rfl ?_
    refine a_lshr hX dX5_take_26 rfl ?_
    refine a_l2i hX dX5_take_27 rfl ?_
    refine a_i2b hX dX5_take_28 rfl ?_
    refine sX5_2 hX dX5_take_29 rfl hf (fun u2 hf => ?_)
    refine a_iinc (v := v4 + 1) (lv' := [(4, .int (v4 + 1)), (0, .ref (q 5)), (1, .int v1), (2, .long v2)]) hX dX5_take_30 3 rfl rfl (by decide) rfl rfl ?_
    refine a_goto (pc' := 3) hX dX5_take_33 rfl ?_
    refine a_lv (lv' := [(0, .ref (q 5)), (1, .int v1), (2, .long v2), (4, .int (v4 + 1))]) [1, 2, 3, 0] rfl ?_
    exact hk3 u2 (v4 + 1) hf
def fX5_take_l3   (v1 : Int32) (v2 : Int64) : Nat → St → Int32 → Option (Int32 × St)
  | 0, _, _ => none
  | m + 1, u, v4 => fX5_take_l3b  (fX5_take_l3   v1 v2 m) u v1 v2 v4
theorem wX5_take_l3 {X : Cx} {V : Vx} {q : Nat → Nat} {g : Nat → Nat} {ts : List Tx} {res : Int32 × St} (h : Run X cX5_take 5 RX5 rmX5_take V (some .int) (rEq (some (.int res.1)) (wC V q ts res.2))) (hE : EnvC V g) {v1 : Int32} {v2 : Int64} : ∀ (m : Nat) (u : St) (v4 : Int32), fX5_take_l3   v1 v2 m u v4 = some res → At X 5 0 0 (wC V q ts u) 3 [(0, .ref (q 5)), (1, .int v1), (2, .long v2), (4, .int v4)] [] := by
  intro m
  induction m with
  | zero => intro u v4 hf; cases hf
  | succ m ih => intro u v4 hf; exact wX5_take_l3b h hE ih hf
def fX5_take (u : St) (v1 : Int32) (v2 : Int64) : Option (Int32 × St) := fX5_take_l3 v1 v2 NF u 0
theorem wX5_take {X : Cx} {V : Vx} {q : Nat → Nat} {g : Nat → Nat} {ts : List Tx} {res : Int32 × St} (h : Run X cX5_take 5 RX5 rmX5_take V (some .int) (rEq (some (.int res.1)) (wC V q ts res.2))) (hE : EnvC V g) {u : St} {v1 : Int32} {v2 : Int64} (hf : fX5_take u v1 v2 = some res) : At X 5 0 0 (wC V q ts u) 0 [(0, .ref (q 5)), (1, .int v1), (2, .long v2)] [] := by
  obtain ⟨hX, hT, hF⟩ := id h
  unfold fX5_take at hf
  refine a_iconst (v := 0) hX dX5_take_0 (by decide) rfl ?_
  refine a_istore (lv' := [(4, .int 0), (0, .ref (q 5)), (1, .int v1), (2, .long v2)]) hX dX5_take_1 (by decide) rfl rfl ?_
  refine a_lv (lv' := [(0, .ref (q 5)), (1, .int v1), (2, .long v2), (4, .int 0)]) [1, 2, 3, 0] rfl ?_
  exact wX5_take_l3 h hE NF u 0 hf
theorem ctX5_take {V : Vx} {q : Nat → Nat} {u : St} {g : Nat → Nat} {ts : List Tx} {res : Int32 × St} (hE : EnvC V g) {v1 : Int32} {v2 : Int64} (hf : fX5_take u v1 v2 = some res) : Ct V yX5_take (.code yX5_take cX5_take 5 (some .int)) rmX5_take 0 0 [.ref (q 5), .int v1, .long v2] (wC V q ts u) (rEq (some (.int res.1)) (wC V q ts res.2)) :=
  Ct_of (by decide) (Nat.le_of_ble_eq_true rfl) rfl (fun X hX hT _ hF => wX5_take ⟨hX, hT, hF⟩ hE hf)
def rmX5_isLetter : Room := { frames := 0, cells := 0, slots := 0, locals := 0 }
def fX5_isLetter (v0 : Int32) : Option (Int32) := if v0 < 97 then some 0 else (if 122 < v0 then some 0 else (some 1))
theorem wX5_isLetter {X : Cx} {V : Vx} {res : Int32} (h : Run X cX5_isLetter 1 RX5 rmX5_isLetter V (some .boolean) (rEq (some (.int res)) [])) (hE : ZOK (vZ V)) {v0 : Int32} (hf : fX5_isLetter v0 = some res) : At X 1 0 0 [] 0 [(0, .int v0)] [] := by
  obtain ⟨hX, hT, hF⟩ := id h
  unfold fX5_isLetter at hf
  refine a_iload_n hX dX5_isLetter_0 rfl 0 rfl rfl ?_
  refine a_bipush (v := 97) hX dX5_isLetter_1 (by decide) rfl ?_
  refine a_icmp_lt (tgt := 16) hX dX5_isLetter_3 rfl rfl hf (fun hf => ?_) (fun hf => ?_)
  · refine a_iconst (v := 0) hX dX5_isLetter_16 (by decide) rfl ?_
    exact a_zret hX hT (by decide) hF (r_i hf) dX5_isLetter_17
  · refine a_iload_n hX dX5_isLetter_6 rfl 0 rfl rfl ?_
    refine a_bipush (v := 122) hX dX5_isLetter_7 (by decide) rfl ?_
    refine a_icmp_gt (tgt := 16) hX dX5_isLetter_9 rfl rfl hf (fun hf => ?_) (fun hf => ?_)
    · refine a_iconst (v := 0) hX dX5_isLetter_16 (by decide) rfl ?_
      exact a_zret hX hT (by decide) hF (r_i hf) dX5_isLetter_17
    · refine a_iconst (v := 1) hX dX5_isLetter_12 (by decide) rfl ?_
      refine a_goto (pc' := 17) hX dX5_isLetter_13 rfl ?_
      exact a_zret hX hT (by decide) hF (r_i hf) dX5_isLetter_17
theorem ctX5_isLetter {V : Vx} {res : Int32} (hE : ZOK (vZ V)) {v0 : Int32} (hf : fX5_isLetter v0 = some res) : Ct V yX5_isLetter (.code yX5_isLetter cX5_isLetter 1 (some .boolean)) rmX5_isLetter 0 0 [.int v0] [] (rEq (some (.int res)) []) :=
  Ct_of (by decide) (Nat.le_of_ble_eq_true rfl) rfl (fun X hX hT _ hF => wX5_isLetter ⟨hX, hT, hF⟩ hE hf)
def rmX5_isFigure : Room := { frames := 0, cells := 0, slots := 0, locals := 0 }
def fX5_isFigure (v0 : Int32) : Option (Int32) := if v0 < 48 then some 0 else (if 57 < v0 then some 0 else (some 1))
theorem wX5_isFigure {X : Cx} {V : Vx} {res : Int32} (h : Run X cX5_isFigure 1 RX5 rmX5_isFigure V (some .boolean) (rEq (some (.int res)) [])) (hE : ZOK (vZ V)) {v0 : Int32} (hf : fX5_isFigure v0 = some res) : At X 1 0 0 [] 0 [(0, .int v0)] [] := by
  obtain ⟨hX, hT, hF⟩ := id h
  unfold fX5_isFigure at hf
  refine a_iload_n hX dX5_isFigure_0 rfl 0 rfl rfl ?_
  refine a_bipush (v := 48) hX dX5_isFigure_1 (by decide) rfl ?_
  refine a_icmp_lt (tgt := 16) hX dX5_isFigure_3 rfl rfl hf (fun hf => ?_) (fun hf => ?_)
  · refine a_iconst (v := 0) hX dX5_isFigure_16 (by decide) rfl ?_
    exact a_zret hX hT (by decide) hF (r_i hf) dX5_isFigure_17
  · refine a_iload_n hX dX5_isFigure_6 rfl 0 rfl rfl ?_
    refine a_bipush (v := 57) hX dX5_isFigure_7 (by decide) rfl ?_
    refine a_icmp_gt (tgt := 16) hX dX5_isFigure_9 rfl rfl hf (fun hf => ?_) (fun hf => ?_)
    · refine a_iconst (v := 0) hX dX5_isFigure_16 (by decide) rfl ?_
      exact a_zret hX hT (by decide) hF (r_i hf) dX5_isFigure_17
    · refine a_iconst (v := 1) hX dX5_isFigure_12 (by decide) rfl ?_
      refine a_goto (pc' := 17) hX dX5_isFigure_13 rfl ?_
      exact a_zret hX hT (by decide) hF (r_i hf) dX5_isFigure_17
theorem ctX5_isFigure {V : Vx} {res : Int32} (hE : ZOK (vZ V)) {v0 : Int32} (hf : fX5_isFigure v0 = some res) : Ct V yX5_isFigure (.code yX5_isFigure cX5_isFigure 1 (some .boolean)) rmX5_isFigure 0 0 [.int v0] [] (rEq (some (.int res)) []) :=
  Ct_of (by decide) (Nat.le_of_ble_eq_true rfl) rfl (fun X hX hT _ hF => wX5_isFigure ⟨hX, hT, hF⟩ hE hf)
def rmX5_readSign : Room := { frames := 0, cells := 0, slots := 0, locals := 0 }
def fX5_readSign (u : St) : Option (Int32 × St) := ldI (gA u 102) 160 (gZ u 106) (fun x1 => nmS (setZ u 107 ((gZ u 106) + 1)) (fun u2 => if x1 = 40 then some (x1, u2) else (if x1 = 41 then some (x1, u2) else (if x1 = 42 then some (x1, u2) else (if x1 = 43 then some (x1, u2) else (if x1 = 44 then some (1, u2) else (if x1 = 45 then some (x1, u2) else (if x1 = 46 then some (1, u2) else (if x1 = 47 then some (1, u2) else (if x1 = 48 then some (1, u2) else (if x1 = 49 then some (1, u2) else (if x1 = 50 then some (1, u2) else (if x1 = 51 then some (1, u2) else (if x1 = 52 then some (1, u2) else (if x1 = 53 then some (1, u2) else (if x1 = 54 then some (1, u2) else (if x1 = 55 then some (1, u2) else (if x1 = 56 then some (1, u2) else (if x1 = 57 then some (1, u2) else (if x1 = 58 then some (1, u2) else (if x1 = 59 then some (x1, u2) else (if x1 = 60 then some (x1, u2) else (if x1 = 61 then some (x1, u2) else (some (1, u2)))))))))))))))))))))))))
theorem wX5_readSign {X : Cx} {V : Vx} {q : Nat → Nat} {g : Nat → Nat} {ts : List Tx} {res : Int32 × St} (h : Run X cX5_readSign 2 RX5 rmX5_readSign V (some .int) (rEq (some (.int res.1)) (wC V q ts res.2))) (hE : EnvC V g) {u : St} (hf : fX5_readSign u = some res) : At X 2 0 0 (wC V q ts u) 0 [(0, .ref (q 5))] [] := by
  obtain ⟨hX, hT, hF⟩ := id h
  unfold fX5_readSign at hf
  refine a_aload_n hX dX5_readSign_0 rfl 0 rfl rfl ?_
  refine gX5_2 hX F_X5_9 dX5_readSign_1 rfl ?_
  refine a_aload_n hX dX5_readSign_4 rfl 0 rfl rfl ?_
  refine gX5_6 hX F_X5_43 dX5_readSign_5 rfl ?_
  refine lX5_2 hX dX5_readSign_8 rfl hf (fun x1 hf => ?_)
  refine a_istore_n (lv' := [(1, .int x1), (0, .ref (q 5))]) hX dX5_readSign_9 rfl (by decide) rfl rfl ?_
  refine a_aload_n hX dX5_readSign_10 rfl 1 rfl rfl ?_
  refine a_aload_n hX dX5_readSign_11 rfl 1 rfl rfl ?_
  refine gX5_6 hX F_X5_43 dX5_readSign_12 rfl ?_
  refine a_iconst (v := 1) hX dX5_readSign_15 (by decide) rfl ?_
  refine a_iadd hX dX5_readSign_16 rfl ?_
  refine pX5_7 hX F_X5_33 dX5_readSign_17 rfl hf (fun u2 hf => ?_)
  refine a_iload_n hX dX5_readSign_20 rfl 0 rfl rfl ?_
  by_cases hs0 : x1 = 40
  · rw [if_pos hs0] at hf
    refine a_tsw (pc' := 124) hX dX5_readSign_21 40 hs0 (by decide) (by decide) rfl rfl ?_
    refine a_iload_n hX dX5_readSign_124 rfl 0 rfl rfl ?_
    exact a_iret hX hT hF (r_iS (wf := (wC V q ts)) hf) dX5_readSign_125
  · rw [if_neg hs0] at hf
    by_cases hs1 : x1 = 41
    · rw [if_pos hs1] at hf
      refine a_tsw (pc' := 124) hX dX5_readSign_21 41 hs1 (by decide) (by decide) rfl rfl ?_
      refine a_iload_n hX dX5_readSign_124 rfl 0 rfl rfl ?_
      exact a_iret hX hT hF (r_iS (wf := (wC V q ts)) hf) dX5_readSign_125
    · rw [if_neg hs1] at hf
      by_cases hs2 : x1 = 42
      · rw [if_pos hs2] at hf
        refine a_tsw (pc' := 124) hX dX5_readSign_21 42 hs2 (by decide) (by decide) rfl rfl ?_
        refine a_iload_n hX dX5_readSign_124 rfl 0 rfl rfl ?_
        exact a_iret hX hT hF (r_iS (wf := (wC V q ts)) hf) dX5_readSign_125
      · rw [if_neg hs2] at hf
        by_cases hs3 : x1 = 43
        · rw [if_pos hs3] at hf
          refine a_tsw (pc' := 124) hX dX5_readSign_21 43 hs3 (by decide) (by decide) rfl rfl ?_
          refine a_iload_n hX dX5_readSign_124 rfl 0 rfl rfl ?_
          exact a_iret hX hT hF (r_iS (wf := (wC V q ts)) hf) dX5_readSign_125
        · rw [if_neg hs3] at hf
          by_cases hs4 : x1 = 44
          · rw [if_pos hs4] at hf
            refine a_tsw (pc' := 126) hX dX5_readSign_21 44 hs4 (by decide) (by decide) rfl rfl ?_
            refine a_iconst (v := 1) hX dX5_readSign_126 (by decide) rfl ?_
            exact a_iret hX hT hF (r_iS (wf := (wC V q ts)) hf) dX5_readSign_127
          · rw [if_neg hs4] at hf
            by_cases hs5 : x1 = 45
            · rw [if_pos hs5] at hf
              refine a_tsw (pc' := 124) hX dX5_readSign_21 45 hs5 (by decide) (by decide) rfl rfl ?_
              refine a_iload_n hX dX5_readSign_124 rfl 0 rfl rfl ?_
              exact a_iret hX hT hF (r_iS (wf := (wC V q ts)) hf) dX5_readSign_125
            · rw [if_neg hs5] at hf
              by_cases hs6 : x1 = 46
              · rw [if_pos hs6] at hf
                refine a_tsw (pc' := 126) hX dX5_readSign_21 46 hs6 (by decide) (by decide) rfl rfl ?_
                refine a_iconst (v := 1) hX dX5_readSign_126 (by decide) rfl ?_
                exact a_iret hX hT hF (r_iS (wf := (wC V q ts)) hf) dX5_readSign_127
              · rw [if_neg hs6] at hf
                by_cases hs7 : x1 = 47
                · rw [if_pos hs7] at hf
                  refine a_tsw (pc' := 126) hX dX5_readSign_21 47 hs7 (by decide) (by decide) rfl rfl ?_
                  refine a_iconst (v := 1) hX dX5_readSign_126 (by decide) rfl ?_
                  exact a_iret hX hT hF (r_iS (wf := (wC V q ts)) hf) dX5_readSign_127
                · rw [if_neg hs7] at hf
                  by_cases hs8 : x1 = 48
                  · rw [if_pos hs8] at hf
                    refine a_tsw (pc' := 126) hX dX5_readSign_21 48 hs8 (by decide) (by decide) rfl rfl ?_
                    refine a_iconst (v := 1) hX dX5_readSign_126 (by decide) rfl ?_
                    exact a_iret hX hT hF (r_iS (wf := (wC V q ts)) hf) dX5_readSign_127
                  · rw [if_neg hs8] at hf
                    by_cases hs9 : x1 = 49
                    · rw [if_pos hs9] at hf
                      refine a_tsw (pc' := 126) hX dX5_readSign_21 49 hs9 (by decide) (by decide) rfl rfl ?_
                      refine a_iconst (v := 1) hX dX5_readSign_126 (by decide) rfl ?_
                      exact a_iret hX hT hF (r_iS (wf := (wC V q ts)) hf) dX5_readSign_127
                    · rw [if_neg hs9] at hf
                      by_cases hs10 : x1 = 50
                      · rw [if_pos hs10] at hf
                        refine a_tsw (pc' := 126) hX dX5_readSign_21 50 hs10 (by decide) (by decide) rfl rfl ?_
                        refine a_iconst (v := 1) hX dX5_readSign_126 (by decide) rfl ?_
                        exact a_iret hX hT hF (r_iS (wf := (wC V q ts)) hf) dX5_readSign_127
                      · rw [if_neg hs10] at hf
                        by_cases hs11 : x1 = 51
                        · rw [if_pos hs11] at hf
                          refine a_tsw (pc' := 126) hX dX5_readSign_21 51 hs11 (by decide) (by decide) rfl rfl ?_
                          refine a_iconst (v := 1) hX dX5_readSign_126 (by decide) rfl ?_
                          exact a_iret hX hT hF (r_iS (wf := (wC V q ts)) hf) dX5_readSign_127
                        · rw [if_neg hs11] at hf
                          by_cases hs12 : x1 = 52
                          · rw [if_pos hs12] at hf
                            refine a_tsw (pc' := 126) hX dX5_readSign_21 52 hs12 (by decide) (by decide) rfl rfl ?_
                            refine a_iconst (v := 1) hX dX5_readSign_126 (by decide) rfl ?_
                            exact a_iret hX hT hF (r_iS (wf := (wC V q ts)) hf) dX5_readSign_127
                          · rw [if_neg hs12] at hf
                            by_cases hs13 : x1 = 53
                            · rw [if_pos hs13] at hf
                              refine a_tsw (pc' := 126) hX dX5_readSign_21 53 hs13 (by decide) (by decide) rfl rfl ?_
                              refine a_iconst (v := 1) hX dX5_readSign_126 (by decide) rfl ?_
                              exact a_iret hX hT hF (r_iS (wf := (wC V q ts)) hf) dX5_readSign_127
                            · rw [if_neg hs13] at hf
                              by_cases hs14 : x1 = 54
                              · rw [if_pos hs14] at hf
                                refine a_tsw (pc' := 126) hX dX5_readSign_21 54 hs14 (by decide) (by decide) rfl rfl ?_
                                refine a_iconst (v := 1) hX dX5_readSign_126 (by decide) rfl ?_
                                exact a_iret hX hT hF (r_iS (wf := (wC V q ts)) hf) dX5_readSign_127
                              · rw [if_neg hs14] at hf
                                by_cases hs15 : x1 = 55
                                · rw [if_pos hs15] at hf
                                  refine a_tsw (pc' := 126) hX dX5_readSign_21 55 hs15 (by decide) (by decide) rfl rfl ?_
                                  refine a_iconst (v := 1) hX dX5_readSign_126 (by decide) rfl ?_
                                  exact a_iret hX hT hF (r_iS (wf := (wC V q ts)) hf) dX5_readSign_127
                                · rw [if_neg hs15] at hf
                                  by_cases hs16 : x1 = 56
                                  · rw [if_pos hs16] at hf
                                    refine a_tsw (pc' := 126) hX dX5_readSign_21 56 hs16 (by decide) (by decide) rfl rfl ?_
                                    refine a_iconst (v := 1) hX dX5_readSign_126 (by decide) rfl ?_
                                    exact a_iret hX hT hF (r_iS (wf := (wC V q ts)) hf) dX5_readSign_127
                                  · rw [if_neg hs16] at hf
                                    by_cases hs17 : x1 = 57
                                    · rw [if_pos hs17] at hf
                                      refine a_tsw (pc' := 126) hX dX5_readSign_21 57 hs17 (by decide) (by decide) rfl rfl ?_
                                      refine a_iconst (v := 1) hX dX5_readSign_126 (by decide) rfl ?_
                                      exact a_iret hX hT hF (r_iS (wf := (wC V q ts)) hf) dX5_readSign_127
                                    · rw [if_neg hs17] at hf
                                      by_cases hs18 : x1 = 58
                                      · rw [if_pos hs18] at hf
                                        refine a_tsw (pc' := 126) hX dX5_readSign_21 58 hs18 (by decide) (by decide) rfl rfl ?_
                                        refine a_iconst (v := 1) hX dX5_readSign_126 (by decide) rfl ?_
                                        exact a_iret hX hT hF (r_iS (wf := (wC V q ts)) hf) dX5_readSign_127
                                      · rw [if_neg hs18] at hf
                                        by_cases hs19 : x1 = 59
                                        · rw [if_pos hs19] at hf
                                          refine a_tsw (pc' := 124) hX dX5_readSign_21 59 hs19 (by decide) (by decide) rfl rfl ?_
                                          refine a_iload_n hX dX5_readSign_124 rfl 0 rfl rfl ?_
                                          exact a_iret hX hT hF (r_iS (wf := (wC V q ts)) hf) dX5_readSign_125
                                        · rw [if_neg hs19] at hf
                                          by_cases hs20 : x1 = 60
                                          · rw [if_pos hs20] at hf
                                            refine a_tsw (pc' := 124) hX dX5_readSign_21 60 hs20 (by decide) (by decide) rfl rfl ?_
                                            refine a_iload_n hX dX5_readSign_124 rfl 0 rfl rfl ?_
                                            exact a_iret hX hT hF (r_iS (wf := (wC V q ts)) hf) dX5_readSign_125
                                          · rw [if_neg hs20] at hf
                                            by_cases hs21 : x1 = 61
                                            · rw [if_pos hs21] at hf
                                              refine a_tsw (pc' := 124) hX dX5_readSign_21 61 hs21 (by decide) (by decide) rfl rfl ?_
                                              refine a_iload_n hX dX5_readSign_124 rfl 0 rfl rfl ?_
                                              exact a_iret hX hT hF (r_iS (wf := (wC V q ts)) hf) dX5_readSign_125
                                            · rw [if_neg hs21] at hf
                                              have hs0 : ¬ Int32.toInt x1 = 40 := ne_toInt hs0
                                              have hs1 : ¬ Int32.toInt x1 = 41 := ne_toInt hs1
                                              have hs2 : ¬ Int32.toInt x1 = 42 := ne_toInt hs2
                                              have hs3 : ¬ Int32.toInt x1 = 43 := ne_toInt hs3
                                              have hs4 : ¬ Int32.toInt x1 = 44 := ne_toInt hs4
                                              have hs5 : ¬ Int32.toInt x1 = 45 := ne_toInt hs5
                                              have hs6 : ¬ Int32.toInt x1 = 46 := ne_toInt hs6
                                              have hs7 : ¬ Int32.toInt x1 = 47 := ne_toInt hs7
                                              have hs8 : ¬ Int32.toInt x1 = 48 := ne_toInt hs8
                                              have hs9 : ¬ Int32.toInt x1 = 49 := ne_toInt hs9
                                              have hs10 : ¬ Int32.toInt x1 = 50 := ne_toInt hs10
                                              have hs11 : ¬ Int32.toInt x1 = 51 := ne_toInt hs11
                                              have hs12 : ¬ Int32.toInt x1 = 52 := ne_toInt hs12
                                              have hs13 : ¬ Int32.toInt x1 = 53 := ne_toInt hs13
                                              have hs14 : ¬ Int32.toInt x1 = 54 := ne_toInt hs14
                                              have hs15 : ¬ Int32.toInt x1 = 55 := ne_toInt hs15
                                              have hs16 : ¬ Int32.toInt x1 = 56 := ne_toInt hs16
                                              have hs17 : ¬ Int32.toInt x1 = 57 := ne_toInt hs17
                                              have hs18 : ¬ Int32.toInt x1 = 58 := ne_toInt hs18
                                              have hs19 : ¬ Int32.toInt x1 = 59 := ne_toInt hs19
                                              have hs20 : ¬ Int32.toInt x1 = 60 := ne_toInt hs20
                                              have hs21 : ¬ Int32.toInt x1 = 61 := ne_toInt hs21
                                              refine a_tswO (pc' := 126) hX dX5_readSign_21 (by omega) rfl ?_
                                              refine a_iconst (v := 1) hX dX5_readSign_126 (by decide) rfl ?_
                                              exact a_iret hX hT hF (r_iS (wf := (wC V q ts)) hf) dX5_readSign_127
theorem ctX5_readSign {V : Vx} {q : Nat → Nat} {u : St} {g : Nat → Nat} {ts : List Tx} {res : Int32 × St} (hE : EnvC V g)  (hf : fX5_readSign u = some res) : Ct V yX5_readSign (.code yX5_readSign cX5_readSign 2 (some .int)) rmX5_readSign 0 0 [.ref (q 5)] (wC V q ts u) (rEq (some (.int res.1)) (wC V q ts res.2)) :=
  Ct_of (by decide) (Nat.le_of_ble_eq_true rfl) rfl (fun X hX hT _ hF => wX5_readSign ⟨hX, hT, hF⟩ hE hf)
def rmX5_readNumber : Room := { frames := 1, cells := 0, slots := 0, locals := 20 }
def fX5_readNumber_b68   (u : St) : Option (Int32 × St) := if (gZ u 107) - (gZ u 106) ≤ 4 then some (2, u) else (some (1, u))
theorem wX5_readNumber_b68 {X : Cx} {V : Vx} {q : Nat → Nat} {g : Nat → Nat} {ts : List Tx} {res : Int32 × St} (h : Run X cX5_readNumber 1 RX5 rmX5_readNumber V (some .int) (rEq (some (.int res.1)) (wC V q ts res.2))) (hE : EnvC V g) {u : St} (hf : fX5_readNumber_b68   u = some res) : At X 1 0 0 (wC V q ts u) 68 [(0, .ref (q 5))] [] := by
  obtain ⟨hX, hT, hF⟩ := id h
  unfold fX5_readNumber_b68 at hf
  refine a_aload_n hX dX5_readNumber_68 rfl 0 rfl rfl ?_
  refine gX5_7 hX F_X5_33 dX5_readNumber_69 rfl ?_
  refine a_aload_n hX dX5_readNumber_72 rfl 0 rfl rfl ?_
  refine gX5_6 hX F_X5_43 dX5_readNumber_73 rfl ?_
  refine a_isub hX dX5_readNumber_76 rfl ?_
  refine a_iconst (v := 4) hX dX5_readNumber_77 (by decide) rfl ?_
  refine a_icmp_le (tgt := 85) hX dX5_readNumber_78 rfl rfl hf (fun hf => ?_) (fun hf => ?_)
  · refine a_iconst (v := 2) hX dX5_readNumber_85 (by decide) rfl ?_
    exact a_iret hX hT hF (r_iS (wf := (wC V q ts)) hf) dX5_readNumber_86
  · refine a_iconst (v := 1) hX dX5_readNumber_81 (by decide) rfl ?_
    refine a_goto (pc' := 86) hX dX5_readNumber_82 rfl ?_
    exact a_iret hX hT hF (r_iS (wf := (wC V q ts)) hf) dX5_readNumber_86
def fX5_readNumber_l5b  (k5 : St → Option (Int32 × St)) (u : St) : Option (Int32 × St) := if gZ u 100 ≤ gZ u 107 then fX5_readNumber_b68 u else (ldI (gA u 102) 160 (gZ u 107) (fun x2 => cl1 (fX5_isFigure x2) (fun x3 => if x3 = 0 then fX5_readNumber_b68 u else (ldI (gA u 102) 160 (gZ u 107) (fun x4 => nmS (setZ u 108 ((((gZ u 108) * 10) + x4) - 48)) (fun u5 => nmS (setZ u5 107 ((gZ u5 107) + 1)) (fun u6 => k5 u6)))))))
theorem wX5_readNumber_l5b {X : Cx} {V : Vx} {q : Nat → Nat} {g : Nat → Nat} {ts : List Tx} {res : Int32 × St} (h : Run X cX5_readNumber 1 RX5 rmX5_readNumber V (some .int) (rEq (some (.int res.1)) (wC V q ts res.2))) (hE : EnvC V g) {u : St} {k5 : St → Option (Int32 × St)} (hk5 : ∀ (u : St), k5 u = some res → At X 1 0 0 (wC V q ts u) 5 [(0, .ref (q 5))] []) (hf : fX5_readNumber_l5b  k5 u = some res) : At X 1 0 0 (wC V q ts u) 5 [(0, .ref (q 5))] [] := by
  obtain ⟨hX, hT, hF⟩ := id h
  unfold fX5_readNumber_l5b at hf
  refine a_aload_n hX dX5_readNumber_5 rfl 0 rfl rfl ?_
  refine gX5_7 hX F_X5_33 dX5_readNumber_6 rfl ?_
  refine a_aload_n hX dX5_readNumber_9 rfl 0 rfl rfl ?_
  refine gX5_0 hX F_X5_17 dX5_readNumber_10 rfl ?_
  refine a_icmp_ge (tgt := 68) hX dX5_readNumber_13 rfl rfl hf (fun hf => ?_) (fun hf => ?_)
  · exact wX5_readNumber_b68 h hE hf
  · refine a_aload_n hX dX5_readNumber_16 rfl 0 rfl rfl ?_
    refine gX5_2 hX F_X5_9 dX5_readNumber_17 rfl ?_
    refine a_aload_n hX dX5_readNumber_20 rfl 0 rfl rfl ?_
    refine gX5_7 hX F_X5_33 dX5_readNumber_21 rfl ?_
    refine lX5_2 hX dX5_readNumber_24 rfl hf (fun x2 hf => ?_)
    obtain ⟨x3, hg3, hf⟩ := cl1_some hf
    refine a_cSpi (rest := []) hX hE.1 (ctX5_isFigure hE.1 hg3) K_X5_83 ⟨rfl, rfl, by decide, by decide⟩ ⟨Nat.zero_le _, Nat.zero_le _⟩ (Nat.le_of_ble_eq_true rfl) dX5_readNumber_25 rfl rfl ?_
    refine a_if_eq (tgt := 68) hX dX5_readNumber_28 rfl rfl hf (fun hf => ?_) (fun hf => ?_)
    · exact wX5_readNumber_b68 h hE hf
    · refine a_aload_n hX dX5_readNumber_31 rfl 0 rfl rfl ?_
      refine a_aload_n hX dX5_readNumber_32 rfl 0 rfl rfl ?_
      refine gX5_8 hX F_X5_73 dX5_readNumber_33 rfl ?_
      refine a_bipush (v := 10) hX dX5_readNumber_36 (by decide) rfl ?_
      refine a_imul hX dX5_readNumber_38 rfl ?_
      refine a_aload_n hX dX5_readNumber_39 rfl 0 rfl rfl ?_
      refine gX5_2 hX F_X5_9 dX5_readNumber_40 rfl ?_
      refine a_aload_n hX dX5_readNumber_43 rfl 0 rfl rfl ?_
      refine gX5_7 hX F_X5_33 dX5_readNumber_44 rfl ?_
      refine lX5_2 hX dX5_readNumber_47 rfl hf (fun x4 hf => ?_)
      refine a_iadd hX dX5_readNumber_48 rfl ?_
      refine a_bipush (v := 48) hX dX5_readNumber_49 (by decide) rfl ?_
      refine a_isub hX dX5_readNumber_51 rfl ?_
      refine pX5_8 hX F_X5_73 dX5_readNumber_52 rfl hf (fun u5 hf => ?_)
      refine a_aload_n hX dX5_readNumber_55 rfl 0 rfl rfl ?_
      refine a_dup hX dX5_readNumber_56 rfl rfl ?_
      refine gX5_7 hX F_X5_33 dX5_readNumber_57 rfl ?_
      refine a_iconst (v := 1) hX dX5_readNumber_60 (by decide) rfl ?_
      refine a_iadd hX dX5_readNumber_61 rfl ?_
      refine pX5_7 hX F_X5_33 dX5_readNumber_62 rfl hf (fun u6 hf => ?_)
      refine a_goto (pc' := 5) hX dX5_readNumber_65 rfl ?_
      exact hk5 u6 hf
def fX5_readNumber_l5    : Nat → St → Option (Int32 × St)
  | 0, _ => none
  | m + 1, u => fX5_readNumber_l5b  (fX5_readNumber_l5    m) u
theorem wX5_readNumber_l5 {X : Cx} {V : Vx} {q : Nat → Nat} {g : Nat → Nat} {ts : List Tx} {res : Int32 × St} (h : Run X cX5_readNumber 1 RX5 rmX5_readNumber V (some .int) (rEq (some (.int res.1)) (wC V q ts res.2))) (hE : EnvC V g)  : ∀ (m : Nat) (u : St), fX5_readNumber_l5    m u = some res → At X 1 0 0 (wC V q ts u) 5 [(0, .ref (q 5))] [] := by
  intro m
  induction m with
  | zero => intro u hf; cases hf
  | succ m ih => intro u hf; exact wX5_readNumber_l5b h hE ih hf
def fX5_readNumber (u : St) : Option (Int32 × St) := nmS (setZ u 108 0) (fun u1 => fX5_readNumber_l5 NF u1)
theorem wX5_readNumber {X : Cx} {V : Vx} {q : Nat → Nat} {g : Nat → Nat} {ts : List Tx} {res : Int32 × St} (h : Run X cX5_readNumber 1 RX5 rmX5_readNumber V (some .int) (rEq (some (.int res.1)) (wC V q ts res.2))) (hE : EnvC V g) {u : St} (hf : fX5_readNumber u = some res) : At X 1 0 0 (wC V q ts u) 0 [(0, .ref (q 5))] [] := by
  obtain ⟨hX, hT, hF⟩ := id h
  unfold fX5_readNumber at hf
  refine a_aload_n hX dX5_readNumber_0 rfl 0 rfl rfl ?_
  refine a_iconst (v := 0) hX dX5_readNumber_1 (by decide) rfl ?_
  refine pX5_8 hX F_X5_73 dX5_readNumber_2 rfl hf (fun u1 hf => ?_)
  exact wX5_readNumber_l5 h hE NF u1 hf
theorem ctX5_readNumber {V : Vx} {q : Nat → Nat} {u : St} {g : Nat → Nat} {ts : List Tx} {res : Int32 × St} (hE : EnvC V g)  (hf : fX5_readNumber u = some res) : Ct V yX5_readNumber (.code yX5_readNumber cX5_readNumber 1 (some .int)) rmX5_readNumber 0 0 [.ref (q 5)] (wC V q ts u) (rEq (some (.int res.1)) (wC V q ts res.2)) :=
  Ct_of (by decide) (Nat.le_of_ble_eq_true rfl) rfl (fun X hX hT _ hF => wX5_readNumber ⟨hX, hT, hF⟩ hE hf)
def rmJ0_coder_7d493 : Room := { frames := 0, cells := 0, slots := 0, locals := 0 }
def fJ0_coder_7d493 (ii : Nat) : Option (Int32) := if (1 : Int32) = 0 then none else (some 0)
theorem wJ0_coder_7d493 {X : Cx} {V : Vx} {g : Nat → Nat} {ii : Nat} {res : Int32} (h : Run X cJ0_coder_7d493 1 RJ0 rmJ0_coder_7d493 V (some .byte) (rEq (some (.int res)) [])) (hE : EnvC V g) (hii : ii < 11)  (hf : fJ0_coder_7d493 ii = some res) : At X 1 0 0 [] 0 [(0, .ref (g (10 + ii)))] [] := by
  obtain ⟨hX, hT, hF⟩ := id h
  unfold fJ0_coder_7d493 at hf
  refine a_comp hX hE F_J0_38 dJ0_coder_7d493_0 rfl ?_
  refine a_if_eq (tgt := 13) hX dJ0_coder_7d493_3 rfl rfl hf (fun hf => ?_) (fun hf => ?_)
  · cases hf
  · refine a_aload_n hX dJ0_coder_7d493_6 rfl 0 rfl rfl ?_
    refine a_sgc hX hE hii F_J0_15 dJ0_coder_7d493_7 rfl ?_
    refine a_goto (pc' := 14) hX dJ0_coder_7d493_10 rfl ?_
    exact a_bret hX hT (by decide) hF (r_i hf) dJ0_coder_7d493_14
theorem ctJ0_coder_7d493 {V : Vx} {g : Nat → Nat} {ii : Nat} {res : Int32} (hE : EnvC V g) (hii : ii < 11)  (hf : fJ0_coder_7d493 ii = some res) : Ct V yJ0_coder_7d493 (.code yJ0_coder_7d493 cJ0_coder_7d493 1 (some .byte)) rmJ0_coder_7d493 0 0 [.ref (g (10 + ii))] [] (rEq (some (.int res)) []) :=
  Ct_of (by decide) (Nat.le_of_ble_eq_true rfl) rfl (fun X hX hT _ hF => wJ0_coder_7d493 ⟨hX, hT, hF⟩ hE hii hf)
def rmJ0_length_8abf5 : Room := { frames := 1, cells := 0, slots := 0, locals := 20 }
def fJ0_length_8abf5 (ii : Nat) : Option (Int32) := cl1 (fJ0_coder_7d493 ii) (fun x1 => some ((Int32.ofNat (sln ii)) >>> (x1 &&& 31)))
theorem wJ0_length_8abf5 {X : Cx} {V : Vx} {g : Nat → Nat} {ii : Nat} {res : Int32} (h : Run X cJ0_length_8abf5 1 RJ0 rmJ0_length_8abf5 V (some .int) (rEq (some (.int res)) [])) (hE : EnvC V g) (hii : ii < 11)  (hf : fJ0_length_8abf5 ii = some res) : At X 1 0 0 [] 0 [(0, .ref (g (10 + ii)))] [] := by
  obtain ⟨hX, hT, hF⟩ := id h
  unfold fJ0_length_8abf5 at hf
  refine a_aload_n hX dJ0_length_8abf5_0 rfl 0 rfl rfl ?_
  refine a_sgv hX hE hii F_J0_9 dJ0_length_8abf5_1 rfl ?_
  refine a_slen hX hE hii dJ0_length_8abf5_4 rfl ?_
  refine a_aload_n hX dJ0_length_8abf5_5 rfl 0 rfl rfl ?_
  obtain ⟨x1, hg1, hf⟩ := cl1_some hf
  refine a_cTpi (rest := [.int (Int32.ofNat (sln ii))]) hX hE.1 (ctJ0_coder_7d493 hE hii hg1) K_J0_335 hE hii ⟨rfl, rfl, by decide, by decide⟩ ⟨Nat.zero_le _, Nat.zero_le _⟩ (Nat.le_of_ble_eq_true rfl) dJ0_length_8abf5_6 rfl rfl ?_
  refine a_ishr hX dJ0_length_8abf5_9 rfl ?_
  exact a_iret hX hT hF (r_i hf) dJ0_length_8abf5_10
theorem ctJ0_length_8abf5 {V : Vx} {g : Nat → Nat} {ii : Nat} {res : Int32} (hE : EnvC V g) (hii : ii < 11)  (hf : fJ0_length_8abf5 ii = some res) : Ct V yJ0_length_8abf5 (.code yJ0_length_8abf5 cJ0_length_8abf5 1 (some .int)) rmJ0_length_8abf5 0 0 [.ref (g (10 + ii))] [] (rEq (some (.int res)) []) :=
  Ct_of (by decide) (Nat.le_of_ble_eq_true rfl) rfl (fun X hX hT _ hF => wJ0_length_8abf5 ⟨hX, hT, hF⟩ hE hii hf)
def rmJ0_isLatin1_aae02 : Room := { frames := 0, cells := 0, slots := 0, locals := 0 }
def fJ0_isLatin1_aae02 (ii : Nat) : Option (Int32) := if (1 : Int32) = 0 then none else (if (0 : Int32) = 0 then some 1 else (none))
theorem wJ0_isLatin1_aae02 {X : Cx} {V : Vx} {g : Nat → Nat} {ii : Nat} {res : Int32} (h : Run X cJ0_isLatin1_aae02 1 RJ0 rmJ0_isLatin1_aae02 V (some .boolean) (rEq (some (.int res)) [])) (hE : EnvC V g) (hii : ii < 11)  (hf : fJ0_isLatin1_aae02 ii = some res) : At X 1 0 0 [] 0 [(0, .ref (g (10 + ii)))] [] := by
  obtain ⟨hX, hT, hF⟩ := id h
  unfold fJ0_isLatin1_aae02 at hf
  refine a_comp hX hE F_J0_38 dJ0_isLatin1_aae02_0 rfl ?_
  refine a_if_eq (tgt := 17) hX dJ0_isLatin1_aae02_3 rfl rfl hf (fun hf => ?_) (fun hf => ?_)
  · cases hf
  · refine a_aload_n hX dJ0_isLatin1_aae02_6 rfl 0 rfl rfl ?_
    refine a_sgc hX hE hii F_J0_15 dJ0_isLatin1_aae02_7 rfl ?_
    refine a_if_ne (tgt := 17) hX dJ0_isLatin1_aae02_10 rfl rfl hf (fun hf => ?_) (fun hf => ?_)
    · cases hf
    · refine a_iconst (v := 1) hX dJ0_isLatin1_aae02_13 (by decide) rfl ?_
      refine a_goto (pc' := 18) hX dJ0_isLatin1_aae02_14 rfl ?_
      exact a_zret hX hT (by decide) hF (r_i hf) dJ0_isLatin1_aae02_18
theorem ctJ0_isLatin1_aae02 {V : Vx} {g : Nat → Nat} {ii : Nat} {res : Int32} (hE : EnvC V g) (hii : ii < 11)  (hf : fJ0_isLatin1_aae02 ii = some res) : Ct V yJ0_isLatin1_aae02 (.code yJ0_isLatin1_aae02 cJ0_isLatin1_aae02 1 (some .boolean)) rmJ0_isLatin1_aae02 0 0 [.ref (g (10 + ii))] [] (rEq (some (.int res)) []) :=
  Ct_of (by decide) (Nat.le_of_ble_eq_true rfl) rfl (fun X hX hT _ hF => wJ0_isLatin1_aae02 ⟨hX, hT, hF⟩ hE hii hf)
def rmJ3_checkIndex_8e157 : Room := { frames := 0, cells := 0, slots := 0, locals := 0 }
def fJ3_checkIndex_8e157 (v0 : Int32) (v1 : Int32) : Option (Int32) := if v0 < 0 then none else (if v0 < v1 then some v0 else (none))
theorem wJ3_checkIndex_8e157 {X : Cx} {V : Vx} {g : Nat → Nat} {va : Value} {res : Int32} (h : Run X cJ3_checkIndex_8e157 3 RJ3 rmJ3_checkIndex_8e157 V (some .int) (rEq (some (.int res)) [])) (hE : EnvC V g) {v0 : Int32} {v1 : Int32} (hf : fJ3_checkIndex_8e157 v0 v1 = some res) : At X 3 0 0 [] 0 [(0, .int v0), (1, .int v1), (2, va)] [] := by
  obtain ⟨hX, hT, hF⟩ := id h
  unfold fJ3_checkIndex_8e157 at hf
  refine a_iload_n hX dJ3_checkIndex_8e157_0 rfl 0 rfl rfl ?_
  refine a_if_lt (tgt := 9) hX dJ3_checkIndex_8e157_1 rfl rfl hf (fun hf => ?_) (fun hf => ?_)
  · cases hf
  · refine a_iload_n hX dJ3_checkIndex_8e157_4 rfl 0 rfl rfl ?_
    refine a_iload_n hX dJ3_checkIndex_8e157_5 rfl 1 rfl rfl ?_
    refine a_icmp_lt (tgt := 16) hX dJ3_checkIndex_8e157_6 rfl rfl hf (fun hf => ?_) (fun hf => ?_)
    · refine a_iload_n hX dJ3_checkIndex_8e157_16 rfl 0 rfl rfl ?_
      exact a_iret hX hT hF (r_i hf) dJ3_checkIndex_8e157_17
    · cases hf
theorem ctJ3_checkIndex_8e157 {V : Vx} {g : Nat → Nat} {va : Value} {res : Int32} (hE : EnvC V g) (hva : va = .null ∨ ∃ t, va = .ref t) {v0 : Int32} {v1 : Int32} (hf : fJ3_checkIndex_8e157 v0 v1 = some res) : Ct V yJ3_checkIndex_8e157 (.code yJ3_checkIndex_8e157 cJ3_checkIndex_8e157 3 (some .int)) rmJ3_checkIndex_8e157 0 0 [.int v0, .int v1, va] [] (rEq (some (.int res)) []) := by
  rcases hva with rfl | ⟨t, rfl⟩
  · exact Ct_of (by decide) (Nat.le_of_ble_eq_true rfl) rfl (fun X hX hT _ hF => wJ3_checkIndex_8e157 ⟨hX, hT, hF⟩ hE hf)
  · exact Ct_of (by decide) (Nat.le_of_ble_eq_true rfl) rfl (fun X hX hT _ hF => wJ3_checkIndex_8e157 ⟨hX, hT, hF⟩ hE hf)
def rmJ0_checkIndex_df160 : Room := { frames := 1, cells := 0, slots := 0, locals := 22 }
def fJ0_checkIndex_df160 (v0 : Int32) (v1 : Int32) : Option (Unit) := cl1 (fJ3_checkIndex_8e157 v0 v1) (fun x1 => some ())
theorem wJ0_checkIndex_df160 {X : Cx} {V : Vx} {g : Nat → Nat} {res : Unit} (h : Run X cJ0_checkIndex_df160 2 RJ0 rmJ0_checkIndex_df160 V none (rEq none [])) (hE : EnvC V g) {v0 : Int32} {v1 : Int32} (hf : fJ0_checkIndex_df160 v0 v1 = some res) : At X 2 0 0 [] 0 [(0, .int v0), (1, .int v1)] [] := by
  obtain ⟨hX, hT, hF⟩ := id h
  unfold fJ0_checkIndex_df160 at hf
  refine a_iload_n hX dJ0_checkIndex_df160_0 rfl 0 rfl rfl ?_
  refine a_iload_n hX dJ0_checkIndex_df160_1 rfl 1 rfl rfl ?_
  refine a_siob hX hE F_J0_1053 dJ0_checkIndex_df160_2 rfl (fun va1 hva1 => ?_)
  obtain ⟨x1, hg1, hf⟩ := cl1_some hf
  refine a_cSpi (rest := []) hX hE.1 (ctJ3_checkIndex_8e157 hE hva1 hg1) K_J0_1059 ⟨rfl, rfl, by decide, by decide⟩ ⟨Nat.zero_le _, Nat.zero_le _⟩ (Nat.le_of_ble_eq_true rfl) dJ0_checkIndex_df160_5 rfl rfl ?_
  refine a_pop hX dJ0_checkIndex_df160_8 rfl rfl ?_
  exact a_ret hX hT hF ⟨rfl, rfl⟩ dJ0_checkIndex_df160_9
theorem ctJ0_checkIndex_df160 {V : Vx} {g : Nat → Nat} {res : Unit} (hE : EnvC V g) {v0 : Int32} {v1 : Int32} (hf : fJ0_checkIndex_df160 v0 v1 = some res) : Ct V yJ0_checkIndex_df160 (.code yJ0_checkIndex_df160 cJ0_checkIndex_df160 2 none) rmJ0_checkIndex_df160 0 0 [.int v0, .int v1] [] (rEq none []) :=
  Ct_of (by decide) (Nat.le_of_ble_eq_true rfl) rfl (fun X hX hT _ hF => wJ0_checkIndex_df160 ⟨hX, hT, hF⟩ hE hf)
def rmJ1_charAt_3b067 : Room := { frames := 2, cells := 0, slots := 0, locals := 43 }
def fJ1_charAt_3b067 (ii : Nat) (v1 : Int32) : Option (Int32) := cl1 (fJ0_checkIndex_df160 v1 (Int32.ofNat (sln ii))) (fun x1 => ldI (sby ii) (sln ii) v1 (fun x2 => rtC ((Int32.toUInt32 (x2 &&& 255) % 65536).toInt32) ((Int32.toUInt32 (x2 &&& 255) % 65536).toInt32)))
theorem wJ1_charAt_3b067 {X : Cx} {V : Vx} {g : Nat → Nat} {ii : Nat} {res : Int32} (h : Run X cJ1_charAt_3b067 2 RJ1 rmJ1_charAt_3b067 V (some .char) (rEq (some (.int res)) [])) (hE : EnvC V g) (hii : ii < 11) {v1 : Int32} (hf : fJ1_charAt_3b067 ii v1 = some res) : At X 2 0 0 [] 0 [(0, .ref (g (30 + ii))), (1, .int v1)] [] := by
  obtain ⟨hX, hT, hF⟩ := id h
  unfold fJ1_charAt_3b067 at hf
  refine a_iload_n hX dJ1_charAt_3b067_0 rfl 1 rfl rfl ?_
  refine a_aload_n hX dJ1_charAt_3b067_1 rfl 0 rfl rfl ?_
  refine a_slen hX hE hii dJ1_charAt_3b067_2 rfl ?_
  obtain ⟨x1, hg1, hf⟩ := cl1_some hf
  refine a_cSpv (rest := []) hX hE.1 (ctJ0_checkIndex_df160 hE hg1) K_J1_9 ⟨rfl, rfl, by decide, by decide⟩ ⟨Nat.zero_le _, Nat.zero_le _⟩ (Nat.le_of_ble_eq_true rfl) dJ1_charAt_3b067_3 rfl rfl ?_
  refine a_aload_n hX dJ1_charAt_3b067_6 rfl 0 rfl rfl ?_
  refine a_iload_n hX dJ1_charAt_3b067_7 rfl 1 rfl rfl ?_
  refine a_sbald hX hE hii dJ1_charAt_3b067_8 rfl hf (fun x2 hf => ?_)
  refine a_sipush (v := 255) hX dJ1_charAt_3b067_9 (by decide) rfl ?_
  refine a_iand hX dJ1_charAt_3b067_12 rfl ?_
  refine a_i2c hX dJ1_charAt_3b067_13 rfl ?_
  exact a_cret hX hT (r_c hf).1 hF (r_i (r_c hf).2) dJ1_charAt_3b067_14
theorem ctJ1_charAt_3b067 {V : Vx} {g : Nat → Nat} {ii : Nat} {res : Int32} (hE : EnvC V g) (hii : ii < 11) {v1 : Int32} (hf : fJ1_charAt_3b067 ii v1 = some res) : Ct V yJ1_charAt_3b067 (.code yJ1_charAt_3b067 cJ1_charAt_3b067 2 (some .char)) rmJ1_charAt_3b067 0 0 [.ref (g (30 + ii)), .int v1] [] (rEq (some (.int res)) []) :=
  Ct_of (by decide) (Nat.le_of_ble_eq_true rfl) rfl (fun X hX hT _ hF => wJ1_charAt_3b067 ⟨hX, hT, hF⟩ hE hii hf)
def rmJ0_charAt_5068e : Room := { frames := 3, cells := 0, slots := 0, locals := 64 }
def fJ0_charAt_5068e (ii : Nat) (v1 : Int32) : Option (Int32) := cl1 (fJ0_isLatin1_aae02 ii) (fun x1 => if x1 = 0 then none else (cl1 (fJ1_charAt_3b067 ii v1) (fun x2 => rtC x2 x2)))
theorem wJ0_charAt_5068e {X : Cx} {V : Vx} {g : Nat → Nat} {ii : Nat} {res : Int32} (h : Run X cJ0_charAt_5068e 2 RJ0 rmJ0_charAt_5068e V (some .char) (rEq (some (.int res)) [])) (hE : EnvC V g) (hii : ii < 11) {v1 : Int32} (hf : fJ0_charAt_5068e ii v1 = some res) : At X 2 0 0 [] 0 [(0, .ref (g (10 + ii))), (1, .int v1)] [] := by
  obtain ⟨hX, hT, hF⟩ := id h
  unfold fJ0_charAt_5068e at hf
  refine a_aload_n hX dJ0_charAt_5068e_0 rfl 0 rfl rfl ?_
  obtain ⟨x1, hg1, hf⟩ := cl1_some hf
  refine a_cTpi (rest := []) hX hE.1 (ctJ0_isLatin1_aae02 hE hii hg1) K_J0_492 hE hii ⟨rfl, rfl, by decide, by decide⟩ ⟨Nat.zero_le _, Nat.zero_le _⟩ (Nat.le_of_ble_eq_true rfl) dJ0_charAt_5068e_1 rfl rfl ?_
  refine a_if_eq (tgt := 16) hX dJ0_charAt_5068e_4 rfl rfl hf (fun hf => ?_) (fun hf => ?_)
  · cases hf
  · refine a_aload_n hX dJ0_charAt_5068e_7 rfl 0 rfl rfl ?_
    refine a_sgv hX hE hii F_J0_9 dJ0_charAt_5068e_8 rfl ?_
    refine a_iload_n hX dJ0_charAt_5068e_11 rfl 1 rfl rfl ?_
    obtain ⟨x2, hg2, hf⟩ := cl1_some hf
    refine a_cSpi (rest := []) hX hE.1 (ctJ1_charAt_3b067 hE hii hg2) K_J0_495 ⟨rfl, rfl, by decide, by decide⟩ ⟨Nat.zero_le _, Nat.zero_le _⟩ (Nat.le_of_ble_eq_true rfl) dJ0_charAt_5068e_12 rfl rfl ?_
    exact a_cret hX hT (r_c hf).1 hF (r_i (r_c hf).2) dJ0_charAt_5068e_15
theorem ctJ0_charAt_5068e {V : Vx} {g : Nat → Nat} {ii : Nat} {res : Int32} (hE : EnvC V g) (hii : ii < 11) {v1 : Int32} (hf : fJ0_charAt_5068e ii v1 = some res) : Ct V yJ0_charAt_5068e (.code yJ0_charAt_5068e cJ0_charAt_5068e 2 (some .char)) rmJ0_charAt_5068e 0 0 [.ref (g (10 + ii)), .int v1] [] (rEq (some (.int res)) []) :=
  Ct_of (by decide) (Nat.le_of_ble_eq_true rfl) rfl (fun X hX hT _ hF => wJ0_charAt_5068e ⟨hX, hT, hF⟩ hE hii hf)
def rmX5_spells : Room := { frames := 4, cells := 0, slots := 0, locals := 85 }
def fX5_spells_l20b (ii : Nat) (u : St) (k20 : Int32 → Option (Int32)) (v2 : Int32) : Option (Int32) := cl1 (fJ0_length_8abf5 ii) (fun x2 => if x2 ≤ v2 then some 1 else (ldI (gA u 102) 160 ((gZ u 106) + v2) (fun x3 => cl1 (fJ0_charAt_5068e ii v2) (fun x4 => if x3 = x4 then k20 (v2 + 1) else (some 0)))))
theorem wX5_spells_l20b {X : Cx} {V : Vx} {q : Nat → Nat} {g : Nat → Nat} {ts : List Tx} {ii : Nat} {u : St} {res : Int32} (h : Run X cX5_spells 3 RX5 rmX5_spells V (some .boolean) (rEq (some (.int res)) (wC V q ts u))) (hE : EnvC V g) (hii : ii < 11) {v2 : Int32} {k20 : Int32 → Option (Int32)} (hk20 : ∀ (v2 : Int32), k20 v2 = some res → At X 3 0 0 (wC V q ts u) 20 [(0, .ref (q 5)), (1, .ref (g (10 + ii))), (2, .int v2)] []) (hf : fX5_spells_l20b ii u k20 v2 = some res) : At X 3 0 0 (wC V q ts u) 20 [(0, .ref (q 5)), (1, .ref (g (10 + ii))), (2, .int v2)] [] := by
  obtain ⟨hX, hT, hF⟩ := id h
  unfold fX5_spells_l20b at hf
  refine a_iload_n hX dX5_spells_20 rfl 2 rfl rfl ?_
  refine a_aload_n hX dX5_spells_21 rfl 1 rfl rfl ?_
  obtain ⟨x2, hg2, hf⟩ := cl1_some hf
  refine a_cTpi (rest := [.int v2]) hX hE.1 (ctJ0_length_8abf5 hE hii hg2) K_X5_118 hE hii ⟨rfl, rfl, by decide, by decide⟩ ⟨Nat.zero_le _, Nat.zero_le _⟩ (Nat.le_of_ble_eq_true rfl) dX5_spells_22 rfl rfl ?_
  refine a_icmp_ge (tgt := 55) hX dX5_spells_25 rfl rfl hf (fun hf => ?_) (fun hf => ?_)
  · refine a_iconst (v := 1) hX dX5_spells_55 (by decide) rfl ?_
    exact a_zret hX hT (by decide) hF (r_i hf) dX5_spells_56
  · refine a_aload_n hX dX5_spells_28 rfl 0 rfl rfl ?_
    refine gX5_2 hX F_X5_9 dX5_spells_29 rfl ?_
    refine a_aload_n hX dX5_spells_32 rfl 0 rfl rfl ?_
    refine gX5_6 hX F_X5_43 dX5_spells_33 rfl ?_
    refine a_iload_n hX dX5_spells_36 rfl 2 rfl rfl ?_
    refine a_iadd hX dX5_spells_37 rfl ?_
    refine lX5_2 hX dX5_spells_38 rfl hf (fun x3 hf => ?_)
    refine a_aload_n hX dX5_spells_39 rfl 1 rfl rfl ?_
    refine a_iload_n hX dX5_spells_40 rfl 2 rfl rfl ?_
    obtain ⟨x4, hg4, hf⟩ := cl1_some hf
    refine a_cTpi (rest := [.int x3]) hX hE.1 (ctJ0_charAt_5068e hE hii hg4) K_X5_122 hE hii ⟨rfl, rfl, by decide, by decide⟩ ⟨Nat.zero_le _, Nat.zero_le _⟩ (Nat.le_of_ble_eq_true rfl) dX5_spells_41 rfl rfl ?_
    refine a_icmp_eq (tgt := 49) hX dX5_spells_44 rfl rfl hf (fun hf => ?_) (fun hf => ?_)
    · refine a_iinc (v := v2 + 1) (lv' := [(2, .int (v2 + 1)), (0, .ref (q 5)), (1, .ref (g (10 + ii)))]) hX dX5_spells_49 2 rfl rfl (by decide) rfl rfl ?_
      refine a_goto (pc' := 20) hX dX5_spells_52 rfl ?_
      refine a_lv (lv' := [(0, .ref (q 5)), (1, .ref (g (10 + ii))), (2, .int (v2 + 1))]) [1, 2, 0] rfl ?_
      exact hk20 (v2 + 1) hf
    · refine a_iconst (v := 0) hX dX5_spells_47 (by decide) rfl ?_
      exact a_zret hX hT (by decide) hF (r_i hf) dX5_spells_48
def fX5_spells_l20 (ii : Nat) (u : St)   : Nat → Int32 → Option (Int32)
  | 0, _ => none
  | m + 1, v2 => fX5_spells_l20b ii u (fX5_spells_l20 ii u   m) v2
theorem wX5_spells_l20 {X : Cx} {V : Vx} {q : Nat → Nat} {g : Nat → Nat} {ts : List Tx} {ii : Nat} {u : St} {res : Int32} (h : Run X cX5_spells 3 RX5 rmX5_spells V (some .boolean) (rEq (some (.int res)) (wC V q ts u))) (hE : EnvC V g) (hii : ii < 11)  : ∀ (m : Nat) (v2 : Int32), fX5_spells_l20 ii u   m v2 = some res → At X 3 0 0 (wC V q ts u) 20 [(0, .ref (q 5)), (1, .ref (g (10 + ii))), (2, .int v2)] [] := by
  intro m
  induction m with
  | zero => intro v2 hf; cases hf
  | succ m ih => intro v2 hf; exact wX5_spells_l20b h hE hii ih hf
def fX5_spells (ii : Nat) (u : St) : Option (Int32) := cl1 (fJ0_length_8abf5 ii) (fun x1 => if (gZ u 107) - (gZ u 106) = x1 then fX5_spells_l20 ii u NF 0 else (some 0))
theorem wX5_spells {X : Cx} {V : Vx} {q : Nat → Nat} {g : Nat → Nat} {ts : List Tx} {ii : Nat} {u : St} {res : Int32} (h : Run X cX5_spells 3 RX5 rmX5_spells V (some .boolean) (rEq (some (.int res)) (wC V q ts u))) (hE : EnvC V g) (hii : ii < 11)  (hf : fX5_spells ii u = some res) : At X 3 0 0 (wC V q ts u) 0 [(0, .ref (q 5)), (1, .ref (g (10 + ii)))] [] := by
  obtain ⟨hX, hT, hF⟩ := id h
  unfold fX5_spells at hf
  refine a_aload_n hX dX5_spells_0 rfl 0 rfl rfl ?_
  refine gX5_7 hX F_X5_33 dX5_spells_1 rfl ?_
  refine a_aload_n hX dX5_spells_4 rfl 0 rfl rfl ?_
  refine gX5_6 hX F_X5_43 dX5_spells_5 rfl ?_
  refine a_isub hX dX5_spells_8 rfl ?_
  refine a_aload_n hX dX5_spells_9 rfl 1 rfl rfl ?_
  obtain ⟨x1, hg1, hf⟩ := cl1_some hf
  refine a_cTpi (rest := [.int ((gZ u 107) - (gZ u 106))]) hX hE.1 (ctJ0_length_8abf5 hE hii hg1) K_X5_118 hE hii ⟨rfl, rfl, by decide, by decide⟩ ⟨Nat.zero_le _, Nat.zero_le _⟩ (Nat.le_of_ble_eq_true rfl) dX5_spells_10 rfl rfl ?_
  refine a_icmp_eq (tgt := 18) hX dX5_spells_13 rfl rfl hf (fun hf => ?_) (fun hf => ?_)
  · refine a_iconst (v := 0) hX dX5_spells_18 (by decide) rfl ?_
    refine a_istore_n (lv' := [(2, .int 0), (0, .ref (q 5)), (1, .ref (g (10 + ii)))]) hX dX5_spells_19 rfl (by decide) rfl rfl ?_
    refine a_lv (lv' := [(0, .ref (q 5)), (1, .ref (g (10 + ii))), (2, .int 0)]) [1, 2, 0] rfl ?_
    exact wX5_spells_l20 h hE hii NF 0 hf
  · refine a_iconst (v := 0) hX dX5_spells_16 (by decide) rfl ?_
    exact a_zret hX hT (by decide) hF (r_i hf) dX5_spells_17
theorem ctX5_spells {V : Vx} {q : Nat → Nat} {u : St} {g : Nat → Nat} {ts : List Tx} {ii : Nat} {res : Int32} (hE : EnvC V g) (hii : ii < 11)  (hf : fX5_spells ii u = some res) : Ct V yX5_spells (.code yX5_spells cX5_spells 3 (some .boolean)) rmX5_spells 0 0 [.ref (q 5), .ref (g (10 + ii))] (wC V q ts u) (rEq (some (.int res)) (wC V q ts u)) :=
  Ct_of (by decide) (Nat.le_of_ble_eq_true rfl) rfl (fun X hX hT _ hF => wX5_spells ⟨hX, hT, hF⟩ hE hii hf)
def rmX5_readWord : Room := { frames := 5, cells := 0, slots := 0, locals := 107 }
def fX5_readWord_b39   (u : St) : Option (Int32 × St) := cl1 (fX5_spells 0 u) (fun x4 => if x4 = 0 then cl1 (fX5_spells 1 u) (fun x5 => if x5 = 0 then cl1 (fX5_spells 2 u) (fun x6 => if x6 = 0 then cl1 (fX5_spells 3 u) (fun x7 => if x7 = 0 then cl1 (fX5_spells 4 u) (fun x8 => if x8 = 0 then cl1 (fX5_spells 5 u) (fun x9 => if x9 = 0 then cl1 (fX5_spells 6 u) (fun x10 => if x10 = 0 then cl1 (fX5_spells 7 u) (fun x11 => if x11 = 0 then cl1 (fX5_spells 8 u) (fun x12 => if x12 = 0 then cl1 (fX5_spells 9 u) (fun x13 => if x13 = 0 then cl1 (fX5_spells 10 u) (fun x14 => if x14 = 0 then some (1, u) else (some ((-6), u))) else (some ((-5), u))) else (some ((-4), u))) else (some ((-3), u))) else (some ((-2), u))) else (some ((-1), u))) else (some ((-8), u))) else (some ((-10), u))) else (some ((-9), u))) else (some (4, u))) else (some (3, u)))
theorem wX5_readWord_b39 {X : Cx} {V : Vx} {q : Nat → Nat} {g : Nat → Nat} {ts : List Tx} {res : Int32 × St} (h : Run X cX5_readWord 1 RX5 rmX5_readWord V (some .int) (rEq (some (.int res.1)) (wC V q ts res.2))) (hE : EnvC V g) {u : St} (hf : fX5_readWord_b39   u = some res) : At X 1 0 0 (wC V q ts u) 39 [(0, .ref (q 5))] [] := by
  obtain ⟨hX, hT, hF⟩ := id h
  unfold fX5_readWord_b39 at hf
  refine a_aload_n hX dX5_readWord_39 rfl 0 rfl rfl ?_
  refine a_ldS hX hE 0 (by decide) rfl dX5_readWord_40 rfl ?_
  obtain ⟨x4, hg4, hf⟩ := cl1_some hf
  refine a_cVsi (q0 := 4) (rest := []) hX hE.1 (ctX5_spells (q := q) hE (by decide) hg4) K_X5_94 ⟨rfl, rfl⟩ ⟨rfl, rfl, by decide, by decide⟩ ⟨Nat.zero_le _, Nat.zero_le _⟩ (Nat.le_of_ble_eq_true rfl) dX5_readWord_42 rfl rfl ?_
  refine a_if_eq (tgt := 50) hX dX5_readWord_45 rfl rfl hf (fun hf => ?_) (fun hf => ?_)
  · refine a_aload_n hX dX5_readWord_50 rfl 0 rfl rfl ?_
    refine a_ldS hX hE 1 (by decide) rfl dX5_readWord_51 rfl ?_
    obtain ⟨x5, hg5, hf⟩ := cl1_some hf
    refine a_cVsi (q0 := 4) (rest := []) hX hE.1 (ctX5_spells (q := q) hE (by decide) hg5) K_X5_94 ⟨rfl, rfl⟩ ⟨rfl, rfl, by decide, by decide⟩ ⟨Nat.zero_le _, Nat.zero_le _⟩ (Nat.le_of_ble_eq_true rfl) dX5_readWord_53 rfl rfl ?_
    refine a_if_eq (tgt := 61) hX dX5_readWord_56 rfl rfl hf (fun hf => ?_) (fun hf => ?_)
    · refine a_aload_n hX dX5_readWord_61 rfl 0 rfl rfl ?_
      refine a_ldS hX hE 2 (by decide) rfl dX5_readWord_62 rfl ?_
      obtain ⟨x6, hg6, hf⟩ := cl1_some hf
      refine a_cVsi (q0 := 4) (rest := []) hX hE.1 (ctX5_spells (q := q) hE (by decide) hg6) K_X5_94 ⟨rfl, rfl⟩ ⟨rfl, rfl, by decide, by decide⟩ ⟨Nat.zero_le _, Nat.zero_le _⟩ (Nat.le_of_ble_eq_true rfl) dX5_readWord_64 rfl rfl ?_
      refine a_if_eq (tgt := 73) hX dX5_readWord_67 rfl rfl hf (fun hf => ?_) (fun hf => ?_)
      · refine a_aload_n hX dX5_readWord_73 rfl 0 rfl rfl ?_
        refine a_ldS hX hE 3 (by decide) rfl dX5_readWord_74 rfl ?_
        obtain ⟨x7, hg7, hf⟩ := cl1_some hf
        refine a_cVsi (q0 := 4) (rest := []) hX hE.1 (ctX5_spells (q := q) hE (by decide) hg7) K_X5_94 ⟨rfl, rfl⟩ ⟨rfl, rfl, by decide, by decide⟩ ⟨Nat.zero_le _, Nat.zero_le _⟩ (Nat.le_of_ble_eq_true rfl) dX5_readWord_76 rfl rfl ?_
        refine a_if_eq (tgt := 85) hX dX5_readWord_79 rfl rfl hf (fun hf => ?_) (fun hf => ?_)
        · refine a_aload_n hX dX5_readWord_85 rfl 0 rfl rfl ?_
          refine a_ldS hX hE 4 (by decide) rfl dX5_readWord_86 rfl ?_
          obtain ⟨x8, hg8, hf⟩ := cl1_some hf
          refine a_cVsi (q0 := 4) (rest := []) hX hE.1 (ctX5_spells (q := q) hE (by decide) hg8) K_X5_94 ⟨rfl, rfl⟩ ⟨rfl, rfl, by decide, by decide⟩ ⟨Nat.zero_le _, Nat.zero_le _⟩ (Nat.le_of_ble_eq_true rfl) dX5_readWord_88 rfl rfl ?_
          refine a_if_eq (tgt := 97) hX dX5_readWord_91 rfl rfl hf (fun hf => ?_) (fun hf => ?_)
          · refine a_aload_n hX dX5_readWord_97 rfl 0 rfl rfl ?_
            refine a_ldS hX hE 5 (by decide) rfl dX5_readWord_98 rfl ?_
            obtain ⟨x9, hg9, hf⟩ := cl1_some hf
            refine a_cVsi (q0 := 4) (rest := []) hX hE.1 (ctX5_spells (q := q) hE (by decide) hg9) K_X5_94 ⟨rfl, rfl⟩ ⟨rfl, rfl, by decide, by decide⟩ ⟨Nat.zero_le _, Nat.zero_le _⟩ (Nat.le_of_ble_eq_true rfl) dX5_readWord_100 rfl rfl ?_
            refine a_if_eq (tgt := 108) hX dX5_readWord_103 rfl rfl hf (fun hf => ?_) (fun hf => ?_)
            · refine a_aload_n hX dX5_readWord_108 rfl 0 rfl rfl ?_
              refine a_ldS hX hE 6 (by decide) rfl dX5_readWord_109 rfl ?_
              obtain ⟨x10, hg10, hf⟩ := cl1_some hf
              refine a_cVsi (q0 := 4) (rest := []) hX hE.1 (ctX5_spells (q := q) hE (by decide) hg10) K_X5_94 ⟨rfl, rfl⟩ ⟨rfl, rfl, by decide, by decide⟩ ⟨Nat.zero_le _, Nat.zero_le _⟩ (Nat.le_of_ble_eq_true rfl) dX5_readWord_111 rfl rfl ?_
              refine a_if_eq (tgt := 120) hX dX5_readWord_114 rfl rfl hf (fun hf => ?_) (fun hf => ?_)
              · refine a_aload_n hX dX5_readWord_120 rfl 0 rfl rfl ?_
                refine a_ldS hX hE 7 (by decide) rfl dX5_readWord_121 rfl ?_
                obtain ⟨x11, hg11, hf⟩ := cl1_some hf
                refine a_cVsi (q0 := 4) (rest := []) hX hE.1 (ctX5_spells (q := q) hE (by decide) hg11) K_X5_94 ⟨rfl, rfl⟩ ⟨rfl, rfl, by decide, by decide⟩ ⟨Nat.zero_le _, Nat.zero_le _⟩ (Nat.le_of_ble_eq_true rfl) dX5_readWord_123 rfl rfl ?_
                refine a_if_eq (tgt := 132) hX dX5_readWord_126 rfl rfl hf (fun hf => ?_) (fun hf => ?_)
                · refine a_aload_n hX dX5_readWord_132 rfl 0 rfl rfl ?_
                  refine a_ldS hX hE 8 (by decide) rfl dX5_readWord_133 rfl ?_
                  obtain ⟨x12, hg12, hf⟩ := cl1_some hf
                  refine a_cVsi (q0 := 4) (rest := []) hX hE.1 (ctX5_spells (q := q) hE (by decide) hg12) K_X5_94 ⟨rfl, rfl⟩ ⟨rfl, rfl, by decide, by decide⟩ ⟨Nat.zero_le _, Nat.zero_le _⟩ (Nat.le_of_ble_eq_true rfl) dX5_readWord_135 rfl rfl ?_
                  refine a_if_eq (tgt := 144) hX dX5_readWord_138 rfl rfl hf (fun hf => ?_) (fun hf => ?_)
                  · refine a_aload_n hX dX5_readWord_144 rfl 0 rfl rfl ?_
                    refine a_ldS hX hE 9 (by decide) rfl dX5_readWord_145 rfl ?_
                    obtain ⟨x13, hg13, hf⟩ := cl1_some hf
                    refine a_cVsi (q0 := 4) (rest := []) hX hE.1 (ctX5_spells (q := q) hE (by decide) hg13) K_X5_94 ⟨rfl, rfl⟩ ⟨rfl, rfl, by decide, by decide⟩ ⟨Nat.zero_le _, Nat.zero_le _⟩ (Nat.le_of_ble_eq_true rfl) dX5_readWord_147 rfl rfl ?_
                    refine a_if_eq (tgt := 156) hX dX5_readWord_150 rfl rfl hf (fun hf => ?_) (fun hf => ?_)
                    · refine a_aload_n hX dX5_readWord_156 rfl 0 rfl rfl ?_
                      refine a_ldS hX hE 10 (by decide) rfl dX5_readWord_157 rfl ?_
                      obtain ⟨x14, hg14, hf⟩ := cl1_some hf
                      refine a_cVsi (q0 := 4) (rest := []) hX hE.1 (ctX5_spells (q := q) hE (by decide) hg14) K_X5_94 ⟨rfl, rfl⟩ ⟨rfl, rfl, by decide, by decide⟩ ⟨Nat.zero_le _, Nat.zero_le _⟩ (Nat.le_of_ble_eq_true rfl) dX5_readWord_159 rfl rfl ?_
                      refine a_if_eq (tgt := 168) hX dX5_readWord_162 rfl rfl hf (fun hf => ?_) (fun hf => ?_)
                      · refine a_iconst (v := 1) hX dX5_readWord_168 (by decide) rfl ?_
                        exact a_iret hX hT hF (r_iS (wf := (wC V q ts)) hf) dX5_readWord_169
                      · refine a_bipush (v := (-6)) hX dX5_readWord_165 (by decide) rfl ?_
                        exact a_iret hX hT hF (r_iS (wf := (wC V q ts)) hf) dX5_readWord_167
                    · refine a_bipush (v := (-5)) hX dX5_readWord_153 (by decide) rfl ?_
                      exact a_iret hX hT hF (r_iS (wf := (wC V q ts)) hf) dX5_readWord_155
                  · refine a_bipush (v := (-4)) hX dX5_readWord_141 (by decide) rfl ?_
                    exact a_iret hX hT hF (r_iS (wf := (wC V q ts)) hf) dX5_readWord_143
                · refine a_bipush (v := (-3)) hX dX5_readWord_129 (by decide) rfl ?_
                  exact a_iret hX hT hF (r_iS (wf := (wC V q ts)) hf) dX5_readWord_131
              · refine a_bipush (v := (-2)) hX dX5_readWord_117 (by decide) rfl ?_
                exact a_iret hX hT hF (r_iS (wf := (wC V q ts)) hf) dX5_readWord_119
            · refine a_iconst (v := (-1)) hX dX5_readWord_106 (by decide) rfl ?_
              exact a_iret hX hT hF (r_iS (wf := (wC V q ts)) hf) dX5_readWord_107
          · refine a_bipush (v := (-8)) hX dX5_readWord_94 (by decide) rfl ?_
            exact a_iret hX hT hF (r_iS (wf := (wC V q ts)) hf) dX5_readWord_96
        · refine a_bipush (v := (-10)) hX dX5_readWord_82 (by decide) rfl ?_
          exact a_iret hX hT hF (r_iS (wf := (wC V q ts)) hf) dX5_readWord_84
      · refine a_bipush (v := (-9)) hX dX5_readWord_70 (by decide) rfl ?_
        exact a_iret hX hT hF (r_iS (wf := (wC V q ts)) hf) dX5_readWord_72
    · refine a_iconst (v := 4) hX dX5_readWord_59 (by decide) rfl ?_
      exact a_iret hX hT hF (r_iS (wf := (wC V q ts)) hf) dX5_readWord_60
  · refine a_iconst (v := 3) hX dX5_readWord_48 (by decide) rfl ?_
    exact a_iret hX hT hF (r_iS (wf := (wC V q ts)) hf) dX5_readWord_49
def fX5_readWord_l0b  (k0 : St → Option (Int32 × St)) (u : St) : Option (Int32 × St) := if gZ u 100 ≤ gZ u 107 then fX5_readWord_b39 u else (ldI (gA u 102) 160 (gZ u 107) (fun x1 => cl1 (fX5_isLetter x1) (fun x2 => if x2 = 0 then fX5_readWord_b39 u else (nmS (setZ u 107 ((gZ u 107) + 1)) (fun u3 => k0 u3)))))
theorem wX5_readWord_l0b {X : Cx} {V : Vx} {q : Nat → Nat} {g : Nat → Nat} {ts : List Tx} {res : Int32 × St} (h : Run X cX5_readWord 1 RX5 rmX5_readWord V (some .int) (rEq (some (.int res.1)) (wC V q ts res.2))) (hE : EnvC V g) {u : St} {k0 : St → Option (Int32 × St)} (hk0 : ∀ (u : St), k0 u = some res → At X 1 0 0 (wC V q ts u) 0 [(0, .ref (q 5))] []) (hf : fX5_readWord_l0b  k0 u = some res) : At X 1 0 0 (wC V q ts u) 0 [(0, .ref (q 5))] [] := by
  obtain ⟨hX, hT, hF⟩ := id h
  unfold fX5_readWord_l0b at hf
  refine a_aload_n hX dX5_readWord_0 rfl 0 rfl rfl ?_
  refine gX5_7 hX F_X5_33 dX5_readWord_1 rfl ?_
  refine a_aload_n hX dX5_readWord_4 rfl 0 rfl rfl ?_
  refine gX5_0 hX F_X5_17 dX5_readWord_5 rfl ?_
  refine a_icmp_ge (tgt := 39) hX dX5_readWord_8 rfl rfl hf (fun hf => ?_) (fun hf => ?_)
  · exact wX5_readWord_b39 h hE hf
  · refine a_aload_n hX dX5_readWord_11 rfl 0 rfl rfl ?_
    refine gX5_2 hX F_X5_9 dX5_readWord_12 rfl ?_
    refine a_aload_n hX dX5_readWord_15 rfl 0 rfl rfl ?_
    refine gX5_7 hX F_X5_33 dX5_readWord_16 rfl ?_
    refine lX5_2 hX dX5_readWord_19 rfl hf (fun x1 hf => ?_)
    obtain ⟨x2, hg2, hf⟩ := cl1_some hf
    refine a_cSpi (rest := []) hX hE.1 (ctX5_isLetter hE.1 hg2) K_X5_76 ⟨rfl, rfl, by decide, by decide⟩ ⟨Nat.zero_le _, Nat.zero_le _⟩ (Nat.le_of_ble_eq_true rfl) dX5_readWord_20 rfl rfl ?_
    refine a_if_eq (tgt := 39) hX dX5_readWord_23 rfl rfl hf (fun hf => ?_) (fun hf => ?_)
    · exact wX5_readWord_b39 h hE hf
    · refine a_aload_n hX dX5_readWord_26 rfl 0 rfl rfl ?_
      refine a_dup hX dX5_readWord_27 rfl rfl ?_
      refine gX5_7 hX F_X5_33 dX5_readWord_28 rfl ?_
      refine a_iconst (v := 1) hX dX5_readWord_31 (by decide) rfl ?_
      refine a_iadd hX dX5_readWord_32 rfl ?_
      refine pX5_7 hX F_X5_33 dX5_readWord_33 rfl hf (fun u3 hf => ?_)
      refine a_goto (pc' := 0) hX dX5_readWord_36 rfl ?_
      exact hk0 u3 hf
def fX5_readWord_l0    : Nat → St → Option (Int32 × St)
  | 0, _ => none
  | m + 1, u => fX5_readWord_l0b  (fX5_readWord_l0    m) u
theorem wX5_readWord_l0 {X : Cx} {V : Vx} {q : Nat → Nat} {g : Nat → Nat} {ts : List Tx} {res : Int32 × St} (h : Run X cX5_readWord 1 RX5 rmX5_readWord V (some .int) (rEq (some (.int res.1)) (wC V q ts res.2))) (hE : EnvC V g)  : ∀ (m : Nat) (u : St), fX5_readWord_l0    m u = some res → At X 1 0 0 (wC V q ts u) 0 [(0, .ref (q 5))] [] := by
  intro m
  induction m with
  | zero => intro u hf; cases hf
  | succ m ih => intro u hf; exact wX5_readWord_l0b h hE ih hf
def fX5_readWord (u : St) : Option (Int32 × St) := fX5_readWord_l0 NF u
theorem wX5_readWord {X : Cx} {V : Vx} {q : Nat → Nat} {g : Nat → Nat} {ts : List Tx} {res : Int32 × St} (h : Run X cX5_readWord 1 RX5 rmX5_readWord V (some .int) (rEq (some (.int res.1)) (wC V q ts res.2))) (hE : EnvC V g) {u : St} (hf : fX5_readWord u = some res) : At X 1 0 0 (wC V q ts u) 0 [(0, .ref (q 5))] [] := by
  obtain ⟨hX, hT, hF⟩ := id h
  unfold fX5_readWord at hf
  exact wX5_readWord_l0 h hE NF u hf
theorem ctX5_readWord {V : Vx} {q : Nat → Nat} {u : St} {g : Nat → Nat} {ts : List Tx} {res : Int32 × St} (hE : EnvC V g)  (hf : fX5_readWord u = some res) : Ct V yX5_readWord (.code yX5_readWord cX5_readWord 1 (some .int)) rmX5_readWord 0 0 [.ref (q 5)] (wC V q ts u) (rEq (some (.int res.1)) (wC V q ts res.2)) :=
  Ct_of (by decide) (Nat.le_of_ble_eq_true rfl) rfl (fun X hX hT _ hF => wX5_readWord ⟨hX, hT, hF⟩ hE hf)
def rmX5_advance : Room := { frames := 6, cells := 0, slots := 0, locals := 127 }
def fX5_advance_b47  (k8 : St → Option (St)) (u : St) : Option (St) := nmS (setZ u 106 ((gZ u 106) + 1)) (fun u4 => k8 u4)
theorem wX5_advance_b47 {X : Cx} {V : Vx} {q : Nat → Nat} {g : Nat → Nat} {ts : List Tx} {res : St} (h : Run X cX5_advance 1 RX5 rmX5_advance V none (rEq none (wC V q ts res))) (hE : EnvC V g) {u : St} {k8 : St → Option (St)} (hk8 : ∀ (u : St), k8 u = some res → At X 1 0 0 (wC V q ts u) 8 [(0, .ref (q 5))] []) (hf : fX5_advance_b47  k8 u = some res) : At X 1 0 0 (wC V q ts u) 47 [(0, .ref (q 5))] [] := by
  obtain ⟨hX, hT, hF⟩ := id h
  unfold fX5_advance_b47 at hf
  refine a_aload_n hX dX5_advance_47 rfl 0 rfl rfl ?_
  refine a_dup hX dX5_advance_48 rfl rfl ?_
  refine gX5_6 hX F_X5_43 dX5_advance_49 rfl ?_
  refine a_iconst (v := 1) hX dX5_advance_52 (by decide) rfl ?_
  refine a_iadd hX dX5_advance_53 rfl ?_
  refine pX5_6 hX F_X5_43 dX5_advance_54 rfl hf (fun u4 hf => ?_)
  refine a_goto (pc' := 8) hX dX5_advance_57 rfl ?_
  exact hk8 u4 hf
def fX5_advance_b60   (u : St) : Option (St) := nmS (setZ u 107 (gZ u 106)) (fun u5 => if gZ u5 106 = gZ u5 100 then nmS (setZ u5 105 0) (fun u19 => some u19) else (ldI (gA u5 102) 160 (gZ u5 106) (fun x6 => cl1 (fX5_isLetter x6) (fun x7 => if x7 = 0 then ldI (gA u5 102) 160 (gZ u5 106) (fun x8 => cl1 (fX5_isFigure x8) (fun x9 => if x9 = 0 then cl2 (fX5_readSign u5) (fun x10 u11 => nmS (setZ u11 105 x10) (fun u12 => some u12)) else (cl2 (fX5_readNumber u5) (fun x13 u14 => nmS (setZ u14 105 x13) (fun u15 => some u15))))) else (cl2 (fX5_readWord u5) (fun x16 u17 => nmS (setZ u17 105 x16) (fun u18 => some u18)))))))
theorem wX5_advance_b60 {X : Cx} {V : Vx} {q : Nat → Nat} {g : Nat → Nat} {ts : List Tx} {res : St} (h : Run X cX5_advance 1 RX5 rmX5_advance V none (rEq none (wC V q ts res))) (hE : EnvC V g) {u : St} (hf : fX5_advance_b60   u = some res) : At X 1 0 0 (wC V q ts u) 60 [(0, .ref (q 5))] [] := by
  obtain ⟨hX, hT, hF⟩ := id h
  unfold fX5_advance_b60 at hf
  refine a_aload_n hX dX5_advance_60 rfl 0 rfl rfl ?_
  refine a_aload_n hX dX5_advance_61 rfl 0 rfl rfl ?_
  refine gX5_6 hX F_X5_43 dX5_advance_62 rfl ?_
  refine pX5_7 hX F_X5_33 dX5_advance_65 rfl hf (fun u5 hf => ?_)
  refine a_aload_n hX dX5_advance_68 rfl 0 rfl rfl ?_
  refine gX5_6 hX F_X5_43 dX5_advance_69 rfl ?_
  refine a_aload_n hX dX5_advance_72 rfl 0 rfl rfl ?_
  refine gX5_0 hX F_X5_17 dX5_advance_73 rfl ?_
  refine a_icmp_ne (tgt := 87) hX dX5_advance_76 rfl rfl hf (fun hf => ?_) (fun hf => ?_)
  · refine a_aload_n hX dX5_advance_87 rfl 0 rfl rfl ?_
    refine gX5_2 hX F_X5_9 dX5_advance_88 rfl ?_
    refine a_aload_n hX dX5_advance_91 rfl 0 rfl rfl ?_
    refine gX5_6 hX F_X5_43 dX5_advance_92 rfl ?_
    refine lX5_2 hX dX5_advance_95 rfl hf (fun x6 hf => ?_)
    obtain ⟨x7, hg7, hf⟩ := cl1_some hf
    refine a_cSpi (rest := []) hX hE.1 (ctX5_isLetter hE.1 hg7) K_X5_76 ⟨rfl, rfl, by decide, by decide⟩ ⟨Nat.zero_le _, Nat.zero_le _⟩ (Nat.le_of_ble_eq_true rfl) dX5_advance_96 rfl rfl ?_
    refine a_if_eq (tgt := 113) hX dX5_advance_99 rfl rfl hf (fun hf => ?_) (fun hf => ?_)
    · refine a_aload_n hX dX5_advance_113 rfl 0 rfl rfl ?_
      refine gX5_2 hX F_X5_9 dX5_advance_114 rfl ?_
      refine a_aload_n hX dX5_advance_117 rfl 0 rfl rfl ?_
      refine gX5_6 hX F_X5_43 dX5_advance_118 rfl ?_
      refine lX5_2 hX dX5_advance_121 rfl hf (fun x8 hf => ?_)
      obtain ⟨x9, hg9, hf⟩ := cl1_some hf
      refine a_cSpi (rest := []) hX hE.1 (ctX5_isFigure hE.1 hg9) K_X5_83 ⟨rfl, rfl, by decide, by decide⟩ ⟨Nat.zero_le _, Nat.zero_le _⟩ (Nat.le_of_ble_eq_true rfl) dX5_advance_122 rfl rfl ?_
      refine a_if_eq (tgt := 139) hX dX5_advance_125 rfl rfl hf (fun hf => ?_) (fun hf => ?_)
      · refine a_aload_n hX dX5_advance_139 rfl 0 rfl rfl ?_
        refine a_aload_n hX dX5_advance_140 rfl 0 rfl rfl ?_
        obtain ⟨x10, u11, hg10, hf⟩ := cl2_some hf
        refine a_cVsi (q0 := 4) (rest := [.ref (q 5)]) hX hE.1 (ctX5_readSign (q := q) hE hg10) K_X5_89 ⟨rfl, rfl⟩ ⟨rfl, rfl, by decide, by decide⟩ ⟨Nat.zero_le _, Nat.zero_le _⟩ (Nat.le_of_ble_eq_true rfl) dX5_advance_141 rfl rfl ?_
        refine pX5_5 hX F_X5_46 dX5_advance_144 rfl hf (fun u12 hf => ?_)
        exact a_ret hX hT hF (r_vS (wf := (wC V q ts)) hf) dX5_advance_147
      · refine a_aload_n hX dX5_advance_128 rfl 0 rfl rfl ?_
        refine a_aload_n hX dX5_advance_129 rfl 0 rfl rfl ?_
        obtain ⟨x13, u14, hg13, hf⟩ := cl2_some hf
        refine a_cVsi (q0 := 4) (rest := [.ref (q 5)]) hX hE.1 (ctX5_readNumber (q := q) hE hg13) K_X5_86 ⟨rfl, rfl⟩ ⟨rfl, rfl, by decide, by decide⟩ ⟨Nat.zero_le _, Nat.zero_le _⟩ (Nat.le_of_ble_eq_true rfl) dX5_advance_130 rfl rfl ?_
        refine pX5_5 hX F_X5_46 dX5_advance_133 rfl hf (fun u15 hf => ?_)
        refine a_goto (pc' := 147) hX dX5_advance_136 rfl ?_
        exact a_ret hX hT hF (r_vS (wf := (wC V q ts)) hf) dX5_advance_147
    · refine a_aload_n hX dX5_advance_102 rfl 0 rfl rfl ?_
      refine a_aload_n hX dX5_advance_103 rfl 0 rfl rfl ?_
      obtain ⟨x16, u17, hg16, hf⟩ := cl2_some hf
      refine a_cVsi (q0 := 4) (rest := [.ref (q 5)]) hX hE.1 (ctX5_readWord (q := q) hE hg16) K_X5_79 ⟨rfl, rfl⟩ ⟨rfl, rfl, by decide, by decide⟩ ⟨Nat.zero_le _, Nat.zero_le _⟩ (Nat.le_of_ble_eq_true rfl) dX5_advance_104 rfl rfl ?_
      refine pX5_5 hX F_X5_46 dX5_advance_107 rfl hf (fun u18 hf => ?_)
      refine a_goto (pc' := 147) hX dX5_advance_110 rfl ?_
      exact a_ret hX hT hF (r_vS (wf := (wC V q ts)) hf) dX5_advance_147
  · refine a_aload_n hX dX5_advance_79 rfl 0 rfl rfl ?_
    refine a_iconst (v := 0) hX dX5_advance_80 (by decide) rfl ?_
    refine pX5_5 hX F_X5_46 dX5_advance_81 rfl hf (fun u19 hf => ?_)
    refine a_goto (pc' := 147) hX dX5_advance_84 rfl ?_
    exact a_ret hX hT hF (r_vS (wf := (wC V q ts)) hf) dX5_advance_147
def fX5_advance_l8b  (k8 : St → Option (St)) (u : St) : Option (St) := if gZ u 100 ≤ gZ u 106 then fX5_advance_b60 u else (ldI (gA u 102) 160 (gZ u 106) (fun x2 => if x2 = 32 then fX5_advance_b47 k8 u else (ldI (gA u 102) 160 (gZ u 106) (fun x3 => if x3 = 10 then fX5_advance_b47 k8 u else (fX5_advance_b60 u)))))
theorem wX5_advance_l8b {X : Cx} {V : Vx} {q : Nat → Nat} {g : Nat → Nat} {ts : List Tx} {res : St} (h : Run X cX5_advance 1 RX5 rmX5_advance V none (rEq none (wC V q ts res))) (hE : EnvC V g) {u : St} {k8 : St → Option (St)} (hk8 : ∀ (u : St), k8 u = some res → At X 1 0 0 (wC V q ts u) 8 [(0, .ref (q 5))] []) (hf : fX5_advance_l8b  k8 u = some res) : At X 1 0 0 (wC V q ts u) 8 [(0, .ref (q 5))] [] := by
  obtain ⟨hX, hT, hF⟩ := id h
  unfold fX5_advance_l8b at hf
  refine a_aload_n hX dX5_advance_8 rfl 0 rfl rfl ?_
  refine gX5_6 hX F_X5_43 dX5_advance_9 rfl ?_
  refine a_aload_n hX dX5_advance_12 rfl 0 rfl rfl ?_
  refine gX5_0 hX F_X5_17 dX5_advance_13 rfl ?_
  refine a_icmp_ge (tgt := 60) hX dX5_advance_16 rfl rfl hf (fun hf => ?_) (fun hf => ?_)
  · exact wX5_advance_b60 h hE hf
  · refine a_aload_n hX dX5_advance_19 rfl 0 rfl rfl ?_
    refine gX5_2 hX F_X5_9 dX5_advance_20 rfl ?_
    refine a_aload_n hX dX5_advance_23 rfl 0 rfl rfl ?_
    refine gX5_6 hX F_X5_43 dX5_advance_24 rfl ?_
    refine lX5_2 hX dX5_advance_27 rfl hf (fun x2 hf => ?_)
    refine a_bipush (v := 32) hX dX5_advance_28 (by decide) rfl ?_
    refine a_icmp_eq (tgt := 47) hX dX5_advance_30 rfl rfl hf (fun hf => ?_) (fun hf => ?_)
    · exact wX5_advance_b47 h hE hk8 hf
    · refine a_aload_n hX dX5_advance_33 rfl 0 rfl rfl ?_
      refine gX5_2 hX F_X5_9 dX5_advance_34 rfl ?_
      refine a_aload_n hX dX5_advance_37 rfl 0 rfl rfl ?_
      refine gX5_6 hX F_X5_43 dX5_advance_38 rfl ?_
      refine lX5_2 hX dX5_advance_41 rfl hf (fun x3 hf => ?_)
      refine a_bipush (v := 10) hX dX5_advance_42 (by decide) rfl ?_
      refine a_icmp_ne (tgt := 60) hX dX5_advance_44 rfl rfl hf (fun hf => ?_) (fun hf => ?_)
      · exact wX5_advance_b60 h hE hf
      · exact wX5_advance_b47 h hE hk8 hf
def fX5_advance_l8    : Nat → St → Option (St)
  | 0, _ => none
  | m + 1, u => fX5_advance_l8b  (fX5_advance_l8    m) u
theorem wX5_advance_l8 {X : Cx} {V : Vx} {q : Nat → Nat} {g : Nat → Nat} {ts : List Tx} {res : St} (h : Run X cX5_advance 1 RX5 rmX5_advance V none (rEq none (wC V q ts res))) (hE : EnvC V g)  : ∀ (m : Nat) (u : St), fX5_advance_l8    m u = some res → At X 1 0 0 (wC V q ts u) 8 [(0, .ref (q 5))] [] := by
  intro m
  induction m with
  | zero => intro u hf; cases hf
  | succ m ih => intro u hf; exact wX5_advance_l8b h hE ih hf
def fX5_advance (u : St) : Option (St) := nmS (setZ u 106 (gZ u 107)) (fun u1 => fX5_advance_l8 NF u1)
theorem wX5_advance {X : Cx} {V : Vx} {q : Nat → Nat} {g : Nat → Nat} {ts : List Tx} {res : St} (h : Run X cX5_advance 1 RX5 rmX5_advance V none (rEq none (wC V q ts res))) (hE : EnvC V g) {u : St} (hf : fX5_advance u = some res) : At X 1 0 0 (wC V q ts u) 0 [(0, .ref (q 5))] [] := by
  obtain ⟨hX, hT, hF⟩ := id h
  unfold fX5_advance at hf
  refine a_aload_n hX dX5_advance_0 rfl 0 rfl rfl ?_
  refine a_aload_n hX dX5_advance_1 rfl 0 rfl rfl ?_
  refine gX5_7 hX F_X5_33 dX5_advance_2 rfl ?_
  refine pX5_6 hX F_X5_43 dX5_advance_5 rfl hf (fun u1 hf => ?_)
  exact wX5_advance_l8 h hE NF u1 hf
theorem ctX5_advance {V : Vx} {q : Nat → Nat} {u : St} {g : Nat → Nat} {ts : List Tx} {res : St} (hE : EnvC V g)  (hf : fX5_advance u = some res) : Ct V yX5_advance (.code yX5_advance cX5_advance 1 none) rmX5_advance 0 0 [.ref (q 5)] (wC V q ts u) (rEq none (wC V q ts res)) :=
  Ct_of (by decide) (Nat.le_of_ble_eq_true rfl) rfl (fun X hX hT _ hF => wX5_advance ⟨hX, hT, hF⟩ hE hf)
def rmX5_pass : Room := { frames := 7, cells := 0, slots := 0, locals := 147 }
def fX5_pass (u : St) (v1 : Int32) : Option (Int32 × St) := if gZ u 105 = v1 then cl1 (fX5_advance u) (fun u2 => some (1, u2)) else (some (0, u))
theorem wX5_pass {X : Cx} {V : Vx} {q : Nat → Nat} {g : Nat → Nat} {ts : List Tx} {res : Int32 × St} (h : Run X cX5_pass 2 RX5 rmX5_pass V (some .boolean) (rEq (some (.int res.1)) (wC V q ts res.2))) (hE : EnvC V g) {u : St} {v1 : Int32} (hf : fX5_pass u v1 = some res) : At X 2 0 0 (wC V q ts u) 0 [(0, .ref (q 5)), (1, .int v1)] [] := by
  obtain ⟨hX, hT, hF⟩ := id h
  unfold fX5_pass at hf
  refine a_aload_n hX dX5_pass_0 rfl 0 rfl rfl ?_
  refine gX5_5 hX F_X5_46 dX5_pass_1 rfl ?_
  refine a_iload_n hX dX5_pass_4 rfl 1 rfl rfl ?_
  refine a_icmp_eq (tgt := 10) hX dX5_pass_5 rfl rfl hf (fun hf => ?_) (fun hf => ?_)
  · refine a_aload_n hX dX5_pass_10 rfl 0 rfl rfl ?_
    obtain ⟨u2, hg1, hf⟩ := cl1_some hf
    refine a_cVsv (q0 := 4) (rest := []) hX hE.1 (ctX5_advance (q := q) hE hg1) K_X5_36 ⟨rfl, rfl⟩ ⟨rfl, rfl, by decide, by decide⟩ ⟨Nat.zero_le _, Nat.zero_le _⟩ (Nat.le_of_ble_eq_true rfl) dX5_pass_11 rfl rfl ?_
    refine a_iconst (v := 1) hX dX5_pass_14 (by decide) rfl ?_
    exact a_zret hX hT (by decide) hF (r_iS (wf := (wC V q ts)) hf) dX5_pass_15
  · refine a_iconst (v := 0) hX dX5_pass_8 (by decide) rfl ?_
    exact a_zret hX hT (by decide) hF (r_iS (wf := (wC V q ts)) hf) dX5_pass_9
theorem ctX5_pass {V : Vx} {q : Nat → Nat} {u : St} {g : Nat → Nat} {ts : List Tx} {res : Int32 × St} (hE : EnvC V g) {v1 : Int32} (hf : fX5_pass u v1 = some res) : Ct V yX5_pass (.code yX5_pass cX5_pass 2 (some .boolean)) rmX5_pass 0 0 [.ref (q 5), .int v1] (wC V q ts u) (rEq (some (.int res.1)) (wC V q ts res.2)) :=
  Ct_of (by decide) (Nat.le_of_ble_eq_true rfl) rfl (fun X hX hT _ hF => wX5_pass ⟨hX, hT, hF⟩ hE hf)
def rmX5_write : Room := { frames := 0, cells := 0, slots := 0, locals := 0 }
def fX5_write (u : St) (v1 : Int32) : Option (Int32 × St) := if gZ u 104 = 160 then some (0, u) else (stI u 103 160 (gZ u 104) v1 (fun u1 => nmS (setZ u1 104 ((gZ u1 104) + 1)) (fun u2 => some (1, u2))))
theorem wX5_write {X : Cx} {V : Vx} {q : Nat → Nat} {g : Nat → Nat} {ts : List Tx} {res : Int32 × St} (h : Run X cX5_write 2 RX5 rmX5_write V (some .boolean) (rEq (some (.int res.1)) (wC V q ts res.2))) (hE : EnvC V g) {u : St} {v1 : Int32} (hf : fX5_write u v1 = some res) : At X 2 0 0 (wC V q ts u) 0 [(0, .ref (q 5)), (1, .int v1)] [] := by
  obtain ⟨hX, hT, hF⟩ := id h
  unfold fX5_write at hf
  refine a_aload_n hX dX5_write_0 rfl 0 rfl rfl ?_
  refine gX5_4 hX F_X5_21 dX5_write_1 rfl ?_
  refine a_sipush (v := 160) hX dX5_write_4 (by decide) rfl ?_
  refine a_icmp_ne (tgt := 12) hX dX5_write_7 rfl rfl hf (fun hf => ?_) (fun hf => ?_)
  · refine a_aload_n hX dX5_write_12 rfl 0 rfl rfl ?_
    refine gX5_3 hX F_X5_13 dX5_write_13 rfl ?_
    refine a_aload_n hX dX5_write_16 rfl 0 rfl rfl ?_
    refine gX5_4 hX F_X5_21 dX5_write_17 rfl ?_
    refine a_iload_n hX dX5_write_20 rfl 1 rfl rfl ?_
    refine sX5_3 hX dX5_write_21 rfl hf (fun u1 hf => ?_)
    refine a_aload_n hX dX5_write_22 rfl 0 rfl rfl ?_
    refine a_dup hX dX5_write_23 rfl rfl ?_
    refine gX5_4 hX F_X5_21 dX5_write_24 rfl ?_
    refine a_iconst (v := 1) hX dX5_write_27 (by decide) rfl ?_
    refine a_iadd hX dX5_write_28 rfl ?_
    refine pX5_4 hX F_X5_21 dX5_write_29 rfl hf (fun u2 hf => ?_)
    refine a_iconst (v := 1) hX dX5_write_32 (by decide) rfl ?_
    exact a_zret hX hT (by decide) hF (r_iS (wf := (wC V q ts)) hf) dX5_write_33
  · refine a_iconst (v := 0) hX dX5_write_10 (by decide) rfl ?_
    exact a_zret hX hT (by decide) hF (r_iS (wf := (wC V q ts)) hf) dX5_write_11
theorem ctX5_write {V : Vx} {q : Nat → Nat} {u : St} {g : Nat → Nat} {ts : List Tx} {res : Int32 × St} (hE : EnvC V g) {v1 : Int32} (hf : fX5_write u v1 = some res) : Ct V yX5_write (.code yX5_write cX5_write 2 (some .boolean)) rmX5_write 0 0 [.ref (q 5), .int v1] (wC V q ts u) (rEq (some (.int res.1)) (wC V q ts res.2)) :=
  Ct_of (by decide) (Nat.le_of_ble_eq_true rfl) rfl (fun X hX hT _ hF => wX5_write ⟨hX, hT, hF⟩ hE hf)
def rmGC (n : Nat) : Room := { frames := n + 12, cells := 0, slots := 0, locals := 60 * n + 400 }
theorem rmGC_s (n : Nat) {m : Nat} (h : m ≤ 40) : RmOK (rmGC n) m 0 0 (rmGC (n + 1)) := ⟨rfl, rfl, by simp only [rmGC]; omega, by simp only [rmGC]; omega⟩
def GCok (V : Vx) (q : Nat → Nat) (ts : List Tx) (n : Nat) (R : Nat → St → Int32 → Option (Int32 × St)) : Prop := (∀ (a0 : Int32) (u : St) (res : Int32 × St), R 0 u a0 = some res → Ct V yX5_readOr (.code yX5_readOr cX5_readOr 3 (some .boolean)) (rmGC n) 0 0 [.ref (q 5), .int a0] (wC V q ts u) (rEq (some (.int res.1)) (wC V q ts res.2))) ∧ (∀ (a0 : Int32) (u : St) (res : Int32 × St), R 1 u a0 = some res → Ct V yX5_readAnd (.code yX5_readAnd cX5_readAnd 3 (some .boolean)) (rmGC n) 0 0 [.ref (q 5), .int a0] (wC V q ts u) (rEq (some (.int res.1)) (wC V q ts res.2))) ∧ (∀ (a0 : Int32) (u : St) (res : Int32 × St), R 2 u a0 = some res → Ct V yX5_readNot (.code yX5_readNot cX5_readNot 3 (some .boolean)) (rmGC n) 0 0 [.ref (q 5), .int a0] (wC V q ts u) (rEq (some (.int res.1)) (wC V q ts res.2))) ∧ (∀ (a0 : Int32) (u : St) (res : Int32 × St), R 3 u a0 = some res → Ct V yX5_readSum (.code yX5_readSum cX5_readSum 4 (some .boolean)) (rmGC n) 0 0 [.ref (q 5), .int a0] (wC V q ts u) (rEq (some (.int res.1)) (wC V q ts res.2))) ∧ (∀ (a0 : Int32) (u : St) (res : Int32 × St), R 4 u a0 = some res → Ct V yX5_readTerm (.code yX5_readTerm cX5_readTerm 3 (some .boolean)) (rmGC n) 0 0 [.ref (q 5), .int a0] (wC V q ts u) (rEq (some (.int res.1)) (wC V q ts res.2))) ∧ (∀ (a0 : Int32) (u : St) (res : Int32 × St), R 5 u a0 = some res → Ct V yX5_readOne (.code yX5_readOne cX5_readOne 3 (some .boolean)) (rmGC n) 0 0 [.ref (q 5), .int a0] (wC V q ts u) (rEq (some (.int res.1)) (wC V q ts res.2)))
def fX5_readOr_l12b (R : Nat → St → Int32 → Option (Int32 × St)) (k12 : St → Int32 → Option (Int32 × St)) (u : St) (v1 : Int32) (v2 : Int32) : Option (Int32 × St) := if 160 ≤ v2 then some (1, u) else (if gZ u 105 = (-9) then cl1 (fX5_advance u) (fun u4 => cl2 (R 1 u4 v1) (fun x5 u6 => if x5 = 0 then some (0, u6) else (cl2 (fX5_write u6 (-9)) (fun x7 u8 => k12 u8 (v2 + 1))))) else (some (1, u)))
theorem wX5_readOr_l12b {R : Nat → St → Int32 → Option (Int32 × St)} {nn : Nat} {X : Cx} {V : Vx} {q : Nat → Nat} {g : Nat → Nat} {ts : List Tx} {res : Int32 × St} (h : Run X cX5_readOr 3 RX5 (rmGC (nn + 1)) V (some .boolean) (rEq (some (.int res.1)) (wC V q ts res.2))) (hE : EnvC V g) (hR : GCok V q ts nn R) {u : St} {v1 : Int32} {v2 : Int32} {k12 : St → Int32 → Option (Int32 × St)} (hk12 : ∀ (u : St) (v2 : Int32), k12 u v2 = some res → At X 3 0 0 (wC V q ts u) 12 [(0, .ref (q 5)), (1, .int v1), (2, .int v2)] []) (hf : fX5_readOr_l12b R k12 u v1 v2 = some res) : At X 3 0 0 (wC V q ts u) 12 [(0, .ref (q 5)), (1, .int v1), (2, .int v2)] [] := by
  obtain ⟨hX, hT, hF⟩ := id h
  unfold fX5_readOr_l12b at hf
  refine a_iload_n hX dX5_readOr_12 rfl 2 rfl rfl ?_
  refine a_sipush (v := 160) hX dX5_readOr_13 (by decide) rfl ?_
  refine a_icmp_ge (tgt := 55) hX dX5_readOr_16 rfl rfl hf (fun hf => ?_) (fun hf => ?_)
  · refine a_iconst (v := 1) hX dX5_readOr_55 (by decide) rfl ?_
    exact a_zret hX hT (by decide) hF (r_iS (wf := (wC V q ts)) hf) dX5_readOr_56
  · refine a_aload_n hX dX5_readOr_19 rfl 0 rfl rfl ?_
    refine gX5_5 hX F_X5_46 dX5_readOr_20 rfl ?_
    refine a_bipush (v := (-9)) hX dX5_readOr_23 (by decide) rfl ?_
    refine a_icmp_ne (tgt := 55) hX dX5_readOr_25 rfl rfl hf (fun hf => ?_) (fun hf => ?_)
    · refine a_iconst (v := 1) hX dX5_readOr_55 (by decide) rfl ?_
      exact a_zret hX hT (by decide) hF (r_iS (wf := (wC V q ts)) hf) dX5_readOr_56
    · refine a_aload_n hX dX5_readOr_28 rfl 0 rfl rfl ?_
      obtain ⟨u4, hg3, hf⟩ := cl1_some hf
      refine a_cVsv (q0 := 4) (rest := []) hX hE.1 (ctX5_advance (q := q) hE hg3) K_X5_36 ⟨rfl, rfl⟩ ⟨rfl, rfl, by simp only [rmGC, rmX5_advance]; omega, by simp only [rmGC, rmX5_advance]; omega⟩ ⟨Nat.zero_le _, Nat.zero_le _⟩ (Nat.le_of_ble_eq_true rfl) dX5_readOr_29 rfl rfl ?_
      refine a_aload_n hX dX5_readOr_32 rfl 0 rfl rfl ?_
      refine a_iload_n hX dX5_readOr_33 rfl 1 rfl rfl ?_
      obtain ⟨x5, u6, hg5, hf⟩ := cl2_some hf
      refine a_cVsi (q0 := 4) (rest := []) hX hE.1 (hR.2.1 _ _ _ hg5) K_X5_55 ⟨rfl, rfl⟩ (rmGC_s nn (by decide)) ⟨Nat.zero_le _, Nat.zero_le _⟩ (Nat.le_of_ble_eq_true rfl) dX5_readOr_34 rfl rfl ?_
      refine a_if_ne (tgt := 42) hX dX5_readOr_37 rfl rfl hf (fun hf => ?_) (fun hf => ?_)
      · refine a_aload_n hX dX5_readOr_42 rfl 0 rfl rfl ?_
        refine a_bipush (v := (-9)) hX dX5_readOr_43 (by decide) rfl ?_
        obtain ⟨x7, u8, hg7, hf⟩ := cl2_some hf
        refine a_cVsi (q0 := 4) (rest := []) hX hE.1 (ctX5_write (q := q) hE hg7) K_X5_58 ⟨rfl, rfl⟩ ⟨rfl, rfl, by simp only [rmGC, rmX5_write]; omega, by simp only [rmGC, rmX5_write]; omega⟩ ⟨Nat.zero_le _, Nat.zero_le _⟩ (Nat.le_of_ble_eq_true rfl) dX5_readOr_45 rfl rfl ?_
        refine a_pop hX dX5_readOr_48 rfl rfl ?_
        refine a_iinc (v := v2 + 1) (lv' := [(2, .int (v2 + 1)), (0, .ref (q 5)), (1, .int v1)]) hX dX5_readOr_49 2 rfl rfl (by decide) rfl rfl ?_
        refine a_goto (pc' := 12) hX dX5_readOr_52 rfl ?_
        refine a_lv (lv' := [(0, .ref (q 5)), (1, .int v1), (2, .int (v2 + 1))]) [1, 2, 0] rfl ?_
        exact hk12 u8 (v2 + 1) hf
      · refine a_iconst (v := 0) hX dX5_readOr_40 (by decide) rfl ?_
        exact a_zret hX hT (by decide) hF (r_iS (wf := (wC V q ts)) hf) dX5_readOr_41
def fX5_readOr_l12 (R : Nat → St → Int32 → Option (Int32 × St))  (v1 : Int32) : Nat → St → Int32 → Option (Int32 × St)
  | 0, _, _ => none
  | m + 1, u, v2 => fX5_readOr_l12b R (fX5_readOr_l12 R  v1 m) u v1 v2
theorem wX5_readOr_l12 {R : Nat → St → Int32 → Option (Int32 × St)} {nn : Nat} {X : Cx} {V : Vx} {q : Nat → Nat} {g : Nat → Nat} {ts : List Tx} {res : Int32 × St} (h : Run X cX5_readOr 3 RX5 (rmGC (nn + 1)) V (some .boolean) (rEq (some (.int res.1)) (wC V q ts res.2))) (hE : EnvC V g) (hR : GCok V q ts nn R) {v1 : Int32} : ∀ (m : Nat) (u : St) (v2 : Int32), fX5_readOr_l12 R  v1 m u v2 = some res → At X 3 0 0 (wC V q ts u) 12 [(0, .ref (q 5)), (1, .int v1), (2, .int v2)] [] := by
  intro m
  induction m with
  | zero => intro u v2 hf; cases hf
  | succ m ih => intro u v2 hf; exact wX5_readOr_l12b h hE hR ih hf
def fX5_readOr (R : Nat → St → Int32 → Option (Int32 × St)) (u : St) (v1 : Int32) : Option (Int32 × St) := cl2 (R 1 u v1) (fun x1 u2 => if x1 = 0 then some (0, u2) else (fX5_readOr_l12 R v1 NF u2 0))
theorem wX5_readOr {R : Nat → St → Int32 → Option (Int32 × St)} {nn : Nat} {X : Cx} {V : Vx} {q : Nat → Nat} {g : Nat → Nat} {ts : List Tx} {res : Int32 × St} (h : Run X cX5_readOr 3 RX5 (rmGC (nn + 1)) V (some .boolean) (rEq (some (.int res.1)) (wC V q ts res.2))) (hE : EnvC V g) (hR : GCok V q ts nn R) {u : St} {v1 : Int32} (hf : fX5_readOr R u v1 = some res) : At X 3 0 0 (wC V q ts u) 0 [(0, .ref (q 5)), (1, .int v1)] [] := by
  obtain ⟨hX, hT, hF⟩ := id h
  unfold fX5_readOr at hf
  refine a_aload_n hX dX5_readOr_0 rfl 0 rfl rfl ?_
  refine a_iload_n hX dX5_readOr_1 rfl 1 rfl rfl ?_
  obtain ⟨x1, u2, hg1, hf⟩ := cl2_some hf
  refine a_cVsi (q0 := 4) (rest := []) hX hE.1 (hR.2.1 _ _ _ hg1) K_X5_55 ⟨rfl, rfl⟩ (rmGC_s nn (by decide)) ⟨Nat.zero_le _, Nat.zero_le _⟩ (Nat.le_of_ble_eq_true rfl) dX5_readOr_2 rfl rfl ?_
  refine a_if_ne (tgt := 10) hX dX5_readOr_5 rfl rfl hf (fun hf => ?_) (fun hf => ?_)
  · refine a_iconst (v := 0) hX dX5_readOr_10 (by decide) rfl ?_
    refine a_istore_n (lv' := [(2, .int 0), (0, .ref (q 5)), (1, .int v1)]) hX dX5_readOr_11 rfl (by decide) rfl rfl ?_
    refine a_lv (lv' := [(0, .ref (q 5)), (1, .int v1), (2, .int 0)]) [1, 2, 0] rfl ?_
    exact wX5_readOr_l12 h hE hR NF u2 0 hf
  · refine a_iconst (v := 0) hX dX5_readOr_8 (by decide) rfl ?_
    exact a_zret hX hT (by decide) hF (r_iS (wf := (wC V q ts)) hf) dX5_readOr_9
def fX5_readAnd_l12b (R : Nat → St → Int32 → Option (Int32 × St)) (k12 : St → Int32 → Option (Int32 × St)) (u : St) (v1 : Int32) (v2 : Int32) : Option (Int32 × St) := if 160 ≤ v2 then some (1, u) else (if gZ u 105 = (-10) then cl1 (fX5_advance u) (fun u4 => cl2 (R 2 u4 v1) (fun x5 u6 => if x5 = 0 then some (0, u6) else (cl2 (fX5_write u6 (-10)) (fun x7 u8 => k12 u8 (v2 + 1))))) else (some (1, u)))
theorem wX5_readAnd_l12b {R : Nat → St → Int32 → Option (Int32 × St)} {nn : Nat} {X : Cx} {V : Vx} {q : Nat → Nat} {g : Nat → Nat} {ts : List Tx} {res : Int32 × St} (h : Run X cX5_readAnd 3 RX5 (rmGC (nn + 1)) V (some .boolean) (rEq (some (.int res.1)) (wC V q ts res.2))) (hE : EnvC V g) (hR : GCok V q ts nn R) {u : St} {v1 : Int32} {v2 : Int32} {k12 : St → Int32 → Option (Int32 × St)} (hk12 : ∀ (u : St) (v2 : Int32), k12 u v2 = some res → At X 3 0 0 (wC V q ts u) 12 [(0, .ref (q 5)), (1, .int v1), (2, .int v2)] []) (hf : fX5_readAnd_l12b R k12 u v1 v2 = some res) : At X 3 0 0 (wC V q ts u) 12 [(0, .ref (q 5)), (1, .int v1), (2, .int v2)] [] := by
  obtain ⟨hX, hT, hF⟩ := id h
  unfold fX5_readAnd_l12b at hf
  refine a_iload_n hX dX5_readAnd_12 rfl 2 rfl rfl ?_
  refine a_sipush (v := 160) hX dX5_readAnd_13 (by decide) rfl ?_
  refine a_icmp_ge (tgt := 55) hX dX5_readAnd_16 rfl rfl hf (fun hf => ?_) (fun hf => ?_)
  · refine a_iconst (v := 1) hX dX5_readAnd_55 (by decide) rfl ?_
    exact a_zret hX hT (by decide) hF (r_iS (wf := (wC V q ts)) hf) dX5_readAnd_56
  · refine a_aload_n hX dX5_readAnd_19 rfl 0 rfl rfl ?_
    refine gX5_5 hX F_X5_46 dX5_readAnd_20 rfl ?_
    refine a_bipush (v := (-10)) hX dX5_readAnd_23 (by decide) rfl ?_
    refine a_icmp_ne (tgt := 55) hX dX5_readAnd_25 rfl rfl hf (fun hf => ?_) (fun hf => ?_)
    · refine a_iconst (v := 1) hX dX5_readAnd_55 (by decide) rfl ?_
      exact a_zret hX hT (by decide) hF (r_iS (wf := (wC V q ts)) hf) dX5_readAnd_56
    · refine a_aload_n hX dX5_readAnd_28 rfl 0 rfl rfl ?_
      obtain ⟨u4, hg3, hf⟩ := cl1_some hf
      refine a_cVsv (q0 := 4) (rest := []) hX hE.1 (ctX5_advance (q := q) hE hg3) K_X5_36 ⟨rfl, rfl⟩ ⟨rfl, rfl, by simp only [rmGC, rmX5_advance]; omega, by simp only [rmGC, rmX5_advance]; omega⟩ ⟨Nat.zero_le _, Nat.zero_le _⟩ (Nat.le_of_ble_eq_true rfl) dX5_readAnd_29 rfl rfl ?_
      refine a_aload_n hX dX5_readAnd_32 rfl 0 rfl rfl ?_
      refine a_iload_n hX dX5_readAnd_33 rfl 1 rfl rfl ?_
      obtain ⟨x5, u6, hg5, hf⟩ := cl2_some hf
      refine a_cVsi (q0 := 4) (rest := []) hX hE.1 (hR.2.2.1 _ _ _ hg5) K_X5_61 ⟨rfl, rfl⟩ (rmGC_s nn (by decide)) ⟨Nat.zero_le _, Nat.zero_le _⟩ (Nat.le_of_ble_eq_true rfl) dX5_readAnd_34 rfl rfl ?_
      refine a_if_ne (tgt := 42) hX dX5_readAnd_37 rfl rfl hf (fun hf => ?_) (fun hf => ?_)
      · refine a_aload_n hX dX5_readAnd_42 rfl 0 rfl rfl ?_
        refine a_bipush (v := (-10)) hX dX5_readAnd_43 (by decide) rfl ?_
        obtain ⟨x7, u8, hg7, hf⟩ := cl2_some hf
        refine a_cVsi (q0 := 4) (rest := []) hX hE.1 (ctX5_write (q := q) hE hg7) K_X5_58 ⟨rfl, rfl⟩ ⟨rfl, rfl, by simp only [rmGC, rmX5_write]; omega, by simp only [rmGC, rmX5_write]; omega⟩ ⟨Nat.zero_le _, Nat.zero_le _⟩ (Nat.le_of_ble_eq_true rfl) dX5_readAnd_45 rfl rfl ?_
        refine a_pop hX dX5_readAnd_48 rfl rfl ?_
        refine a_iinc (v := v2 + 1) (lv' := [(2, .int (v2 + 1)), (0, .ref (q 5)), (1, .int v1)]) hX dX5_readAnd_49 2 rfl rfl (by decide) rfl rfl ?_
        refine a_goto (pc' := 12) hX dX5_readAnd_52 rfl ?_
        refine a_lv (lv' := [(0, .ref (q 5)), (1, .int v1), (2, .int (v2 + 1))]) [1, 2, 0] rfl ?_
        exact hk12 u8 (v2 + 1) hf
      · refine a_iconst (v := 0) hX dX5_readAnd_40 (by decide) rfl ?_
        exact a_zret hX hT (by decide) hF (r_iS (wf := (wC V q ts)) hf) dX5_readAnd_41
def fX5_readAnd_l12 (R : Nat → St → Int32 → Option (Int32 × St))  (v1 : Int32) : Nat → St → Int32 → Option (Int32 × St)
  | 0, _, _ => none
  | m + 1, u, v2 => fX5_readAnd_l12b R (fX5_readAnd_l12 R  v1 m) u v1 v2
theorem wX5_readAnd_l12 {R : Nat → St → Int32 → Option (Int32 × St)} {nn : Nat} {X : Cx} {V : Vx} {q : Nat → Nat} {g : Nat → Nat} {ts : List Tx} {res : Int32 × St} (h : Run X cX5_readAnd 3 RX5 (rmGC (nn + 1)) V (some .boolean) (rEq (some (.int res.1)) (wC V q ts res.2))) (hE : EnvC V g) (hR : GCok V q ts nn R) {v1 : Int32} : ∀ (m : Nat) (u : St) (v2 : Int32), fX5_readAnd_l12 R  v1 m u v2 = some res → At X 3 0 0 (wC V q ts u) 12 [(0, .ref (q 5)), (1, .int v1), (2, .int v2)] [] := by
  intro m
  induction m with
  | zero => intro u v2 hf; cases hf
  | succ m ih => intro u v2 hf; exact wX5_readAnd_l12b h hE hR ih hf
def fX5_readAnd (R : Nat → St → Int32 → Option (Int32 × St)) (u : St) (v1 : Int32) : Option (Int32 × St) := cl2 (R 2 u v1) (fun x1 u2 => if x1 = 0 then some (0, u2) else (fX5_readAnd_l12 R v1 NF u2 0))
theorem wX5_readAnd {R : Nat → St → Int32 → Option (Int32 × St)} {nn : Nat} {X : Cx} {V : Vx} {q : Nat → Nat} {g : Nat → Nat} {ts : List Tx} {res : Int32 × St} (h : Run X cX5_readAnd 3 RX5 (rmGC (nn + 1)) V (some .boolean) (rEq (some (.int res.1)) (wC V q ts res.2))) (hE : EnvC V g) (hR : GCok V q ts nn R) {u : St} {v1 : Int32} (hf : fX5_readAnd R u v1 = some res) : At X 3 0 0 (wC V q ts u) 0 [(0, .ref (q 5)), (1, .int v1)] [] := by
  obtain ⟨hX, hT, hF⟩ := id h
  unfold fX5_readAnd at hf
  refine a_aload_n hX dX5_readAnd_0 rfl 0 rfl rfl ?_
  refine a_iload_n hX dX5_readAnd_1 rfl 1 rfl rfl ?_
  obtain ⟨x1, u2, hg1, hf⟩ := cl2_some hf
  refine a_cVsi (q0 := 4) (rest := []) hX hE.1 (hR.2.2.1 _ _ _ hg1) K_X5_61 ⟨rfl, rfl⟩ (rmGC_s nn (by decide)) ⟨Nat.zero_le _, Nat.zero_le _⟩ (Nat.le_of_ble_eq_true rfl) dX5_readAnd_2 rfl rfl ?_
  refine a_if_ne (tgt := 10) hX dX5_readAnd_5 rfl rfl hf (fun hf => ?_) (fun hf => ?_)
  · refine a_iconst (v := 0) hX dX5_readAnd_10 (by decide) rfl ?_
    refine a_istore_n (lv' := [(2, .int 0), (0, .ref (q 5)), (1, .int v1)]) hX dX5_readAnd_11 rfl (by decide) rfl rfl ?_
    refine a_lv (lv' := [(0, .ref (q 5)), (1, .int v1), (2, .int 0)]) [1, 2, 0] rfl ?_
    exact wX5_readAnd_l12 h hE hR NF u2 0 hf
  · refine a_iconst (v := 0) hX dX5_readAnd_8 (by decide) rfl ?_
    exact a_zret hX hT (by decide) hF (r_iS (wf := (wC V q ts)) hf) dX5_readAnd_9
def fX5_readNot_b91 (R : Nat → St → Int32 → Option (Int32 × St))  (u : St) (v1 : Int32) (s0 : Int32) : Option (Int32 × St) := cl1 (fX5_advance u) (fun u10 => cl2 (R 3 u10 v1) (fun x11 u12 => if x11 = 0 then some (0, u12) else (cl2 (fX5_write u12 s0) (fun x13 u14 => if x13 = 0 then some (0, u14) else (some (1, u14))))))
theorem wX5_readNot_b91 {R : Nat → St → Int32 → Option (Int32 × St)} {nn : Nat} {X : Cx} {V : Vx} {q : Nat → Nat} {g : Nat → Nat} {ts : List Tx} {res : Int32 × St} (h : Run X cX5_readNot 3 RX5 (rmGC (nn + 1)) V (some .boolean) (rEq (some (.int res.1)) (wC V q ts res.2))) (hE : EnvC V g) (hR : GCok V q ts nn R) {u : St} {v1 : Int32} {s0 : Int32} (hf : fX5_readNot_b91 R  u v1 s0 = some res) : At X 3 0 0 (wC V q ts u) 91 [(0, .ref (q 5)), (1, .int v1)] [.int s0] := by
  obtain ⟨hX, hT, hF⟩ := id h
  unfold fX5_readNot_b91 at hf
  refine a_istore_n (lv' := [(2, .int s0), (0, .ref (q 5)), (1, .int v1)]) hX dX5_readNot_91 rfl (by decide) rfl rfl ?_
  refine a_aload_n hX dX5_readNot_92 rfl 1 rfl rfl ?_
  obtain ⟨u10, hg9, hf⟩ := cl1_some hf
  refine a_cVsv (q0 := 4) (rest := []) hX hE.1 (ctX5_advance (q := q) hE hg9) K_X5_36 ⟨rfl, rfl⟩ ⟨rfl, rfl, by simp only [rmGC, rmX5_advance]; omega, by simp only [rmGC, rmX5_advance]; omega⟩ ⟨Nat.zero_le _, Nat.zero_le _⟩ (Nat.le_of_ble_eq_true rfl) dX5_readNot_93 rfl rfl ?_
  refine a_aload_n hX dX5_readNot_96 rfl 1 rfl rfl ?_
  refine a_iload_n hX dX5_readNot_97 rfl 2 rfl rfl ?_
  obtain ⟨x11, u12, hg11, hf⟩ := cl2_some hf
  refine a_cVsi (q0 := 4) (rest := []) hX hE.1 (hR.2.2.2.1 _ _ _ hg11) K_X5_64 ⟨rfl, rfl⟩ (rmGC_s nn (by decide)) ⟨Nat.zero_le _, Nat.zero_le _⟩ (Nat.le_of_ble_eq_true rfl) dX5_readNot_98 rfl rfl ?_
  refine a_if_eq (tgt := 116) hX dX5_readNot_101 rfl rfl hf (fun hf => ?_) (fun hf => ?_)
  · refine a_iconst (v := 0) hX dX5_readNot_116 (by decide) rfl ?_
    exact a_zret hX hT (by decide) hF (r_iS (wf := (wC V q ts)) hf) dX5_readNot_117
  · refine a_aload_n hX dX5_readNot_104 rfl 1 rfl rfl ?_
    refine a_iload_n hX dX5_readNot_105 rfl 0 rfl rfl ?_
    obtain ⟨x13, u14, hg13, hf⟩ := cl2_some hf
    refine a_cVsi (q0 := 4) (rest := []) hX hE.1 (ctX5_write (q := q) hE hg13) K_X5_58 ⟨rfl, rfl⟩ ⟨rfl, rfl, by simp only [rmGC, rmX5_write]; omega, by simp only [rmGC, rmX5_write]; omega⟩ ⟨Nat.zero_le _, Nat.zero_le _⟩ (Nat.le_of_ble_eq_true rfl) dX5_readNot_106 rfl rfl ?_
    refine a_if_eq (tgt := 116) hX dX5_readNot_109 rfl rfl hf (fun hf => ?_) (fun hf => ?_)
    · refine a_iconst (v := 0) hX dX5_readNot_116 (by decide) rfl ?_
      exact a_zret hX hT (by decide) hF (r_iS (wf := (wC V q ts)) hf) dX5_readNot_117
    · refine a_iconst (v := 1) hX dX5_readNot_112 (by decide) rfl ?_
      refine a_goto (pc' := 117) hX dX5_readNot_113 rfl ?_
      exact a_zret hX hT (by decide) hF (r_iS (wf := (wC V q ts)) hf) dX5_readNot_117
def fX5_readNot_b75 (R : Nat → St → Int32 → Option (Int32 × St))  (u : St) (v1 : Int32) : Option (Int32 × St) := if gZ u 105 = 60 then fX5_readNot_b91 R u v1 (-11) else (fX5_readNot_b91 R u v1 (-12))
theorem wX5_readNot_b75 {R : Nat → St → Int32 → Option (Int32 × St)} {nn : Nat} {X : Cx} {V : Vx} {q : Nat → Nat} {g : Nat → Nat} {ts : List Tx} {res : Int32 × St} (h : Run X cX5_readNot 3 RX5 (rmGC (nn + 1)) V (some .boolean) (rEq (some (.int res.1)) (wC V q ts res.2))) (hE : EnvC V g) (hR : GCok V q ts nn R) {u : St} {v1 : Int32} (hf : fX5_readNot_b75 R  u v1 = some res) : At X 3 0 0 (wC V q ts u) 75 [(0, .ref (q 5)), (1, .int v1)] [] := by
  obtain ⟨hX, hT, hF⟩ := id h
  unfold fX5_readNot_b75 at hf
  refine a_aload_n hX dX5_readNot_75 rfl 0 rfl rfl ?_
  refine gX5_5 hX F_X5_46 dX5_readNot_76 rfl ?_
  refine a_bipush (v := 60) hX dX5_readNot_79 (by decide) rfl ?_
  refine a_icmp_ne (tgt := 89) hX dX5_readNot_81 rfl rfl hf (fun hf => ?_) (fun hf => ?_)
  · refine a_bipush (v := (-12)) hX dX5_readNot_89 (by decide) rfl ?_
    exact wX5_readNot_b91 h hE hR hf
  · refine a_bipush (v := (-11)) hX dX5_readNot_84 (by decide) rfl ?_
    refine a_goto (pc' := 91) hX dX5_readNot_86 rfl ?_
    exact wX5_readNot_b91 h hE hR hf
def fX5_readNot (R : Nat → St → Int32 → Option (Int32 × St)) (u : St) (v1 : Int32) : Option (Int32 × St) := if gZ u 105 = (-8) then if v1 < 5 then cl1 (fX5_advance u) (fun u4 => cl2 (R 2 u4 (v1 + 1)) (fun x5 u6 => if x5 = 0 then some (0, u6) else (cl2 (fX5_write u6 (-8)) (fun x7 u8 => if x7 = 0 then some (0, u8) else (some (1, u8)))))) else (some (0, u)) else (cl2 (R 3 u v1) (fun x1 u2 => if x1 = 0 then some (0, u2) else (if gZ u2 105 = 60 then fX5_readNot_b75 R u2 v1 else (if gZ u2 105 = 61 then fX5_readNot_b75 R u2 v1 else (some (1, u2))))))
theorem wX5_readNot {R : Nat → St → Int32 → Option (Int32 × St)} {nn : Nat} {X : Cx} {V : Vx} {q : Nat → Nat} {g : Nat → Nat} {ts : List Tx} {res : Int32 × St} (h : Run X cX5_readNot 3 RX5 (rmGC (nn + 1)) V (some .boolean) (rEq (some (.int res.1)) (wC V q ts res.2))) (hE : EnvC V g) (hR : GCok V q ts nn R) {u : St} {v1 : Int32} (hf : fX5_readNot R u v1 = some res) : At X 3 0 0 (wC V q ts u) 0 [(0, .ref (q 5)), (1, .int v1)] [] := by
  obtain ⟨hX, hT, hF⟩ := id h
  unfold fX5_readNot at hf
  refine a_aload_n hX dX5_readNot_0 rfl 0 rfl rfl ?_
  refine gX5_5 hX F_X5_46 dX5_readNot_1 rfl ?_
  refine a_bipush (v := (-8)) hX dX5_readNot_4 (by decide) rfl ?_
  refine a_icmp_ne (tgt := 45) hX dX5_readNot_6 rfl rfl hf (fun hf => ?_) (fun hf => ?_)
  · refine a_aload_n hX dX5_readNot_45 rfl 0 rfl rfl ?_
    refine a_iload_n hX dX5_readNot_46 rfl 1 rfl rfl ?_
    obtain ⟨x1, u2, hg1, hf⟩ := cl2_some hf
    refine a_cVsi (q0 := 4) (rest := []) hX hE.1 (hR.2.2.2.1 _ _ _ hg1) K_X5_64 ⟨rfl, rfl⟩ (rmGC_s nn (by decide)) ⟨Nat.zero_le _, Nat.zero_le _⟩ (Nat.le_of_ble_eq_true rfl) dX5_readNot_47 rfl rfl ?_
    refine a_if_ne (tgt := 55) hX dX5_readNot_50 rfl rfl hf (fun hf => ?_) (fun hf => ?_)
    · refine a_aload_n hX dX5_readNot_55 rfl 0 rfl rfl ?_
      refine gX5_5 hX F_X5_46 dX5_readNot_56 rfl ?_
      refine a_bipush (v := 60) hX dX5_readNot_59 (by decide) rfl ?_
      refine a_icmp_eq (tgt := 75) hX dX5_readNot_61 rfl rfl hf (fun hf => ?_) (fun hf => ?_)
      · exact wX5_readNot_b75 h hE hR hf
      · refine a_aload_n hX dX5_readNot_64 rfl 0 rfl rfl ?_
        refine gX5_5 hX F_X5_46 dX5_readNot_65 rfl ?_
        refine a_bipush (v := 61) hX dX5_readNot_68 (by decide) rfl ?_
        refine a_icmp_eq (tgt := 75) hX dX5_readNot_70 rfl rfl hf (fun hf => ?_) (fun hf => ?_)
        · exact wX5_readNot_b75 h hE hR hf
        · refine a_iconst (v := 1) hX dX5_readNot_73 (by decide) rfl ?_
          exact a_zret hX hT (by decide) hF (r_iS (wf := (wC V q ts)) hf) dX5_readNot_74
    · refine a_iconst (v := 0) hX dX5_readNot_53 (by decide) rfl ?_
      exact a_zret hX hT (by decide) hF (r_iS (wf := (wC V q ts)) hf) dX5_readNot_54
  · refine a_iload_n hX dX5_readNot_9 rfl 1 rfl rfl ?_
    refine a_iconst (v := 5) hX dX5_readNot_10 (by decide) rfl ?_
    refine a_icmp_lt (tgt := 16) hX dX5_readNot_11 rfl rfl hf (fun hf => ?_) (fun hf => ?_)
    · refine a_aload_n hX dX5_readNot_16 rfl 0 rfl rfl ?_
      obtain ⟨u4, hg3, hf⟩ := cl1_some hf
      refine a_cVsv (q0 := 4) (rest := []) hX hE.1 (ctX5_advance (q := q) hE hg3) K_X5_36 ⟨rfl, rfl⟩ ⟨rfl, rfl, by simp only [rmGC, rmX5_advance]; omega, by simp only [rmGC, rmX5_advance]; omega⟩ ⟨Nat.zero_le _, Nat.zero_le _⟩ (Nat.le_of_ble_eq_true rfl) dX5_readNot_17 rfl rfl ?_
      refine a_aload_n hX dX5_readNot_20 rfl 0 rfl rfl ?_
      refine a_iload_n hX dX5_readNot_21 rfl 1 rfl rfl ?_
      refine a_iconst (v := 1) hX dX5_readNot_22 (by decide) rfl ?_
      refine a_iadd hX dX5_readNot_23 rfl ?_
      obtain ⟨x5, u6, hg5, hf⟩ := cl2_some hf
      refine a_cVsi (q0 := 4) (rest := []) hX hE.1 (hR.2.2.1 _ _ _ hg5) K_X5_61 ⟨rfl, rfl⟩ (rmGC_s nn (by decide)) ⟨Nat.zero_le _, Nat.zero_le _⟩ (Nat.le_of_ble_eq_true rfl) dX5_readNot_24 rfl rfl ?_
      refine a_if_eq (tgt := 43) hX dX5_readNot_27 rfl rfl hf (fun hf => ?_) (fun hf => ?_)
      · refine a_iconst (v := 0) hX dX5_readNot_43 (by decide) rfl ?_
        exact a_zret hX hT (by decide) hF (r_iS (wf := (wC V q ts)) hf) dX5_readNot_44
      · refine a_aload_n hX dX5_readNot_30 rfl 0 rfl rfl ?_
        refine a_bipush (v := (-8)) hX dX5_readNot_31 (by decide) rfl ?_
        obtain ⟨x7, u8, hg7, hf⟩ := cl2_some hf
        refine a_cVsi (q0 := 4) (rest := []) hX hE.1 (ctX5_write (q := q) hE hg7) K_X5_58 ⟨rfl, rfl⟩ ⟨rfl, rfl, by simp only [rmGC, rmX5_write]; omega, by simp only [rmGC, rmX5_write]; omega⟩ ⟨Nat.zero_le _, Nat.zero_le _⟩ (Nat.le_of_ble_eq_true rfl) dX5_readNot_33 rfl rfl ?_
        refine a_if_eq (tgt := 43) hX dX5_readNot_36 rfl rfl hf (fun hf => ?_) (fun hf => ?_)
        · refine a_iconst (v := 0) hX dX5_readNot_43 (by decide) rfl ?_
          exact a_zret hX hT (by decide) hF (r_iS (wf := (wC V q ts)) hf) dX5_readNot_44
        · refine a_iconst (v := 1) hX dX5_readNot_39 (by decide) rfl ?_
          refine a_goto (pc' := 44) hX dX5_readNot_40 rfl ?_
          exact a_zret hX hT (by decide) hF (r_iS (wf := (wC V q ts)) hf) dX5_readNot_44
    · refine a_iconst (v := 0) hX dX5_readNot_14 (by decide) rfl ?_
      exact a_zret hX hT (by decide) hF (r_iS (wf := (wC V q ts)) hf) dX5_readNot_15
def fX5_readSum_b53 (R : Nat → St → Int32 → Option (Int32 × St)) (k12 : St → Int32 → Option (Int32 × St)) (u : St) (v1 : Int32) (v2 : Int32) (s0 : Int32) : Option (Int32 × St) := cl1 (fX5_advance u) (fun u4 => cl2 (R 4 u4 v1) (fun x5 u6 => if x5 = 0 then some (0, u6) else (cl2 (fX5_write u6 s0) (fun x7 u8 => k12 u8 (v2 + 1)))))
theorem wX5_readSum_b53 {R : Nat → St → Int32 → Option (Int32 × St)} {nn : Nat} {X : Cx} {V : Vx} {q : Nat → Nat} {g : Nat → Nat} {ts : List Tx} {res : Int32 × St} (h : Run X cX5_readSum 4 RX5 (rmGC (nn + 1)) V (some .boolean) (rEq (some (.int res.1)) (wC V q ts res.2))) (hE : EnvC V g) (hR : GCok V q ts nn R) {u : St} {v1 : Int32} {v2 : Int32} {s0 : Int32} {k12 : St → Int32 → Option (Int32 × St)} (hk12 : ∀ (u : St) (v2 : Int32), k12 u v2 = some res → At X 4 0 0 (wC V q ts u) 12 [(0, .ref (q 5)), (1, .int v1), (2, .int v2)] []) (hf : fX5_readSum_b53 R k12 u v1 v2 s0 = some res) : At X 4 0 0 (wC V q ts u) 53 [(0, .ref (q 5)), (1, .int v1), (2, .int v2)] [.int s0] := by
  obtain ⟨hX, hT, hF⟩ := id h
  unfold fX5_readSum_b53 at hf
  refine a_istore_n (lv' := [(3, .int s0), (0, .ref (q 5)), (1, .int v1), (2, .int v2)]) hX dX5_readSum_53 rfl (by decide) rfl rfl ?_
  refine a_aload_n hX dX5_readSum_54 rfl 1 rfl rfl ?_
  obtain ⟨u4, hg3, hf⟩ := cl1_some hf
  refine a_cVsv (q0 := 4) (rest := []) hX hE.1 (ctX5_advance (q := q) hE hg3) K_X5_36 ⟨rfl, rfl⟩ ⟨rfl, rfl, by simp only [rmGC, rmX5_advance]; omega, by simp only [rmGC, rmX5_advance]; omega⟩ ⟨Nat.zero_le _, Nat.zero_le _⟩ (Nat.le_of_ble_eq_true rfl) dX5_readSum_55 rfl rfl ?_
  refine a_aload_n hX dX5_readSum_58 rfl 1 rfl rfl ?_
  refine a_iload_n hX dX5_readSum_59 rfl 2 rfl rfl ?_
  obtain ⟨x5, u6, hg5, hf⟩ := cl2_some hf
  refine a_cVsi (q0 := 4) (rest := []) hX hE.1 (hR.2.2.2.2.1 _ _ _ hg5) K_X5_67 ⟨rfl, rfl⟩ (rmGC_s nn (by decide)) ⟨Nat.zero_le _, Nat.zero_le _⟩ (Nat.le_of_ble_eq_true rfl) dX5_readSum_60 rfl rfl ?_
  refine a_if_ne (tgt := 68) hX dX5_readSum_63 rfl rfl hf (fun hf => ?_) (fun hf => ?_)
  · refine a_aload_n hX dX5_readSum_68 rfl 1 rfl rfl ?_
    refine a_iload_n hX dX5_readSum_69 rfl 0 rfl rfl ?_
    obtain ⟨x7, u8, hg7, hf⟩ := cl2_some hf
    refine a_cVsi (q0 := 4) (rest := []) hX hE.1 (ctX5_write (q := q) hE hg7) K_X5_58 ⟨rfl, rfl⟩ ⟨rfl, rfl, by simp only [rmGC, rmX5_write]; omega, by simp only [rmGC, rmX5_write]; omega⟩ ⟨Nat.zero_le _, Nat.zero_le _⟩ (Nat.le_of_ble_eq_true rfl) dX5_readSum_70 rfl rfl ?_
    refine a_pop hX dX5_readSum_73 rfl rfl ?_
    refine a_iinc (v := v2 + 1) (lv' := [(2, .int (v2 + 1)), (3, .int s0), (0, .ref (q 5)), (1, .int v1)]) hX dX5_readSum_74 3 rfl rfl (by decide) rfl rfl ?_
    refine a_goto (pc' := 12) hX dX5_readSum_77 rfl ?_
    refine a_lv (lv' := [(0, .ref (q 5)), (1, .int v1), (2, .int (v2 + 1))]) [2, 3, 0] rfl ?_
    exact hk12 u8 (v2 + 1) hf
  · refine a_iconst (v := 0) hX dX5_readSum_66 (by decide) rfl ?_
    exact a_zret hX hT (by decide) hF (r_iS (wf := (wC V q ts)) hf) dX5_readSum_67
def fX5_readSum_b37 (R : Nat → St → Int32 → Option (Int32 × St)) (k12 : St → Int32 → Option (Int32 × St)) (u : St) (v1 : Int32) (v2 : Int32) : Option (Int32 × St) := if gZ u 105 = 43 then fX5_readSum_b53 R k12 u v1 v2 (-13) else (fX5_readSum_b53 R k12 u v1 v2 (-14))
theorem wX5_readSum_b37 {R : Nat → St → Int32 → Option (Int32 × St)} {nn : Nat} {X : Cx} {V : Vx} {q : Nat → Nat} {g : Nat → Nat} {ts : List Tx} {res : Int32 × St} (h : Run X cX5_readSum 4 RX5 (rmGC (nn + 1)) V (some .boolean) (rEq (some (.int res.1)) (wC V q ts res.2))) (hE : EnvC V g) (hR : GCok V q ts nn R) {u : St} {v1 : Int32} {v2 : Int32} {k12 : St → Int32 → Option (Int32 × St)} (hk12 : ∀ (u : St) (v2 : Int32), k12 u v2 = some res → At X 4 0 0 (wC V q ts u) 12 [(0, .ref (q 5)), (1, .int v1), (2, .int v2)] []) (hf : fX5_readSum_b37 R k12 u v1 v2 = some res) : At X 4 0 0 (wC V q ts u) 37 [(0, .ref (q 5)), (1, .int v1), (2, .int v2)] [] := by
  obtain ⟨hX, hT, hF⟩ := id h
  unfold fX5_readSum_b37 at hf
  refine a_aload_n hX dX5_readSum_37 rfl 0 rfl rfl ?_
  refine gX5_5 hX F_X5_46 dX5_readSum_38 rfl ?_
  refine a_bipush (v := 43) hX dX5_readSum_41 (by decide) rfl ?_
  refine a_icmp_ne (tgt := 51) hX dX5_readSum_43 rfl rfl hf (fun hf => ?_) (fun hf => ?_)
  · refine a_bipush (v := (-14)) hX dX5_readSum_51 (by decide) rfl ?_
    exact wX5_readSum_b53 h hE hR hk12 hf
  · refine a_bipush (v := (-13)) hX dX5_readSum_46 (by decide) rfl ?_
    refine a_goto (pc' := 53) hX dX5_readSum_48 rfl ?_
    exact wX5_readSum_b53 h hE hR hk12 hf
def fX5_readSum_l12b (R : Nat → St → Int32 → Option (Int32 × St)) (k12 : St → Int32 → Option (Int32 × St)) (u : St) (v1 : Int32) (v2 : Int32) : Option (Int32 × St) := if 160 ≤ v2 then some (1, u) else (if gZ u 105 = 43 then fX5_readSum_b37 R k12 u v1 v2 else (if gZ u 105 = 45 then fX5_readSum_b37 R k12 u v1 v2 else (some (1, u))))
theorem wX5_readSum_l12b {R : Nat → St → Int32 → Option (Int32 × St)} {nn : Nat} {X : Cx} {V : Vx} {q : Nat → Nat} {g : Nat → Nat} {ts : List Tx} {res : Int32 × St} (h : Run X cX5_readSum 4 RX5 (rmGC (nn + 1)) V (some .boolean) (rEq (some (.int res.1)) (wC V q ts res.2))) (hE : EnvC V g) (hR : GCok V q ts nn R) {u : St} {v1 : Int32} {v2 : Int32} {k12 : St → Int32 → Option (Int32 × St)} (hk12 : ∀ (u : St) (v2 : Int32), k12 u v2 = some res → At X 4 0 0 (wC V q ts u) 12 [(0, .ref (q 5)), (1, .int v1), (2, .int v2)] []) (hf : fX5_readSum_l12b R k12 u v1 v2 = some res) : At X 4 0 0 (wC V q ts u) 12 [(0, .ref (q 5)), (1, .int v1), (2, .int v2)] [] := by
  obtain ⟨hX, hT, hF⟩ := id h
  unfold fX5_readSum_l12b at hf
  refine a_iload_n hX dX5_readSum_12 rfl 2 rfl rfl ?_
  refine a_sipush (v := 160) hX dX5_readSum_13 (by decide) rfl ?_
  refine a_icmp_ge (tgt := 80) hX dX5_readSum_16 rfl rfl hf (fun hf => ?_) (fun hf => ?_)
  · refine a_iconst (v := 1) hX dX5_readSum_80 (by decide) rfl ?_
    exact a_zret hX hT (by decide) hF (r_iS (wf := (wC V q ts)) hf) dX5_readSum_81
  · refine a_aload_n hX dX5_readSum_19 rfl 0 rfl rfl ?_
    refine gX5_5 hX F_X5_46 dX5_readSum_20 rfl ?_
    refine a_bipush (v := 43) hX dX5_readSum_23 (by decide) rfl ?_
    refine a_icmp_eq (tgt := 37) hX dX5_readSum_25 rfl rfl hf (fun hf => ?_) (fun hf => ?_)
    · exact wX5_readSum_b37 h hE hR hk12 hf
    · refine a_aload_n hX dX5_readSum_28 rfl 0 rfl rfl ?_
      refine gX5_5 hX F_X5_46 dX5_readSum_29 rfl ?_
      refine a_bipush (v := 45) hX dX5_readSum_32 (by decide) rfl ?_
      refine a_icmp_ne (tgt := 80) hX dX5_readSum_34 rfl rfl hf (fun hf => ?_) (fun hf => ?_)
      · refine a_iconst (v := 1) hX dX5_readSum_80 (by decide) rfl ?_
        exact a_zret hX hT (by decide) hF (r_iS (wf := (wC V q ts)) hf) dX5_readSum_81
      · exact wX5_readSum_b37 h hE hR hk12 hf
def fX5_readSum_l12 (R : Nat → St → Int32 → Option (Int32 × St))  (v1 : Int32) : Nat → St → Int32 → Option (Int32 × St)
  | 0, _, _ => none
  | m + 1, u, v2 => fX5_readSum_l12b R (fX5_readSum_l12 R  v1 m) u v1 v2
theorem wX5_readSum_l12 {R : Nat → St → Int32 → Option (Int32 × St)} {nn : Nat} {X : Cx} {V : Vx} {q : Nat → Nat} {g : Nat → Nat} {ts : List Tx} {res : Int32 × St} (h : Run X cX5_readSum 4 RX5 (rmGC (nn + 1)) V (some .boolean) (rEq (some (.int res.1)) (wC V q ts res.2))) (hE : EnvC V g) (hR : GCok V q ts nn R) {v1 : Int32} : ∀ (m : Nat) (u : St) (v2 : Int32), fX5_readSum_l12 R  v1 m u v2 = some res → At X 4 0 0 (wC V q ts u) 12 [(0, .ref (q 5)), (1, .int v1), (2, .int v2)] [] := by
  intro m
  induction m with
  | zero => intro u v2 hf; cases hf
  | succ m ih => intro u v2 hf; exact wX5_readSum_l12b h hE hR ih hf
def fX5_readSum (R : Nat → St → Int32 → Option (Int32 × St)) (u : St) (v1 : Int32) : Option (Int32 × St) := cl2 (R 4 u v1) (fun x1 u2 => if x1 = 0 then some (0, u2) else (fX5_readSum_l12 R v1 NF u2 0))
theorem wX5_readSum {R : Nat → St → Int32 → Option (Int32 × St)} {nn : Nat} {X : Cx} {V : Vx} {q : Nat → Nat} {g : Nat → Nat} {ts : List Tx} {res : Int32 × St} (h : Run X cX5_readSum 4 RX5 (rmGC (nn + 1)) V (some .boolean) (rEq (some (.int res.1)) (wC V q ts res.2))) (hE : EnvC V g) (hR : GCok V q ts nn R) {u : St} {v1 : Int32} (hf : fX5_readSum R u v1 = some res) : At X 4 0 0 (wC V q ts u) 0 [(0, .ref (q 5)), (1, .int v1)] [] := by
  obtain ⟨hX, hT, hF⟩ := id h
  unfold fX5_readSum at hf
  refine a_aload_n hX dX5_readSum_0 rfl 0 rfl rfl ?_
  refine a_iload_n hX dX5_readSum_1 rfl 1 rfl rfl ?_
  obtain ⟨x1, u2, hg1, hf⟩ := cl2_some hf
  refine a_cVsi (q0 := 4) (rest := []) hX hE.1 (hR.2.2.2.2.1 _ _ _ hg1) K_X5_67 ⟨rfl, rfl⟩ (rmGC_s nn (by decide)) ⟨Nat.zero_le _, Nat.zero_le _⟩ (Nat.le_of_ble_eq_true rfl) dX5_readSum_2 rfl rfl ?_
  refine a_if_ne (tgt := 10) hX dX5_readSum_5 rfl rfl hf (fun hf => ?_) (fun hf => ?_)
  · refine a_iconst (v := 0) hX dX5_readSum_10 (by decide) rfl ?_
    refine a_istore_n (lv' := [(2, .int 0), (0, .ref (q 5)), (1, .int v1)]) hX dX5_readSum_11 rfl (by decide) rfl rfl ?_
    refine a_lv (lv' := [(0, .ref (q 5)), (1, .int v1), (2, .int 0)]) [1, 2, 0] rfl ?_
    exact wX5_readSum_l12 h hE hR NF u2 0 hf
  · refine a_iconst (v := 0) hX dX5_readSum_8 (by decide) rfl ?_
    exact a_zret hX hT (by decide) hF (r_iS (wf := (wC V q ts)) hf) dX5_readSum_9
def fX5_readTerm_l12b (R : Nat → St → Int32 → Option (Int32 × St)) (k12 : St → Int32 → Option (Int32 × St)) (u : St) (v1 : Int32) (v2 : Int32) : Option (Int32 × St) := if 160 ≤ v2 then some (1, u) else (if gZ u 105 = 42 then cl1 (fX5_advance u) (fun u4 => cl2 (R 5 u4 v1) (fun x5 u6 => if x5 = 0 then some (0, u6) else (cl2 (fX5_write u6 (-15)) (fun x7 u8 => k12 u8 (v2 + 1))))) else (some (1, u)))
theorem wX5_readTerm_l12b {R : Nat → St → Int32 → Option (Int32 × St)} {nn : Nat} {X : Cx} {V : Vx} {q : Nat → Nat} {g : Nat → Nat} {ts : List Tx} {res : Int32 × St} (h : Run X cX5_readTerm 3 RX5 (rmGC (nn + 1)) V (some .boolean) (rEq (some (.int res.1)) (wC V q ts res.2))) (hE : EnvC V g) (hR : GCok V q ts nn R) {u : St} {v1 : Int32} {v2 : Int32} {k12 : St → Int32 → Option (Int32 × St)} (hk12 : ∀ (u : St) (v2 : Int32), k12 u v2 = some res → At X 3 0 0 (wC V q ts u) 12 [(0, .ref (q 5)), (1, .int v1), (2, .int v2)] []) (hf : fX5_readTerm_l12b R k12 u v1 v2 = some res) : At X 3 0 0 (wC V q ts u) 12 [(0, .ref (q 5)), (1, .int v1), (2, .int v2)] [] := by
  obtain ⟨hX, hT, hF⟩ := id h
  unfold fX5_readTerm_l12b at hf
  refine a_iload_n hX dX5_readTerm_12 rfl 2 rfl rfl ?_
  refine a_sipush (v := 160) hX dX5_readTerm_13 (by decide) rfl ?_
  refine a_icmp_ge (tgt := 55) hX dX5_readTerm_16 rfl rfl hf (fun hf => ?_) (fun hf => ?_)
  · refine a_iconst (v := 1) hX dX5_readTerm_55 (by decide) rfl ?_
    exact a_zret hX hT (by decide) hF (r_iS (wf := (wC V q ts)) hf) dX5_readTerm_56
  · refine a_aload_n hX dX5_readTerm_19 rfl 0 rfl rfl ?_
    refine gX5_5 hX F_X5_46 dX5_readTerm_20 rfl ?_
    refine a_bipush (v := 42) hX dX5_readTerm_23 (by decide) rfl ?_
    refine a_icmp_ne (tgt := 55) hX dX5_readTerm_25 rfl rfl hf (fun hf => ?_) (fun hf => ?_)
    · refine a_iconst (v := 1) hX dX5_readTerm_55 (by decide) rfl ?_
      exact a_zret hX hT (by decide) hF (r_iS (wf := (wC V q ts)) hf) dX5_readTerm_56
    · refine a_aload_n hX dX5_readTerm_28 rfl 0 rfl rfl ?_
      obtain ⟨u4, hg3, hf⟩ := cl1_some hf
      refine a_cVsv (q0 := 4) (rest := []) hX hE.1 (ctX5_advance (q := q) hE hg3) K_X5_36 ⟨rfl, rfl⟩ ⟨rfl, rfl, by simp only [rmGC, rmX5_advance]; omega, by simp only [rmGC, rmX5_advance]; omega⟩ ⟨Nat.zero_le _, Nat.zero_le _⟩ (Nat.le_of_ble_eq_true rfl) dX5_readTerm_29 rfl rfl ?_
      refine a_aload_n hX dX5_readTerm_32 rfl 0 rfl rfl ?_
      refine a_iload_n hX dX5_readTerm_33 rfl 1 rfl rfl ?_
      obtain ⟨x5, u6, hg5, hf⟩ := cl2_some hf
      refine a_cVsi (q0 := 4) (rest := []) hX hE.1 (hR.2.2.2.2.2 _ _ _ hg5) K_X5_70 ⟨rfl, rfl⟩ (rmGC_s nn (by decide)) ⟨Nat.zero_le _, Nat.zero_le _⟩ (Nat.le_of_ble_eq_true rfl) dX5_readTerm_34 rfl rfl ?_
      refine a_if_ne (tgt := 42) hX dX5_readTerm_37 rfl rfl hf (fun hf => ?_) (fun hf => ?_)
      · refine a_aload_n hX dX5_readTerm_42 rfl 0 rfl rfl ?_
        refine a_bipush (v := (-15)) hX dX5_readTerm_43 (by decide) rfl ?_
        obtain ⟨x7, u8, hg7, hf⟩ := cl2_some hf
        refine a_cVsi (q0 := 4) (rest := []) hX hE.1 (ctX5_write (q := q) hE hg7) K_X5_58 ⟨rfl, rfl⟩ ⟨rfl, rfl, by simp only [rmGC, rmX5_write]; omega, by simp only [rmGC, rmX5_write]; omega⟩ ⟨Nat.zero_le _, Nat.zero_le _⟩ (Nat.le_of_ble_eq_true rfl) dX5_readTerm_45 rfl rfl ?_
        refine a_pop hX dX5_readTerm_48 rfl rfl ?_
        refine a_iinc (v := v2 + 1) (lv' := [(2, .int (v2 + 1)), (0, .ref (q 5)), (1, .int v1)]) hX dX5_readTerm_49 2 rfl rfl (by decide) rfl rfl ?_
        refine a_goto (pc' := 12) hX dX5_readTerm_52 rfl ?_
        refine a_lv (lv' := [(0, .ref (q 5)), (1, .int v1), (2, .int (v2 + 1))]) [1, 2, 0] rfl ?_
        exact hk12 u8 (v2 + 1) hf
      · refine a_iconst (v := 0) hX dX5_readTerm_40 (by decide) rfl ?_
        exact a_zret hX hT (by decide) hF (r_iS (wf := (wC V q ts)) hf) dX5_readTerm_41
def fX5_readTerm_l12 (R : Nat → St → Int32 → Option (Int32 × St))  (v1 : Int32) : Nat → St → Int32 → Option (Int32 × St)
  | 0, _, _ => none
  | m + 1, u, v2 => fX5_readTerm_l12b R (fX5_readTerm_l12 R  v1 m) u v1 v2
theorem wX5_readTerm_l12 {R : Nat → St → Int32 → Option (Int32 × St)} {nn : Nat} {X : Cx} {V : Vx} {q : Nat → Nat} {g : Nat → Nat} {ts : List Tx} {res : Int32 × St} (h : Run X cX5_readTerm 3 RX5 (rmGC (nn + 1)) V (some .boolean) (rEq (some (.int res.1)) (wC V q ts res.2))) (hE : EnvC V g) (hR : GCok V q ts nn R) {v1 : Int32} : ∀ (m : Nat) (u : St) (v2 : Int32), fX5_readTerm_l12 R  v1 m u v2 = some res → At X 3 0 0 (wC V q ts u) 12 [(0, .ref (q 5)), (1, .int v1), (2, .int v2)] [] := by
  intro m
  induction m with
  | zero => intro u v2 hf; cases hf
  | succ m ih => intro u v2 hf; exact wX5_readTerm_l12b h hE hR ih hf
def fX5_readTerm (R : Nat → St → Int32 → Option (Int32 × St)) (u : St) (v1 : Int32) : Option (Int32 × St) := cl2 (R 5 u v1) (fun x1 u2 => if x1 = 0 then some (0, u2) else (fX5_readTerm_l12 R v1 NF u2 0))
theorem wX5_readTerm {R : Nat → St → Int32 → Option (Int32 × St)} {nn : Nat} {X : Cx} {V : Vx} {q : Nat → Nat} {g : Nat → Nat} {ts : List Tx} {res : Int32 × St} (h : Run X cX5_readTerm 3 RX5 (rmGC (nn + 1)) V (some .boolean) (rEq (some (.int res.1)) (wC V q ts res.2))) (hE : EnvC V g) (hR : GCok V q ts nn R) {u : St} {v1 : Int32} (hf : fX5_readTerm R u v1 = some res) : At X 3 0 0 (wC V q ts u) 0 [(0, .ref (q 5)), (1, .int v1)] [] := by
  obtain ⟨hX, hT, hF⟩ := id h
  unfold fX5_readTerm at hf
  refine a_aload_n hX dX5_readTerm_0 rfl 0 rfl rfl ?_
  refine a_iload_n hX dX5_readTerm_1 rfl 1 rfl rfl ?_
  obtain ⟨x1, u2, hg1, hf⟩ := cl2_some hf
  refine a_cVsi (q0 := 4) (rest := []) hX hE.1 (hR.2.2.2.2.2 _ _ _ hg1) K_X5_70 ⟨rfl, rfl⟩ (rmGC_s nn (by decide)) ⟨Nat.zero_le _, Nat.zero_le _⟩ (Nat.le_of_ble_eq_true rfl) dX5_readTerm_2 rfl rfl ?_
  refine a_if_ne (tgt := 10) hX dX5_readTerm_5 rfl rfl hf (fun hf => ?_) (fun hf => ?_)
  · refine a_iconst (v := 0) hX dX5_readTerm_10 (by decide) rfl ?_
    refine a_istore_n (lv' := [(2, .int 0), (0, .ref (q 5)), (1, .int v1)]) hX dX5_readTerm_11 rfl (by decide) rfl rfl ?_
    refine a_lv (lv' := [(0, .ref (q 5)), (1, .int v1), (2, .int 0)]) [1, 2, 0] rfl ?_
    exact wX5_readTerm_l12 h hE hR NF u2 0 hf
  · refine a_iconst (v := 0) hX dX5_readTerm_8 (by decide) rfl ?_
    exact a_zret hX hT (by decide) hF (r_iS (wf := (wC V q ts)) hf) dX5_readTerm_9
def fX5_readOne_b45 (R : Nat → St → Int32 → Option (Int32 × St))  (u : St) (s0 : Int32) : Option (Int32 × St) := cl2 (fX5_write u s0) (fun x1 u2 => cl1 (fX5_advance u2) (fun u4 => some (1, u4)))
theorem wX5_readOne_b45 {R : Nat → St → Int32 → Option (Int32 × St)} {nn : Nat} {X : Cx} {V : Vx} {q : Nat → Nat} {g : Nat → Nat} {ts : List Tx} {res : Int32 × St} (h : Run X cX5_readOne 3 RX5 (rmGC (nn + 1)) V (some .boolean) (rEq (some (.int res.1)) (wC V q ts res.2))) (hE : EnvC V g) (hR : GCok V q ts nn R) {u : St} {s0 : Int32} (hf : fX5_readOne_b45 R  u s0 = some res) : At X 3 0 0 (wC V q ts u) 45 [(0, .ref (q 5))] [.int s0, .ref (q 5)] := by
  obtain ⟨hX, hT, hF⟩ := id h
  unfold fX5_readOne_b45 at hf
  obtain ⟨x1, u2, hg1, hf⟩ := cl2_some hf
  refine a_cVsi (q0 := 4) (rest := []) hX hE.1 (ctX5_write (q := q) hE hg1) K_X5_58 ⟨rfl, rfl⟩ ⟨rfl, rfl, by simp only [rmGC, rmX5_write]; omega, by simp only [rmGC, rmX5_write]; omega⟩ ⟨Nat.zero_le _, Nat.zero_le _⟩ (Nat.le_of_ble_eq_true rfl) dX5_readOne_45 rfl rfl ?_
  refine a_pop hX dX5_readOne_48 rfl rfl ?_
  refine a_aload_n hX dX5_readOne_49 rfl 0 rfl rfl ?_
  obtain ⟨u4, hg3, hf⟩ := cl1_some hf
  refine a_cVsv (q0 := 4) (rest := []) hX hE.1 (ctX5_advance (q := q) hE hg3) K_X5_36 ⟨rfl, rfl⟩ ⟨rfl, rfl, by simp only [rmGC, rmX5_advance]; omega, by simp only [rmGC, rmX5_advance]; omega⟩ ⟨Nat.zero_le _, Nat.zero_le _⟩ (Nat.le_of_ble_eq_true rfl) dX5_readOne_50 rfl rfl ?_
  refine a_iconst (v := 1) hX dX5_readOne_53 (by decide) rfl ?_
  exact a_zret hX hT (by decide) hF (r_iS (wf := (wC V q ts)) hf) dX5_readOne_54
def fX5_readOne_b25 (R : Nat → St → Int32 → Option (Int32 × St))  (u : St) : Option (Int32 × St) := if gZ u 105 = 2 then fX5_readOne_b45 R u (gZ u 108) else (fX5_readOne_b45 R u (gZ u 105))
theorem wX5_readOne_b25 {R : Nat → St → Int32 → Option (Int32 × St)} {nn : Nat} {X : Cx} {V : Vx} {q : Nat → Nat} {g : Nat → Nat} {ts : List Tx} {res : Int32 × St} (h : Run X cX5_readOne 3 RX5 (rmGC (nn + 1)) V (some .boolean) (rEq (some (.int res.1)) (wC V q ts res.2))) (hE : EnvC V g) (hR : GCok V q ts nn R) {u : St} (hf : fX5_readOne_b25 R  u = some res) : At X 3 0 0 (wC V q ts u) 25 [(0, .ref (q 5))] [] := by
  obtain ⟨hX, hT, hF⟩ := id h
  unfold fX5_readOne_b25 at hf
  refine a_aload_n hX dX5_readOne_25 rfl 0 rfl rfl ?_
  refine a_aload_n hX dX5_readOne_26 rfl 0 rfl rfl ?_
  refine gX5_5 hX F_X5_46 dX5_readOne_27 rfl ?_
  refine a_iconst (v := 2) hX dX5_readOne_30 (by decide) rfl ?_
  refine a_icmp_ne (tgt := 41) hX dX5_readOne_31 rfl rfl hf (fun hf => ?_) (fun hf => ?_)
  · refine a_aload_n hX dX5_readOne_41 rfl 0 rfl rfl ?_
    refine gX5_5 hX F_X5_46 dX5_readOne_42 rfl ?_
    exact wX5_readOne_b45 h hE hR hf
  · refine a_aload_n hX dX5_readOne_34 rfl 0 rfl rfl ?_
    refine gX5_8 hX F_X5_73 dX5_readOne_35 rfl ?_
    refine a_goto (pc' := 45) hX dX5_readOne_38 rfl ?_
    exact wX5_readOne_b45 h hE hR hf
def fX5_readOne_b94 (R : Nat → St → Int32 → Option (Int32 × St))  (u : St) (v1 : Int32) (s0 : Int32) : Option (Int32 × St) := cl1 (fX5_advance u) (fun u6 => if s0 = 0 then cl2 (R 0 u6 (v1 + 1)) (fun x7 u8 => if x7 = 0 then some (0, u8) else (cl2 (fX5_pass u8 41) (fun x9 u10 => if x9 = 0 then some (0, u10) else (some (1, u10))))) else (cl2 (R 5 u6 (v1 + 1)) (fun x11 u12 => if x11 = 0 then some (0, u12) else (cl2 (fX5_write u12 (-7)) (fun x13 u14 => if x13 = 0 then some (0, u14) else (some (1, u14)))))))
theorem wX5_readOne_b94 {R : Nat → St → Int32 → Option (Int32 × St)} {nn : Nat} {X : Cx} {V : Vx} {q : Nat → Nat} {g : Nat → Nat} {ts : List Tx} {res : Int32 × St} (h : Run X cX5_readOne 3 RX5 (rmGC (nn + 1)) V (some .boolean) (rEq (some (.int res.1)) (wC V q ts res.2))) (hE : EnvC V g) (hR : GCok V q ts nn R) {u : St} {v1 : Int32} {s0 : Int32} (hf : fX5_readOne_b94 R  u v1 s0 = some res) : At X 3 0 0 (wC V q ts u) 94 [(0, .ref (q 5)), (1, .int v1)] [.int s0] := by
  obtain ⟨hX, hT, hF⟩ := id h
  unfold fX5_readOne_b94 at hf
  refine a_istore_n (lv' := [(2, .int s0), (0, .ref (q 5)), (1, .int v1)]) hX dX5_readOne_94 rfl (by decide) rfl rfl ?_
  refine a_aload_n hX dX5_readOne_95 rfl 1 rfl rfl ?_
  obtain ⟨u6, hg5, hf⟩ := cl1_some hf
  refine a_cVsv (q0 := 4) (rest := []) hX hE.1 (ctX5_advance (q := q) hE hg5) K_X5_36 ⟨rfl, rfl⟩ ⟨rfl, rfl, by simp only [rmGC, rmX5_advance]; omega, by simp only [rmGC, rmX5_advance]; omega⟩ ⟨Nat.zero_le _, Nat.zero_le _⟩ (Nat.le_of_ble_eq_true rfl) dX5_readOne_96 rfl rfl ?_
  refine a_iload_n hX dX5_readOne_99 rfl 0 rfl rfl ?_
  refine a_if_eq (tgt := 128) hX dX5_readOne_100 rfl rfl hf (fun hf => ?_) (fun hf => ?_)
  · refine a_aload_n hX dX5_readOne_128 rfl 1 rfl rfl ?_
    refine a_iload_n hX dX5_readOne_129 rfl 2 rfl rfl ?_
    refine a_iconst (v := 1) hX dX5_readOne_130 (by decide) rfl ?_
    refine a_iadd hX dX5_readOne_131 rfl ?_
    obtain ⟨x7, u8, hg7, hf⟩ := cl2_some hf
    refine a_cVsi (q0 := 4) (rest := []) hX hE.1 (hR.1 _ _ _ hg7) K_X5_52 ⟨rfl, rfl⟩ (rmGC_s nn (by decide)) ⟨Nat.zero_le _, Nat.zero_le _⟩ (Nat.le_of_ble_eq_true rfl) dX5_readOne_132 rfl rfl ?_
    refine a_if_eq (tgt := 151) hX dX5_readOne_135 rfl rfl hf (fun hf => ?_) (fun hf => ?_)
    · refine a_iconst (v := 0) hX dX5_readOne_151 (by decide) rfl ?_
      exact a_zret hX hT (by decide) hF (r_iS (wf := (wC V q ts)) hf) dX5_readOne_152
    · refine a_aload_n hX dX5_readOne_138 rfl 1 rfl rfl ?_
      refine a_bipush (v := 41) hX dX5_readOne_139 (by decide) rfl ?_
      obtain ⟨x9, u10, hg9, hf⟩ := cl2_some hf
      refine a_cVsi (q0 := 4) (rest := []) hX hE.1 (ctX5_pass (q := q) hE hg9) K_X5_49 ⟨rfl, rfl⟩ ⟨rfl, rfl, by simp only [rmGC, rmX5_pass]; omega, by simp only [rmGC, rmX5_pass]; omega⟩ ⟨Nat.zero_le _, Nat.zero_le _⟩ (Nat.le_of_ble_eq_true rfl) dX5_readOne_141 rfl rfl ?_
      refine a_if_eq (tgt := 151) hX dX5_readOne_144 rfl rfl hf (fun hf => ?_) (fun hf => ?_)
      · refine a_iconst (v := 0) hX dX5_readOne_151 (by decide) rfl ?_
        exact a_zret hX hT (by decide) hF (r_iS (wf := (wC V q ts)) hf) dX5_readOne_152
      · refine a_iconst (v := 1) hX dX5_readOne_147 (by decide) rfl ?_
        refine a_goto (pc' := 152) hX dX5_readOne_148 rfl ?_
        exact a_zret hX hT (by decide) hF (r_iS (wf := (wC V q ts)) hf) dX5_readOne_152
  · refine a_aload_n hX dX5_readOne_103 rfl 1 rfl rfl ?_
    refine a_iload_n hX dX5_readOne_104 rfl 2 rfl rfl ?_
    refine a_iconst (v := 1) hX dX5_readOne_105 (by decide) rfl ?_
    refine a_iadd hX dX5_readOne_106 rfl ?_
    obtain ⟨x11, u12, hg11, hf⟩ := cl2_some hf
    refine a_cVsi (q0 := 4) (rest := []) hX hE.1 (hR.2.2.2.2.2 _ _ _ hg11) K_X5_70 ⟨rfl, rfl⟩ (rmGC_s nn (by decide)) ⟨Nat.zero_le _, Nat.zero_le _⟩ (Nat.le_of_ble_eq_true rfl) dX5_readOne_107 rfl rfl ?_
    refine a_if_eq (tgt := 126) hX dX5_readOne_110 rfl rfl hf (fun hf => ?_) (fun hf => ?_)
    · refine a_iconst (v := 0) hX dX5_readOne_126 (by decide) rfl ?_
      exact a_zret hX hT (by decide) hF (r_iS (wf := (wC V q ts)) hf) dX5_readOne_127
    · refine a_aload_n hX dX5_readOne_113 rfl 1 rfl rfl ?_
      refine a_bipush (v := (-7)) hX dX5_readOne_114 (by decide) rfl ?_
      obtain ⟨x13, u14, hg13, hf⟩ := cl2_some hf
      refine a_cVsi (q0 := 4) (rest := []) hX hE.1 (ctX5_write (q := q) hE hg13) K_X5_58 ⟨rfl, rfl⟩ ⟨rfl, rfl, by simp only [rmGC, rmX5_write]; omega, by simp only [rmGC, rmX5_write]; omega⟩ ⟨Nat.zero_le _, Nat.zero_le _⟩ (Nat.le_of_ble_eq_true rfl) dX5_readOne_116 rfl rfl ?_
      refine a_if_eq (tgt := 126) hX dX5_readOne_119 rfl rfl hf (fun hf => ?_) (fun hf => ?_)
      · refine a_iconst (v := 0) hX dX5_readOne_126 (by decide) rfl ?_
        exact a_zret hX hT (by decide) hF (r_iS (wf := (wC V q ts)) hf) dX5_readOne_127
      · refine a_iconst (v := 1) hX dX5_readOne_122 (by decide) rfl ?_
        refine a_goto (pc' := 127) hX dX5_readOne_123 rfl ?_
        exact a_zret hX hT (by decide) hF (r_iS (wf := (wC V q ts)) hf) dX5_readOne_127
def fX5_readOne_b73 (R : Nat → St → Int32 → Option (Int32 × St))  (u : St) (v1 : Int32) : Option (Int32 × St) := if v1 < 5 then if gZ u 105 = 45 then fX5_readOne_b94 R u v1 1 else (fX5_readOne_b94 R u v1 0) else (some (0, u))
theorem wX5_readOne_b73 {R : Nat → St → Int32 → Option (Int32 × St)} {nn : Nat} {X : Cx} {V : Vx} {q : Nat → Nat} {g : Nat → Nat} {ts : List Tx} {res : Int32 × St} (h : Run X cX5_readOne 3 RX5 (rmGC (nn + 1)) V (some .boolean) (rEq (some (.int res.1)) (wC V q ts res.2))) (hE : EnvC V g) (hR : GCok V q ts nn R) {u : St} {v1 : Int32} (hf : fX5_readOne_b73 R  u v1 = some res) : At X 3 0 0 (wC V q ts u) 73 [(0, .ref (q 5)), (1, .int v1)] [] := by
  obtain ⟨hX, hT, hF⟩ := id h
  unfold fX5_readOne_b73 at hf
  refine a_iload_n hX dX5_readOne_73 rfl 1 rfl rfl ?_
  refine a_iconst (v := 5) hX dX5_readOne_74 (by decide) rfl ?_
  refine a_icmp_lt (tgt := 80) hX dX5_readOne_75 rfl rfl hf (fun hf => ?_) (fun hf => ?_)
  · refine a_aload_n hX dX5_readOne_80 rfl 0 rfl rfl ?_
    refine gX5_5 hX F_X5_46 dX5_readOne_81 rfl ?_
    refine a_bipush (v := 45) hX dX5_readOne_84 (by decide) rfl ?_
    refine a_icmp_ne (tgt := 93) hX dX5_readOne_86 rfl rfl hf (fun hf => ?_) (fun hf => ?_)
    · refine a_iconst (v := 0) hX dX5_readOne_93 (by decide) rfl ?_
      exact wX5_readOne_b94 h hE hR hf
    · refine a_iconst (v := 1) hX dX5_readOne_89 (by decide) rfl ?_
      refine a_goto (pc' := 94) hX dX5_readOne_90 rfl ?_
      exact wX5_readOne_b94 h hE hR hf
  · refine a_iconst (v := 0) hX dX5_readOne_78 (by decide) rfl ?_
    exact a_zret hX hT (by decide) hF (r_iS (wf := (wC V q ts)) hf) dX5_readOne_79
def fX5_readOne_b55 (R : Nat → St → Int32 → Option (Int32 × St))  (u : St) (v1 : Int32) : Option (Int32 × St) := if gZ u 105 = 45 then fX5_readOne_b73 R u v1 else (if gZ u 105 = 40 then fX5_readOne_b73 R u v1 else (some (0, u)))
theorem wX5_readOne_b55 {R : Nat → St → Int32 → Option (Int32 × St)} {nn : Nat} {X : Cx} {V : Vx} {q : Nat → Nat} {g : Nat → Nat} {ts : List Tx} {res : Int32 × St} (h : Run X cX5_readOne 3 RX5 (rmGC (nn + 1)) V (some .boolean) (rEq (some (.int res.1)) (wC V q ts res.2))) (hE : EnvC V g) (hR : GCok V q ts nn R) {u : St} {v1 : Int32} (hf : fX5_readOne_b55 R  u v1 = some res) : At X 3 0 0 (wC V q ts u) 55 [(0, .ref (q 5)), (1, .int v1)] [] := by
  obtain ⟨hX, hT, hF⟩ := id h
  unfold fX5_readOne_b55 at hf
  refine a_aload_n hX dX5_readOne_55 rfl 0 rfl rfl ?_
  refine gX5_5 hX F_X5_46 dX5_readOne_56 rfl ?_
  refine a_bipush (v := 45) hX dX5_readOne_59 (by decide) rfl ?_
  refine a_icmp_eq (tgt := 73) hX dX5_readOne_61 rfl rfl hf (fun hf => ?_) (fun hf => ?_)
  · exact wX5_readOne_b73 h hE hR hf
  · refine a_aload_n hX dX5_readOne_64 rfl 0 rfl rfl ?_
    refine gX5_5 hX F_X5_46 dX5_readOne_65 rfl ?_
    refine a_bipush (v := 40) hX dX5_readOne_68 (by decide) rfl ?_
    refine a_icmp_ne (tgt := 78) hX dX5_readOne_70 rfl rfl hf (fun hf => ?_) (fun hf => ?_)
    · refine a_iconst (v := 0) hX dX5_readOne_78 (by decide) rfl ?_
      exact a_zret hX hT (by decide) hF (r_iS (wf := (wC V q ts)) hf) dX5_readOne_79
    · exact wX5_readOne_b73 h hE hR hf
def fX5_readOne (R : Nat → St → Int32 → Option (Int32 × St)) (u : St) (v1 : Int32) : Option (Int32 × St) := if gZ u 105 = 2 then fX5_readOne_b25 R u else (if (-1) < gZ u 105 then fX5_readOne_b55 R u v1 else (if gZ u 105 < (-6) then fX5_readOne_b55 R u v1 else (fX5_readOne_b25 R u)))
theorem wX5_readOne {R : Nat → St → Int32 → Option (Int32 × St)} {nn : Nat} {X : Cx} {V : Vx} {q : Nat → Nat} {g : Nat → Nat} {ts : List Tx} {res : Int32 × St} (h : Run X cX5_readOne 3 RX5 (rmGC (nn + 1)) V (some .boolean) (rEq (some (.int res.1)) (wC V q ts res.2))) (hE : EnvC V g) (hR : GCok V q ts nn R) {u : St} {v1 : Int32} (hf : fX5_readOne R u v1 = some res) : At X 3 0 0 (wC V q ts u) 0 [(0, .ref (q 5)), (1, .int v1)] [] := by
  obtain ⟨hX, hT, hF⟩ := id h
  unfold fX5_readOne at hf
  refine a_aload_n hX dX5_readOne_0 rfl 0 rfl rfl ?_
  refine gX5_5 hX F_X5_46 dX5_readOne_1 rfl ?_
  refine a_iconst (v := 2) hX dX5_readOne_4 (by decide) rfl ?_
  refine a_icmp_eq (tgt := 25) hX dX5_readOne_5 rfl rfl hf (fun hf => ?_) (fun hf => ?_)
  · refine a_lv (lv' := [(0, .ref (q 5))]) [0] rfl ?_
    exact wX5_readOne_b25 h hE hR hf
  · refine a_aload_n hX dX5_readOne_8 rfl 0 rfl rfl ?_
    refine gX5_5 hX F_X5_46 dX5_readOne_9 rfl ?_
    refine a_iconst (v := (-1)) hX dX5_readOne_12 (by decide) rfl ?_
    refine a_icmp_gt (tgt := 55) hX dX5_readOne_13 rfl rfl hf (fun hf => ?_) (fun hf => ?_)
    · exact wX5_readOne_b55 h hE hR hf
    · refine a_aload_n hX dX5_readOne_16 rfl 0 rfl rfl ?_
      refine gX5_5 hX F_X5_46 dX5_readOne_17 rfl ?_
      refine a_bipush (v := (-6)) hX dX5_readOne_20 (by decide) rfl ?_
      refine a_icmp_lt (tgt := 55) hX dX5_readOne_22 rfl rfl hf (fun hf => ?_) (fun hf => ?_)
      · exact wX5_readOne_b55 h hE hR hf
      · refine a_lv (lv' := [(0, .ref (q 5))]) [0] rfl ?_
        exact wX5_readOne_b25 h hE hR hf
def PGC : Nat → Nat → St → Int32 → Option (Int32 × St)
  | 0, _, _, _ => none
  | n + 1, 0, u, a0 => fX5_readOr (PGC n) u a0
  | n + 1, 1, u, a0 => fX5_readAnd (PGC n) u a0
  | n + 1, 2, u, a0 => fX5_readNot (PGC n) u a0
  | n + 1, 3, u, a0 => fX5_readSum (PGC n) u a0
  | n + 1, 4, u, a0 => fX5_readTerm (PGC n) u a0
  | n + 1, 5, u, a0 => fX5_readOne (PGC n) u a0
  | _ + 1, _ + 6, _, _ => none
theorem gGC {V : Vx} {q : Nat → Nat} {g : Nat → Nat} {ts : List Tx} (hE : EnvC V g) : ∀ n : Nat, GCok V q ts n (PGC n) := by
  intro n
  induction n with
  | zero =>
    refine ⟨?_, ?_, ?_, ?_, ?_, ?_⟩ <;> (intros; rename_i h; cases h)
  | succ n ih =>
    refine ⟨?_, ?_, ?_, ?_, ?_, ?_⟩
    · intro a0 u res hf
      exact Ct_of (by decide) (Nat.le_of_ble_eq_true rfl) rfl (fun X hX hT _ hF => wX5_readOr ⟨hX, hT, hF⟩ hE ih hf)
    · intro a0 u res hf
      exact Ct_of (by decide) (Nat.le_of_ble_eq_true rfl) rfl (fun X hX hT _ hF => wX5_readAnd ⟨hX, hT, hF⟩ hE ih hf)
    · intro a0 u res hf
      exact Ct_of (by decide) (Nat.le_of_ble_eq_true rfl) rfl (fun X hX hT _ hF => wX5_readNot ⟨hX, hT, hF⟩ hE ih hf)
    · intro a0 u res hf
      exact Ct_of (by decide) (Nat.le_of_ble_eq_true rfl) rfl (fun X hX hT _ hF => wX5_readSum ⟨hX, hT, hF⟩ hE ih hf)
    · intro a0 u res hf
      exact Ct_of (by decide) (Nat.le_of_ble_eq_true rfl) rfl (fun X hX hT _ hF => wX5_readTerm ⟨hX, hT, hF⟩ hE ih hf)
    · intro a0 u res hf
      exact Ct_of (by decide) (Nat.le_of_ble_eq_true rfl) rfl (fun X hX hT _ hF => wX5_readOne ⟨hX, hT, hF⟩ hE ih hf)
theorem ctGC0 {V : Vx} {q : Nat → Nat} {g : Nat → Nat} {ts : List Tx} (hE : EnvC V g) {u : St} {res : Int32 × St} {a0 : Int32} (hf : PGC 60 0 u a0 = some res) : Ct V yX5_readOr (.code yX5_readOr cX5_readOr 3 (some .boolean)) (rmGC 60) 0 0 [.ref (q 5), .int a0] (wC V q ts u) (rEq (some (.int res.1)) (wC V q ts res.2)) := (gGC hE 60).1 _ _ _ hf
theorem ctGC1 {V : Vx} {q : Nat → Nat} {g : Nat → Nat} {ts : List Tx} (hE : EnvC V g) {u : St} {res : Int32 × St} {a0 : Int32} (hf : PGC 60 1 u a0 = some res) : Ct V yX5_readAnd (.code yX5_readAnd cX5_readAnd 3 (some .boolean)) (rmGC 60) 0 0 [.ref (q 5), .int a0] (wC V q ts u) (rEq (some (.int res.1)) (wC V q ts res.2)) := (gGC hE 60).2.1 _ _ _ hf
theorem ctGC2 {V : Vx} {q : Nat → Nat} {g : Nat → Nat} {ts : List Tx} (hE : EnvC V g) {u : St} {res : Int32 × St} {a0 : Int32} (hf : PGC 60 2 u a0 = some res) : Ct V yX5_readNot (.code yX5_readNot cX5_readNot 3 (some .boolean)) (rmGC 60) 0 0 [.ref (q 5), .int a0] (wC V q ts u) (rEq (some (.int res.1)) (wC V q ts res.2)) := (gGC hE 60).2.2.1 _ _ _ hf
theorem ctGC3 {V : Vx} {q : Nat → Nat} {g : Nat → Nat} {ts : List Tx} (hE : EnvC V g) {u : St} {res : Int32 × St} {a0 : Int32} (hf : PGC 60 3 u a0 = some res) : Ct V yX5_readSum (.code yX5_readSum cX5_readSum 4 (some .boolean)) (rmGC 60) 0 0 [.ref (q 5), .int a0] (wC V q ts u) (rEq (some (.int res.1)) (wC V q ts res.2)) := (gGC hE 60).2.2.2.1 _ _ _ hf
theorem ctGC4 {V : Vx} {q : Nat → Nat} {g : Nat → Nat} {ts : List Tx} (hE : EnvC V g) {u : St} {res : Int32 × St} {a0 : Int32} (hf : PGC 60 4 u a0 = some res) : Ct V yX5_readTerm (.code yX5_readTerm cX5_readTerm 3 (some .boolean)) (rmGC 60) 0 0 [.ref (q 5), .int a0] (wC V q ts u) (rEq (some (.int res.1)) (wC V q ts res.2)) := (gGC hE 60).2.2.2.2.1 _ _ _ hf
theorem ctGC5 {V : Vx} {q : Nat → Nat} {g : Nat → Nat} {ts : List Tx} (hE : EnvC V g) {u : St} {res : Int32 × St} {a0 : Int32} (hf : PGC 60 5 u a0 = some res) : Ct V yX5_readOne (.code yX5_readOne cX5_readOne 3 (some .boolean)) (rmGC 60) 0 0 [.ref (q 5), .int a0] (wC V q ts u) (rEq (some (.int res.1)) (wC V q ts res.2)) := (gGC hE 60).2.2.2.2.2 _ _ _ hf
