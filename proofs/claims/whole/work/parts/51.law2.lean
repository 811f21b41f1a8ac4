def lw_P (b : Addr) (xs : List Int32) (args : Array Value) (s : State) : Prop := args = #[.ref b] ∧ s.IntsAt b xs ∧ xs.length ≤ 3073 ∧ (Jvm.Cond.and given_1 narrow_1).before args s = true
def lw_Q (_ : Array Value) (s : State) (o : Outcome) (t : State) : Prop := o = .returned (some (.int 1)) ∧ Framed s o t [] 600000 7302250
def lw_Z (below : List Frame) (a : Array Value) (s : State) : State → Prop := fun t => ∃ o, t.status = .running ∧ Ended t below o ∧ lw_Q a s o t
/-- the law's own end, with 1 on the stack, nothing written that was there before, its room as the claim has it -/
theorem lw_ret {p : Program} {l : Launch} {e : Env} {s : State} {m : MethodId} {below : List Frame} {meth : Method} {c : Code} {b : Nat} (hx : p.tables.exec = Jvm.exec) (hb : c.code = code) (hr : meth.sig.returnType = ret) (hlocks : meth.locks = false) {pc : Nat} {H : Heap} {ls : Array Slot} (hdg : decode code pc = .ok (.ireturn, 1)) : W p l e room_1 s m #[Value.ref b] below meth c H [] 600000 7302250 (lw_Z below #[Value.ref b] s) (F0 m pc ls [.int 1]) := by
  intro T hT X
  obtain ⟨fs, hret, hrun, hended, hW, hframe⟩ := X.leave (v := some (.int 1)) (hlocks := hlocks) (fun h => by rw [hr] at h; cases h)
  have hmeth' : T.vm.method? m = some meth := X.method'
  refine ⟨T.setFrames fs, ?_, .returned (some (.int 1)), hrun, hended, rfl, ⟨_, rfl⟩, hW, hframe⟩
  jvm_step X.here [X.here.top, hx, hb, hdg, hmeth', hr, ret, narrow_b1]
  (try refine ⟨rfl, ?_⟩); (try refine ⟨rfl, ?_⟩)
  first | (intro acts; rw [hret _ acts rfl rfl rfl]) | rw [hret _ _ rfl rfl rfl]
  exact Steps.refl _
/-- what holds at the law's entry: the machine, the code, the tables' words (any of lw_tbl by 'hts w (by decide +kernel)'), the script of L ints xs at the cell b, what the Statement gives of the start (any of its parts by flat_of_before) -/
def lw_At (p : Program) (s : State) (m : MethodId) (meth : Method) (c : Code) (b L : Nat) (xs : Nat → Int32) : Prop :=
  p.tables.exec = Jvm.exec ∧ c.code = code ∧ meth.sig.returnType = ret ∧ c.maxLocals = 4 ∧ s.vm.findClass R_law = some m.cls ∧ (∀ w ∈ lw_tbl, w.before #[Value.ref b] s = true) ∧ va_X b L xs s s.heap ∧ b < s.heap.size ∧ meth.locks = false ∧ (Jvm.Cond.and given_1 narrow_1).before #[Value.ref b] s = true

set_option maxRecDepth 20000 in
theorem nest_in : ∀ w ∈ nestW, w ∈ lw_tbl := by decide +kernel
def nflat : List Cond := flatC (Jvm.Cond.and given_1 narrow_1)
abbrev kabT : Term := .static "VaseCourt$PaperFile" "KIND_ABOVE" "[I"
abbrev strT (i : Nat) : Term := .string "VaseCourt$Reader" (skey.getD i 0)
abbrev strV (i : Nat) : Term := .field (strT i) "java/lang/String" "value" "[B"
set_option maxRecDepth 20000 in
theorem nf_kab1 : Cond.arrayOf kabT .int ∈ nflat := by decide +kernel
set_option maxRecDepth 20000 in
theorem nf_kab2 : Cond.eq (.length kabT) (.int 6) ∈ nflat := by decide +kernel
set_option maxRecDepth 20000 in
theorem nf_kab3 : ∀ j, j < 6 → Cond.eq (.elem kabT (.int (Int32.ofNat j))) (.int (kabv j)) ∈ nflat := by decide +kernel
set_option maxRecDepth 20000 in
theorem nf_comp : Cond.eq (.static "java/lang/String" "COMPACT_STRINGS" "Z") (.int 1) ∈ nflat := by decide +kernel
set_option maxRecDepth 20000 in
theorem nf_siob : Cond.isRef (.static "jdk/internal/util/Preconditions" "SIOOBE_FORMATTER" "Ljava/util/function/BiFunction;") ∈ nflat := by decide +kernel
set_option maxRecDepth 20000 in
theorem nf_s1 : ∀ i, i < 11 → Cond.exactly (strT i) "java/lang/String" ∈ nflat := by decide +kernel
set_option maxRecDepth 20000 in
theorem nf_s2 : ∀ i, i < 11 → Cond.eq (.field (strT i) "java/lang/String" "coder" "B") (.int 0) ∈ nflat := by decide +kernel
set_option maxRecDepth 20000 in
theorem nf_s3 : ∀ i, i < 11 → Cond.arrayOf (strV i) .byte ∈ nflat := by decide +kernel
set_option maxRecDepth 20000 in
theorem nf_s4 : ∀ i, i < 11 → Cond.eq (.length (strV i)) (.int (Int32.ofNat (slen.getD i 0))) ∈ nflat := by decide +kernel
set_option maxRecDepth 20000 in
theorem nf_s5 : ∀ i, i < 11 → ∀ j, j < slen.getD i 0 → Cond.eq (.elem (strV i) (.int (Int32.ofNat j))) (.int ((sbyt.getD i []).getD j 0)) ∈ nflat := by decide +kernel
set_option maxRecDepth 20000 in
theorem nf_s6 : ∀ i, i < 11 → ∀ j, j < 11 → i ≠ j → Cond.not (Cond.eq (strT i) (strT j)) ∈ nflat ∨ Cond.not (Cond.eq (strT j) (strT i)) ∈ nflat := by decide +kernel
set_option maxRecDepth 20000 in
theorem tb_s : ∀ i, i < 11 → Cond.stringRef "VaseCourt$Reader" (skey.getD i 0) (stx.getD i "") ∈ lw_tbl := by decide +kernel
set_option maxRecDepth 20000 in
theorem tb_l : Cond.laysStatic "VaseCourt$PaperFile" "KIND_ABOVE" "[I" ∈ lw_tbl ∧ Cond.laysStatic "java/lang/String" "COMPACT_STRINGS" "Z" ∈ lw_tbl ∧ Cond.laysStatic "jdk/internal/util/Preconditions" "SIOOBE_FORMATTER" "Ljava/util/function/BiFunction;" ∈ lw_tbl ∧ Cond.initialized "jdk/internal/util/Preconditions" ∈ lw_tbl ∧ Cond.arrayOver (.object "VaseCourt$Text") ∈ lw_tbl := by decide +kernel
theorem lw_env {args : Array Value} {s : State} {b L : Nat} {xs : Nat → Int32} (hts : ∀ w ∈ lw_tbl, w.before args s = true) (hgv : (Jvm.Cond.and given_1 narrow_1).before args s = true) (hX : va_X b L xs s s.heap) (hbl : b < s.heap.size) : ∃ g : Nat → Nat, ZL g b L xs (fun q => s.heap.size ≤ q) s := by
  have hs : ∀ c ∈ nflat, c.before args s = true := flat_of_before _ hgv
  have hA : ∀ a : Nat, a < s.heap.size → ¬ (fun q => s.heap.size ≤ q) a := fun a h => Nat.not_le.mpr h
  obtain ⟨t, ht, hT⟩ := va_Tof (tm := kabT) (ty := .int) (N := 6) (f := fun j => .int (kabv j)) (A := fun q => s.heap.size ≤ q) (by decide) (hs _ nf_kab1) (va_eqt (hs _ nf_kab2)) (fun j hj => va_eqt (hs _ (nf_kab3 j hj))) hA
  have hZk := va_Zref (A := fun q => s.heap.size ≤ q) (hts _ tb_l.1) (hts _ (g_lw J_X4)) ht hA
  have hZc := va_Zof (A := fun q => s.heap.size ≤ q) (hts _ tb_l.2.1) (hts _ (g_lw J_J0)) (va_eqi (hs _ nf_comp)) hA
  have hZs := va_Zqof (A := fun q => s.heap.size ≤ q) (hts _ tb_l.2.2.1) (hts _ tb_l.2.2.2.1) (hs _ nf_siob) hA
  obtain ⟨adK, adV, hS, hev⟩ := vk_Sof (args := args) (s := s) (N := 11) (tm := strT) (len := slen) (byt := sbyt) (A := fun q => s.heap.size ≤ q) (by decide) (fun i hi => hs _ (nf_s1 i hi)) (fun i hi => hs _ (nf_s2 i hi)) (fun i hi => hs _ (nf_s3 i hi)) (fun i hi => hs _ (nf_s4 i hi)) (fun i hi j hj => hs _ (nf_s5 i hi j hj)) (fun i j hi hj hij => (nf_s6 i hi j hj hij).imp (fun h => hs _ h) (fun h => hs _ h)) hA
  refine ⟨fun i => if i = 0 then t else if i < 30 then adK (i - 10) else adV (i - 30), ?_⟩
  have e1 : ∀ i, i < 11 → (fun i => if i = 0 then t else if i < 30 then adK (i - 10) else adV (i - 30)) (10 + i) = adK i := fun i hi => by
    show (if 10 + i = 0 then t else if 10 + i < 30 then adK (10 + i - 10) else adV (10 + i - 30)) = adK i
    rw [if_neg (by omega), if_pos (by omega), Nat.add_sub_cancel_left]
  have e2 : ∀ i, i < 11 → (fun i => if i = 0 then t else if i < 30 then adK (i - 10) else adV (i - 30)) (30 + i) = adV i := fun i hi => by
    show (if 30 + i = 0 then t else if 30 + i < 30 then adK (30 + i - 10) else adV (30 + i - 30)) = adV i
    rw [if_neg (by omega), if_neg (by omega), Nat.add_sub_cancel_left]
  have e0 : (fun i => if i = 0 then t else if i < 30 then adK (i - 10) else adV (i - 30)) 0 = t := rfl
  generalize (fun i => if i = 0 then t else if i < 30 then adK (i - 10) else adV (i - 30)) = g at e0 e1 e2
  refine ⟨⟨fun w hw => va_Nw.of (nestW_ok w hw).1 (hts w (nest_in w hw)), by rw [e0]; exact hZk, by rw [e0]; exact hT, hZc, ⟨fun i hi => ?_, fun i j hi hj e => ?_⟩, fun i hi => ?_, hZs⟩, va_AO.of (hts _ tb_l.2.2.2.2), hX, hbl, Nat.not_le.mpr hbl⟩
  · have := hS.1 i hi
    rw [← e1 i hi, ← e2 i hi] at this
    exact this
  · refine hS.2 i j hi hj ?_
    rw [← e1 i hi, ← e1 j hj]
    exact e
  · rw [e1 i hi]
    exact vk_R.of (hts _ (tb_s i hi)) (hev i hi)
theorem lw_K {args : Array Value} {s : State} (hts : ∀ w ∈ lw_tbl, w.before args s = true) : ∃ (D : va_G) (c : Nat → ClassId), va_K D classes (tysL c) s := by
  have htg : ∀ w ∈ gtbl, w.before args s = true := fun w h => hts w (g_lw h)
  obtain ⟨c0, i0, hKn0⟩ := u_known (C := RX0) (T := TX0) (N := 8) (n := 8) htg inG0 (htg _ I_X0)
  obtain ⟨c1, i1, hKn1⟩ := u_known (C := RX1) (T := TX1) (N := 7) (n := 7) htg inG1 (htg _ I_X1)
  obtain ⟨c2, i2, hKn2⟩ := u_known (C := RX2) (T := TX2) (N := 2) (n := 2) htg inG2 (htg _ I_X2)
  obtain ⟨c3, i3, hKn3⟩ := u_known (C := RX3) (T := TX3) (N := 11) (n := 11) htg inG3 (htg _ I_X3)
  obtain ⟨c4, i4, hKn4⟩ := u_known (C := RX4) (T := TX4) (N := 8) (n := 8) htg inG4 (htg _ I_X4)
  obtain ⟨c5, i5, hKn5⟩ := u_known (C := RX5) (T := TX5) (N := 9) (n := 9) htg inG5 (htg _ I_X5)
  obtain ⟨c6, i6, hKn6⟩ := u_known (C := RX6) (T := TX6) (N := 4) (n := 4) htg inG6 (htg _ I_X6)
  obtain ⟨c7, i7, hKn7⟩ := u_known (C := RX7) (T := TX7) (N := 3) (n := 3) htg inG7 (htg _ I_X7)
  obtain ⟨c8, i8, hKn8⟩ := u_known (C := RX8) (T := TX8) (N := 7) (n := 7) htg inG8 (htg _ I_X8)
  obtain ⟨c9, i9, hKn9⟩ := u_known (C := RX9) (T := TX9) (N := 2) (n := 2) htg inG9 (htg _ I_X9)
  obtain ⟨c10, i10, hKn10⟩ := u_known (C := RX10) (T := TX10) (N := 2) (n := 2) htg inG10 (htg _ I_X10)
  obtain ⟨c11, i11, hKn11⟩ := u_known (C := RX11) (T := TX11) (N := 11) (n := 11) htg inG11 (htg _ I_X11)
  obtain ⟨c12, i12, hKn12⟩ := u_known (C := RX12) (T := TX12) (N := 61) (n := 61) htg inG12 (htg _ I_X12)
  obtain ⟨aI, kI, mI, I1, I2, I3⟩ := Cond.arrayClass_spec (htg _ R_arr_int)
  obtain ⟨aJ, kJ, mJ, J1, J2, J3⟩ := Cond.arrayClass_spec (htg _ R_arr_long)
  obtain ⟨aZ, kZ, mZ, Z1, Z2, Z3⟩ := Cond.arrayClass_spec (htg _ R_arr_boolean)
  obtain ⟨aB, kB, mB, B1, B2, B3⟩ := Cond.arrayClass_spec (htg _ R_arr_byte)
  obtain ⟨mT, aT, kT, T1, T2, T3, T4, T5⟩ := Cond.arrayOver_spec (hts _ tb_l.2.2.2.2)
  refine ⟨(asg c0 [(0, c0), (1, c1), (2, c2), (3, c3), (4, c4), (5, c5), (6, c6), (7, c7), (8, c8), (9, c9), (10, c10), (11, c11), (12, c12)], asg i0 [(0, i0), (1, i1), (2, i2), (3, i3), (4, i4), (5, i5), (6, i6), (7, i7), (8, i8), (9, i9), (10, i10), (11, i11), (12, i12)]), asg aI [(0, aI), (1, aJ), (2, aZ), (3, aB), (4, aT)], fun k q hq => ?_, fun k q hq => ?_⟩
  · match k, hq with
    | 0, hq => cases hq; exact hKn0
    | 1, hq => cases hq; exact hKn1
    | 2, hq => cases hq; exact hKn2
    | 3, hq => cases hq; exact hKn3
    | 4, hq => cases hq; exact hKn4
    | 5, hq => cases hq; exact hKn5
    | 6, hq => cases hq; exact hKn6
    | 7, hq => cases hq; exact hKn7
    | 8, hq => cases hq; exact hKn8
    | 9, hq => cases hq; exact hKn9
    | 10, hq => cases hq; exact hKn10
    | 11, hq => cases hq; exact hKn11
    | 12, hq => cases hq; exact hKn12
    | k + 13, hq => simp [classes] at hq
  · match k, hq with
    | 0, hq => cases hq; exact ⟨fun n z => ⟨fun k h => (by cases h), kI, I2, mI, I3⟩, I1⟩
    | 1, hq => cases hq; exact ⟨fun n z => ⟨fun k h => (by cases h), kJ, J2, mJ, J3⟩, J1⟩
    | 2, hq => cases hq; exact ⟨fun n z => ⟨fun k h => (by cases h), kZ, Z2, mZ, Z3⟩, Z1⟩
    | 3, hq => cases hq; exact ⟨fun n z => ⟨fun k h => (by cases h), kB, B2, mB, B3⟩, B1⟩
    | 4, hq => cases hq; exact ⟨fun n z => ⟨fun k h => (by cases h), kT, T3, mT, T4⟩, kT, mT, T3, T4, T1, T5⟩
    | k + 5, hq => simp [tysL] at hq
def rmCell : Room := { frames := 0, cells := 0, slots := 0, locals := 0 }
theorem ctCell {V : Vx} {g : Nat → Nat} {b L : Nat} {xs : Nat → Int32} (hE : EnvL V g b L xs) (hL : L ≤ 3073) : Ct V yL_cell (.code yL_cell cL_cell 2 (some .int)) rmCell 0 0 [.ref b, .int 0] [] (rEq (some (.int (if L = 0 then 0 else xs 0))) []) := by
  refine Ct_of (by decide) (Nat.le_of_ble_eq_true rfl) rfl (fun X hX hT _ hF => ?_)
  refine a_iload_n hX dL_cell_0 rfl 1 rfl rfl ?_
  refine a_aload_n hX dL_cell_1 rfl 0 rfl rfl ?_
  refine a_slenX hX hE dL_cell_2 rfl ?_
  by_cases h : L = 0
  · have h2 : nI L ≤ 0 := by rw [h]; decide
    refine a_icmp_ge (tgt := 12) (ft := some ()) (ff := none) (r := some ()) hX dL_cell_3 rfl rfl (if_pos h2) (fun _ => ?_) (fun h => by cases h)
    refine a_iconst (v := 0) hX dL_cell_12 (by decide) rfl ?_
    exact a_iret hX hT hF ⟨by rw [if_pos h], rfl⟩ dL_cell_13
  · have h2 : ¬ nI L ≤ 0 := nI_nle (by omega) (by omega)
    refine a_icmp_ge (tgt := 12) (ft := none) (ff := some ()) (r := some ()) hX dL_cell_3 rfl rfl (if_neg h2) (fun h => by cases h) (fun _ => ?_)
    refine a_aload_n hX dL_cell_6 rfl 0 rfl rfl ?_
    refine a_iload_n hX dL_cell_7 rfl 1 rfl rfl ?_
    refine a_sld hX hE (by have := vp_in_nI (n := 0) (N := L) (by omega) (by omega); exact this) dL_cell_8 rfl ?_
    refine a_goto (pc' := 13) hX dL_cell_9 rfl ?_
    exact a_iret hX hT hF ⟨by rw [if_neg h]; rfl, rfl⟩ dL_cell_13
theorem ins_of {L i : Nat} (hL : L ≤ 3073) (h : 1 + 6 * i + 6 ≤ L) : Ins (nI (1 + 6 * i)) L := by
  have e : ∀ c : Nat, nI (1 + 6 * i) + nI c = nI (1 + 6 * i + c) := fun c => nI_add _ _
  refine ⟨vp_in_nI (by omega) (by omega), ?_, ?_, ?_, ?_, ?_⟩
  · have := e 1; rw [show (nI 1) = 1 from rfl] at this; rw [this]; exact vp_in_nI (by omega) (by omega)
  · have := e 2; rw [show (nI 2) = 2 from rfl] at this; rw [this]; exact vp_in_nI (by omega) (by omega)
  · have := e 3; rw [show (nI 3) = 3 from rfl] at this; rw [this]; exact vp_in_nI (by omega) (by omega)
  · have := e 4; rw [show (nI 4) = 4 from rfl] at this; rw [this]; exact vp_in_nI (by omega) (by omega)
  · have := e 5; rw [show (nI 5) = 5 from rfl] at this; rw [this]; exact vp_in_nI (by omega) (by omega)
theorem more_of {L j : Nat} (hL : L ≤ 3073) (hj : j < 4000) (h : ¬ nI L - 6 < nI j) : j + 6 ≤ L := by
  have h1 : (nI L - nI 6).toInt = (L : Int) - 6 := pk_sub_toInt (by omega) (by omega)
  rw [show (6 : Int32) = nI 6 from rfl, Int32.lt_iff_toInt_lt, h1, nI_toInt (by omega)] at h
  omega
theorem law_loop {Rel : List Tx → St → St → Prop} (TA : TAll Rel) {X : Cx} {V : Vx} {g : Nat → Nat} {b L : Nat} {xs : Nat → Int32} (hX : OK X code 4 RL room_1 V) (hE : EnvL V g b L xs) (hL : L ≤ 3073) {qM : Nat → Nat} {aC : Nat} (hend : ∀ (k n : Nat) (w : va_W) (lv : List (Nat × Value)), k ≤ 600000 → n ≤ 7302250 → At X 4 k n w 1517 lv []) :
    ∀ (f i : Nat) (qC : Nat → Nat) (ts : List Tx) (uC uM : St), Rel ts uC uM → qC 11 = aC → i ≤ 520 → L < 7 + 6 * i + 6 * f → At X 4 (79 + 2 * i) (10035 + 162 * i) (wC V qC ts uC ++ wM V qM uM) 28 [(0, .ref b), (1, .ref aC), (2, .ref (qM 0)), (3, .int (nI (1 + 6 * i)))] [] := by
  intro f
  induction f with
  | zero =>
    intro i qC ts uC uM hR hq hi hf
    refine a_iload_n hX dL_law_28 rfl 3 rfl rfl ?_
    refine a_aload_n hX dL_law_29 rfl 0 rfl rfl ?_
    refine a_slenX hX hE dL_law_30 rfl ?_
    refine a_bipush (v := 6) hX dL_law_31 (by decide) rfl ?_
    refine a_isub hX dL_law_33 rfl ?_
    by_cases hc : nI L - 6 < nI (1 + 6 * i)
    · refine a_icmp_gt (tgt := 1517) (ft := some ()) (ff := none) (r := some ()) hX dL_law_34 rfl rfl (if_pos hc) (fun _ => ?_) (fun h => by cases h)
      exact hend _ _ _ _ (by omega) (by omega)
    · have := more_of hL (by omega) hc
      omega
  | succ f ih0 =>
    intro i qC ts uC uM hR hq hi hf
    refine a_iload_n hX dL_law_28 rfl 3 rfl rfl ?_
    refine a_aload_n hX dL_law_29 rfl 0 rfl rfl ?_
    refine a_slenX hX hE dL_law_30 rfl ?_
    refine a_bipush (v := 6) hX dL_law_31 (by decide) rfl ?_
    refine a_isub hX dL_law_33 rfl ?_
    by_cases hc : nI L - 6 < nI (1 + 6 * i)
    · refine a_icmp_gt (tgt := 1517) (ft := some ()) (ff := none) (r := some ()) hX dL_law_34 rfl rfl (if_pos hc) (fun _ => ?_) (fun h => by cases h)
      exact hend _ _ _ _ (by omega) (by omega)
    · have hmore := more_of hL (by omega) hc
      have hin := ins_of hL hmore
      have ih : ∀ (q' : Nat → Nat) (ts' : List Tx) (uC' uM' : St), Rel ts' uC' uM' → q' 11 = qC 11 → At X 4 (79 + 2 * i + 2) (10035 + 162 * i + 162) (wC V q' ts' uC' ++ wM V qM uM') 1511 [(0, .ref b), (1, .ref (qC 11)), (2, .ref (qM 0)), (3, .int (nI (1 + 6 * i)))] [] := by
        intro q' ts' uC' uM' hR' hq'
        refine a_iinc (v := nI (1 + 6 * (i + 1))) (lv' := [(3, .int (nI (1 + 6 * (i + 1)))), (0, .ref b), (1, .ref (qC 11)), (2, .ref (qM 0))]) hX dL_law_1511 3 rfl ?_ (by decide) rfl rfl ?_
        · show nI (1 + 6 * i) + nI 6 = _
          rw [nI_add, show 1 + 6 * i + 6 = 1 + 6 * (i + 1) by omega]
        refine a_goto (pc' := 28) hX dL_law_1514 rfl ?_
        refine a_lv (lv' := [(0, .ref b), (1, .ref (qC 11)), (2, .ref (qM 0)), (3, .int (nI (1 + 6 * (i + 1))))]) [1, 2, 3, 0] rfl ?_
        have := ih0 (i + 1) q' ts' uC' uM' hR' (hq'.trans hq) (by omega) (by omega)
        rw [← hq] at this
        rw [show 79 + 2 * i + 2 = 79 + 2 * (i + 1) by omega, show 10035 + 162 * i + 162 = 10035 + 162 * (i + 1) by omega]
        exact this
      have hkk : 79 + 2 * i + 2 ≤ 600000 ∧ 10035 + 162 * i + 162 ≤ 7302250 := ⟨by omega, by omega⟩
      rw [← hq]
      refine a_icmp_gt (tgt := 1517) (ft := none) (ff := some ()) (r := some ()) hX dL_law_34 rfl rfl (if_neg hc) (fun h => by cases h) (fun _ => ?_)
      refine a_aload_n hX dL_law_37 rfl 0 rfl rfl ?_
      refine a_iload_n hX dL_law_38 rfl 3 rfl rfl ?_
      refine a_sld hX hE hin.1 dL_law_39 rfl ?_
      refine a_bipush (v := 63) hX dL_law_40 (by decide) rfl ?_
      refine a_iand hX dL_law_42 rfl ?_
      generalize xs (Int32.toNatClampNeg (nI (1 + 6 * i))) &&& 63 = x
      by_cases hs0 : x = 0
      · refine a_tsw (pc' := 208) hX dL_law_43 0 hs0 (by decide) (by decide) rfl rfl ?_
        exact lc_0 TA hX hE hR hin hkk ih
      by_cases hs1 : x = 1
      · refine a_tsw (pc' := 261) hX dL_law_43 1 hs1 (by decide) (by decide) rfl rfl ?_
        exact lc_1 TA hX hE hR hin hkk ih
      by_cases hs2 : x = 2
      · refine a_tsw (pc' := 284) hX dL_law_43 2 hs2 (by decide) (by decide) rfl rfl ?_
        exact lc_2 TA hX hE hR hin hkk ih
      by_cases hs3 : x = 3
      · refine a_tsw (pc' := 347) hX dL_law_43 3 hs3 (by decide) (by decide) rfl rfl ?_
        exact lc_3 TA hX hE hR hin hkk ih
      by_cases hs4 : x = 4
      · refine a_tsw (pc' := 380) hX dL_law_43 4 hs4 (by decide) (by decide) rfl rfl ?_
        exact lc_4 TA hX hE hR hin hkk ih
      by_cases hs5 : x = 5
      · refine a_tsw (pc' := 423) hX dL_law_43 5 hs5 (by decide) (by decide) rfl rfl ?_
        exact lc_5 TA hX hE hR hin hkk ih
      by_cases hs6 : x = 6
      · refine a_tsw (pc' := 456) hX dL_law_43 6 hs6 (by decide) (by decide) rfl rfl ?_
        exact lc_6 TA hX hE hR hin hkk ih
      by_cases hs7 : x = 7
      · refine a_tsw (pc' := 479) hX dL_law_43 7 hs7 (by decide) (by decide) rfl rfl ?_
        exact lc_7 TA hX hE hR hin hkk ih
      by_cases hs8 : x = 8
      · refine a_tsw (pc' := 493) hX dL_law_43 8 hs8 (by decide) (by decide) rfl rfl ?_
        exact lc_8 TA hX hE hR hin hkk ih
      by_cases hs9 : x = 9
      · refine a_tsw (pc' := 527) hX dL_law_43 9 hs9 (by decide) (by decide) rfl rfl ?_
        exact lc_9 TA hX hE hR hin hkk ih
      by_cases hs10 : x = 10
      · refine a_tsw (pc' := 581) hX dL_law_43 10 hs10 (by decide) (by decide) rfl rfl ?_
        exact lc_10 TA hX hE hR hin hkk ih
      by_cases hs11 : x = 11
      · refine a_tsw (pc' := 614) hX dL_law_43 11 hs11 (by decide) (by decide) rfl rfl ?_
        exact lc_11 TA hX hE hR hin hkk ih
      by_cases hs12 : x = 12
      · refine a_tsw (pc' := 677) hX dL_law_43 12 hs12 (by decide) (by decide) rfl rfl ?_
        exact lc_12 TA hX hE hR hin hkk ih
      by_cases hs13 : x = 13
      · refine a_tsw (pc' := 690) hX dL_law_43 13 hs13 (by decide) (by decide) rfl rfl ?_
        exact lc_13 TA hX hE hR hin hkk ih
      by_cases hs14 : x = 14
      · refine a_tsw (pc' := 733) hX dL_law_43 14 hs14 (by decide) (by decide) rfl rfl ?_
        exact lc_14 TA hX hE hR hin hkk ih
      by_cases hs15 : x = 15
      · refine a_tsw (pc' := 766) hX dL_law_43 15 hs15 (by decide) (by decide) rfl rfl ?_
        exact lc_15 TA hX hE hR hin hkk ih
      by_cases hs16 : x = 16
      · refine a_tsw (pc' := 820) hX dL_law_43 16 hs16 (by decide) (by decide) rfl rfl ?_
        exact lc_16 TA hX hE hR hin hkk ih
      by_cases hs17 : x = 17
      · refine a_tsw (pc' := 844) hX dL_law_43 17 hs17 (by decide) (by decide) rfl rfl ?_
        exact lc_17 TA hX hE hR hin hkk ih
      by_cases hs18 : x = 18
      · refine a_tsw (pc' := 868) hX dL_law_43 18 hs18 (by decide) (by decide) rfl rfl ?_
        exact lc_18 TA hX hE hR hin hkk ih
      by_cases hs19 : x = 19
      · refine a_tsw (pc' := 881) hX dL_law_43 19 hs19 (by decide) (by decide) rfl rfl ?_
        exact lc_19 TA hX hE hR hin hkk ih
      by_cases hs20 : x = 20
      · refine a_tsw (pc' := 915) hX dL_law_43 20 hs20 (by decide) (by decide) rfl rfl ?_
        exact lc_20 TA hX hE hR hin hkk ih
      by_cases hs21 : x = 21
      · refine a_tsw (pc' := 938) hX dL_law_43 21 hs21 (by decide) (by decide) rfl rfl ?_
        exact lc_21 TA hX hE hR hin hkk ih
      by_cases hs22 : x = 22
      · refine a_tsw (pc' := 972) hX dL_law_43 22 hs22 (by decide) (by decide) rfl rfl ?_
        exact lc_22 TA hX hE hR hin hkk ih
      by_cases hs23 : x = 23
      · refine a_tsw (pc' := 985) hX dL_law_43 23 hs23 (by decide) (by decide) rfl rfl ?_
        exact lc_23 TA hX hE hR hin hkk ih
      by_cases hs24 : x = 24
      · refine a_tsw (pc' := 1019) hX dL_law_43 24 hs24 (by decide) (by decide) rfl rfl ?_
        exact lc_24 TA hX hE hR hin hkk ih
      by_cases hs25 : x = 25
      · refine a_tsw (pc' := 1032) hX dL_law_43 25 hs25 (by decide) (by decide) rfl rfl ?_
        exact lc_25 TA hX hE hR hin hkk ih
      by_cases hs26 : x = 26
      · refine a_tsw (pc' := 1065) hX dL_law_43 26 hs26 (by decide) (by decide) rfl rfl ?_
        exact lc_26 TA hX hE hR hin hkk ih
      by_cases hs27 : x = 27
      · refine a_tsw (pc' := 1098) hX dL_law_43 27 hs27 (by decide) (by decide) rfl rfl ?_
        exact lc_27 TA hX hE hR hin hkk ih
      by_cases hs28 : x = 28
      · refine a_tsw (pc' := 1131) hX dL_law_43 28 hs28 (by decide) (by decide) rfl rfl ?_
        exact lc_28 TA hX hE hR hin hkk ih
      by_cases hs29 : x = 29
      · refine a_tsw (pc' := 1154) hX dL_law_43 29 hs29 (by decide) (by decide) rfl rfl ?_
        exact lc_29 TA hX hE hR hin hkk ih
      by_cases hs30 : x = 30
      · refine a_tsw (pc' := 1187) hX dL_law_43 30 hs30 (by decide) (by decide) rfl rfl ?_
        exact lc_30 TA hX hE hR hin hkk ih
      by_cases hs31 : x = 31
      · refine a_tsw (pc' := 1230) hX dL_law_43 31 hs31 (by decide) (by decide) rfl rfl ?_
        exact lc_31 TA hX hE hR hin hkk ih
      by_cases hs32 : x = 32
      · refine a_tsw (pc' := 1253) hX dL_law_43 32 hs32 (by decide) (by decide) rfl rfl ?_
        exact lc_32 TA hX hE hR hin hkk ih
      by_cases hs33 : x = 33
      · refine a_tsw (pc' := 1276) hX dL_law_43 33 hs33 (by decide) (by decide) rfl rfl ?_
        exact lc_33 TA hX hE hR hin hkk ih
      by_cases hs34 : x = 34
      · refine a_tsw (pc' := 1319) hX dL_law_43 34 hs34 (by decide) (by decide) rfl rfl ?_
        exact lc_34 TA hX hE hR hin hkk ih
      by_cases hs35 : x = 35
      · refine a_tsw (pc' := 1362) hX dL_law_43 35 hs35 (by decide) (by decide) rfl rfl ?_
        exact lc_35 TA hX hE hR hin hkk ih
      by_cases hs36 : x = 36
      · refine a_tsw (pc' := 1425) hX dL_law_43 36 hs36 (by decide) (by decide) rfl rfl ?_
        exact lc_36 TA hX hE hR hin hkk ih
      by_cases hs37 : x = 37
      · refine a_tsw (pc' := 1478) hX dL_law_43 37 hs37 (by decide) (by decide) rfl rfl ?_
        exact lc_37 TA hX hE hR hin hkk ih
      have hs0 : ¬ Int32.toInt x = 0 := ne_toInt hs0
      have hs1 : ¬ Int32.toInt x = 1 := ne_toInt hs1
      have hs2 : ¬ Int32.toInt x = 2 := ne_toInt hs2
      have hs3 : ¬ Int32.toInt x = 3 := ne_toInt hs3
      have hs4 : ¬ Int32.toInt x = 4 := ne_toInt hs4
      have hs5 : ¬ Int32.toInt x = 5 := ne_toInt hs5
      have hs6 : ¬ Int32.toInt x = 6 := ne_toInt hs6
      have hs7 : ¬ Int32.toInt x = 7 := ne_toInt hs7
      have hs8 : ¬ Int32.toInt x = 8 := ne_toInt hs8
      have hs9 : ¬ Int32.toInt x = 9 := ne_toInt hs9
      have hs10 : ¬ Int32.toInt x = 10 := ne_toInt hs10
      have hs11 : ¬ Int32.toInt x = 11 := ne_toInt hs11
      have hs12 : ¬ Int32.toInt x = 12 := ne_toInt hs12
      have hs13 : ¬ Int32.toInt x = 13 := ne_toInt hs13
      have hs14 : ¬ Int32.toInt x = 14 := ne_toInt hs14
      have hs15 : ¬ Int32.toInt x = 15 := ne_toInt hs15
      have hs16 : ¬ Int32.toInt x = 16 := ne_toInt hs16
      have hs17 : ¬ Int32.toInt x = 17 := ne_toInt hs17
      have hs18 : ¬ Int32.toInt x = 18 := ne_toInt hs18
      have hs19 : ¬ Int32.toInt x = 19 := ne_toInt hs19
      have hs20 : ¬ Int32.toInt x = 20 := ne_toInt hs20
      have hs21 : ¬ Int32.toInt x = 21 := ne_toInt hs21
      have hs22 : ¬ Int32.toInt x = 22 := ne_toInt hs22
      have hs23 : ¬ Int32.toInt x = 23 := ne_toInt hs23
      have hs24 : ¬ Int32.toInt x = 24 := ne_toInt hs24
      have hs25 : ¬ Int32.toInt x = 25 := ne_toInt hs25
      have hs26 : ¬ Int32.toInt x = 26 := ne_toInt hs26
      have hs27 : ¬ Int32.toInt x = 27 := ne_toInt hs27
      have hs28 : ¬ Int32.toInt x = 28 := ne_toInt hs28
      have hs29 : ¬ Int32.toInt x = 29 := ne_toInt hs29
      have hs30 : ¬ Int32.toInt x = 30 := ne_toInt hs30
      have hs31 : ¬ Int32.toInt x = 31 := ne_toInt hs31
      have hs32 : ¬ Int32.toInt x = 32 := ne_toInt hs32
      have hs33 : ¬ Int32.toInt x = 33 := ne_toInt hs33
      have hs34 : ¬ Int32.toInt x = 34 := ne_toInt hs34
      have hs35 : ¬ Int32.toInt x = 35 := ne_toInt hs35
      have hs36 : ¬ Int32.toInt x = 36 := ne_toInt hs36
      have hs37 : ¬ Int32.toInt x = 37 := ne_toInt hs37
      refine a_tswO (pc' := 1511) hX dL_law_43 (by omega) rfl ?_
      refine a_wid (k2 := 79 + 2 * i + 2) (n2 := 10035 + 162 * i + 162) (by omega) (by omega) ?_
      exact ih qC ts uC uM hR rfl
theorem whole_go {Rel : List Tx → St → St → Prop} (TA : TAll Rel) {p : Program} {e : Env} {s : State} {m : MethodId} {below : List Frame} {meth : Method} {c : Code} (l : Launch) {b L : Nat} {xs : Nat → Int32} (hL : L ≤ 3073) (C0 : lw_At p s m meth c b L xs) : W p l e room_1 s m #[Value.ref b] below meth c s.heap [] 0 0 (lw_Z below #[Value.ref b] s) (entryFrame m ([Value.ref b] : List Value).toArray 4) := by
  obtain ⟨hx, hb, hr, hml, hown, hts, hX0, hbl, hlocks, hgv⟩ := id C0
  obtain ⟨g, hZ⟩ := lw_env hts hgv hX0 hbl
  obtain ⟨D, cc, hK⟩ := lw_K hts
  have hE : EnvL (l, D, cc, ZL g b L xs) g b L xs := ⟨ZL_ok g b L xs, fun A U h => h⟩
  generalize hV : ((l, D, cc, ZL g b L xs) : Vx) = V at hE
  have hX : OK (p, l, e, room_1, s, m, #[Value.ref b], below, meth, c, D, (fun q => s.heap.size ≤ q), lw_Z below #[Value.ref b] s) code 4 RL room_1 V := by
    rw [← hV]
    exact ⟨hx, hb, hml, hown, fun w h => hts w (g_lw h), hK, fun _ h => h, hlocks, hZ, rfl, rfl, rfl⟩
  have hend : ∀ (k n : Nat) (w : va_W) (lv : List (Nat × Value)), k ≤ 600000 → n ≤ 7302250 → At (p, l, e, room_1, s, m, #[Value.ref b], below, meth, c, D, (fun q => s.heap.size ≤ q), lw_Z below #[Value.ref b] s) 4 k n w 1517 lv [] := by
    intro k n w lv hk hn H locs ls hP hD hS hl
    refine lv_iconst (v := 1) hx hb dL_law_1517 (by decide) ?_
    refine va_forget (fun q hq => hS.2.2 q hq) ?_
    refine W.widen (k := 600000) (n := 7302250) hk hn ?_
    exact lw_ret hx hb hr hlocks dL_law_1518
  have hl := lv_entry ([.ref b]) (n := 4) (Nat.le_of_ble_eq_true rfl)
  rw [lg_entry_eq]
  have key : At (p, l, e, room_1, s, m, #[Value.ref b], below, meth, c, D, (fun q => s.heap.size ≤ q), lw_Z below #[Value.ref b] s) 4 0 0 [] 0 [(0, .ref b)] [] := by
    generalize ((p, l, e, room_1, s, m, #[Value.ref b], below, meth, c, D, (fun q => s.heap.size ≤ q), lw_Z below #[Value.ref b] s) : Cx) = X at hX hend
    obtain ⟨r0, res, h0, h1, hR⟩ := tA_init TA (if L = 0 then 0 else xs 0)
    refine a_new (ci := 11) (fs := [.int 0, .null, .null, .null, .null, .null, .null, .null, .null, .null, .null]) hX inG11 tyX11_ok B_L_7 I_X11 J_X11 rfl (fun j hj => match j, hj with | 0, _ => rfl | 1, _ => rfl | 2, _ => rfl | 3, _ => rfl | 4, _ => rfl | 5, _ => rfl | 6, _ => rfl | 7, _ => rfl | 8, _ => rfl | 9, _ => rfl | 10, _ => rfl | _ + 11, h => absurd h (by omega)) ⟨by decide, by decide⟩ dL_law_0 rfl (fun aC => ?_)
    refine a_dup hX dL_law_3 rfl rfl ?_
    refine a_aload_n hX dL_law_4 rfl 0 rfl rfl ?_
    refine a_iconst (v := 0) hX dL_law_5 (by decide) rfl ?_
    refine a_cSpi (rest := [.ref aC, .ref aC]) hX hE.1 (ctCell hE hL) K_L_9 ⟨rfl, rfl, by decide, by decide⟩ ⟨by decide, by decide⟩ (Nat.le_of_ble_eq_true rfl) dL_law_6 rfl rfl ?_
    refine a_callI (rest := [.ref aC]) hX hE.1 Sub.same (ctX11_new hE.c hE.o aC _ h0) K_L_15 ⟨rfl, rfl, by decide, by decide⟩ ⟨by decide, by decide⟩ (Nat.le_of_ble_eq_true rfl) dL_law_9 rfl rfl (fun rv w' hRt => ?_)
    obtain ⟨rfl, qC, hqC, rfl⟩ := hRt
    refine a_ws (w2 := wC V qC ts0 (u0C (2 + r0))) (st2 := [.ref aC]) rfl rfl ?_
    refine a_astore_n (lv' := [(1, .ref aC), (0, .ref b)]) hX dL_law_12 rfl (by decide) rfl rfl ?_
    refine a_new (ci := 12) (fs := [.int 0, .int 0, .int 0, .int 0, .null, .null, .null, .null, .int 0, .null, .null, .null, .null, .null, .null, .null, .null, .null, .null, .null, .null, .null, .null, .int 0, .null, .int 0, .int 0, .int 0, .int 0, .int 0, .long 0, .int 0, .int 0, .int 0, .int 0, .int 0, .int 0, .int 0, .int 0, .null, .null, .null, .null, .null, .null, .int 0, .null, .int 0, .null, .null, .int 0, .int 0, .null, .int 0, .null, .null, .null, .null, .null, .null, .null]) hX inG12 tyX12_ok B_L_18 I_X12 J_X12 rfl (fun j hj => match j, hj with | 0, _ => rfl | 1, _ => rfl | 2, _ => rfl | 3, _ => rfl | 4, _ => rfl | 5, _ => rfl | 6, _ => rfl | 7, _ => rfl | 8, _ => rfl | 9, _ => rfl | 10, _ => rfl | 11, _ => rfl | 12, _ => rfl | 13, _ => rfl | 14, _ => rfl | 15, _ => rfl | 16, _ => rfl | 17, _ => rfl | 18, _ => rfl | 19, _ => rfl | 20, _ => rfl | 21, _ => rfl | 22, _ => rfl | 23, _ => rfl | 24, _ => rfl | 25, _ => rfl | 26, _ => rfl | 27, _ => rfl | 28, _ => rfl | 29, _ => rfl | 30, _ => rfl | 31, _ => rfl | 32, _ => rfl | 33, _ => rfl | 34, _ => rfl | 35, _ => rfl | 36, _ => rfl | 37, _ => rfl | 38, _ => rfl | 39, _ => rfl | 40, _ => rfl | 41, _ => rfl | 42, _ => rfl | 43, _ => rfl | 44, _ => rfl | 45, _ => rfl | 46, _ => rfl | 47, _ => rfl | 48, _ => rfl | 49, _ => rfl | 50, _ => rfl | 51, _ => rfl | 52, _ => rfl | 53, _ => rfl | 54, _ => rfl | 55, _ => rfl | 56, _ => rfl | 57, _ => rfl | 58, _ => rfl | 59, _ => rfl | 60, _ => rfl | _ + 61, h => absurd h (by omega)) ⟨by decide, by decide⟩ dL_law_13 rfl (fun aM => ?_)
    refine a_dup hX dL_law_16 rfl rfl ?_
    refine a_aload_n hX dL_law_17 rfl 1 rfl rfl ?_
    refine a_iconst (v := 0) hX dL_law_18 (by decide) rfl ?_
    refine a_cSpi (rest := [.ref aM, .ref aM]) hX hE.1 (ctCell hE hL) K_L_9 ⟨rfl, rfl, by decide, by decide⟩ ⟨by decide, by decide⟩ (Nat.le_of_ble_eq_true rfl) dL_law_19 rfl rfl ?_
    refine a_callI (rest := [.ref aM]) hX hE.1 Sub.right (ctX12_new hE.c aM h1) K_L_20 ⟨rfl, rfl, by decide, by decide⟩ ⟨by decide, by decide⟩ (Nat.le_of_ble_eq_true rfl) dL_law_22 rfl rfl (fun rv w' hRt => ?_)
    obtain ⟨rfl, qM, hqM, rfl⟩ := hRt
    refine a_ws (w2 := wC V qC ts0 (u0C (2 + r0)) ++ wM V qM res) (st2 := [.ref aM]) rfl rfl ?_
    refine a_astore_n (lv' := [(2, .ref aM), (1, .ref aC), (0, .ref b)]) hX dL_law_25 rfl (by decide) rfl rfl ?_
    refine a_iconst (v := 1) hX dL_law_26 (by decide) rfl ?_
    refine a_istore_n (lv' := [(3, .int 1), (2, .ref aM), (1, .ref aC), (0, .ref b)]) hX dL_law_27 rfl (by decide) rfl rfl ?_
    refine a_lv (lv' := [(0, .ref b), (1, .ref aC), (2, .ref aM), (3, .int 1)]) [3, 2, 1, 0] rfl ?_
    have := law_loop TA hX hE hL (qM := qM) (aC := aC) hend (L + 1) 0 qC ts0 (u0C (2 + r0)) res hR hqC (by omega) (by omega)
    rw [hqM] at this
    exact this
  exact key s.heap [] _ (fun k q h => by simp at h) ⟨fun i j p q h => by simp at h, fun k q h => by simp at h⟩ va_S.rf hl
