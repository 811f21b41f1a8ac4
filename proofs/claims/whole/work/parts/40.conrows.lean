/-- a function by its list of places -/
def asg {α : Type} (d : α) : List (Nat × α) → Nat → α
  | [], _ => d
  | (k, v) :: l, i => if i = k then v else asg d l i
theorem Sub.right {A : Nat → Prop} {wl wc : va_W} : Sub A (wl ++ wc) wc (fun w1 => wl ++ w1) := by
  have hr : ∀ {w1 w2 : va_W} {k : Nat} {q : Nat × va_E}, w2[k]? = some q → (w1 ++ w2)[w1.length + k]? = some q := by
    intro w1 w2 k q h
    rw [List.getElem?_append_right (by omega), Nat.add_sub_cancel_left]
    exact h
  have hl : ∀ {w1 w2 : va_W} {k : Nat} {q : Nat × va_E}, w1[k]? = some q → (w1 ++ w2)[k]? = some q := by
    intro w1 w2 k q h
    rw [List.getElem?_append_left (List.getElem?_eq_some_iff.mp h).1]
    exact h
  refine ⟨fun D H h k q hk => h _ q (hr hk), fun h => ⟨fun i j p q hi hj e => ?_, fun k q hk => h.2 _ q (hr hk)⟩, fun D w1 H H1 hP hD hF hk hP1 hD1 => ?_⟩
  · have := h.1 _ _ p q (hr hi) (hr hj) e
    omega
  · have apart : ∀ (k : Nat) (q : Nat × va_E), wl[k]? = some q → q.1 < H.size ∧ ¬ va_A wc H.size q.1 := by
      intro k q hq
      have hlt := (hP k q (hl hq)).lt
      refine ⟨hlt, fun h => ?_⟩
      rcases h with ⟨j, e, h⟩ | h
      · have hij := hD.1 _ _ q (q.1, e) (hl hq) (hr h) rfl
        have := (List.getElem?_eq_some_iff.mp hq).1
        omega
      · omega
    refine ⟨va_P.app (fun k q hq => (hP k q (hl hq)).kept (hk q.1 (apart k q hq).1 (apart k q hq).2)) hP1, va_D.app ⟨fun i j p q hi hj e => hD.1 i j p q (hl hi) (hl hj) e, fun k q hq => hD.2 k q (hl hq)⟩ (hD1.weaken (fun k q _ h => hF q.1 h)) (fun i j x y hx hy hxy => (apart i x hx).2 (by rw [hxy]; exact hD1.2 j y hy))⟩
theorem Sub.left {A : Nat → Prop} {wc wr : va_W} : Sub A (wc ++ wr) wc (fun w1 => w1 ++ wr) := by
  have hr : ∀ {w1 w2 : va_W} {k : Nat} {q : Nat × va_E}, w2[k]? = some q → (w1 ++ w2)[w1.length + k]? = some q := by
    intro w1 w2 k q h
    rw [List.getElem?_append_right (by omega), Nat.add_sub_cancel_left]
    exact h
  have hl : ∀ {w1 w2 : va_W} {k : Nat} {q : Nat × va_E}, w1[k]? = some q → (w1 ++ w2)[k]? = some q := by
    intro w1 w2 k q h
    rw [List.getElem?_append_left (List.getElem?_eq_some_iff.mp h).1]
    exact h
  refine ⟨fun D H h k q hk => h _ q (hl hk), fun h => ⟨fun i j p q hi hj e => h.1 i j p q (hl hi) (hl hj) e, fun k q hk => h.2 _ q (hl hk)⟩, fun D w1 H H1 hP hD hF hk hP1 hD1 => ?_⟩
  have apart : ∀ (k : Nat) (q : Nat × va_E), wr[k]? = some q → q.1 < H.size ∧ ¬ va_A wc H.size q.1 := by
    intro k q hq
    have hlt := (hP _ q (hr hq)).lt
    refine ⟨hlt, fun h => ?_⟩
    rcases h with ⟨j, e, h⟩ | h
    · have hij := hD.1 _ _ q (q.1, e) (hr hq) (hl h) rfl
      have := (List.getElem?_eq_some_iff.mp h).1
      omega
    · omega
  refine ⟨va_P.app hP1 (fun k q hq => (hP _ q (hr hq)).kept (hk q.1 (apart k q hq).1 (apart k q hq).2)), va_D.app (hD1.weaken (fun k q _ h => hF q.1 h)) ⟨fun i j p q hi hj e => ?_, fun k q hq => hD.2 _ q (hr hq)⟩ (fun i j x y hx hy hxy => (apart j y hy).2 (by rw [← hxy]; exact hD1.2 i x hx))⟩
  have := hD.1 _ _ p q (hr hi) (hr hj) e
  omega
theorem Ct_ofF {V : Vx} {y : MethodName} {cc : ByteArray} {maxL : Nat} {ret : Option FieldType} {rm : Room} {mc ms : Nat} {avs : List Value} {w : va_W} {Rt : Option Value → va_W → Prop} {lv : List (Nat × Value)} (hy : plainFor y = true) (hn : (lg_sl avs).length ≤ maxL) (hlv : lv_args 0 avs = lv)
    (body : ∀ X : Cx, OK X cc maxL y.cls rm V → (cT X).sig.returnType = ret → (cT X).name = y.name → Ende X mc ms Rt → At X maxL 0 0 w 0 lv []) : Ct V y (.code y cc maxL ret) rm mc ms avs w Rt := by
  intro sz
  refine va_MetF (cc := cc) (maxL := maxL) (ret := ret) hy rfl ?_
  intro p e s m args below meth c s₁ B hml hv
  obtain ⟨rfl, hsz, hP, hK, hD0, hZ⟩ := hv
  have hts := atoms_spec (ws := Cond.code y cc maxL ret :: gtbl) B.pre
  have hown : s.vm.findClass y.cls = some m.cls := findClass_of_methodNamed B.named
  subst hsz
  have hD := hD0.self (sz := s.heap.size)
  have hl := lv_entry avs (n := maxL) hn
  rw [hlv] at hl
  rw [lg_entry_eq]
  exact body (p, vL V, e, (headSpec (Cond.code y cc maxL ret :: gtbl) rm).room, s, m, avs.toArray, below, meth, c, vD V, va_A w s.heap.size, MQ below (c_Qc V s.heap.size w Rt) avs.toArray s mc ms (va_A w s.heap.size))
    ⟨B.exec, B.bytes, hml, hown, fun w hw => hts w (List.mem_cons_of_mem _ hw), hK, fun q h => Or.inr h, B.notSynchronized, hZ, rfl, rfl, rfl⟩ B.returns (name_of_methodNamed B.named B.method).1
    ⟨c_Qc V s.heap.size w Rt, va_A w s.heap.size, rfl, fun _ h => h, fun rv w' H locs hR hP hD hS t ht hW => ⟨⟨rv, w', rfl, hR, by rw [ht]; exact hP, hD⟩, hS.F ht⟩⟩ _ _ _ hP hD va_S.rf hl
section ConRows
variable {X : Cx} {cc : ByteArray} {nL k n : Nat} {own : String} {R : Room} {V : Vx} {w w2 wl wc w1 : va_W} {jn : va_W → va_W} {pc pc' idx : Nat} {lv : List (Nat × Value)} {st : List Value} {ρ : Type} {a : Nat}
theorem a_perm (is : List Nat) (hn : va_nd is = true) (hs : is.map (fun i => w[i]?) = w2.map some) (kk : At X nL k n w2 pc lv st) : At X nL k n w pc lv st := by
  intro H locs ls hP hD hS hl
  refine kk H locs ls (hP.sub is ?_) (hD.sub is hn hs) hS hl
  have := congrArg (fun l => l.filterMap id) hs
  simpa [List.filterMap_map, Function.comp_def] using this
theorem a_wid {k2 n2 : Nat} (h1 : k ≤ k2) (h2 : n ≤ n2) (kk : At X nL k2 n2 w pc lv st) : At X nL k n w pc lv st := fun H locs ls hP hD hS hl => W.widen h1 h2 (kk H locs ls hP hD hS hl)
theorem a_objI (hX : OK X cc nL own R V) (hk : Cond.methodLink own idx objectInit ∈ gtbl) (hfr : 1 ≤ R.frames) (hlo : (st.map fun v => v.category).sum + 12 ≤ R.locals) (d : decode cc pc = .ok (.invokespecial idx, 3)) (hp : pc + 3 = pc') (kk : At X nL k n w pc' lv st) : At X nL k n w pc lv (.ref a :: st) := by
  subst hp
  intro H locs ls hP hD hS hl
  have hR0 : cR X = R := hX.2.2.2.2.2.2.2.2.2.1
  refine W.objInit hX.1 hX.2.1 hX.2.2.2.1 (hX.2.2.2.2.1 _ hk) (hX.2.2.2.2.1 _ Im_obj) (hX.2.2.2.2.1 _ Cd_obj) rfl (hl.1.trans hX.2.2.1.symm) rfl d (by rw [hR0]; exact hfr) (by rw [hR0]; show 2 * 0 + _ + 12 ≤ _; omega) (kk H locs ls hP hD hS hl)
theorem a_new {C : String} {T : u_T} {N ci : Nat} {fs : List Value} {ty : Nat → FieldType} (hX : OK X cc nL own R V) (hin : ∀ w ∈ u_ws C T N, w ∈ gtbl) (hty : ∀ k, k < N → parseFieldDescriptor (T k).2.2.1 = some (ty k)) (hcl : Cond.classLink own idx C ∈ gtbl) (hins : Cond.instantiable C N ∈ gtbl) (hini : Cond.initialized C ∈ gtbl) (hc : classes[ci]? = some (C, T, N)) (hfs : ∀ j, j < N → defaultValue (ty j) = vp_V fs j) (hcs : k + 1 ≤ R.cells ∧ n + N ≤ R.slots) (d : decode cc pc = .ok (.new idx, 3)) (hp : pc + 3 = pc') (kk : ∀ a, At X nL (k + 1) (n + N) (w ++ [(a, .inr (ci, fs))]) pc' lv (.ref a :: st)) : At X nL k n w pc lv st := by
  subst hp
  intro H locs ls hP hD hS hl
  have hR0 : cR X = R := hX.2.2.2.2.2.2.2.2.2.1
  exact va_new hX.1 hX.2.1 hX.2.2.2.2.1 hin ty hty hX.2.2.2.1 (hX.2.2.2.2.1 _ hcl) (hX.2.2.2.2.1 _ hins) (hX.2.2.2.2.1 _ hini) hX.2.2.2.2.2.1 hP hD hS hX.2.2.2.2.2.2.1 hc hfs (by rw [hR0]; exact hcs.1) (by rw [hR0]; exact hcs.2) d (fun q H1 hP hD hS => kk q H1 locs ls hP hD hS hl)
theorem a_newa_int {m : Int32} {N : Nat} (hX : OK X cc nL own R V) (hn : ¬ m < 0) (hN : m.toNatClampNeg = N) (hby : N * componentBytes .int ≤ 536870912) (hcs : k + 1 ≤ R.cells ∧ n + N ≤ R.slots) (d : decode cc pc = .ok (.newarray .int, 2)) (hp : pc + 2 = pc') (kk : ∀ a, At X nL (k + 1) (n + N) (w ++ [(a, .inl (vc V 0, N, .inl (fun _ => 0)))]) pc' lv (.ref a :: st)) : At X nL k n w pc lv (.int m :: st) := by
  subst hp
  intro H locs ls hP hD hS hl
  have hR0 : cR X = R := hX.2.2.2.2.2.2.2.2.2.1
  refine va_newa (atype := .int) (ty := .int) (a0 := (N, .inl (fun _ => 0))) hX.1 hX.2.1 (hX.2.2.2.2.1 _ R_arr_int) rfl hX.2.2.2.2.2.1 hP hD hS hX.2.2.2.2.2.2.1 (fun cA => rfl) hn hN hby (by rw [hR0]; exact hcs.1) (by rw [hR0]; exact hcs.2) d (fun q cA H1 hK hP hD hS => ?_)
  have h1 := (hK.2 0 _ rfl).2
  have h2 := (hK.2 5 _ rfl).2
  have e : cA = vc V 0 := Option.some.inj (h2.symm.trans h1)
  subst e
  exact kk q H1 locs ls hP hD hS hl
theorem a_newa_long {m : Int32} {N : Nat} (hX : OK X cc nL own R V) (hn : ¬ m < 0) (hN : m.toNatClampNeg = N) (hby : N * componentBytes .long ≤ 536870912) (hcs : k + 1 ≤ R.cells ∧ n + N ≤ R.slots) (d : decode cc pc = .ok (.newarray .long, 2)) (hp : pc + 2 = pc') (kk : ∀ a, At X nL (k + 1) (n + N) (w ++ [(a, .inl (vc V 1, N, .inr (.inl (fun _ => 0))))]) pc' lv (.ref a :: st)) : At X nL k n w pc lv (.int m :: st) := by
  subst hp
  intro H locs ls hP hD hS hl
  have hR0 : cR X = R := hX.2.2.2.2.2.2.2.2.2.1
  refine va_newa (atype := .long) (ty := .long) (a0 := (N, .inr (.inl (fun _ => 0)))) hX.1 hX.2.1 (hX.2.2.2.2.1 _ R_arr_long) rfl hX.2.2.2.2.2.1 hP hD hS hX.2.2.2.2.2.2.1 (fun cA => rfl) hn hN hby (by rw [hR0]; exact hcs.1) (by rw [hR0]; exact hcs.2) d (fun q cA H1 hK hP hD hS => ?_)
  have h1 := (hK.2 1 _ rfl).2
  have h2 := (hK.2 5 _ rfl).2
  have e : cA = vc V 1 := Option.some.inj (h2.symm.trans h1)
  subst e
  exact kk q H1 locs ls hP hD hS hl
theorem a_newa_boolean {m : Int32} {N : Nat} (hX : OK X cc nL own R V) (hn : ¬ m < 0) (hN : m.toNatClampNeg = N) (hby : N * componentBytes .boolean ≤ 536870912) (hcs : k + 1 ≤ R.cells ∧ n + N ≤ R.slots) (d : decode cc pc = .ok (.newarray .boolean, 2)) (hp : pc + 2 = pc') (kk : ∀ a, At X nL (k + 1) (n + N) (w ++ [(a, .inl (vc V 2, N, .inl (fun _ => 0)))]) pc' lv (.ref a :: st)) : At X nL k n w pc lv (.int m :: st) := by
  subst hp
  intro H locs ls hP hD hS hl
  have hR0 : cR X = R := hX.2.2.2.2.2.2.2.2.2.1
  refine va_newa (atype := .boolean) (ty := .boolean) (a0 := (N, .inl (fun _ => 0))) hX.1 hX.2.1 (hX.2.2.2.2.1 _ R_arr_boolean) rfl hX.2.2.2.2.2.1 hP hD hS hX.2.2.2.2.2.2.1 (fun cA => rfl) hn hN hby (by rw [hR0]; exact hcs.1) (by rw [hR0]; exact hcs.2) d (fun q cA H1 hK hP hD hS => ?_)
  have h1 := (hK.2 2 _ rfl).2
  have h2 := (hK.2 5 _ rfl).2
  have e : cA = vc V 2 := Option.some.inj (h2.symm.trans h1)
  subst e
  exact kk q H1 locs ls hP hD hS hl
theorem a_newa_byte {m : Int32} {N : Nat} (hX : OK X cc nL own R V) (hn : ¬ m < 0) (hN : m.toNatClampNeg = N) (hby : N * componentBytes .byte ≤ 536870912) (hcs : k + 1 ≤ R.cells ∧ n + N ≤ R.slots) (d : decode cc pc = .ok (.newarray .byte, 2)) (hp : pc + 2 = pc') (kk : ∀ a, At X nL (k + 1) (n + N) (w ++ [(a, .inl (vc V 3, N, .inl (fun _ => 0)))]) pc' lv (.ref a :: st)) : At X nL k n w pc lv (.int m :: st) := by
  subst hp
  intro H locs ls hP hD hS hl
  have hR0 : cR X = R := hX.2.2.2.2.2.2.2.2.2.1
  refine va_newa (atype := .byte) (ty := .byte) (a0 := (N, .inl (fun _ => 0))) hX.1 hX.2.1 (hX.2.2.2.2.1 _ R_arr_byte) rfl hX.2.2.2.2.2.1 hP hD hS hX.2.2.2.2.2.2.1 (fun cA => rfl) hn hN hby (by rw [hR0]; exact hcs.1) (by rw [hR0]; exact hcs.2) d (fun q cA H1 hK hP hD hS => ?_)
  have h1 := (hK.2 3 _ rfl).2
  have h2 := (hK.2 5 _ rfl).2
  have e : cA = vc V 3 := Option.some.inj (h2.symm.trans h1)
  subst e
  exact kk q H1 locs ls hP hD hS hl
theorem a_putG {C ref : String} {T : u_T} {N ci : Nat} {fs : List Value} {v : Value} {ty0 : Nat → FieldType} {ty : FieldType} (hX : OK X cc nL own R V) (hin : ∀ w ∈ u_ws C T N, w ∈ gtbl) (hty : ∀ k, k < N → parseFieldDescriptor (T k).2.2.1 = some (ty0 k)) (hnm : ∀ a, a < N → ∀ b, b < N → a ≠ b → (T a).2.1 ≠ (T b).2.1) (q0 : Nat) (he : w[q0]? = some (a, .inr (ci, fs))) (hc : classes[ci]? = some (C, T, N)) (j : Nat) (hj : j < N) (hlink : Cond.fieldLink own idx ref (T j).2.1 (T j).2.2.1 ∈ gtbl) (href : (T j).1 = ref) (hfin : (T j).2.2.2 = false) (hty2 : ty0 j = ty) (hn : narrow ty v = v) (hfit : fits ty v = true) (hl' : j < fs.length) (hw : w.set q0 (a, .inr (ci, fs.set j v)) = w2) (d : decode cc pc = .ok (.putfield idx, 3)) (hp : pc + 3 = pc') (kk : At X nL k n w2 pc' lv st) : At X nL k n w pc lv (v :: .ref a :: st) := by
  subst hp
  subst href
  subst hty2
  refine fun H locs ls hP hD hS hl => va_put hX.1 hX.2.1 hX.2.2.2.2.1 hin ty0 hty hnm hX.2.2.2.1 hX.2.2.2.2.2.1 hP hD hS q0 he hc j hj (hX.2.2.2.2.1 _ hlink) (fun _ h => h) hfin (hty j hj) hn hfit hl' d (fun H1 locs1 hP hD hS => ?_)
  rw [hw] at hP hD
  exact kk H1 locs1 ls hP hD hS hl
theorem a_putF {C ref : String} {T : u_T} {N ci : Nat} {fs : List Value} {v : Value} {ty0 : Nat → FieldType} {ty : FieldType} (hX : OK X cc nL own R V) (hname : (cT X).name = "<init>") (hin : ∀ w ∈ u_ws C T N, w ∈ gtbl) (hty : ∀ k, k < N → parseFieldDescriptor (T k).2.2.1 = some (ty0 k)) (hnm : ∀ a, a < N → ∀ b, b < N → a ≠ b → (T a).2.1 ≠ (T b).2.1) (q0 : Nat) (he : w[q0]? = some (a, .inr (ci, fs))) (hc : classes[ci]? = some (C, T, N)) (j : Nat) (hj : j < N) (hlink : Cond.fieldLink own idx ref (T j).2.1 (T j).2.2.1 ∈ gtbl) (href : (T j).1 = ref) (hown : ref = own) (hfin : (T j).2.2.2 = true) (hty2 : ty0 j = ty) (hn : narrow ty v = v) (hfit : fits ty v = true) (hl' : j < fs.length) (hw : w.set q0 (a, .inr (ci, fs.set j v)) = w2) (d : decode cc pc = .ok (.putfield idx, 3)) (hp : pc + 3 = pc') (kk : At X nL k n w2 pc' lv st) : At X nL k n w pc lv (v :: .ref a :: st) := by
  subst hp
  subst href
  subst hty2
  refine fun H locs ls hP hD hS hl => va_putF hX.1 hX.2.1 hX.2.2.2.2.1 hin ty0 hty hnm hX.2.2.2.1 hX.2.2.2.2.2.1 hP hD hS q0 he hc j hj (hX.2.2.2.2.1 _ hlink) (fun _ h => h) hfin hname hown (hty j hj) hn hfit hl' d (fun H1 locs1 hP hD hS => ?_)
  rw [hw] at hP hD
  exact kk H1 locs1 ls hP hD hS hl
theorem a_astG {f : Nat → Int32} {m : Nat} {i x : Int32} (hX : OK X cc nL own R V) (q0 : Nat) (ha : w[q0]? = some (a, .inl (vc V 0, m, .inl f))) (hin : ¬ (i < 0 ∨ m ≤ i.toNatClampNeg)) (hw : w.set q0 (a, .inl (vc V 0, m, .inl (upd f i.toNatClampNeg x))) = w2) (d : decode cc pc = .ok (.iastore, 1)) (hp : pc + 1 = pc') (kk : At X nL k n w2 pc' lv st) : At X nL k n w pc lv (.int x :: .int i :: .ref a :: st) := by
  subst hp
  refine fun H locs ls hP hD hS hl => va_iast hX.1 hX.2.1 hX.2.2.2.2.2.1 hP hD hS q0 0 ha rfl hin d (fun H1 locs1 hP hD hS => ?_)
  rw [hw] at hP hD
  exact kk H1 locs1 ls hP hD hS hl
theorem a_newqT {m : Int32} {N : Nat} (hX : OK X cc nL own R V) (hcl : Cond.classLink own idx "VaseCourt$Text" ∈ gtbl) (hov : va_AO "VaseCourt$Text" (cS X)) (hn : ¬ m < 0) (hN : m.toNatClampNeg = N) (hby : N * 4 ≤ 536870912) (hcs : k + 1 ≤ R.cells ∧ n + N ≤ R.slots) (d : decode cc pc = .ok (.anewarray idx, 3)) (hp : pc + 3 = pc') (kk : ∀ a, At X nL (k + 1) (n + N) (w ++ [(a, .inl (vc V 4, N, .inr (.inr (.inr (.inr (fun _ => none))))))]) pc' lv (.ref a :: st)) : At X nL k n w pc lv (.int m :: st) := by
  subst hp
  intro H locs ls hP hD hS hl
  have hR0 : cR X = R := hX.2.2.2.2.2.2.2.2.2.1
  refine va_newq (C := "VaseCourt$Text") hX.1 hX.2.1 hX.2.2.2.1 (hX.2.2.2.2.1 _ hcl) hov hX.2.2.2.2.2.1 hP hD hS hX.2.2.2.2.2.2.1 hn hN hby (by rw [hR0]; exact hcs.1) (by rw [hR0]; exact hcs.2) d (fun q cA H1 hK hP hD hS => ?_)
  obtain ⟨kA, comp, x1, x2, x3, h1⟩ := (hK.2 4 _ rfl).2
  obtain ⟨kA2, comp2, y1, y2, y3, h2⟩ := (hK.2 5 _ rfl).2
  have e : cA = vc V 4 := Option.some.inj (h2.symm.trans h1)
  subst e
  exact kk q H1 locs ls hP hD hS hl
theorem a_astqT {m v : Nat} {i : Int32} {vs : List Value} {f : Nat → Option Nat} (hX : OK X cc nL own R V) (q0 qk : Nat) (ha : w[q0]? = some (a, .inl (vc V 4, m, .inr (.inr (.inr (.inr f)))))) (hv : w[qk]? = some (v, .inr (9, vs))) (hin : ¬ (i < 0 ∨ m ≤ i.toNatClampNeg)) (hw : w.set q0 (a, .inl (vc V 4, m, .inr (.inr (.inr (.inr (va_up f i.toNatClampNeg (some v))))))) = w2) (d : decode cc pc = .ok (.aastore, 1)) (hp : pc + 1 = pc') (kk : At X nL k n w2 pc' lv st) : At X nL k n w pc lv (.ref v :: .int i :: .ref a :: st) := by
  subst hp
  refine fun H locs ls hP hD hS hl => va_astq (r := (RX9, TX9, 2)) hX.1 hX.2.1 hX.2.2.2.2.2.1 hP hD hS q0 4 qk 9 ha rfl hv rfl hin d (fun H1 locs1 hP hD hS => ?_)
  rw [hw] at hP hD
  exact kk H1 locs1 ls hP hD hS hl
section CI
variable {stk rest As : List Value} {y : MethodName} {bytes : ByteArray} {maxL mc ms : Nat} {rm : Room} {b : Nat} {Rt : Option Value → va_W → Prop}
theorem a_callI (hX : OK X cc nL own R V) (hZ : ZOK (vZ V)) (hsub : Sub (cA X) w wc jn) (hC : Ct V y (.code y bytes maxL none) rm mc ms (.ref b :: As) wc Rt) (hk : LkI own idx y bytes maxL As.length) (hroom : RmOK rm maxL mc ms R) (hcs : k + mc ≤ R.cells ∧ n + ms ≤ R.slots) (hst : (rest.map fun v => v.category).sum ≤ 8) (d : decode cc pc = .ok (.invokespecial idx, 3)) (hp : pc + 3 = pc') (hs : stk = As.reverse ++ .ref b :: rest) (kk : ∀ (rv : Option Value) (w' : va_W), Rt rv w' → At X nL (k + mc) (n + ms) (jn w') pc' lv (rv.toList ++ rest)) : At X nL k n w pc lv stk := by
  subst hs
  intro H locs ls hP hD hS hl
  have hPc := hsub.1 _ _ hP
  have hDc := hsub.2.1 hD
  have hF := c_hF hX hDc hS
  have hM := hC H.size
  rw [← (hX.2.2.2.2.2.2.2.2.2.2.1 : cL X = vL V)] at hM
  have hR0 : cR X = R := hX.2.2.2.2.2.2.2.2.2.1
  exact c_go hX hsub hP hD hS hl hF (va_runI (As := As) (rest := rest) ⟨hX.1, hX.2.1, hX.2.2.1, hX.2.2.2.1, hX.2.2.2.2.1⟩ hM (cwI As.length hX.2.2.2.2.1 (g_cy hk.1.2.2.2) rfl hroom.1 hroom.2.1 (hX.2.2.2.2.1 _ hk.1.2.2.1) (hX.2.2.2.2.1 _ hk.1.1) (hX.2.2.2.2.1 _ hk.1.2.1) hk.2.1 hk.2.2 (by rw [hR0]; exact hroom.2.2)) ⟨c_blind hZ, c_pre hX hZ hPc hDc hS hF⟩ rfl rfl hl.1 rfl (lv_room hst) d (by rw [hR0]; exact hcs)) hp kk
def LkJ (y : MethodName) (bytes : ByteArray) (maxL : Nat) (na : Nat) : Prop := (Cond.instanceMethod y ∈ gtbl ∧ Cond.initialized y.cls ∈ gtbl ∧ Cond.code y bytes maxL none ∈ gtbl) ∧ y.name = "<init>" ∧ (y.cls ≠ "java/lang/invoke/MethodHandle" ∧ y.cls ≠ "java/lang/invoke/VarHandle" ∧ (parseMethodDescriptor y.desc).map (fun d => d.parameters.length) = some na)
theorem a_callJ {host : String} (hX : OK X cc nL own R V) (hZ : ZOK (vZ V)) (hnw : va_Nw (.methodLinkNest own idx y host) (cS X)) (hsub : Sub (cA X) w wc jn) (hC : Ct V y (.code y bytes maxL none) rm mc ms (.ref b :: As) wc Rt) (hk : LkJ y bytes maxL As.length) (hroom : RmOK rm maxL mc ms R) (hcs : k + mc ≤ R.cells ∧ n + ms ≤ R.slots) (hst : (rest.map fun v => v.category).sum ≤ 8) (d : decode cc pc = .ok (.invokespecial idx, 3)) (hp : pc + 3 = pc') (hs : stk = As.reverse ++ .ref b :: rest) (kk : ∀ (rv : Option Value) (w' : va_W), Rt rv w' → At X nL (k + mc) (n + ms) (jn w') pc' lv (rv.toList ++ rest)) : At X nL k n w pc lv stk := by
  subst hs
  intro H locs ls hP hD hS hl
  have hPc := hsub.1 _ _ hP
  have hDc := hsub.2.1 hD
  have hF := c_hF hX hDc hS
  have hM := hC H.size
  rw [← (hX.2.2.2.2.2.2.2.2.2.2.1 : cL X = vL V)] at hM
  have hR0 : cR X = R := hX.2.2.2.2.2.2.2.2.2.1
  exact c_go hX hsub hP hD hS hl hF (va_runIN (As := As) (rest := rest) ⟨hX.1, hX.2.1, hX.2.2.1, hX.2.2.2.1, hX.2.2.2.2.1⟩ hM ⟨va_cnB As.length hX.2.2.2.2.1 (g_cy hk.1.2.2) rfl hroom.1 hroom.2.1 hnw (hX.2.2.2.2.1 _ hk.1.2.1) hk.2.2 (by rw [hR0]; exact hroom.2.2), hk.2.1, hX.2.2.2.2.1 _ hk.1.1⟩ ⟨c_blind hZ, c_pre hX hZ hPc hDc hS hF⟩ rfl rfl hl.1 rfl (lv_room hst) d (by rw [hR0]; exact hcs)) hp kk
end CI
end ConRows
