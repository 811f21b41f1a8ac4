/-- a part of a world, and what stands behind a call on it -/
def Sub (A : Nat → Prop) (w wc : va_W) (jn : va_W → va_W) : Prop := (∀ (D : va_G) (H : Heap), va_P D classes w H → va_P D classes wc H) ∧ (va_D A w → va_D A wc) ∧
  ∀ (D : va_G) (w1 : va_W) (H H1 : Heap), va_P D classes w H → va_D A w → (∀ q, va_A wc H.size q → A q) → (∀ q : Nat, q < H.size → ¬ va_A wc H.size q → H1[q]? = H[q]?) → va_P D classes w1 H1 → va_D (va_A wc H.size) w1 → va_P D classes (jn w1) H1 ∧ va_D A (jn w1)
theorem Sub.same {A : Nat → Prop} {w : va_W} : Sub A w w id := ⟨fun _ _ h => h, fun h => h, fun _ _ _ _ _ _ hF _ hP1 hD1 => ⟨hP1, hD1.weaken (fun _ _ _ h => hF _ h)⟩⟩
theorem Sub.pure {A : Nat → Prop} {w : va_W} : Sub A w [] (fun _ => w) := by
  refine ⟨fun _ _ _ k q h => by simp at h, fun _ => ⟨fun i j p q h => by simp at h, fun k q h => by simp at h⟩, fun D w1 H H1 hP hD hF hk _ _ => ⟨hP.kept (fun k q hq => ?_), hD⟩⟩
  refine hk q.1 (hP k q hq).lt (fun h => ?_)
  rcases h with ⟨j, e, h⟩ | h
  · simp at h
  · exact absurd h (Nat.not_le.mpr (hP k q hq).lt)
section Calls
variable {X : Cx} {cc : ByteArray} {nL k n : Nat} {own : String} {R : Room} {V : Vx} {w wc w1 : va_W} {jn : va_W → va_W} {pc pc' : Nat} {lv : List (Nat × Value)} {stk rest avs As : List Value}
variable {y : MethodName} {bytes : ByteArray} {maxL idx mc ms : Nat} {ret : Option FieldType} {rm : Room} {Rt : Option Value → va_W → Prop} {r : Option Value} {b : Nat} {C : String}
theorem c_hF (hX : OK X cc nL own R V) {H : Heap} {locs : List Loc} (hD : va_D (cA X) wc) (hS : va_S (cA X) (cS X).heap H locs) : ∀ q, va_A wc H.size q → cA X q := by
  intro q h
  rcases h with ⟨j, e, h⟩ | h
  · exact hD.2 j _ h
  · exact hX.2.2.2.2.2.2.1 q (Nat.le_trans hS.1 h)
theorem c_blind (hZ : ZOK (vZ V)) {sz : Nat} : FrameBlind (c_Pc V sz avs wc) := by
  intro a U g mk q
  obtain ⟨q0, q1, qP, qK, qD, qZ⟩ := q
  exact ⟨q0, q1, qP, va_K.moved (u := U) (U := U.calling g mk a) (Vm.Alike.refl U.vm) qK, qD, hZ.2 _ _ _ _ _ qZ⟩
theorem c_pre (hX : OK X cc nL own R V) (hZ : ZOK (vZ V)) {H : Heap} {locs : List Loc} (hP : va_P (cD X) classes wc H) (hD : va_D (cA X) wc) (hS : va_S (cA X) (cS X).heap H locs) (hF : ∀ q, va_A wc H.size q → cA X q) : ∀ U : State, U.heap = H → (cS X).WarmedH U.vm → c_Pc V H.size avs wc avs.toArray U := by
  intro U hU hW
  have e : cD X = vD V := hX.2.2.2.2.2.2.2.2.2.2.2
  have hK := hX.2.2.2.2.2.1
  rw [e] at hP hK
  exact ⟨rfl, by rw [hU], by rw [hU]; exact hP, va_K.moved hW.alike hK, hD.weaken (fun _ _ _ _ => trivial), hZ.1 _ _ _ _ locs hX.2.2.2.2.2.2.2.2.1 (by rw [hU]; exact hS) hW hF⟩
/-- behind a call -/
theorem c_go (hX : OK X cc nL own R V) (hsub : Sub (cA X) w wc jn) {H : Heap} {locs : List Loc} {ls : Array Slot} {st0 : List Value} {a : Array Value} (hP : va_P (cD X) classes w H) (hD : va_D (cA X) w) (hS : va_S (cA X) (cS X).heap H locs) (hl : lv_has ls nL lv) (hF : ∀ q, va_A wc H.size q → cA X q)
    (hr : va_Run (cP X) (cL X) (cE X) (cR X) (cS X) (cM X) (cG X) (cB X) (cT X) (cC X) H locs k n mc ms (F0 (cM X) pc ls st0) rest (c_Qc V H.size wc Rt a) (va_A wc H.size)) (hp : pc + 3 = pc')
    (kk : ∀ (rv : Option Value) (w' : va_W), Rt rv w' → At X nL (k + mc) (n + ms) (jn w') pc' lv (rv.toList ++ rest)) : W (cP X) (cL X) (cE X) (cR X) (cS X) (cM X) (cG X) (cB X) (cT X) (cC X) H locs k n (cQ X) (F0 (cM X) pc ls st0) := by
  subst hp
  intro T hT XX
  obtain ⟨v, st₀, t, T', L, h0, X', hL, e1, e2, ⟨⟨rv, w', hv, hR, hP1, hD1⟩, hz, hk⟩, st⟩ := hr T hT XX
  cases hv
  have e : cD X = vD V := hX.2.2.2.2.2.2.2.2.2.2.2
  rw [← e] at hP1
  rw [h0] at hz hk
  rw [← e1] at hP1 hz hk
  obtain ⟨hP2, hD2⟩ := hsub.2.2 _ w' H T'.heap hP hD hF (fun q h1 h2 => hk q h1 h2) hP1 hD1
  obtain ⟨t2, a1, b1⟩ := kk v w' hR T'.heap (locs ++ L) ls hP2 hD2
    ⟨Nat.le_trans hS.1 hz, fun q h1 h2 => by rw [hk q (Nat.lt_of_lt_of_le h1 hS.1) (fun z => h2 (hF q z))]; exact hS.2.1 q h1 h2, fun q hq => by
      rcases List.mem_append.mp hq with h | h
      · exact hS.2.2 q h
      · exact hF _ (hL q h)⟩ hl T' rfl X'
  exact ⟨t2, st t2 a1, b1⟩
theorem g_V (h1 : Cond.methodLink own idx y ∈ gtbl) (h2 : Cond.instanceMethod y ∈ gtbl) (h3 : Cond.selects C y y ∈ gtbl) (h4 : Cond.initialized C ∈ gtbl) (h5 : Cond.code y bytes maxL ret ∈ gtbl) : GoodIn gtbl (wsV own idx C y (Cond.code y bytes maxL ret :: gtbl)) := by
  refine g_all (fun w hw => ?_)
  rcases List.mem_append.mp hw with hw | hw
  · simp only [List.mem_cons, List.not_mem_nil, or_false] at hw
    rcases hw with rfl | rfl | rfl | rfl <;> assumption
  · rcases List.mem_cons.mp hw with rfl | hw
    · exact h5
    · exact hw
theorem g_S (h1 : Cond.methodLink own idx y ∈ gtbl) (h2 : Cond.static y ∈ gtbl) (h4 : Cond.initialized y.cls ∈ gtbl) (h5 : Cond.code y bytes maxL ret ∈ gtbl) : GoodIn gtbl (va_wsS own idx y (Cond.code y bytes maxL ret :: gtbl)) := by
  refine g_all (fun w hw => ?_)
  rcases List.mem_append.mp hw with hw | hw
  · simp only [List.mem_cons, List.not_mem_nil, or_false] at hw
    rcases hw with rfl | rfl | rfl <;> assumption
  · rcases List.mem_cons.mp hw with rfl | hw
    · exact h5
    · exact hw
/-- what a call of a virtual method wants of the tables -/
def LkV (own : String) (idx : Nat) (C : String) (y : MethodName) (bytes : ByteArray) (maxL : Nat) (ret : Option FieldType) (na : Nat) : Prop := (Cond.methodLink own idx y ∈ gtbl ∧ Cond.instanceMethod y ∈ gtbl ∧ Cond.selects C y y ∈ gtbl ∧ Cond.initialized C ∈ gtbl ∧ Cond.code y bytes maxL ret ∈ gtbl) ∧ (y.cls = C ∧ y.cls ≠ "java/lang/invoke/MethodHandle" ∧ y.cls ≠ "java/lang/invoke/VarHandle" ∧ (parseMethodDescriptor y.desc).map (fun d => d.parameters.length) = some na)
def LkS (own : String) (idx : Nat) (y : MethodName) (bytes : ByteArray) (maxL : Nat) (ret : Option FieldType) (na : Nat) : Prop := (Cond.methodLink own idx y ∈ gtbl ∧ Cond.static y ∈ gtbl ∧ Cond.initialized y.cls ∈ gtbl ∧ Cond.code y bytes maxL ret ∈ gtbl) ∧ (y.cls ≠ "java/lang/invoke/MethodHandle" ∧ y.cls ≠ "java/lang/invoke/VarHandle" ∧ (parseMethodDescriptor y.desc).map (fun d => d.parameters.length) = some na)
/-- a static method of the nest: the link itself is a premise beside the world -/
def LkN (y : MethodName) (bytes : ByteArray) (maxL : Nat) (ret : Option FieldType) (na : Nat) : Prop := (Cond.static y ∈ gtbl ∧ Cond.initialized y.cls ∈ gtbl ∧ Cond.code y bytes maxL ret ∈ gtbl) ∧ (y.cls ≠ "java/lang/invoke/MethodHandle" ∧ y.cls ≠ "java/lang/invoke/VarHandle" ∧ (parseMethodDescriptor y.desc).map (fun d => d.parameters.length) = some na)
def LkI (own : String) (idx : Nat) (y : MethodName) (bytes : ByteArray) (maxL : Nat) (na : Nat) : Prop := (Cond.methodLink own idx y ∈ gtbl ∧ Cond.instanceMethod y ∈ gtbl ∧ Cond.initialized y.cls ∈ gtbl ∧ Cond.code y bytes maxL none ∈ gtbl) ∧ y.name = "<init>" ∧ (y.cls ≠ "java/lang/invoke/MethodHandle" ∧ y.cls ≠ "java/lang/invoke/VarHandle" ∧ (parseMethodDescriptor y.desc).map (fun d => d.parameters.length) = some na)
/-- the room that a call wants -/
def RmOK (rm : Room) (maxL mc ms : Nat) (R : Room) : Prop := rm.cells = mc ∧ rm.slots = ms ∧ rm.frames + 1 ≤ R.frames ∧ 8 + (maxL + 11) + rm.locals ≤ R.locals
theorem a_callV (hX : OK X cc nL own R V) (hZ : ZOK (vZ V)) (hsub : Sub (cA X) w wc jn) (hC : Ct V y (.code y bytes maxL ret) rm mc ms (.ref b :: As) wc Rt) (hk : LkV own idx C y bytes maxL ret As.length) {q0 ci : Nat} {fs : List Value} {T : u_T} {N : Nat} (hrecv : wc[q0]? = some (b, .inr (ci, fs)) ∧ classes[ci]? = some (C, T, N)) (hroom : RmOK rm maxL mc ms R) (hcs : k + mc ≤ R.cells ∧ n + ms ≤ R.slots)
    (hst : (rest.map fun v => v.category).sum ≤ 8) (d : decode cc pc = .ok (.invokevirtual idx, 3)) (hp : pc + 3 = pc') (hs : stk = As.reverse ++ .ref b :: rest) (kk : ∀ (rv : Option Value) (w' : va_W), Rt rv w' → At X nL (k + mc) (n + ms) (jn w') pc' lv (rv.toList ++ rest)) : At X nL k n w pc lv stk := by
  subst hs
  intro H locs ls hP hD hS hl
  have hPc := hsub.1 _ _ hP
  have hDc := hsub.2.1 hD
  have hF := c_hF hX hDc hS
  have hM := hC H.size
  rw [← (hX.2.2.2.2.2.2.2.2.2.2.1 : cL X = vL V)] at hM
  have hR0 : cR X = R := hX.2.2.2.2.2.2.2.2.2.1
  refine c_go hX hsub hP hD hS hl hF (va_runV (As := As) (rest := rest) ⟨hX.1, hX.2.1, hX.2.2.1, hX.2.2.2.1, hX.2.2.2.2.1⟩ hM (cwV As.length hX.2.2.2.2.1 (g_V hk.1.1 hk.1.2.1 hk.1.2.2.1 hk.1.2.2.2.1 hk.1.2.2.2.2) rfl hroom.1 hroom.2.1 hk.2 (by rw [hR0]; exact hroom.2.2)) ⟨c_blind hZ, ?_, c_pre hX hZ hPc hDc hS hF⟩ rfl rfl hl.1 rfl (lv_room hst) d (by rw [hR0]; exact hcs)) hp kk
  exact va_recv hX.2.2.2.2.2.1 hPc (q := (C, T, N)) hrecv.2 hrecv.1
theorem a_callS (hX : OK X cc nL own R V) (hZ : ZOK (vZ V)) (hsub : Sub (cA X) w wc jn) (hC : Ct V y (.code y bytes maxL ret) rm mc ms As wc Rt) (hk : LkS own idx y bytes maxL ret As.length) (hroom : RmOK rm maxL mc ms R) (hcs : k + mc ≤ R.cells ∧ n + ms ≤ R.slots)
    (hst : (rest.map fun v => v.category).sum ≤ 8) (d : decode cc pc = .ok (.invokestatic idx, 3)) (hp : pc + 3 = pc') (hs : stk = As.reverse ++ rest) (kk : ∀ (rv : Option Value) (w' : va_W), Rt rv w' → At X nL (k + mc) (n + ms) (jn w') pc' lv (rv.toList ++ rest)) : At X nL k n w pc lv stk := by
  subst hs
  intro H locs ls hP hD hS hl
  have hPc := hsub.1 _ _ hP
  have hDc := hsub.2.1 hD
  have hF := c_hF hX hDc hS
  have hM := hC H.size
  rw [← (hX.2.2.2.2.2.2.2.2.2.2.1 : cL X = vL V)] at hM
  have hR0 : cR X = R := hX.2.2.2.2.2.2.2.2.2.1
  exact c_go hX hsub hP hD hS hl hF (va_runS (As := As) (rest := rest) ⟨hX.1, hX.2.1, hX.2.2.1, hX.2.2.2.1, hX.2.2.2.2.1⟩ hM (va_cwS As.length hX.2.2.2.2.1 (g_S hk.1.1 hk.1.2.1 hk.1.2.2.1 hk.1.2.2.2) rfl hroom.1 hroom.2.1 hk.2 (by rw [hR0]; exact hroom.2.2)) ⟨c_blind hZ, c_pre hX hZ hPc hDc hS hF⟩ rfl rfl hl.1 rfl (lv_room hst) d (by rw [hR0]; exact hcs)) hp kk
theorem a_callN {host : String} (hX : OK X cc nL own R V) (hZ : ZOK (vZ V)) (hnw : va_Nw (.methodLinkNest own idx y host) (cS X)) (hsub : Sub (cA X) w wc jn) (hC : Ct V y (.code y bytes maxL ret) rm mc ms As wc Rt) (hk : LkN y bytes maxL ret As.length) (hroom : RmOK rm maxL mc ms R) (hcs : k + mc ≤ R.cells ∧ n + ms ≤ R.slots)
    (hst : (rest.map fun v => v.category).sum ≤ 8) (d : decode cc pc = .ok (.invokestatic idx, 3)) (hp : pc + 3 = pc') (hs : stk = As.reverse ++ rest) (kk : ∀ (rv : Option Value) (w' : va_W), Rt rv w' → At X nL (k + mc) (n + ms) (jn w') pc' lv (rv.toList ++ rest)) : At X nL k n w pc lv stk := by
  subst hs
  intro H locs ls hP hD hS hl
  have hPc := hsub.1 _ _ hP
  have hDc := hsub.2.1 hD
  have hF := c_hF hX hDc hS
  have hM := hC H.size
  rw [← (hX.2.2.2.2.2.2.2.2.2.2.1 : cL X = vL V)] at hM
  have hR0 : cR X = R := hX.2.2.2.2.2.2.2.2.2.1
  exact c_go hX hsub hP hD hS hl hF (va_runSN (As := As) (rest := rest) ⟨hX.1, hX.2.1, hX.2.2.1, hX.2.2.2.1, hX.2.2.2.2.1⟩ hM ⟨va_cnB As.length hX.2.2.2.2.1 (g_cy hk.1.2.2) rfl hroom.1 hroom.2.1 hnw (hX.2.2.2.2.1 _ hk.1.2.1) hk.2 (by rw [hR0]; exact hroom.2.2), hX.2.2.2.2.1 _ hk.1.1, trivial⟩ ⟨c_blind hZ, c_pre hX hZ hPc hDc hS hF⟩ rfl rfl hl.1 rfl (lv_room hst) d (by rw [hR0]; exact hcs)) hp kk
theorem a_cVsi {q0 ci : Nat} {fs : List Value} {T : u_T} {N : Nat} {v : Int32} (hX : OK X cc nL own R V) (hZ : ZOK (vZ V)) (hC : Ct V y (.code y bytes maxL ret) rm 0 0 (.ref b :: As) w (rEq (some (.int v)) w1)) (hk : LkV own idx C y bytes maxL ret As.length) (hrecv : w[q0]? = some (b, .inr (ci, fs)) ∧ classes[ci]? = some (C, T, N)) (hroom : RmOK rm maxL 0 0 R) (hcs : k ≤ R.cells ∧ n ≤ R.slots) (hst : (rest.map fun v => v.category).sum ≤ 8) (d : decode cc pc = .ok (.invokevirtual idx, 3)) (hp : pc + 3 = pc') (hs : stk = As.reverse ++ .ref b :: rest) (kk : At X nL k n w1 pc' lv (.int v :: rest)) : At X nL k n w pc lv stk :=
  a_callV hX hZ Sub.same hC hk hrecv hroom hcs hst d hp hs (fun rv w' h => by obtain ⟨rfl, rfl⟩ := h; exact kk)
theorem a_cVsl {q0 ci : Nat} {fs : List Value} {T : u_T} {N : Nat} {v : Int64} (hX : OK X cc nL own R V) (hZ : ZOK (vZ V)) (hC : Ct V y (.code y bytes maxL ret) rm 0 0 (.ref b :: As) w (rEq (some (.long v)) w1)) (hk : LkV own idx C y bytes maxL ret As.length) (hrecv : w[q0]? = some (b, .inr (ci, fs)) ∧ classes[ci]? = some (C, T, N)) (hroom : RmOK rm maxL 0 0 R) (hcs : k ≤ R.cells ∧ n ≤ R.slots) (hst : (rest.map fun v => v.category).sum ≤ 8) (d : decode cc pc = .ok (.invokevirtual idx, 3)) (hp : pc + 3 = pc') (hs : stk = As.reverse ++ .ref b :: rest) (kk : At X nL k n w1 pc' lv (.long v :: rest)) : At X nL k n w pc lv stk :=
  a_callV hX hZ Sub.same hC hk hrecv hroom hcs hst d hp hs (fun rv w' h => by obtain ⟨rfl, rfl⟩ := h; exact kk)
theorem a_cVsv {q0 ci : Nat} {fs : List Value} {T : u_T} {N : Nat} (hX : OK X cc nL own R V) (hZ : ZOK (vZ V)) (hC : Ct V y (.code y bytes maxL ret) rm 0 0 (.ref b :: As) w (rEq (none) w1)) (hk : LkV own idx C y bytes maxL ret As.length) (hrecv : w[q0]? = some (b, .inr (ci, fs)) ∧ classes[ci]? = some (C, T, N)) (hroom : RmOK rm maxL 0 0 R) (hcs : k ≤ R.cells ∧ n ≤ R.slots) (hst : (rest.map fun v => v.category).sum ≤ 8) (d : decode cc pc = .ok (.invokevirtual idx, 3)) (hp : pc + 3 = pc') (hs : stk = As.reverse ++ .ref b :: rest) (kk : At X nL k n w1 pc' lv (rest)) : At X nL k n w pc lv stk :=
  a_callV hX hZ Sub.same hC hk hrecv hroom hcs hst d hp hs (fun rv w' h => by obtain ⟨rfl, rfl⟩ := h; exact kk)
theorem a_cSsi {v : Int32} (hX : OK X cc nL own R V) (hZ : ZOK (vZ V)) (hC : Ct V y (.code y bytes maxL ret) rm 0 0 As w (rEq (some (.int v)) w1)) (hk : LkS own idx y bytes maxL ret As.length) (hroom : RmOK rm maxL 0 0 R) (hcs : k ≤ R.cells ∧ n ≤ R.slots) (hst : (rest.map fun v => v.category).sum ≤ 8) (d : decode cc pc = .ok (.invokestatic idx, 3)) (hp : pc + 3 = pc') (hs : stk = As.reverse ++ rest) (kk : At X nL k n w1 pc' lv (.int v :: rest)) : At X nL k n w pc lv stk :=
  a_callS hX hZ Sub.same hC hk hroom hcs hst d hp hs (fun rv w' h => by obtain ⟨rfl, rfl⟩ := h; exact kk)
theorem a_cSsl {v : Int64} (hX : OK X cc nL own R V) (hZ : ZOK (vZ V)) (hC : Ct V y (.code y bytes maxL ret) rm 0 0 As w (rEq (some (.long v)) w1)) (hk : LkS own idx y bytes maxL ret As.length) (hroom : RmOK rm maxL 0 0 R) (hcs : k ≤ R.cells ∧ n ≤ R.slots) (hst : (rest.map fun v => v.category).sum ≤ 8) (d : decode cc pc = .ok (.invokestatic idx, 3)) (hp : pc + 3 = pc') (hs : stk = As.reverse ++ rest) (kk : At X nL k n w1 pc' lv (.long v :: rest)) : At X nL k n w pc lv stk :=
  a_callS hX hZ Sub.same hC hk hroom hcs hst d hp hs (fun rv w' h => by obtain ⟨rfl, rfl⟩ := h; exact kk)
theorem a_cSsv (hX : OK X cc nL own R V) (hZ : ZOK (vZ V)) (hC : Ct V y (.code y bytes maxL ret) rm 0 0 As w (rEq (none) w1)) (hk : LkS own idx y bytes maxL ret As.length) (hroom : RmOK rm maxL 0 0 R) (hcs : k ≤ R.cells ∧ n ≤ R.slots) (hst : (rest.map fun v => v.category).sum ≤ 8) (d : decode cc pc = .ok (.invokestatic idx, 3)) (hp : pc + 3 = pc') (hs : stk = As.reverse ++ rest) (kk : At X nL k n w1 pc' lv (rest)) : At X nL k n w pc lv stk :=
  a_callS hX hZ Sub.same hC hk hroom hcs hst d hp hs (fun rv w' h => by obtain ⟨rfl, rfl⟩ := h; exact kk)
theorem a_cSpi {v : Int32} (hX : OK X cc nL own R V) (hZ : ZOK (vZ V)) (hC : Ct V y (.code y bytes maxL ret) rm 0 0 As [] (rEq (some (.int v)) [])) (hk : LkS own idx y bytes maxL ret As.length) (hroom : RmOK rm maxL 0 0 R) (hcs : k ≤ R.cells ∧ n ≤ R.slots) (hst : (rest.map fun v => v.category).sum ≤ 8) (d : decode cc pc = .ok (.invokestatic idx, 3)) (hp : pc + 3 = pc') (hs : stk = As.reverse ++ rest) (kk : At X nL k n w pc' lv (.int v :: rest)) : At X nL k n w pc lv stk :=
  a_callS hX hZ Sub.pure hC hk hroom hcs hst d hp hs (fun rv w' h => by obtain ⟨rfl, rfl⟩ := h; exact kk)
theorem a_cSpl {v : Int64} (hX : OK X cc nL own R V) (hZ : ZOK (vZ V)) (hC : Ct V y (.code y bytes maxL ret) rm 0 0 As [] (rEq (some (.long v)) [])) (hk : LkS own idx y bytes maxL ret As.length) (hroom : RmOK rm maxL 0 0 R) (hcs : k ≤ R.cells ∧ n ≤ R.slots) (hst : (rest.map fun v => v.category).sum ≤ 8) (d : decode cc pc = .ok (.invokestatic idx, 3)) (hp : pc + 3 = pc') (hs : stk = As.reverse ++ rest) (kk : At X nL k n w pc' lv (.long v :: rest)) : At X nL k n w pc lv stk :=
  a_callS hX hZ Sub.pure hC hk hroom hcs hst d hp hs (fun rv w' h => by obtain ⟨rfl, rfl⟩ := h; exact kk)
theorem a_cNsi {host : String} {v : Int32} (hX : OK X cc nL own R V) (hZ : ZOK (vZ V)) (hC : Ct V y (.code y bytes maxL ret) rm 0 0 As w (rEq (some (.int v)) w1)) (hnw : va_Nw (.methodLinkNest own idx y host) (cS X)) (hk : LkN y bytes maxL ret As.length) (hroom : RmOK rm maxL 0 0 R) (hcs : k ≤ R.cells ∧ n ≤ R.slots) (hst : (rest.map fun v => v.category).sum ≤ 8) (d : decode cc pc = .ok (.invokestatic idx, 3)) (hp : pc + 3 = pc') (hs : stk = As.reverse ++ rest) (kk : At X nL k n w1 pc' lv (.int v :: rest)) : At X nL k n w pc lv stk :=
  a_callN hX hZ hnw Sub.same hC hk hroom hcs hst d hp hs (fun rv w' h => by obtain ⟨rfl, rfl⟩ := h; exact kk)
theorem a_cNsl {host : String} {v : Int64} (hX : OK X cc nL own R V) (hZ : ZOK (vZ V)) (hC : Ct V y (.code y bytes maxL ret) rm 0 0 As w (rEq (some (.long v)) w1)) (hnw : va_Nw (.methodLinkNest own idx y host) (cS X)) (hk : LkN y bytes maxL ret As.length) (hroom : RmOK rm maxL 0 0 R) (hcs : k ≤ R.cells ∧ n ≤ R.slots) (hst : (rest.map fun v => v.category).sum ≤ 8) (d : decode cc pc = .ok (.invokestatic idx, 3)) (hp : pc + 3 = pc') (hs : stk = As.reverse ++ rest) (kk : At X nL k n w1 pc' lv (.long v :: rest)) : At X nL k n w pc lv stk :=
  a_callN hX hZ hnw Sub.same hC hk hroom hcs hst d hp hs (fun rv w' h => by obtain ⟨rfl, rfl⟩ := h; exact kk)
theorem a_cNsv {host : String} (hX : OK X cc nL own R V) (hZ : ZOK (vZ V)) (hC : Ct V y (.code y bytes maxL ret) rm 0 0 As w (rEq (none) w1)) (hnw : va_Nw (.methodLinkNest own idx y host) (cS X)) (hk : LkN y bytes maxL ret As.length) (hroom : RmOK rm maxL 0 0 R) (hcs : k ≤ R.cells ∧ n ≤ R.slots) (hst : (rest.map fun v => v.category).sum ≤ 8) (d : decode cc pc = .ok (.invokestatic idx, 3)) (hp : pc + 3 = pc') (hs : stk = As.reverse ++ rest) (kk : At X nL k n w1 pc' lv (rest)) : At X nL k n w pc lv stk :=
  a_callN hX hZ hnw Sub.same hC hk hroom hcs hst d hp hs (fun rv w' h => by obtain ⟨rfl, rfl⟩ := h; exact kk)
theorem a_cNpi {host : String} {v : Int32} (hX : OK X cc nL own R V) (hZ : ZOK (vZ V)) (hC : Ct V y (.code y bytes maxL ret) rm 0 0 As [] (rEq (some (.int v)) [])) (hnw : va_Nw (.methodLinkNest own idx y host) (cS X)) (hk : LkN y bytes maxL ret As.length) (hroom : RmOK rm maxL 0 0 R) (hcs : k ≤ R.cells ∧ n ≤ R.slots) (hst : (rest.map fun v => v.category).sum ≤ 8) (d : decode cc pc = .ok (.invokestatic idx, 3)) (hp : pc + 3 = pc') (hs : stk = As.reverse ++ rest) (kk : At X nL k n w pc' lv (.int v :: rest)) : At X nL k n w pc lv stk :=
  a_callN hX hZ hnw Sub.pure hC hk hroom hcs hst d hp hs (fun rv w' h => by obtain ⟨rfl, rfl⟩ := h; exact kk)
theorem a_cNpl {host : String} {v : Int64} (hX : OK X cc nL own R V) (hZ : ZOK (vZ V)) (hC : Ct V y (.code y bytes maxL ret) rm 0 0 As [] (rEq (some (.long v)) [])) (hnw : va_Nw (.methodLinkNest own idx y host) (cS X)) (hk : LkN y bytes maxL ret As.length) (hroom : RmOK rm maxL 0 0 R) (hcs : k ≤ R.cells ∧ n ≤ R.slots) (hst : (rest.map fun v => v.category).sum ≤ 8) (d : decode cc pc = .ok (.invokestatic idx, 3)) (hp : pc + 3 = pc') (hs : stk = As.reverse ++ rest) (kk : At X nL k n w pc' lv (.long v :: rest)) : At X nL k n w pc lv stk :=
  a_callN hX hZ hnw Sub.pure hC hk hroom hcs hst d hp hs (fun rv w' h => by obtain ⟨rfl, rfl⟩ := h; exact kk)
end Calls
