/-- the classes whose objects the worlds hold -/
def classes : List vw_C := [(RX0, TX0, 8), (RX1, TX1, 7), (RX2, TX2, 2), (RX3, TX3, 11), (RX4, TX4, 8), (RX5, TX5, 9), (RX6, TX6, 4), (RX7, TX7, 3), (RX8, TX8, 7), (RX9, TX9, 2), (RX10, TX10, 2), (RX11, TX11, 11), (RX12, TX12, 61)]
/-- the words that every method's list has: all good ones of the tables -/
def gtbl : List Cond := lw_tbl.filter goodWord
theorem gm {w : Cond} (i : Nat) (h : lw_tbl[i]? = some w) (hg : goodWord w = true) : w ∈ gtbl := List.mem_filter.mpr ⟨List.mem_of_getElem? h, hg⟩
theorem g_lw {w : Cond} (h : w ∈ gtbl) : w ∈ lw_tbl := (List.mem_filter.mp h).1
theorem g_all {ws : List Cond} (h : ∀ w ∈ ws, w ∈ gtbl) : GoodIn gtbl ws := fun w hw => ⟨h w hw, good_of_word (List.mem_filter.mp (h w hw)).2⟩
theorem g_cy {cy : Cond} (h : cy ∈ gtbl) : GoodIn gtbl (cy :: gtbl) := g_all (fun w hw => (List.mem_cons.mp hw).elim (fun e => by rw [e]; exact h) id)
/-- the state of a side: int fields, long fields, int arrays, long arrays -/
abbrev St : Type := (Nat → Int32) × (Nat → Int64) × (Nat → Nat → Int32) × (Nat → Nat → Int64)
def gZ (u : St) (k : Nat) : Int32 := u.1 k
def gY (u : St) (k : Nat) : Int64 := u.2.1 k
def gA (u : St) (k : Nat) : Nat → Int32 := u.2.2.1 k
def gB (u : St) (k : Nat) : Nat → Int64 := u.2.2.2 k
def setZ (u : St) (k : Nat) (v : Int32) : St := (upd u.1 k v, u.2)
def setY (u : St) (k : Nat) (v : Int64) : St := (u.1, vp_updL u.2.1 k v, u.2.2)
def setA (u : St) (k : Nat) (g : Nat → Int32) : St := (u.1, u.2.1, va_up u.2.2.1 k g, u.2.2.2)
def setB (u : St) (k : Nat) (g : Nat → Int64) : St := (u.1, u.2.1, u.2.2.1, va_up u.2.2.2 k g)
theorem gZ_setZ (u : St) (k j : Nat) (v : Int32) : gZ (setZ u k v) j = if j = k then v else gZ u j := rfl
theorem gY_setY (u : St) (k j : Nat) (v : Int64) : gY (setY u k v) j = if j = k then v else gY u j := rfl
theorem gA_setA (u : St) (k j : Nat) (g : Nat → Int32) : gA (setA u k g) j = if j = k then g else gA u j := rfl
theorem gB_setB (u : St) (k j : Nat) (g : Nat → Int64) : gB (setB u k g) j = if j = k then g else gB u j := rfl
theorem gZ_setY (u : St) (k : Nat) (v : Int64) (j : Nat) : gZ (setY u k v) j = gZ u j := rfl
theorem gZ_setA (u : St) (k : Nat) (v : Nat → Int32) (j : Nat) : gZ (setA u k v) j = gZ u j := rfl
theorem gZ_setB (u : St) (k : Nat) (v : Nat → Int64) (j : Nat) : gZ (setB u k v) j = gZ u j := rfl
theorem gY_setZ (u : St) (k : Nat) (v : Int32) (j : Nat) : gY (setZ u k v) j = gY u j := rfl
theorem gY_setA (u : St) (k : Nat) (v : Nat → Int32) (j : Nat) : gY (setA u k v) j = gY u j := rfl
theorem gY_setB (u : St) (k : Nat) (v : Nat → Int64) (j : Nat) : gY (setB u k v) j = gY u j := rfl
theorem gA_setZ (u : St) (k : Nat) (v : Int32) (j : Nat) : gA (setZ u k v) j = gA u j := rfl
theorem gA_setY (u : St) (k : Nat) (v : Int64) (j : Nat) : gA (setY u k v) j = gA u j := rfl
theorem gA_setB (u : St) (k : Nat) (v : Nat → Int64) (j : Nat) : gA (setB u k v) j = gA u j := rfl
theorem gB_setZ (u : St) (k : Nat) (v : Int32) (j : Nat) : gB (setZ u k v) j = gB u j := rfl
theorem gB_setY (u : St) (k : Nat) (v : Int64) (j : Nat) : gB (setY u k v) j = gB u j := rfl
theorem gB_setA (u : St) (k : Nat) (v : Nat → Int32) (j : Nat) : gB (setA u k v) j = gB u j := rfl
section Pure
variable {ρ α : Type}
/-- pure words: a name, a load, a store, a call -/
def nmI (v : Int32) (k : Int32 → Option ρ) : Option ρ := k v
def nmL (v : Int64) (k : Int64 → Option ρ) : Option ρ := k v
def nmS (u : St) (k : St → Option ρ) : Option ρ := k u
def ldI (f : Nat → Int32) (m : Nat) (i : Int32) (k : Int32 → Option ρ) : Option ρ := if i < 0 ∨ m ≤ i.toNatClampNeg then none else k (f i.toNatClampNeg)
def ldL (f : Nat → Int64) (m : Nat) (i : Int32) (k : Int64 → Option ρ) : Option ρ := if i < 0 ∨ m ≤ i.toNatClampNeg then none else k (f i.toNatClampNeg)
def stI (u : St) (a m : Nat) (i x : Int32) (k : St → Option ρ) : Option ρ := if i < 0 ∨ m ≤ i.toNatClampNeg then none else k (setA u a (upd (gA u a) i.toNatClampNeg x))
def stZ (u : St) (a m : Nat) (i x : Int32) (k : St → Option ρ) : Option ρ := if i < 0 ∨ m ≤ i.toNatClampNeg then none else k (setA u a (upd (gA u a) i.toNatClampNeg (vp_nar .boolean x)))
def stB (u : St) (a m : Nat) (i x : Int32) (k : St → Option ρ) : Option ρ := if i < 0 ∨ m ≤ i.toNatClampNeg then none else k (setA u a (upd (gA u a) i.toNatClampNeg (vp_nar .byte x)))
def stL (u : St) (a m : Nat) (i : Int32) (x : Int64) (k : St → Option ρ) : Option ρ := if i < 0 ∨ m ≤ i.toNatClampNeg then none else k (setB u a (vp_updL (gB u a) i.toNatClampNeg x))
def cl1 (g : Option α) (k : α → Option ρ) : Option ρ := match g with
  | none => none
  | some r => k r
def cl2 (g : Option (α × St)) (k : α → St → Option ρ) : Option ρ := match g with
  | none => none
  | some r => k r.1 r.2
def rtZ (v : Int32) (r : ρ) : Option ρ := if v = 0 ∨ v = 1 then some r else none
def jushr (x y : Int32) : Int32 := (x.toUInt32 >>> (y.toUInt32 &&& Int32.toUInt32 31)).toInt32
theorem cl1_some {g : Option α} {k : α → Option ρ} {r : ρ} (h : cl1 g k = some r) : ∃ x, g = some x ∧ k x = some r := by
  cases g with
  | none => cases h
  | some x => exact ⟨x, rfl, h⟩
theorem cl2_some {g : Option (α × St)} {k : α → St → Option ρ} {r : ρ} (h : cl2 g k = some r) : ∃ x u, g = some (x, u) ∧ k x u = some r := by
  cases g with
  | none => cases h
  | some x => exact ⟨x.1, x.2, rfl, h⟩
end Pure
/-- what a run of one method stands on -/
abbrev Cx : Type := Program × Launch × Env × Room × State × MethodId × Array Value × List Frame × Method × Code × va_G × (Nat → Prop) × (State → Prop)
/-- what all methods of a run share: launch, class numbers, array classes, the premises beside the world -/
abbrev Vx : Type := Launch × va_G × (Nat → ClassId) × ((Nat → Prop) → State → Prop)
abbrev cP (X : Cx) : Program := X.1
abbrev cL (X : Cx) : Launch := X.2.1
abbrev cE (X : Cx) : Env := X.2.2.1
abbrev cR (X : Cx) : Room := X.2.2.2.1
abbrev cS (X : Cx) : State := X.2.2.2.2.1
abbrev cM (X : Cx) : MethodId := X.2.2.2.2.2.1
abbrev cG (X : Cx) : Array Value := X.2.2.2.2.2.2.1
abbrev cB (X : Cx) : List Frame := X.2.2.2.2.2.2.2.1
abbrev cT (X : Cx) : Method := X.2.2.2.2.2.2.2.2.1
abbrev cC (X : Cx) : Code := X.2.2.2.2.2.2.2.2.2.1
abbrev cD (X : Cx) : va_G := X.2.2.2.2.2.2.2.2.2.2.1
abbrev cA (X : Cx) : Nat → Prop := X.2.2.2.2.2.2.2.2.2.2.2.1
abbrev cQ (X : Cx) : State → Prop := X.2.2.2.2.2.2.2.2.2.2.2.2
abbrev vL (V : Vx) : Launch := V.1
abbrev vD (V : Vx) : va_G := V.2.1
abbrev vc (V : Vx) : Nat → ClassId := V.2.2.1
abbrev vZ (V : Vx) : (Nat → Prop) → State → Prop := V.2.2.2
abbrev tysL (c : Nat → ClassId) : List (ClassId × FieldType) := [(c 0, .int), (c 1, .long), (c 2, .boolean), (c 3, .byte), (c 4, .object "VaseCourt$Text")]
def OK (X : Cx) (cc : ByteArray) (nL : Nat) (own : String) (R : Room) (V : Vx) : Prop :=
  (cP X).tables.exec = Jvm.exec ∧ (cC X).code = cc ∧ (cC X).maxLocals = nL ∧ (cS X).vm.findClass own = some (cM X).cls ∧ (∀ w ∈ gtbl, w.before (cG X) (cS X) = true) ∧ va_K (cD X) classes (tysL (vc V)) (cS X) ∧ (∀ q, (cS X).heap.size ≤ q → cA X q) ∧ (cT X).locks = false ∧ vZ V (cA X) (cS X) ∧ cR X = R ∧ cL X = vL V ∧ cD X = vD V
def At (X : Cx) (nL k n : Nat) (w : va_W) (pc : Nat) (lv : List (Nat × Value)) (st : List Value) : Prop :=
  ∀ (H : Heap) (locs : List Loc) (ls : Array Slot), va_P (cD X) classes w H → va_D (cA X) w → va_S (cA X) (cS X).heap H locs → lv_has ls nL lv → W (cP X) (cL X) (cE X) (cR X) (cS X) (cM X) (cG X) (cB X) (cT X) (cC X) H locs k n (cQ X) (F0 (cM X) pc ls st)
/-- how a method may end -/
def Ende (X : Cx) (k n : Nat) (Rt : Option Value → va_W → Prop) : Prop := ∃ (Qc : Array Value → State → Outcome → State → Prop) (free : Addr → Prop), cQ X = MQ (cB X) Qc (cG X) (cS X) k n free ∧ (∀ q, cA X q → free q) ∧
  ∀ (rv : Option Value) (w' : va_W) (H : Heap) (locs : List Loc), Rt rv w' → va_P (cD X) classes w' H → va_D (cA X) w' → va_S (cA X) (cS X).heap H locs → ∀ t : State, t.heap = H → (cS X).WarmedH t.vm → Qc (cG X) (cS X) (.returned rv) t
/-- premises beside the world: they pass to every later state of the same tables -/
def ZOK (Z : (Nat → Prop) → State → Prop) : Prop := (∀ (A B : Nat → Prop) (s U : State) (locs : List Loc), Z A s → va_S A s.heap U.heap locs → s.WarmedH U.vm → (∀ q, B q → A q) → Z B U) ∧ ∀ (A : Nat → Prop) (U : State) (g : JFrame) (mk : MethodId) (a : Array Value), Z A U → Z A (U.calling g mk a)
abbrev c_Pc (V : Vx) (sz : Nat) (avs : List Value) (wc : va_W) : Array Value → State → Prop := va_Pc avs (fun U => U.heap.size = sz ∧ va_P (vD V) classes wc U.heap ∧ va_K (vD V) classes (tysL (vc V)) U ∧ va_D (fun _ => True) wc ∧ vZ V (va_A wc sz) U)
abbrev c_Qc (V : Vx) (sz : Nat) (wc : va_W) (Rt : Option Value → va_W → Prop) : Array Value → State → Outcome → State → Prop := fun _ st oc t => (∃ (rv : Option Value) (w' : va_W), oc = .returned rv ∧ Rt rv w' ∧ va_P (vD V) classes w' t.heap ∧ va_D (va_A wc sz) w') ∧ va_F (va_A wc sz) st t
/-- a method's contract: in every heap that holds w it returns; Rt says of answer and world behind it -/
def Ct (V : Vx) (y : MethodName) (cy : Cond) (rm : Room) (mc ms : Nat) (avs : List Value) (w : va_W) (Rt : Option Value → va_W → Prop) : Prop :=
  ∀ sz : Nat, Met (vL V) y (cy :: gtbl) rm (c_Pc V sz avs w) (c_Qc V sz w Rt) mc ms (va_A w sz)
abbrev rEq (r : Option Value) (w : va_W) : Option Value → va_W → Prop := fun rv w' => rv = r ∧ w' = w
theorem Ct_of {V : Vx} {y : MethodName} {cc : ByteArray} {maxL : Nat} {ret : Option FieldType} {rm : Room} {mc ms : Nat} {avs : List Value} {w : va_W} {Rt : Option Value → va_W → Prop} {lv : List (Nat × Value)} (hy : plainName y.cls = true) (hn : (lg_sl avs).length ≤ maxL) (hlv : lv_args 0 avs = lv)
    (body : ∀ X : Cx, OK X cc maxL y.cls rm V → (cT X).sig.returnType = ret → (cT X).name = y.name → Ende X mc ms Rt → At X maxL 0 0 w 0 lv []) : Ct V y (.code y cc maxL ret) rm mc ms avs w Rt := by
  intro sz
  refine Met.ofW (cc := cc) (maxL := maxL) (ret := ret) hy rfl ?_
  intro p e s m args below meth c s₁ B hml hv
  obtain ⟨rfl, hsz, hP, hK, hD0, hZ⟩ := hv
  have hts := atoms_spec (ws := Cond.code y cc maxL ret :: gtbl) B.pre
  have hown : s.vm.findClass y.cls = some m.cls := findClass_of_methodNamed B.named
  subst hsz
  have hD := hD0.self (sz := s.heap.size)
  have hl := lv_entry avs (n := maxL) hn
  rw [hlv] at hl
  rw [lg_entry_eq]
  exact body (p, vL V, e, (headSpec (Cond.code y cc maxL ret :: gtbl) rm).room, s, m, avs.toArray, below, meth, c, vD V, va_A w s.heap.size, MQ below (c_Qc V s.heap.size w Rt) avs.toArray s mc ms (va_A w s.heap.size))
    ⟨B.exec, B.bytes, hml, hown, fun w hw => hts w (List.mem_cons_of_mem _ hw), hK, fun q h => Or.inr h, B.notSynchronized, hZ, rfl, rfl, rfl⟩ B.returns (name_of_methodNamed B.named B.method).1
    ⟨c_Qc V s.heap.size w Rt, va_A w s.heap.size, rfl, fun _ h => h, fun rv w' H locs hR hP hD hS t ht hW => ⟨⟨rv, w', rfl, hR, by rw [ht]; exact hP, hD⟩, hS.F ht⟩⟩ _ _ _ hP hD va_S.rf hl
section Rows
variable {X : Cx} {cc : ByteArray} {nL k n : Nat} {own : String} {R : Room} {V : Vx} {w : va_W} {pc pc' : Nat} {lv lv' : List (Nat × Value)} {st : List Value} {ρ : Type}
theorem a_lv (ks : List Nat) (hk : lv_pick lv ks = lv') (kk : At X nL k n w pc lv' st) : At X nL k n w pc lv st := fun H locs ls hP hD hS hl => kk H locs ls hP hD hS (lv_sub hl ks hk)
theorem a_w {w2 : va_W} (h : w = w2) (kk : At X nL k n w2 pc lv st) : At X nL k n w pc lv st := h ▸ kk
theorem a_nmI {v : Int32} {f : Int32 → Option ρ} {r : Option ρ} (hf : nmI v f = r) (kk : ∀ x, f x = r → At X nL k n w pc lv (.int x :: st)) : At X nL k n w pc lv (.int v :: st) := kk v hf
theorem a_nmL {v : Int64} {f : Int64 → Option ρ} {r : Option ρ} (hf : nmL v f = r) (kk : ∀ x, f x = r → At X nL k n w pc lv (.long x :: st)) : At X nL k n w pc lv (.long v :: st) := kk v hf
theorem a_iconst {i : Int} {v : Int32} (hX : OK X cc nL own R V) (d : decode cc pc = .ok (.iconst i, 1)) (hv : Int32.ofInt i = v) (hp : pc + 1 = pc') (kk : At X nL k n w pc' lv (.int v :: st)) : At X nL k n w pc lv (st) := by
  subst hp
  exact fun H locs ls hP hD hS hl => lv_iconst hX.1 hX.2.1 d hv (kk H locs ls hP hD hS hl)
theorem a_bipush {i : Int} {v : Int32} (hX : OK X cc nL own R V) (d : decode cc pc = .ok (.bipush i, 2)) (hv : (Int8.ofInt i).toInt32 = v) (hp : pc + 2 = pc') (kk : At X nL k n w pc' lv (.int v :: st)) : At X nL k n w pc lv (st) := by
  subst hp
  exact fun H locs ls hP hD hS hl => lv_bipush hX.1 hX.2.1 d hv (kk H locs ls hP hD hS hl)
theorem a_sipush {i : Int} {v : Int32} (hX : OK X cc nL own R V) (d : decode cc pc = .ok (.sipush i, 3)) (hv : (Int16.ofInt i).toInt32 = v) (hp : pc + 3 = pc') (kk : At X nL k n w pc' lv (.int v :: st)) : At X nL k n w pc lv (st) := by
  subst hp
  exact fun H locs ls hP hD hS hl => lv_sipush hX.1 hX.2.1 d hv (kk H locs ls hP hD hS hl)
theorem a_lconst {i : Fin 2} {v : Int64} (hX : OK X cc nL own R V) (d : decode cc pc = .ok (.lconst i, 1)) (hv : Int64.ofNat (i : Nat) = v) (hp : pc + 1 = pc') (kk : At X nL k n w pc' lv (.long v :: st)) : At X nL k n w pc lv (st) := by
  subst hp
  exact fun H locs ls hP hD hS hl => lv_lconst hX.1 hX.2.1 d hv (kk H locs ls hP hD hS hl)
theorem a_iload_n {j : Fin 4} {i : Nat} {x : Int32} (hX : OK X cc nL own R V) (d : decode cc pc = .ok (.iload_n j, 1)) (hi : (j : Nat) = i) (q : Nat) (hq : lv[q]? = some (i, .int x)) (hp : pc + 1 = pc') (kk : At X nL k n w pc' lv (.int x :: st)) : At X nL k n w pc lv (st) := by
  subst hp
  exact fun H locs ls hP hD hS hl => lv_iload_n hX.1 hX.2.1 d hi (lv_at hl q hq) (kk H locs ls hP hD hS hl)
theorem a_iload {i : Nat} {x : Int32} (hX : OK X cc nL own R V) (d : decode cc pc = .ok (.iload i, 2)) (q : Nat) (hq : lv[q]? = some (i, .int x)) (hp : pc + 2 = pc') (kk : At X nL k n w pc' lv (.int x :: st)) : At X nL k n w pc lv (st) := by
  subst hp
  exact fun H locs ls hP hD hS hl => lv_iload hX.1 hX.2.1 d (lv_at hl q hq) (kk H locs ls hP hD hS hl)
theorem a_istore_n {j : Fin 4} {i : Nat} {x : Int32} (hX : OK X cc nL own R V) (d : decode cc pc = .ok (.istore_n j, 1)) (hi : (j : Nat) = i) (hn : i < nL) (hl' : (i, Value.int x) :: lv.filter (fun q => !(q.1 == i) && !(q.1 + 1 == i && q.2.category == 2)) = lv') (hp : pc + 1 = pc') (kk : At X nL k n w pc' lv' st) : At X nL k n w pc lv (.int x :: st) := by
  subst hp
  exact fun H locs ls hP hD hS hl => lv_istore_n hX.1 hX.2.1 d hi hl hn hl' (fun ls hl => kk H locs ls hP hD hS hl)
theorem a_istore {i : Nat} {x : Int32} (hX : OK X cc nL own R V) (d : decode cc pc = .ok (.istore i, 2)) (hn : i < nL) (hl' : (i, Value.int x) :: lv.filter (fun q => !(q.1 == i) && !(q.1 + 1 == i && q.2.category == 2)) = lv') (hp : pc + 2 = pc') (kk : At X nL k n w pc' lv' st) : At X nL k n w pc lv (.int x :: st) := by
  subst hp
  exact fun H locs ls hP hD hS hl => lv_istore hX.1 hX.2.1 d hl hn hl' (fun ls hl => kk H locs ls hP hD hS hl)
theorem a_lload_n {j : Fin 4} {i : Nat} {x : Int64} (hX : OK X cc nL own R V) (d : decode cc pc = .ok (.lload_n j, 1)) (hi : (j : Nat) = i) (q : Nat) (hq : lv[q]? = some (i, .long x)) (hp : pc + 1 = pc') (kk : At X nL k n w pc' lv (.long x :: st)) : At X nL k n w pc lv (st) := by
  subst hp
  exact fun H locs ls hP hD hS hl => lv_lload_n hX.1 hX.2.1 d hi (lv_at hl q hq) (kk H locs ls hP hD hS hl)
theorem a_lload {i : Nat} {x : Int64} (hX : OK X cc nL own R V) (d : decode cc pc = .ok (.lload i, 2)) (q : Nat) (hq : lv[q]? = some (i, .long x)) (hp : pc + 2 = pc') (kk : At X nL k n w pc' lv (.long x :: st)) : At X nL k n w pc lv (st) := by
  subst hp
  exact fun H locs ls hP hD hS hl => lv_lload hX.1 hX.2.1 d (lv_at hl q hq) (kk H locs ls hP hD hS hl)
theorem a_lstore_n {j : Fin 4} {i : Nat} {x : Int64} (hX : OK X cc nL own R V) (d : decode cc pc = .ok (.lstore_n j, 1)) (hi : (j : Nat) = i) (hn : i + 1 < nL) (hl' : (i, Value.long x) :: lv.filter (fun q => !(q.1 == i) && (!(q.1 == i + 1) && !(q.1 + 1 == i && q.2.category == 2))) = lv') (hp : pc + 1 = pc') (kk : At X nL k n w pc' lv' st) : At X nL k n w pc lv (.long x :: st) := by
  subst hp
  exact fun H locs ls hP hD hS hl => lv_lstore_n hX.1 hX.2.1 d hi hl hn hl' (fun ls hl => kk H locs ls hP hD hS hl)
theorem a_lstore {i : Nat} {x : Int64} (hX : OK X cc nL own R V) (d : decode cc pc = .ok (.lstore i, 2)) (hn : i + 1 < nL) (hl' : (i, Value.long x) :: lv.filter (fun q => !(q.1 == i) && (!(q.1 == i + 1) && !(q.1 + 1 == i && q.2.category == 2))) = lv') (hp : pc + 2 = pc') (kk : At X nL k n w pc' lv' st) : At X nL k n w pc lv (.long x :: st) := by
  subst hp
  exact fun H locs ls hP hD hS hl => lv_lstore hX.1 hX.2.1 d hl hn hl' (fun ls hl => kk H locs ls hP hD hS hl)
theorem a_aload_n {j : Fin 4} {i : Nat} {x : Nat} (hX : OK X cc nL own R V) (d : decode cc pc = .ok (.aload_n j, 1)) (hi : (j : Nat) = i) (q : Nat) (hq : lv[q]? = some (i, .ref x)) (hp : pc + 1 = pc') (kk : At X nL k n w pc' lv (.ref x :: st)) : At X nL k n w pc lv (st) := by
  subst hp
  exact fun H locs ls hP hD hS hl => lv_aload_n hX.1 hX.2.1 d hi (lv_at hl q hq) (kk H locs ls hP hD hS hl)
theorem a_aload {i : Nat} {x : Nat} (hX : OK X cc nL own R V) (d : decode cc pc = .ok (.aload i, 2)) (q : Nat) (hq : lv[q]? = some (i, .ref x)) (hp : pc + 2 = pc') (kk : At X nL k n w pc' lv (.ref x :: st)) : At X nL k n w pc lv (st) := by
  subst hp
  exact fun H locs ls hP hD hS hl => lv_aload hX.1 hX.2.1 d (lv_at hl q hq) (kk H locs ls hP hD hS hl)
theorem a_astore_n {j : Fin 4} {i : Nat} {x : Nat} (hX : OK X cc nL own R V) (d : decode cc pc = .ok (.astore_n j, 1)) (hi : (j : Nat) = i) (hn : i < nL) (hl' : (i, Value.ref x) :: lv.filter (fun q => !(q.1 == i) && !(q.1 + 1 == i && q.2.category == 2)) = lv') (hp : pc + 1 = pc') (kk : At X nL k n w pc' lv' st) : At X nL k n w pc lv (.ref x :: st) := by
  subst hp
  exact fun H locs ls hP hD hS hl => lv_astore_n hX.1 hX.2.1 d hi hl hn hl' (fun ls hl => kk H locs ls hP hD hS hl)
theorem a_astore {i : Nat} {x : Nat} (hX : OK X cc nL own R V) (d : decode cc pc = .ok (.astore i, 2)) (hn : i < nL) (hl' : (i, Value.ref x) :: lv.filter (fun q => !(q.1 == i) && !(q.1 + 1 == i && q.2.category == 2)) = lv') (hp : pc + 2 = pc') (kk : At X nL k n w pc' lv' st) : At X nL k n w pc lv (.ref x :: st) := by
  subst hp
  exact fun H locs ls hP hD hS hl => lv_astore hX.1 hX.2.1 d hl hn hl' (fun ls hl => kk H locs ls hP hD hS hl)
theorem a_iinc {i : Nat} {m : Int} {x v : Int32} (hX : OK X cc nL own R V) (d : decode cc pc = .ok (.iinc i m, 3)) (q : Nat) (hq : lv[q]? = some (i, .int x)) (hv : x + Int32.ofInt m = v) (hn : i < nL) (hl' : (i, Value.int v) :: lv.filter (fun q => !(q.1 == i) && !(q.1 + 1 == i && q.2.category == 2)) = lv') (hp : pc + 3 = pc') (kk : At X nL k n w pc' lv' st) : At X nL k n w pc lv st := by
  subst hp
  exact fun H locs ls hP hD hS hl => lv_iinc hX.1 hX.2.1 d hl (k := q) hq hv hn hl' (fun ls hl => kk H locs ls hP hD hS hl)
theorem a_iadd {x y : Int32} (hX : OK X cc nL own R V) (d : decode cc pc = .ok (.iadd, 1)) (hp : pc + 1 = pc') (kk : At X nL k n w pc' lv (.int (x + y) :: st)) : At X nL k n w pc lv (.int y :: .int x :: st) := by
  subst hp
  exact fun H locs ls hP hD hS hl => lv_iadd hX.1 hX.2.1 d (kk H locs ls hP hD hS hl)
theorem a_isub {x y : Int32} (hX : OK X cc nL own R V) (d : decode cc pc = .ok (.isub, 1)) (hp : pc + 1 = pc') (kk : At X nL k n w pc' lv (.int (x - y) :: st)) : At X nL k n w pc lv (.int y :: .int x :: st) := by
  subst hp
  exact fun H locs ls hP hD hS hl => lv_isub hX.1 hX.2.1 d (kk H locs ls hP hD hS hl)
theorem a_imul {x y : Int32} (hX : OK X cc nL own R V) (d : decode cc pc = .ok (.imul, 1)) (hp : pc + 1 = pc') (kk : At X nL k n w pc' lv (.int (x * y) :: st)) : At X nL k n w pc lv (.int y :: .int x :: st) := by
  subst hp
  exact fun H locs ls hP hD hS hl => lv_imul hX.1 hX.2.1 d (kk H locs ls hP hD hS hl)
theorem a_iand {x y : Int32} (hX : OK X cc nL own R V) (d : decode cc pc = .ok (.iand, 1)) (hp : pc + 1 = pc') (kk : At X nL k n w pc' lv (.int (x &&& y) :: st)) : At X nL k n w pc lv (.int y :: .int x :: st) := by
  subst hp
  exact fun H locs ls hP hD hS hl => lv_iand hX.1 hX.2.1 d (kk H locs ls hP hD hS hl)
theorem a_ior {x y : Int32} (hX : OK X cc nL own R V) (d : decode cc pc = .ok (.ior, 1)) (hp : pc + 1 = pc') (kk : At X nL k n w pc' lv (.int (x ||| y) :: st)) : At X nL k n w pc lv (.int y :: .int x :: st) := by
  subst hp
  exact fun H locs ls hP hD hS hl => lv_ior hX.1 hX.2.1 d (kk H locs ls hP hD hS hl)
theorem a_ixor {x y : Int32} (hX : OK X cc nL own R V) (d : decode cc pc = .ok (.ixor, 1)) (hp : pc + 1 = pc') (kk : At X nL k n w pc' lv (.int (x ^^^ y) :: st)) : At X nL k n w pc lv (.int y :: .int x :: st) := by
  subst hp
  exact fun H locs ls hP hD hS hl => lv_ixor hX.1 hX.2.1 d (kk H locs ls hP hD hS hl)
theorem a_ishl {x y : Int32} (hX : OK X cc nL own R V) (d : decode cc pc = .ok (.ishl, 1)) (hp : pc + 1 = pc') (kk : At X nL k n w pc' lv (.int (x <<< (y &&& 31)) :: st)) : At X nL k n w pc lv (.int y :: .int x :: st) := by
  subst hp
  exact fun H locs ls hP hD hS hl => lv_ishl hX.1 hX.2.1 d (kk H locs ls hP hD hS hl)
theorem a_ishr {x y : Int32} (hX : OK X cc nL own R V) (d : decode cc pc = .ok (.ishr, 1)) (hp : pc + 1 = pc') (kk : At X nL k n w pc' lv (.int (x >>> (y &&& 31)) :: st)) : At X nL k n w pc lv (.int y :: .int x :: st) := by
  subst hp
  exact fun H locs ls hP hD hS hl => lv_ishr hX.1 hX.2.1 d (kk H locs ls hP hD hS hl)
theorem a_iushr {x y : Int32} (hX : OK X cc nL own R V) (d : decode cc pc = .ok (.iushr, 1)) (hp : pc + 1 = pc') (kk : At X nL k n w pc' lv (.int (jushr x y) :: st)) : At X nL k n w pc lv (.int y :: .int x :: st) := by
  subst hp
  exact fun H locs ls hP hD hS hl => lv_iushr hX.1 hX.2.1 d rfl (kk H locs ls hP hD hS hl)
theorem a_idiv {x y : Int32} (hX : OK X cc nL own R V) (d : decode cc pc = .ok (.idiv, 1)) (h0 : ¬ y = 0) (hp : pc + 1 = pc') (kk : At X nL k n w pc' lv (.int (x / y) :: st)) : At X nL k n w pc lv (.int y :: .int x :: st) := by
  subst hp
  exact fun H locs ls hP hD hS hl => lv_idiv hX.1 hX.2.1 d h0 (kk H locs ls hP hD hS hl)
theorem a_irem {x y : Int32} (hX : OK X cc nL own R V) (d : decode cc pc = .ok (.irem, 1)) (h0 : ¬ y = 0) (hp : pc + 1 = pc') (kk : At X nL k n w pc' lv (.int (x - x / y * y) :: st)) : At X nL k n w pc lv (.int y :: .int x :: st) := by
  subst hp
  exact fun H locs ls hP hD hS hl => lv_irem hX.1 hX.2.1 d h0 (kk H locs ls hP hD hS hl)
theorem a_ineg {x : Int32} (hX : OK X cc nL own R V) (d : decode cc pc = .ok (.ineg, 1)) (hp : pc + 1 = pc') (kk : At X nL k n w pc' lv (.int (-x) :: st)) : At X nL k n w pc lv (.int x :: st) := by
  subst hp
  exact fun H locs ls hP hD hS hl => lv_ineg hX.1 hX.2.1 d (kk H locs ls hP hD hS hl)
theorem a_ladd {x y : Int64} (hX : OK X cc nL own R V) (d : decode cc pc = .ok (.ladd, 1)) (hp : pc + 1 = pc') (kk : At X nL k n w pc' lv (.long (x + y) :: st)) : At X nL k n w pc lv (.long y :: .long x :: st) := by
  subst hp
  exact fun H locs ls hP hD hS hl => lv_ladd hX.1 hX.2.1 d (kk H locs ls hP hD hS hl)
theorem a_lsub {x y : Int64} (hX : OK X cc nL own R V) (d : decode cc pc = .ok (.lsub, 1)) (hp : pc + 1 = pc') (kk : At X nL k n w pc' lv (.long (x - y) :: st)) : At X nL k n w pc lv (.long y :: .long x :: st) := by
  subst hp
  exact fun H locs ls hP hD hS hl => lv_lsub hX.1 hX.2.1 d (kk H locs ls hP hD hS hl)
theorem a_lmul {x y : Int64} (hX : OK X cc nL own R V) (d : decode cc pc = .ok (.lmul, 1)) (hp : pc + 1 = pc') (kk : At X nL k n w pc' lv (.long (x * y) :: st)) : At X nL k n w pc lv (.long y :: .long x :: st) := by
  subst hp
  exact fun H locs ls hP hD hS hl => lv_lmul hX.1 hX.2.1 d (kk H locs ls hP hD hS hl)
theorem a_land {x y : Int64} (hX : OK X cc nL own R V) (d : decode cc pc = .ok (.land, 1)) (hp : pc + 1 = pc') (kk : At X nL k n w pc' lv (.long (x &&& y) :: st)) : At X nL k n w pc lv (.long y :: .long x :: st) := by
  subst hp
  exact fun H locs ls hP hD hS hl => lv_land hX.1 hX.2.1 d (kk H locs ls hP hD hS hl)
theorem a_lor {x y : Int64} (hX : OK X cc nL own R V) (d : decode cc pc = .ok (.lor, 1)) (hp : pc + 1 = pc') (kk : At X nL k n w pc' lv (.long (x ||| y) :: st)) : At X nL k n w pc lv (.long y :: .long x :: st) := by
  subst hp
  exact fun H locs ls hP hD hS hl => lv_lor hX.1 hX.2.1 d (kk H locs ls hP hD hS hl)
theorem a_lshl {x : Int64} {y : Int32} (hX : OK X cc nL own R V) (d : decode cc pc = .ok (.lshl, 1)) (hp : pc + 1 = pc') (kk : At X nL k n w pc' lv (.long (x <<< (y.toInt64 &&& 63)) :: st)) : At X nL k n w pc lv (.int y :: .long x :: st) := by
  subst hp
  exact fun H locs ls hP hD hS hl => lv_lshl hX.1 hX.2.1 d rfl (kk H locs ls hP hD hS hl)
theorem a_lshr {x : Int64} {y : Int32} (hX : OK X cc nL own R V) (d : decode cc pc = .ok (.lshr, 1)) (hp : pc + 1 = pc') (kk : At X nL k n w pc' lv (.long (x >>> (y.toInt64 &&& 63)) :: st)) : At X nL k n w pc lv (.int y :: .long x :: st) := by
  subst hp
  exact fun H locs ls hP hD hS hl => lv_lshr hX.1 hX.2.1 d rfl (kk H locs ls hP hD hS hl)
theorem a_i2l {x : Int32} (hX : OK X cc nL own R V) (d : decode cc pc = .ok (.i2l, 1)) (hp : pc + 1 = pc') (kk : At X nL k n w pc' lv (.long x.toInt64 :: st)) : At X nL k n w pc lv (.int x :: st) := by
  subst hp
  exact fun H locs ls hP hD hS hl => lv_i2l hX.1 hX.2.1 d rfl (kk H locs ls hP hD hS hl)
theorem a_l2i {x : Int64} (hX : OK X cc nL own R V) (d : decode cc pc = .ok (.l2i, 1)) (hp : pc + 1 = pc') (kk : At X nL k n w pc' lv (.int x.toInt32 :: st)) : At X nL k n w pc lv (.long x :: st) := by
  subst hp
  exact fun H locs ls hP hD hS hl => lv_l2i hX.1 hX.2.1 d rfl (kk H locs ls hP hD hS hl)
theorem a_i2b {x : Int32} (hX : OK X cc nL own R V) (d : decode cc pc = .ok (.i2b, 1)) (hp : pc + 1 = pc') (kk : At X nL k n w pc' lv (.int x.toInt8.toInt32 :: st)) : At X nL k n w pc lv (.int x :: st) := by
  subst hp
  exact fun H locs ls hP hD hS hl => lv_i2b hX.1 hX.2.1 d rfl (kk H locs ls hP hD hS hl)
theorem a_i2s {x : Int32} (hX : OK X cc nL own R V) (d : decode cc pc = .ok (.i2s, 1)) (hp : pc + 1 = pc') (kk : At X nL k n w pc' lv (.int x.toInt16.toInt32 :: st)) : At X nL k n w pc lv (.int x :: st) := by
  subst hp
  exact fun H locs ls hP hD hS hl => lv_i2s hX.1 hX.2.1 d rfl (kk H locs ls hP hD hS hl)
theorem a_i2c {x : Int32} (hX : OK X cc nL own R V) (d : decode cc pc = .ok (.i2c, 1)) (hp : pc + 1 = pc') (kk : At X nL k n w pc' lv (.int (x.toUInt32 % 65536).toInt32 :: st)) : At X nL k n w pc lv (.int x :: st) := by
  subst hp
  exact fun H locs ls hP hD hS hl => lv_i2c hX.1 hX.2.1 d rfl (kk H locs ls hP hD hS hl)
theorem a_dup {a : Value} (hX : OK X cc nL own R V) (d : decode cc pc = .ok (.dup, 1)) (hc : a.category = 1) (hp : pc + 1 = pc') (kk : At X nL k n w pc' lv (a :: a :: st)) : At X nL k n w pc lv (a :: st) := by
  subst hp
  exact fun H locs ls hP hD hS hl => lv_dup hX.1 hX.2.1 d hc (kk H locs ls hP hD hS hl)
theorem a_pop {a : Value} (hX : OK X cc nL own R V) (d : decode cc pc = .ok (.pop, 1)) (hc : a.category = 1) (hp : pc + 1 = pc') (kk : At X nL k n w pc' lv (st)) : At X nL k n w pc lv (a :: st) := by
  subst hp
  exact fun H locs ls hP hD hS hl => lv_pop hX.1 hX.2.1 d hc (kk H locs ls hP hD hS hl)
theorem a_dup_x1 {a b : Value} (hX : OK X cc nL own R V) (d : decode cc pc = .ok (.dup_x1, 1)) (hc : a.category = 1) (hd : b.category = 1) (hp : pc + 1 = pc') (kk : At X nL k n w pc' lv (a :: b :: a :: st)) : At X nL k n w pc lv (a :: b :: st) := by
  subst hp
  exact fun H locs ls hP hD hS hl => lv_dup_x1 hX.1 hX.2.1 d hc hd (kk H locs ls hP hD hS hl)
theorem a_dup_x2 {a b c : Value} (hX : OK X cc nL own R V) (d : decode cc pc = .ok (.dup_x2, 1)) (hc : a.category = 1) (hd : b.category = 1) (he : c.category = 1) (hp : pc + 1 = pc') (kk : At X nL k n w pc' lv (a :: b :: c :: a :: st)) : At X nL k n w pc lv (a :: b :: c :: st) := by
  subst hp
  exact fun H locs ls hP hD hS hl => lv_dup_x2 hX.1 hX.2.1 d hc hd he (kk H locs ls hP hD hS hl)
theorem a_dup2 {a b : Value} (hX : OK X cc nL own R V) (d : decode cc pc = .ok (.dup2, 1)) (hc : a.category = 1) (hd : b.category = 1) (hp : pc + 1 = pc') (kk : At X nL k n w pc' lv (a :: b :: a :: b :: st)) : At X nL k n w pc lv (a :: b :: st) := by
  subst hp
  exact fun H locs ls hP hD hS hl => lv_dup2_11 hX.1 hX.2.1 d hc hd (kk H locs ls hP hD hS hl)
theorem a_ldc {i : Nat} {v : Int32} (hX : OK X cc nL own R V) (d : decode cc pc = .ok (.ldc i, 2)) (hc : Cond.constant own i v ∈ gtbl) (hp : pc + 2 = pc') (kk : At X nL k n w pc' lv (.int v :: st)) : At X nL k n w pc lv (st) := by
  subst hp
  exact fun H locs ls hP hD hS hl => lv_ldc hX.1 hX.2.1 hX.2.2.2.1 (hX.2.2.2.2.1 _ hc) d (kk H locs ls hP hD hS hl)
theorem a_ldcw {i : Nat} {v : Int32} (hX : OK X cc nL own R V) (d : decode cc pc = .ok (.ldc_w i, 3)) (hc : Cond.constant own i v ∈ gtbl) (hp : pc + 3 = pc') (kk : At X nL k n w pc' lv (.int v :: st)) : At X nL k n w pc lv (st) := by
  subst hp
  exact fun H locs ls hP hD hS hl => lv_ldcw hX.1 hX.2.1 hX.2.2.2.1 (hX.2.2.2.2.1 _ hc) d (kk H locs ls hP hD hS hl)
theorem a_ldc2 {i : Nat} {v : Int64} (hX : OK X cc nL own R V) (d : decode cc pc = .ok (.ldc2_w i, 3)) (hc : Cond.constantLong own i v ∈ gtbl) (hp : pc + 3 = pc') (kk : At X nL k n w pc' lv (.long v :: st)) : At X nL k n w pc lv (st) := by
  subst hp
  exact fun H locs ls hP hD hS hl => lv_ldc2 hX.1 hX.2.1 hX.2.2.2.1 (hX.2.2.2.2.1 _ hc) d (kk H locs ls hP hD hS hl)
theorem a_goto {off : Int} (hX : OK X cc nL own R V) (d : decode cc pc = .ok (.goto off, 3)) (ht : (pc : Int) + off = (pc' : Int)) (kk : At X nL k n w pc' lv st) : At X nL k n w pc lv st :=
  fun H locs ls hP hD hS hl => lv_goto hX.1 hX.2.1 d ht (kk H locs ls hP hD hS hl)
theorem a_if_eq {x : Int32} {off : Int} {tgt : Nat} {ft ff r : Option ρ} (hX : OK X cc nL own R V) (d : decode cc pc = .ok (.ifCond .eq off, 3)) (ht : (pc : Int) + off = (tgt : Int)) (hp : pc + 3 = pc') (hf : (if x = 0 then ft else ff) = r) (kt : ft = r → At X nL k n w tgt lv st) (kf : ff = r → At X nL k n w pc' lv st) : At X nL k n w pc lv (.int x :: st) := by
  subst hp
  exact fun H locs ls hP hD hS hl => lv_if_eq hX.1 hX.2.1 d ht (fun h => kt (by rw [if_pos h] at hf; exact hf) H locs ls hP hD hS hl) (fun h => kf (by rw [if_neg h] at hf; exact hf) H locs ls hP hD hS hl)
theorem a_if_ne {x : Int32} {off : Int} {tgt : Nat} {ft ff r : Option ρ} (hX : OK X cc nL own R V) (d : decode cc pc = .ok (.ifCond .ne off, 3)) (ht : (pc : Int) + off = (tgt : Int)) (hp : pc + 3 = pc') (hf : (if x = 0 then ff else ft) = r) (kt : ft = r → At X nL k n w tgt lv st) (kf : ff = r → At X nL k n w pc' lv st) : At X nL k n w pc lv (.int x :: st) := by
  subst hp
  exact fun H locs ls hP hD hS hl => lv_if_ne hX.1 hX.2.1 d ht (fun h => kt (by rw [if_neg h] at hf; exact hf) H locs ls hP hD hS hl) (fun h => kf (by rw [if_pos h] at hf; exact hf) H locs ls hP hD hS hl)
theorem a_if_lt {x : Int32} {off : Int} {tgt : Nat} {ft ff r : Option ρ} (hX : OK X cc nL own R V) (d : decode cc pc = .ok (.ifCond .lt off, 3)) (ht : (pc : Int) + off = (tgt : Int)) (hp : pc + 3 = pc') (hf : (if x < 0 then ft else ff) = r) (kt : ft = r → At X nL k n w tgt lv st) (kf : ff = r → At X nL k n w pc' lv st) : At X nL k n w pc lv (.int x :: st) := by
  subst hp
  exact fun H locs ls hP hD hS hl => lv_if_lt hX.1 hX.2.1 d ht (fun h => kt (by rw [if_pos h] at hf; exact hf) H locs ls hP hD hS hl) (fun h => kf (by rw [if_neg h] at hf; exact hf) H locs ls hP hD hS hl)
theorem a_if_ge {x : Int32} {off : Int} {tgt : Nat} {ft ff r : Option ρ} (hX : OK X cc nL own R V) (d : decode cc pc = .ok (.ifCond .ge off, 3)) (ht : (pc : Int) + off = (tgt : Int)) (hp : pc + 3 = pc') (hf : (if 0 ≤ x then ft else ff) = r) (kt : ft = r → At X nL k n w tgt lv st) (kf : ff = r → At X nL k n w pc' lv st) : At X nL k n w pc lv (.int x :: st) := by
  subst hp
  exact fun H locs ls hP hD hS hl => lv_if_ge hX.1 hX.2.1 d ht (fun h => kt (by rw [if_pos h] at hf; exact hf) H locs ls hP hD hS hl) (fun h => kf (by rw [if_neg h] at hf; exact hf) H locs ls hP hD hS hl)
theorem a_if_gt {x : Int32} {off : Int} {tgt : Nat} {ft ff r : Option ρ} (hX : OK X cc nL own R V) (d : decode cc pc = .ok (.ifCond .gt off, 3)) (ht : (pc : Int) + off = (tgt : Int)) (hp : pc + 3 = pc') (hf : (if 0 < x then ft else ff) = r) (kt : ft = r → At X nL k n w tgt lv st) (kf : ff = r → At X nL k n w pc' lv st) : At X nL k n w pc lv (.int x :: st) := by
  subst hp
  exact fun H locs ls hP hD hS hl => lv_if_gt hX.1 hX.2.1 d ht (fun h => kt (by rw [if_pos h] at hf; exact hf) H locs ls hP hD hS hl) (fun h => kf (by rw [if_neg h] at hf; exact hf) H locs ls hP hD hS hl)
theorem a_if_le {x : Int32} {off : Int} {tgt : Nat} {ft ff r : Option ρ} (hX : OK X cc nL own R V) (d : decode cc pc = .ok (.ifCond .le off, 3)) (ht : (pc : Int) + off = (tgt : Int)) (hp : pc + 3 = pc') (hf : (if x ≤ 0 then ft else ff) = r) (kt : ft = r → At X nL k n w tgt lv st) (kf : ff = r → At X nL k n w pc' lv st) : At X nL k n w pc lv (.int x :: st) := by
  subst hp
  exact fun H locs ls hP hD hS hl => lv_if_le hX.1 hX.2.1 d ht (fun h => kt (by rw [if_pos h] at hf; exact hf) H locs ls hP hD hS hl) (fun h => kf (by rw [if_neg h] at hf; exact hf) H locs ls hP hD hS hl)
theorem a_icmp_eq {x y : Int32} {off : Int} {tgt : Nat} {ft ff r : Option ρ} (hX : OK X cc nL own R V) (d : decode cc pc = .ok (.if_icmp .eq off, 3)) (ht : (pc : Int) + off = (tgt : Int)) (hp : pc + 3 = pc') (hf : (if x = y then ft else ff) = r) (kt : ft = r → At X nL k n w tgt lv st) (kf : ff = r → At X nL k n w pc' lv st) : At X nL k n w pc lv (.int y :: .int x :: st) := by
  subst hp
  exact fun H locs ls hP hD hS hl => lv_icmp_eq hX.1 hX.2.1 d ht (fun h => kt (by rw [if_pos h] at hf; exact hf) H locs ls hP hD hS hl) (fun h => kf (by rw [if_neg h] at hf; exact hf) H locs ls hP hD hS hl)
theorem a_icmp_ne {x y : Int32} {off : Int} {tgt : Nat} {ft ff r : Option ρ} (hX : OK X cc nL own R V) (d : decode cc pc = .ok (.if_icmp .ne off, 3)) (ht : (pc : Int) + off = (tgt : Int)) (hp : pc + 3 = pc') (hf : (if x = y then ff else ft) = r) (kt : ft = r → At X nL k n w tgt lv st) (kf : ff = r → At X nL k n w pc' lv st) : At X nL k n w pc lv (.int y :: .int x :: st) := by
  subst hp
  exact fun H locs ls hP hD hS hl => lv_icmp_ne hX.1 hX.2.1 d ht (fun h => kt (by rw [if_neg h] at hf; exact hf) H locs ls hP hD hS hl) (fun h => kf (by rw [if_pos h] at hf; exact hf) H locs ls hP hD hS hl)
theorem a_icmp_lt {x y : Int32} {off : Int} {tgt : Nat} {ft ff r : Option ρ} (hX : OK X cc nL own R V) (d : decode cc pc = .ok (.if_icmp .lt off, 3)) (ht : (pc : Int) + off = (tgt : Int)) (hp : pc + 3 = pc') (hf : (if x < y then ft else ff) = r) (kt : ft = r → At X nL k n w tgt lv st) (kf : ff = r → At X nL k n w pc' lv st) : At X nL k n w pc lv (.int y :: .int x :: st) := by
  subst hp
  exact fun H locs ls hP hD hS hl => lv_icmp_lt hX.1 hX.2.1 d ht (fun h => kt (by rw [if_pos h] at hf; exact hf) H locs ls hP hD hS hl) (fun h => kf (by rw [if_neg h] at hf; exact hf) H locs ls hP hD hS hl)
theorem a_icmp_ge {x y : Int32} {off : Int} {tgt : Nat} {ft ff r : Option ρ} (hX : OK X cc nL own R V) (d : decode cc pc = .ok (.if_icmp .ge off, 3)) (ht : (pc : Int) + off = (tgt : Int)) (hp : pc + 3 = pc') (hf : (if y ≤ x then ft else ff) = r) (kt : ft = r → At X nL k n w tgt lv st) (kf : ff = r → At X nL k n w pc' lv st) : At X nL k n w pc lv (.int y :: .int x :: st) := by
  subst hp
  exact fun H locs ls hP hD hS hl => lv_icmp_ge hX.1 hX.2.1 d ht (fun h => kt (by rw [if_pos h] at hf; exact hf) H locs ls hP hD hS hl) (fun h => kf (by rw [if_neg h] at hf; exact hf) H locs ls hP hD hS hl)
theorem a_icmp_gt {x y : Int32} {off : Int} {tgt : Nat} {ft ff r : Option ρ} (hX : OK X cc nL own R V) (d : decode cc pc = .ok (.if_icmp .gt off, 3)) (ht : (pc : Int) + off = (tgt : Int)) (hp : pc + 3 = pc') (hf : (if y < x then ft else ff) = r) (kt : ft = r → At X nL k n w tgt lv st) (kf : ff = r → At X nL k n w pc' lv st) : At X nL k n w pc lv (.int y :: .int x :: st) := by
  subst hp
  exact fun H locs ls hP hD hS hl => lv_icmp_gt hX.1 hX.2.1 d ht (fun h => kt (by rw [if_pos h] at hf; exact hf) H locs ls hP hD hS hl) (fun h => kf (by rw [if_neg h] at hf; exact hf) H locs ls hP hD hS hl)
theorem a_icmp_le {x y : Int32} {off : Int} {tgt : Nat} {ft ff r : Option ρ} (hX : OK X cc nL own R V) (d : decode cc pc = .ok (.if_icmp .le off, 3)) (ht : (pc : Int) + off = (tgt : Int)) (hp : pc + 3 = pc') (hf : (if x ≤ y then ft else ff) = r) (kt : ft = r → At X nL k n w tgt lv st) (kf : ff = r → At X nL k n w pc' lv st) : At X nL k n w pc lv (.int y :: .int x :: st) := by
  subst hp
  exact fun H locs ls hP hD hS hl => lv_icmp_le hX.1 hX.2.1 d ht (fun h => kt (by rw [if_pos h] at hf; exact hf) H locs ls hP hD hS hl) (fun h => kf (by rw [if_neg h] at hf; exact hf) H locs ls hP hD hS hl)
theorem a_lcmp_eq {x y : Int64} {off : Int} {tgt pc1 : Nat} {ft ff r : Option ρ} (hX : OK X cc nL own R V) (d0 : decode cc pc = .ok (.lcmp, 1)) (hp0 : pc + 1 = pc1) (d : decode cc pc1 = .ok (.ifCond .eq off, 3)) (ht : (pc1 : Int) + off = (tgt : Int)) (hp : pc1 + 3 = pc') (hf : (if x = y then ft else ff) = r) (kt : ft = r → At X nL k n w tgt lv st) (kf : ff = r → At X nL k n w pc' lv st) : At X nL k n w pc lv (.long y :: .long x :: st) := by
  subst hp
  subst hp0
  exact fun H locs ls hP hD hS hl => W.lcmp hX.1 hX.2.1 d0 (lv_if_eq hX.1 hX.2.1 d ht (fun h => kt (by rw [if_pos ((lg_cmp_eq x y).mp h)] at hf; exact hf) H locs ls hP hD hS hl) (fun h => kf (by rw [if_neg (fun z => h ((lg_cmp_eq x y).mpr z))] at hf; exact hf) H locs ls hP hD hS hl))
theorem a_lcmp_ne {x y : Int64} {off : Int} {tgt pc1 : Nat} {ft ff r : Option ρ} (hX : OK X cc nL own R V) (d0 : decode cc pc = .ok (.lcmp, 1)) (hp0 : pc + 1 = pc1) (d : decode cc pc1 = .ok (.ifCond .ne off, 3)) (ht : (pc1 : Int) + off = (tgt : Int)) (hp : pc1 + 3 = pc') (hf : (if x = y then ff else ft) = r) (kt : ft = r → At X nL k n w tgt lv st) (kf : ff = r → At X nL k n w pc' lv st) : At X nL k n w pc lv (.long y :: .long x :: st) := by
  subst hp
  subst hp0
  exact fun H locs ls hP hD hS hl => W.lcmp hX.1 hX.2.1 d0 (lv_if_ne hX.1 hX.2.1 d ht (fun h => kt (by rw [if_neg (fun z => h ((lg_cmp_eq x y).mpr z))] at hf; exact hf) H locs ls hP hD hS hl) (fun h => kf (by rw [if_pos ((lg_cmp_eq x y).mp h)] at hf; exact hf) H locs ls hP hD hS hl))
theorem a_lcmp_lt {x y : Int64} {off : Int} {tgt pc1 : Nat} {ft ff r : Option ρ} (hX : OK X cc nL own R V) (d0 : decode cc pc = .ok (.lcmp, 1)) (hp0 : pc + 1 = pc1) (d : decode cc pc1 = .ok (.ifCond .lt off, 3)) (ht : (pc1 : Int) + off = (tgt : Int)) (hp : pc1 + 3 = pc') (hf : (if x < y then ft else ff) = r) (kt : ft = r → At X nL k n w tgt lv st) (kf : ff = r → At X nL k n w pc' lv st) : At X nL k n w pc lv (.long y :: .long x :: st) := by
  subst hp
  subst hp0
  exact fun H locs ls hP hD hS hl => W.lcmp hX.1 hX.2.1 d0 (lv_if_lt hX.1 hX.2.1 d ht (fun h => kt (by rw [if_pos ((lg_cmp_lt x y).mp h)] at hf; exact hf) H locs ls hP hD hS hl) (fun h => kf (by rw [if_neg (fun z => h ((lg_cmp_lt x y).mpr z))] at hf; exact hf) H locs ls hP hD hS hl))
theorem a_lcmp_ge {x y : Int64} {off : Int} {tgt pc1 : Nat} {ft ff r : Option ρ} (hX : OK X cc nL own R V) (d0 : decode cc pc = .ok (.lcmp, 1)) (hp0 : pc + 1 = pc1) (d : decode cc pc1 = .ok (.ifCond .ge off, 3)) (ht : (pc1 : Int) + off = (tgt : Int)) (hp : pc1 + 3 = pc') (hf : (if y ≤ x then ft else ff) = r) (kt : ft = r → At X nL k n w tgt lv st) (kf : ff = r → At X nL k n w pc' lv st) : At X nL k n w pc lv (.long y :: .long x :: st) := by
  subst hp
  subst hp0
  exact fun H locs ls hP hD hS hl => W.lcmp hX.1 hX.2.1 d0 (lv_if_ge hX.1 hX.2.1 d ht (fun h => kt (by rw [if_pos ((lg_cmp_ge x y).mp h)] at hf; exact hf) H locs ls hP hD hS hl) (fun h => kf (by rw [if_neg (fun z => h ((lg_cmp_ge x y).mpr z))] at hf; exact hf) H locs ls hP hD hS hl))
theorem a_lcmp_gt {x y : Int64} {off : Int} {tgt pc1 : Nat} {ft ff r : Option ρ} (hX : OK X cc nL own R V) (d0 : decode cc pc = .ok (.lcmp, 1)) (hp0 : pc + 1 = pc1) (d : decode cc pc1 = .ok (.ifCond .gt off, 3)) (ht : (pc1 : Int) + off = (tgt : Int)) (hp : pc1 + 3 = pc') (hf : (if y < x then ft else ff) = r) (kt : ft = r → At X nL k n w tgt lv st) (kf : ff = r → At X nL k n w pc' lv st) : At X nL k n w pc lv (.long y :: .long x :: st) := by
  subst hp
  subst hp0
  exact fun H locs ls hP hD hS hl => W.lcmp hX.1 hX.2.1 d0 (lv_if_gt hX.1 hX.2.1 d ht (fun h => kt (by rw [if_pos ((lg_cmp_gt x y).mp h)] at hf; exact hf) H locs ls hP hD hS hl) (fun h => kf (by rw [if_neg (fun z => h ((lg_cmp_gt x y).mpr z))] at hf; exact hf) H locs ls hP hD hS hl))
theorem a_lcmp_le {x y : Int64} {off : Int} {tgt pc1 : Nat} {ft ff r : Option ρ} (hX : OK X cc nL own R V) (d0 : decode cc pc = .ok (.lcmp, 1)) (hp0 : pc + 1 = pc1) (d : decode cc pc1 = .ok (.ifCond .le off, 3)) (ht : (pc1 : Int) + off = (tgt : Int)) (hp : pc1 + 3 = pc') (hf : (if x ≤ y then ft else ff) = r) (kt : ft = r → At X nL k n w tgt lv st) (kf : ff = r → At X nL k n w pc' lv st) : At X nL k n w pc lv (.long y :: .long x :: st) := by
  subst hp
  subst hp0
  exact fun H locs ls hP hD hS hl => W.lcmp hX.1 hX.2.1 d0 (lv_if_le hX.1 hX.2.1 d ht (fun h => kt (by rw [if_pos ((lg_cmp_le x y).mp h)] at hf; exact hf) H locs ls hP hD hS hl) (fun h => kf (by rw [if_neg (fun z => h ((lg_cmp_le x y).mpr z))] at hf; exact hf) H locs ls hP hD hS hl))
theorem a_iald {f : Nat → Int32} {m a : Nat} {i : Int32} {kf : Int32 → Option ρ} {r : ρ} (hX : OK X cc nL own R V) (q0 : Nat) (ha : w[q0]? = some (a, .inl (vc V 0, m, .inl f))) (d : decode cc pc = .ok (.iaload, 1)) (hp : pc + 1 = pc') (hf : ldI f m i kf = some r) (kk : ∀ x, kf x = some r → At X nL k n w pc' lv (.int x :: st)) : At X nL k n w pc lv (.int i :: .ref a :: st) := by
  subst hp
  unfold ldI at hf
  by_cases h : i < 0 ∨ m ≤ i.toNatClampNeg
  · rw [if_pos h] at hf; cases hf
  · rw [if_neg h] at hf
    exact fun H locs ls hP hD hS hl => va_iald hX.1 hX.2.1 hX.2.2.2.2.2.1 hP q0 0 ha rfl h d (kk _ hf H locs ls hP hD hS hl)
theorem a_zald {f : Nat → Int32} {m a : Nat} {i : Int32} {kf : Int32 → Option ρ} {r : ρ} (hX : OK X cc nL own R V) (q0 : Nat) (ha : w[q0]? = some (a, .inl (vc V 2, m, .inl f))) (d : decode cc pc = .ok (.baload, 1)) (hp : pc + 1 = pc') (hf : ldI f m i kf = some r) (kk : ∀ x, kf x = some r → At X nL k n w pc' lv (.int x :: st)) : At X nL k n w pc lv (.int i :: .ref a :: st) := by
  subst hp
  unfold ldI at hf
  by_cases h : i < 0 ∨ m ≤ i.toNatClampNeg
  · rw [if_pos h] at hf; cases hf
  · rw [if_neg h] at hf
    exact fun H locs ls hP hD hS hl => va_zald hX.1 hX.2.1 hX.2.2.2.2.2.1 hP q0 2 ha rfl h d (kk _ hf H locs ls hP hD hS hl)
theorem a_bald {f : Nat → Int32} {m a : Nat} {i : Int32} {kf : Int32 → Option ρ} {r : ρ} (hX : OK X cc nL own R V) (q0 : Nat) (ha : w[q0]? = some (a, .inl (vc V 3, m, .inl f))) (d : decode cc pc = .ok (.baload, 1)) (hp : pc + 1 = pc') (hf : ldI f m i kf = some r) (kk : ∀ x, kf x = some r → At X nL k n w pc' lv (.int x :: st)) : At X nL k n w pc lv (.int i :: .ref a :: st) := by
  subst hp
  unfold ldI at hf
  by_cases h : i < 0 ∨ m ≤ i.toNatClampNeg
  · rw [if_pos h] at hf; cases hf
  · rw [if_neg h] at hf
    exact fun H locs ls hP hD hS hl => va_bald hX.1 hX.2.1 hX.2.2.2.2.2.1 hP q0 3 ha rfl h d (kk _ hf H locs ls hP hD hS hl)
theorem a_lald {f : Nat → Int64} {m a : Nat} {i : Int32} {kf : Int64 → Option ρ} {r : ρ} (hX : OK X cc nL own R V) (q0 : Nat) (ha : w[q0]? = some (a, .inl (vc V 1, m, .inr (.inl f)))) (d : decode cc pc = .ok (.laload, 1)) (hp : pc + 1 = pc') (hf : ldL f m i kf = some r) (kk : ∀ x, kf x = some r → At X nL k n w pc' lv (.long x :: st)) : At X nL k n w pc lv (.int i :: .ref a :: st) := by
  subst hp
  unfold ldL at hf
  by_cases h : i < 0 ∨ m ≤ i.toNatClampNeg
  · rw [if_pos h] at hf; cases hf
  · rw [if_neg h] at hf
    exact fun H locs ls hP hD hS hl => va_lald hX.1 hX.2.1 hX.2.2.2.2.2.1 hP q0 1 ha rfl h d (kk _ hf H locs ls hP hD hS hl)
theorem a_iast {wf : St → va_W} {u : St} {ix m a : Nat} {i : Int32} {x : Int32} {kf : St → Option ρ} {r : ρ} (hX : OK X cc nL own R V) (q0 : Nat) (ha : (wf u)[q0]? = some (a, .inl (vc V 0, m, .inl (gA u ix)))) (hw : ∀ g, (wf u).set q0 (a, .inl (vc V 0, m, .inl (g))) = wf (setA u ix g)) (d : decode cc pc = .ok (.iastore, 1)) (hp : pc + 1 = pc') (hf : stI u ix m i x kf = some r) (kk : ∀ u', kf u' = some r → At X nL k n (wf u') pc' lv st) : At X nL k n (wf u) pc lv (.int x :: .int i :: .ref a :: st) := by
  subst hp
  unfold stI at hf
  by_cases h : i < 0 ∨ m ≤ i.toNatClampNeg
  · rw [if_pos h] at hf; cases hf
  · rw [if_neg h] at hf
    refine fun H locs ls hP hD hS hl => va_iast hX.1 hX.2.1 hX.2.2.2.2.2.1 hP hD hS q0 0 ha rfl h d (fun H1 locs1 hP hD hS => ?_)
    rw [hw] at hP hD
    exact kk _ hf H1 locs1 ls hP hD hS hl
theorem a_zast {wf : St → va_W} {u : St} {ix m a : Nat} {i : Int32} {x : Int32} {kf : St → Option ρ} {r : ρ} (hX : OK X cc nL own R V) (q0 : Nat) (ha : (wf u)[q0]? = some (a, .inl (vc V 2, m, .inl (gA u ix)))) (hw : ∀ g, (wf u).set q0 (a, .inl (vc V 2, m, .inl (g))) = wf (setA u ix g)) (d : decode cc pc = .ok (.bastore, 1)) (hp : pc + 1 = pc') (hf : stZ u ix m i x kf = some r) (kk : ∀ u', kf u' = some r → At X nL k n (wf u') pc' lv st) : At X nL k n (wf u) pc lv (.int x :: .int i :: .ref a :: st) := by
  subst hp
  unfold stZ at hf
  by_cases h : i < 0 ∨ m ≤ i.toNatClampNeg
  · rw [if_pos h] at hf; cases hf
  · rw [if_neg h] at hf
    refine fun H locs ls hP hD hS hl => va_zast hX.1 hX.2.1 hX.2.2.2.2.2.1 hP hD hS q0 2 ha rfl h d (fun H1 locs1 hP hD hS => ?_)
    rw [hw] at hP hD
    exact kk _ hf H1 locs1 ls hP hD hS hl
theorem a_bast {wf : St → va_W} {u : St} {ix m a : Nat} {i : Int32} {x : Int32} {kf : St → Option ρ} {r : ρ} (hX : OK X cc nL own R V) (q0 : Nat) (ha : (wf u)[q0]? = some (a, .inl (vc V 3, m, .inl (gA u ix)))) (hw : ∀ g, (wf u).set q0 (a, .inl (vc V 3, m, .inl (g))) = wf (setA u ix g)) (d : decode cc pc = .ok (.bastore, 1)) (hp : pc + 1 = pc') (hf : stB u ix m i x kf = some r) (kk : ∀ u', kf u' = some r → At X nL k n (wf u') pc' lv st) : At X nL k n (wf u) pc lv (.int x :: .int i :: .ref a :: st) := by
  subst hp
  unfold stB at hf
  by_cases h : i < 0 ∨ m ≤ i.toNatClampNeg
  · rw [if_pos h] at hf; cases hf
  · rw [if_neg h] at hf
    refine fun H locs ls hP hD hS hl => va_bast hX.1 hX.2.1 hX.2.2.2.2.2.1 hP hD hS q0 3 ha rfl h d (fun H1 locs1 hP hD hS => ?_)
    rw [hw] at hP hD
    exact kk _ hf H1 locs1 ls hP hD hS hl
theorem a_last {wf : St → va_W} {u : St} {ix m a : Nat} {i : Int32} {x : Int64} {kf : St → Option ρ} {r : ρ} (hX : OK X cc nL own R V) (q0 : Nat) (ha : (wf u)[q0]? = some (a, .inl (vc V 1, m, .inr (.inl (gB u ix))))) (hw : ∀ g, (wf u).set q0 (a, .inl (vc V 1, m, .inr (.inl (g)))) = wf (setB u ix g)) (d : decode cc pc = .ok (.lastore, 1)) (hp : pc + 1 = pc') (hf : stL u ix m i x kf = some r) (kk : ∀ u', kf u' = some r → At X nL k n (wf u') pc' lv st) : At X nL k n (wf u) pc lv (.long x :: .int i :: .ref a :: st) := by
  subst hp
  unfold stL at hf
  by_cases h : i < 0 ∨ m ≤ i.toNatClampNeg
  · rw [if_pos h] at hf; cases hf
  · rw [if_neg h] at hf
    refine fun H locs ls hP hD hS hl => va_last hX.1 hX.2.1 hX.2.2.2.2.2.1 hP hD hS q0 1 ha rfl h d (fun H1 locs1 hP hD hS => ?_)
    rw [hw] at hP hD
    exact kk _ hf H1 locs1 ls hP hD hS hl
theorem a_get {C ref : String} {T : u_T} {N ci a idx : Nat} {fs : List Value} {v : Value} (hX : OK X cc nL own R V) (hin : ∀ w ∈ u_ws C T N, w ∈ gtbl) (q0 : Nat) (he : w[q0]? = some (a, .inr (ci, fs))) (hc : classes[ci]? = some (C, T, N)) (j : Nat) (hj : j < N) (hlink : Cond.fieldLink own idx ref (T j).2.1 (T j).2.2.1 ∈ gtbl) (href : (T j).1 = ref) (hv : fs[j]? = some v) (d : decode cc pc = .ok (.getfield idx, 3)) (hp : pc + 3 = pc') (kk : At X nL k n w pc' lv (v :: st)) : At X nL k n w pc lv (.ref a :: st) := by
  subst hp
  subst href
  exact fun H locs ls hP hD hS hl => va_get hX.1 hX.2.1 hX.2.2.2.2.1 hin hX.2.2.2.1 hX.2.2.2.2.2.1 hP q0 he hc j hj (hX.2.2.2.2.1 _ hlink) (fun _ h => h) hv d (kk H locs ls hP hD hS hl)
theorem a_put {wf : St → va_W} {u u2 : St} {C ref : String} {T : u_T} {N ci a idx : Nat} {fs : List Value} {v : Value} {ty0 : Nat → FieldType} {ty : FieldType} {kf : St → Option ρ} {r : Option ρ} (hX : OK X cc nL own R V) (hin : ∀ w ∈ u_ws C T N, w ∈ gtbl) (hty : ∀ k, k < N → parseFieldDescriptor (T k).2.2.1 = some (ty0 k)) (hnm : ∀ a, a < N → ∀ b, b < N → a ≠ b → (T a).2.1 ≠ (T b).2.1) (q0 : Nat) (he : (wf u)[q0]? = some (a, .inr (ci, fs))) (hc : classes[ci]? = some (C, T, N)) (j : Nat) (hj : j < N) (hlink : Cond.fieldLink own idx ref (T j).2.1 (T j).2.2.1 ∈ gtbl) (href : (T j).1 = ref) (hfin : (T j).2.2.2 = false) (hty2 : ty0 j = ty) (hn : narrow ty v = v) (hfit : fits ty v = true) (hl' : j < fs.length) (hw : (wf u).set q0 (a, .inr (ci, fs.set j v)) = wf u2) (d : decode cc pc = .ok (.putfield idx, 3)) (hp : pc + 3 = pc') (hf : nmS u2 kf = r) (kk : ∀ u', kf u' = r → At X nL k n (wf u') pc' lv st) : At X nL k n (wf u) pc lv (v :: .ref a :: st) := by
  subst hp
  subst href
  subst hty2
  refine fun H locs ls hP hD hS hl => va_put hX.1 hX.2.1 hX.2.2.2.2.1 hin ty0 hty hnm hX.2.2.2.1 hX.2.2.2.2.2.1 hP hD hS q0 he hc j hj (hX.2.2.2.2.1 _ hlink) (fun _ h => h) hfin (hty j hj) hn hfit hl' d (fun H1 locs1 hP hD hS => ?_)
  rw [hw] at hP hD
  exact kk _ hf H1 locs1 ls hP hD hS hl
theorem a_putI {wf : St → va_W} {u u2 : St} {C ref : String} {T : u_T} {N ci a idx : Nat} {fs : List Value} {v : Int32} {ty0 : Nat → FieldType} {kf : St → Option ρ} {r : Option ρ} (hX : OK X cc nL own R V) (hin : ∀ w ∈ u_ws C T N, w ∈ gtbl) (hty : ∀ k, k < N → parseFieldDescriptor (T k).2.2.1 = some (ty0 k)) (hnm : ∀ a, a < N → ∀ b, b < N → a ≠ b → (T a).2.1 ≠ (T b).2.1) (q0 : Nat) (he : (wf u)[q0]? = some (a, .inr (ci, fs))) (hc : classes[ci]? = some (C, T, N)) (j : Nat) (hj : j < N) (hlink : Cond.fieldLink own idx ref (T j).2.1 (T j).2.2.1 ∈ gtbl) (href : (T j).1 = ref) (hfin : (T j).2.2.2 = false) (hty2 : ty0 j = .int) (hl' : j < fs.length) (hw : (wf u).set q0 (a, .inr (ci, fs.set j (.int v))) = wf u2) (d : decode cc pc = .ok (.putfield idx, 3)) (hp : pc + 3 = pc') (hf : nmS u2 kf = r) (kk : ∀ u', kf u' = r → At X nL k n (wf u') pc' lv st) : At X nL k n (wf u) pc lv (.int v :: .ref a :: st) :=
  a_put hX hin hty hnm q0 he hc j hj hlink href hfin hty2 rfl rfl hl' hw d hp hf kk
theorem a_putL {wf : St → va_W} {u u2 : St} {C ref : String} {T : u_T} {N ci a idx : Nat} {fs : List Value} {v : Int64} {ty0 : Nat → FieldType} {kf : St → Option ρ} {r : Option ρ} (hX : OK X cc nL own R V) (hin : ∀ w ∈ u_ws C T N, w ∈ gtbl) (hty : ∀ k, k < N → parseFieldDescriptor (T k).2.2.1 = some (ty0 k)) (hnm : ∀ a, a < N → ∀ b, b < N → a ≠ b → (T a).2.1 ≠ (T b).2.1) (q0 : Nat) (he : (wf u)[q0]? = some (a, .inr (ci, fs))) (hc : classes[ci]? = some (C, T, N)) (j : Nat) (hj : j < N) (hlink : Cond.fieldLink own idx ref (T j).2.1 (T j).2.2.1 ∈ gtbl) (href : (T j).1 = ref) (hfin : (T j).2.2.2 = false) (hty2 : ty0 j = .long) (hl' : j < fs.length) (hw : (wf u).set q0 (a, .inr (ci, fs.set j (.long v))) = wf u2) (d : decode cc pc = .ok (.putfield idx, 3)) (hp : pc + 3 = pc') (hf : nmS u2 kf = r) (kk : ∀ u', kf u' = r → At X nL k n (wf u') pc' lv st) : At X nL k n (wf u) pc lv (.long v :: .ref a :: st) :=
  a_put hX hin hty hnm q0 he hc j hj hlink href hfin hty2 rfl rfl hl' hw d hp hf kk
theorem a_tsw {dflt lo hi : Int} {offs : Array Int} {len : Nat} {x : Int32} (hX : OK X cc nL own R V) (d : decode cc pc = .ok (.tableswitch dflt lo hi offs, len)) (v : Int32) (h : x = v) (h1 : ¬ v.toInt < lo) (h2 : ¬ hi < v.toInt) {off : Int} (ho : offs[(v.toInt - lo).toNat]? = some off) (ht : (pc : Int) + off = (pc' : Int)) (kk : At X nL k n w pc' lv st) : At X nL k n w pc lv (.int x :: st) := by
  subst h
  exact fun H locs ls hP hD hS hl => lv_tableIn hX.1 hX.2.1 d h1 h2 ho ht (kk H locs ls hP hD hS hl)
theorem a_tswO {dflt lo hi : Int} {offs : Array Int} {len : Nat} {x : Int32} (hX : OK X cc nL own R V) (d : decode cc pc = .ok (.tableswitch dflt lo hi offs, len)) (h : x.toInt < lo ∨ hi < x.toInt) (ht : (pc : Int) + dflt = (pc' : Int)) (kk : At X nL k n w pc' lv st) : At X nL k n w pc lv (.int x :: st) :=
  fun H locs ls hP hD hS hl => lv_tableOut hX.1 hX.2.1 d h ht (kk H locs ls hP hD hS hl)
theorem a_ret {Rt : Option Value → va_W → Prop} (hX : OK X cc nL own R V) (hty : (cT X).sig.returnType = none) (hF : Ende X k n Rt) (hr : Rt none w) (d : decode cc pc = .ok (.return_, 1)) : At X nL k n w pc lv [] := by
  intro H locs ls hP hD hS hl
  obtain ⟨Qc, free, e, hfr, hq⟩ := hF
  rw [e]
  exact W.vret hX.1 hX.2.1 hty (fun t ht hW => hq _ _ H locs hr hP hD hS t ht hW) (fun q h => hfr _ (hS.2.2 q h)) d hX.2.2.2.2.2.2.2.1
theorem a_iret {v : Int32} {Rt : Option Value → va_W → Prop} (hX : OK X cc nL own R V) (hty : (cT X).sig.returnType = some .int) (hF : Ende X k n Rt) (hr : Rt (some (.int v)) w) (d : decode cc pc = .ok (.ireturn, 1)) : At X nL k n w pc lv [.int v] := by
  intro H locs ls hP hD hS hl
  obtain ⟨Qc, free, e, hfr, hq⟩ := hF
  rw [e]
  exact W.iret hX.1 hX.2.1 hty (fun t ht hW => hq _ _ H locs hr hP hD hS t ht hW) (fun q h => hfr _ (hS.2.2 q h)) d hX.2.2.2.2.2.2.2.1
theorem a_zret {v : Int32} {Rt : Option Value → va_W → Prop} (hX : OK X cc nL own R V) (hty : (cT X).sig.returnType = some .boolean) (hn : narrow .boolean (.int v) = .int v) (hF : Ende X k n Rt) (hr : Rt (some (.int v)) w) (d : decode cc pc = .ok (.ireturn, 1)) : At X nL k n w pc lv [.int v] := by
  intro H locs ls hP hD hS hl
  obtain ⟨Qc, free, e, hfr, hq⟩ := hF
  rw [e]
  exact W.zret hX.1 hX.2.1 hty hn (fun t ht hW => hq _ _ H locs hr hP hD hS t ht hW) (fun q h => hfr _ (hS.2.2 q h)) d hX.2.2.2.2.2.2.2.1
theorem a_lret {v : Int64} {Rt : Option Value → va_W → Prop} (hX : OK X cc nL own R V) (hty : (cT X).sig.returnType = some .long) (hF : Ende X k n Rt) (hr : Rt (some (.long v)) w) (d : decode cc pc = .ok (.lreturn, 1)) : At X nL k n w pc lv [.long v] := by
  intro H locs ls hP hD hS hl
  obtain ⟨Qc, free, e, hfr, hq⟩ := hF
  rw [e]
  exact W.lret hX.1 hX.2.1 hty (fun t ht hW => hq _ _ H locs hr hP hD hS t ht hW) (fun q h => hfr _ (hS.2.2 q h)) d hX.2.2.2.2.2.2.2.1
theorem r_1 {α : Type} {v r : α} {f : α → Value} (hf : some v = some r) : rEq (some (f r)) w (some (f v)) w := by
  cases hf
  exact ⟨rfl, rfl⟩
theorem r_2 {α : Type} {v : α} {u : St} {r : α × St} {f : α → Value} {wf : St → va_W} (hf : some (v, u) = some r) : rEq (some (f r.1)) (wf r.2) (some (f v)) (wf u) := by
  cases hf
  exact ⟨rfl, rfl⟩
theorem r_0 {u r : St} {wf : St → va_W} (hf : some u = some r) : rEq none (wf r) none (wf u) := by
  cases hf
  exact ⟨rfl, rfl⟩
theorem r_z {v : Int32} {r s : ρ} (hf : rtZ v s = some r) : narrow .boolean (.int v) = .int v ∧ some s = some r := by
  unfold rtZ at hf
  by_cases h : v = 0 ∨ v = 1
  · rw [if_pos h] at hf
    rcases h with rfl | rfl
    · exact ⟨by decide, hf⟩
    · exact ⟨by decide, hf⟩
  · rw [if_neg h] at hf; cases hf
end Rows
