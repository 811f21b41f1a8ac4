section Pure2
variable {ρ : Type}
def ldX (ts : List Tx) (i : Int32) (k : Tx → Option ρ) : Option ρ := if i < 0 ∨ 6 ≤ i.toNatClampNeg then none else match ts[i.toNatClampNeg]? with
  | none => none
  | some t => k t
def rtC (v : Int32) (r : ρ) : Option ρ := if (v.toUInt32 % 65536).toInt32 = v then some r else none
theorem ldX_some {ts : List Tx} {i : Int32} {k : Tx → Option ρ} {r : ρ} (h : ldX ts i k = some r) : ∃ t, ts[i.toNatClampNeg]? = some t ∧ ¬ (i < 0 ∨ 6 ≤ i.toNatClampNeg) ∧ k t = some r := by
  unfold ldX at h
  by_cases hi : i < 0 ∨ 6 ≤ i.toNatClampNeg
  · rw [if_pos hi] at h; cases h
  · rw [if_neg hi] at h
    cases ht : ts[i.toNatClampNeg]? with
    | none => rw [ht] at h; cases h
    | some t => rw [ht] at h; exact ⟨t, rfl, hi, h⟩
theorem r_c {v : Int32} {r s : ρ} (hf : rtC v s = some r) : narrow .char (.int v) = .int v ∧ some s = some r := by
  unfold rtC at hf
  by_cases h : (v.toUInt32 % 65536).toInt32 = v
  · rw [if_pos h] at hf
    refine ⟨?_, hf⟩
    have := pk_nc v
    rw [h] at this
    exact this
  · rw [if_neg h] at hf; cases hf
end Pure2
def sln (i : Nat) : Nat := slen.getD i 0
def sby (i : Nat) : Nat → Int32 := fun j => (sbyt.getD i []).getD j 0
theorem r_tS {i : Int32} {u : St} {r : Int32 × St} {wf : St → va_W} {q : Nat → Nat} (hf : some (i, u) = some r) : rEq (some (.ref (q (1000 + Int32.toNatClampNeg r.1)))) (wf r.2) (some (.ref (q (1000 + Int32.toNatClampNeg i)))) (wf u) := by
  cases hf
  exact ⟨rfl, rfl⟩
section Rows2
variable {X : Cx} {cc : ByteArray} {nL k n : Nat} {own : String} {R : Room} {V : Vx} {w wc w1 : va_W} {jn : va_W → va_W} {pc pc' idx : Nat} {lv : List (Nat × Value)} {st : List Value} {ρ : Type} {q g : Nat → Nat} {ts : List Tx} {u : St} {j : Nat} {t : Tx} {ii : Nat}
theorem ts_lt (ht : ts[j]? = some t) : j < ts.length := (List.getElem?_eq_some_iff.mp ht).1
theorem wC_tobj (ht : ts[j]? = some t) : (wC V q ts u)[40 + 2 * j]? = some (q (1000 + j), .inr (9, [.ref (q (1100 + j)), .int t.1])) := by
  rw [wC_dyn, dynT_obj V q ts 0 j t ht, Nat.zero_add]
theorem wC_tarr (ht : ts[j]? = some t) : (wC V q ts u)[40 + (2 * j + 1)]? = some (q (1100 + j), .inl (vc V 0, t.2.1, .inl t.2.2)) := by
  rw [wC_dyn, dynT_arr V q ts 0 j t ht, Nat.zero_add]
theorem a_taald {i : Int32} (hX : OK X cc nL own R V) (ht : ts[i.toNatClampNeg]? = some t) (hin : ¬ (i < 0 ∨ 6 ≤ i.toNatClampNeg)) (d : decode cc pc = .ok (.aaload, 1)) (hp : pc + 1 = pc') (kk : At X nL k n (wC V q ts u) pc' lv (.ref (q (1000 + Int32.toNatClampNeg i)) :: st)) : At X nL k n (wC V q ts u) pc lv (.int i :: .ref (q 162) :: st) := by
  subst hp
  intro H locs ls hP hD hS hl
  refine va_aldq (C := "VaseCourt$Text") hX.1 hX.2.1 hX.2.2.2.2.2.1 hP 22 4 rfl rfl hin d ?_
  show W _ _ _ _ _ _ _ _ _ _ _ _ _ _ _ (F0 _ _ _ (va_rf (if i.toNatClampNeg < ts.length then some (q (1000 + i.toNatClampNeg)) else none) :: st))
  rw [if_pos (ts_lt ht)]
  exact kk H locs ls hP hD hS hl
theorem a_tg0 (hX : OK X cc nL own R V) (ht : ts[j]? = some t) (hl : Cond.fieldLink own idx "VaseCourt$Text" "code" "[I" ∈ gtbl) (d : decode cc pc = .ok (.getfield idx, 3)) (hp : pc + 3 = pc') (kk : At X nL k n (wC V q ts u) pc' lv (.ref (q (1100 + j)) :: st)) : At X nL k n (wC V q ts u) pc lv (.ref (q (1000 + j)) :: st) := a_get hX inG9 _ (wC_tobj ht) rfl 0 (by decide) hl rfl rfl d hp kk
theorem a_tg1 (hX : OK X cc nL own R V) (ht : ts[j]? = some t) (hl : Cond.fieldLink own idx "VaseCourt$Text" "split" "I" ∈ gtbl) (d : decode cc pc = .ok (.getfield idx, 3)) (hp : pc + 3 = pc') (kk : At X nL k n (wC V q ts u) pc' lv (.int t.1 :: st)) : At X nL k n (wC V q ts u) pc lv (.ref (q (1000 + j)) :: st) := a_get hX inG9 _ (wC_tobj ht) rfl 1 (by decide) hl rfl rfl d hp kk
theorem a_tald {i : Int32} {kf : Int32 → Option ρ} {r : ρ} (hX : OK X cc nL own R V) (ht : ts[j]? = some t) (d : decode cc pc = .ok (.iaload, 1)) (hp : pc + 1 = pc') (hf : ldI t.2.2 t.2.1 i kf = some r) (kk : ∀ x, kf x = some r → At X nL k n (wC V q ts u) pc' lv (.int x :: st)) : At X nL k n (wC V q ts u) pc lv (.int i :: .ref (q (1100 + j)) :: st) := a_iald hX _ (wC_tarr ht) d hp hf kk
theorem a_tlen (hX : OK X cc nL own R V) (ht : ts[j]? = some t) (d : decode cc pc = .ok (.arraylength, 1)) (hp : pc + 1 = pc') (kk : At X nL k n (wC V q ts u) pc' lv (.int (Int32.ofNat t.2.1) :: st)) : At X nL k n (wC V q ts u) pc lv (.ref (q (1100 + j)) :: st) := by
  subst hp
  exact fun H locs ls hP hD hS hl => va_alen hX.1 hX.2.1 hX.2.2.2.2.2.1 hP _ 0 (wC_tarr ht) rfl rfl d (kk H locs ls hP hD hS hl)
theorem a_aret {a : Nat} {C : String} {Rt : Option Value → va_W → Prop} (hX : OK X cc nL own R V) (hty : (cT X).sig.returnType = some (.object C)) (hF : Ende X k n Rt) (hr : Rt (some (.ref a)) w) (d : decode cc pc = .ok (.areturn, 1)) : At X nL k n w pc lv [.ref a] := by
  intro H locs ls hP hD hS hl
  obtain ⟨Qc, free, e, hfr, hq⟩ := hF
  rw [e]
  exact W.aret hX.1 hX.2.1 hty (Or.inl ⟨_, rfl⟩) (Or.inr ⟨_, rfl⟩) (fun t ht hW => hq _ _ H locs hr hP hD hS t ht hW) (fun q h => hfr _ (hS.2.2 q h)) d hX.2.2.2.2.2.2.2.1
theorem a_cret {v : Int32} {Rt : Option Value → va_W → Prop} (hX : OK X cc nL own R V) (hty : (cT X).sig.returnType = some .char) (hn : narrow .char (.int v) = .int v) (hF : Ende X k n Rt) (hr : Rt (some (.int v)) w) (d : decode cc pc = .ok (.ireturn, 1)) : At X nL k n w pc lv [.int v] := by
  intro H locs ls hP hD hS hl
  obtain ⟨Qc, free, e, hfr, hq⟩ := hF
  rw [e]
  exact W.zret hX.1 hX.2.1 hty hn (fun t ht hW => hq _ _ H locs hr hP hD hS t ht hW) (fun q h => hfr _ (hS.2.2 q h)) d hX.2.2.2.2.2.2.2.1
theorem a_bret {v : Int32} {Rt : Option Value → va_W → Prop} (hX : OK X cc nL own R V) (hty : (cT X).sig.returnType = some .byte) (hn : narrow .byte (.int v) = .int v) (hF : Ende X k n Rt) (hr : Rt (some (.int v)) w) (d : decode cc pc = .ok (.ireturn, 1)) : At X nL k n w pc lv [.int v] := by
  intro H locs ls hP hD hS hl
  obtain ⟨Qc, free, e, hfr, hq⟩ := hF
  rw [e]
  exact W.zret hX.1 hX.2.1 hty hn (fun t ht hW => hq _ _ H locs hr hP hD hS t ht hW) (fun q h => hfr _ (hS.2.2 q h)) d hX.2.2.2.2.2.2.2.1
theorem a_ldS {key : Nat} (hX : OK X cc nL "VaseCourt$Reader" R V) (hE : EnvC V g) (i : Nat) (hi : i < 11) (hk : skey.getD i 0 = key) (d : decode cc pc = .ok (.ldc key, 2)) (hp : pc + 2 = pc') (kk : At X nL k n w pc' lv (.ref (g (10 + i)) :: st)) : At X nL k n w pc lv st := by
  subst hp
  subst hk
  exact fun H locs ls hP hD hS hl => va_ldcS hX.1 hX.2.1 hX.2.2.2.1 ((hE.2 _ _ hX.2.2.2.2.2.2.2.2.1).2.2.2.2.2.1 i hi) d (kk H locs ls hP hD hS hl)
theorem a_sgv (hX : OK X cc nL own R V) (hE : EnvC V g) (hii : ii < 11) (hl : Cond.fieldLink own idx "java/lang/String" "value" "[B" ∈ gtbl) (d : decode cc pc = .ok (.getfield idx, 3)) (hp : pc + 3 = pc') (kk : At X nL k n w pc' lv (.ref (g (30 + ii)) :: st)) : At X nL k n w pc lv (.ref (g (10 + ii)) :: st) := by
  subst hp
  exact fun H locs ls hP hD hS hl' => vk_getf hX.1 hX.2.1 ((hE.2 _ _ hX.2.2.2.2.2.2.2.2.1).2.2.2.2.1.1 ii hii).2.2.1 hS hX.2.2.2.1 (hX.2.2.2.2.1 _ hl) (fun _ h => h) d (kk H locs ls hP hD hS hl')
theorem a_sgc (hX : OK X cc nL own R V) (hE : EnvC V g) (hii : ii < 11) (hl : Cond.fieldLink own idx "java/lang/String" "coder" "B" ∈ gtbl) (d : decode cc pc = .ok (.getfield idx, 3)) (hp : pc + 3 = pc') (kk : At X nL k n w pc' lv (.int 0 :: st)) : At X nL k n w pc lv (.ref (g (10 + ii)) :: st) := by
  subst hp
  exact fun H locs ls hP hD hS hl' => vk_getf hX.1 hX.2.1 ((hE.2 _ _ hX.2.2.2.2.2.2.2.2.1).2.2.2.2.1.1 ii hii).2.1 hS hX.2.2.2.1 (hX.2.2.2.2.1 _ hl) (fun _ h => h) d (kk H locs ls hP hD hS hl')
theorem a_comp (hX : OK X cc nL own R V) (hE : EnvC V g) (hl : Cond.fieldLink own idx "java/lang/String" "COMPACT_STRINGS" "Z" ∈ gtbl) (d : decode cc pc = .ok (.getstatic idx, 3)) (hp : pc + 3 = pc') (kk : At X nL k n w pc' lv (.int 1 :: st)) : At X nL k n w pc lv st := by
  subst hp
  exact fun H locs ls hP hD hS hl' => va_gets hX.1 hX.2.1 (hE.2 _ _ hX.2.2.2.2.2.2.2.2.1).2.2.2.1 hS hX.2.2.2.1 (hX.2.2.2.2.1 _ hl) (fun _ h => h) d (kk H locs ls hP hD hS hl')
theorem a_siob (hX : OK X cc nL own R V) (hE : EnvC V g) (hl : Cond.fieldLink own idx "jdk/internal/util/Preconditions" "SIOOBE_FORMATTER" "Ljava/util/function/BiFunction;" ∈ gtbl) (d : decode cc pc = .ok (.getstatic idx, 3)) (hp : pc + 3 = pc') (kk : ∀ v : Value, (v = .null ∨ ∃ t, v = .ref t) → At X nL k n w pc' lv (v :: st)) : At X nL k n w pc lv st := by
  subst hp
  intro H locs ls hP hD hS hl'
  rcases (hE.2 _ _ hX.2.2.2.2.2.2.2.2.1).2.2.2.2.2.2 with hz | ⟨t, hz⟩
  · exact va_gets hX.1 hX.2.1 hz hS hX.2.2.2.1 (hX.2.2.2.2.1 _ hl) (fun _ h => h) d (kk _ (Or.inl rfl) H locs ls hP hD hS hl')
  · exact va_gets hX.1 hX.2.1 hz hS hX.2.2.2.1 (hX.2.2.2.2.1 _ hl) (fun _ h => h) d (kk _ (Or.inr ⟨t, rfl⟩) H locs ls hP hD hS hl')
theorem a_sbald {i : Int32} {kf : Int32 → Option ρ} {r : ρ} (hX : OK X cc nL own R V) (hE : EnvC V g) (hii : ii < 11) (d : decode cc pc = .ok (.baload, 1)) (hp : pc + 1 = pc') (hf : ldI (sby ii) (sln ii) i kf = some r) (kk : ∀ x, kf x = some r → At X nL k n w pc' lv (.int x :: st)) : At X nL k n w pc lv (.int i :: .ref (g (30 + ii)) :: st) := by
  subst hp
  unfold ldI at hf
  by_cases h : i < 0 ∨ sln ii ≤ i.toNatClampNeg
  · rw [if_pos h] at hf; cases hf
  · rw [if_neg h] at hf
    exact fun H locs ls hP hD hS hl => va_tb hX.1 hX.2.1 ((hE.2 _ _ hX.2.2.2.2.2.2.2.2.1).2.2.2.2.1.1 ii hii).2.2.2 hS h rfl d (kk _ hf H locs ls hP hD hS hl)
theorem a_slen (hX : OK X cc nL own R V) (hE : EnvC V g) (hii : ii < 11) (d : decode cc pc = .ok (.arraylength, 1)) (hp : pc + 1 = pc') (kk : At X nL k n w pc' lv (.int (Int32.ofNat (sln ii)) :: st)) : At X nL k n w pc lv (.ref (g (30 + ii)) :: st) := by
  subst hp
  exact fun H locs ls hP hD hS hl => va_tlen hX.1 hX.2.1 ((hE.2 _ _ hX.2.2.2.2.2.2.2.2.1).2.2.2.2.1.1 ii hii).2.2.2 hS rfl d (kk H locs ls hP hD hS hl)
section TCalls
variable {stk rest As : List Value} {y : MethodName} {bytes : ByteArray} {maxL : Nat} {ret : Option FieldType} {rm : Room} {C : String} {b : Nat}
theorem a_cVsr {q0 ci a : Nat} {fs : List Value} {T : u_T} {N : Nat} (hX : OK X cc nL own R V) (hZ : ZOK (vZ V)) (hC : Ct V y (.code y bytes maxL ret) rm 0 0 (.ref b :: As) w (rEq (some (.ref a)) w1)) (hk : LkV own idx C y bytes maxL ret As.length) (hrecv : w[q0]? = some (b, .inr (ci, fs)) ∧ classes[ci]? = some (C, T, N)) (hroom : RmOK rm maxL 0 0 R) (hcs : k ≤ R.cells ∧ n ≤ R.slots) (hst : (rest.map fun v => v.category).sum ≤ 8) (d : decode cc pc = .ok (.invokevirtual idx, 3)) (hp : pc + 3 = pc') (hs : stk = As.reverse ++ .ref b :: rest) (kk : At X nL k n w1 pc' lv (.ref a :: rest)) : At X nL k n w pc lv stk :=
  a_callV hX hZ Sub.same hC hk hrecv hroom hcs hst d hp hs (fun rv w' h => by obtain ⟨rfl, rfl⟩ := h; exact kk)
/-- a call on one of the class's own texts -/
theorem a_cTpi {v : Int32} (hX : OK X cc nL own R V) (hZ : ZOK (vZ V)) (hC : Ct V y (.code y bytes maxL ret) rm 0 0 (.ref (g (10 + ii)) :: As) [] (rEq (some (.int v)) [])) (hk : LkV own idx "java/lang/String" y bytes maxL ret As.length) (hE : EnvC V g) (hii : ii < 11) (hroom : RmOK rm maxL 0 0 R) (hcs : k ≤ R.cells ∧ n ≤ R.slots) (hst : (rest.map fun v => v.category).sum ≤ 8) (d : decode cc pc = .ok (.invokevirtual idx, 3)) (hp : pc + 3 = pc') (hs : stk = As.reverse ++ .ref (g (10 + ii)) :: rest) (kk : At X nL k n w pc' lv (.int v :: rest)) : At X nL k n w pc lv stk := by
  subst hs
  intro H locs ls hP hD hS hl
  have hPc := (Sub.pure (A := cA X) (w := w)).1 (cD X) H hP
  have hDc := (Sub.pure (A := cA X) (w := w)).2.1 hD
  have hF := c_hF hX hDc hS
  have hM := hC H.size
  rw [← (hX.2.2.2.2.2.2.2.2.2.2.1 : cL X = vL V)] at hM
  have hR0 : cR X = R := hX.2.2.2.2.2.2.2.2.2.1
  exact c_go hX Sub.pure hP hD hS hl hF (va_runV (As := As) (rest := rest) ⟨hX.1, hX.2.1, hX.2.2.1, hX.2.2.2.1, hX.2.2.2.2.1⟩ hM (cwV As.length hX.2.2.2.2.1 (g_V hk.1.1 hk.1.2.1 hk.1.2.2.1 hk.1.2.2.2.1 hk.1.2.2.2.2) rfl hroom.1 hroom.2.1 hk.2 (by rw [hR0]; exact hroom.2.2)) ⟨c_blind hZ, vk_recv (hE.2 _ _ hX.2.2.2.2.2.2.2.2.1).2.2.2.2.1 hii hS, c_pre hX hZ hPc hDc hS hF⟩ rfl rfl hl.1 rfl (lv_room hst) d (by rw [hR0]; exact hcs)) hp (fun rv w' h => by obtain ⟨rfl, rfl⟩ := h; exact kk)
theorem a_cSpv (hX : OK X cc nL own R V) (hZ : ZOK (vZ V)) (hC : Ct V y (.code y bytes maxL ret) rm 0 0 As [] (rEq none [])) (hk : LkS own idx y bytes maxL ret As.length) (hroom : RmOK rm maxL 0 0 R) (hcs : k ≤ R.cells ∧ n ≤ R.slots) (hst : (rest.map fun v => v.category).sum ≤ 8) (d : decode cc pc = .ok (.invokestatic idx, 3)) (hp : pc + 3 = pc') (hs : stk = As.reverse ++ rest) (kk : At X nL k n w pc' lv rest) : At X nL k n w pc lv stk :=
  a_callS hX hZ Sub.pure hC hk hroom hcs hst d hp hs (fun rv w' h => by obtain ⟨rfl, rfl⟩ := h; exact kk)
end TCalls
end Rows2
theorem LN_X11_place : LkN yX11_place cX11_place 2 (some .int) 2 := ⟨⟨Sc_X11_place, J_X11, Cd_X11_place⟩, by decide +kernel⟩
theorem LN_X11_isIn : LkN yX11_isIn cX11_isIn 2 (some .boolean) 2 := ⟨⟨Sc_X11_isIn, J_X11, Cd_X11_isIn⟩, by decide +kernel⟩
