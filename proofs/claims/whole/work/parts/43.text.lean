theorem nd_append : ∀ (l m : List Nat), va_nd l = true → va_nd m = true → (∀ x ∈ l, x ∉ m) → va_nd (l ++ m) = true
  | [], m, _, h, _ => h
  | a :: l, m, h1, h2, h3 => by
    simp only [va_nd, Bool.and_eq_true, decide_eq_true_eq] at h1
    simp only [List.cons_append, va_nd, Bool.and_eq_true, decide_eq_true_eq, List.mem_append, not_or]
    exact ⟨⟨h1.1, h3 a List.mem_cons_self⟩, nd_append l m h1.2 h2 (fun x hx => h3 x (List.mem_cons_of_mem _ hx))⟩
theorem nd_of_nodup : ∀ l : List Nat, l.Nodup → va_nd l = true
  | [], _ => rfl
  | a :: l, h => by
    simp only [List.nodup_cons] at h
    simp only [va_nd, Bool.and_eq_true, decide_eq_true_eq]
    exact ⟨h.1, nd_of_nodup l h.2⟩
theorem nd_swap (n : Nat) : va_nd (List.range n ++ [n + 1, n]) = true := by
  refine nd_append _ _ (nd_of_nodup _ List.nodup_range) ?_ ?_
  · simp [va_nd]
  · intro x hx
    have := List.mem_range.mp hx
    simp
    omega
theorem map_swap {α : Type} (w : List α) (x y : α) (n : Nat) (h : w.length = n) : (List.range n ++ [n + 1, n]).map (fun i => ((w ++ [x]) ++ [y])[i]?) = (w ++ [y, x]).map some := by
  subst h
  rw [List.map_append, List.map_append]
  congr 1
  · apply List.ext_getElem?
    intro i
    simp only [List.getElem?_map, List.getElem?_range, List.append_assoc, List.cons_append, List.nil_append]
    by_cases hi : i < w.length
    · simp [hi, List.getElem?_append_left]
    · simp [hi, List.getElem?_eq_none (Nat.le_of_not_lt hi)]
  · simp
theorem ap_last {α : Type} (w : List α) (x : α) : (w ++ [x])[w.length]? = some x := by simp
theorem ap_set {α : Type} (w : List α) (x y : α) : (w ++ [x]).set w.length y = w ++ [y] := by simp
section TextRows
variable {X : Cx} {cc : ByteArray} {nL k n : Nat} {own : String} {R : Room} {V : Vx} {w w2 : va_W} {pc pc' idx : Nat} {lv : List (Nat × Value)} {st : List Value} {a a0 : Nat}
theorem a_jminK {x y : Int32} (hX : OK X cc nL own R V) (hk : Cond.methodLink own idx Lib.Math.min.name ∈ gtbl) (hfr : 1 ≤ R.frames) (hlo : (st.map fun v => v.category).sum + 13 ≤ R.locals) (hcs : k ≤ R.cells ∧ n ≤ R.slots) (d : decode cc pc = .ok (.invokestatic idx, 3)) (hp : pc + 3 = pc') (kk : At X nL k n w pc' lv (.int (jmin x y) :: st)) : At X nL k n w pc lv (.int y :: .int x :: st) := by
  subst hp
  have hR0 : cR X = R := hX.2.2.2.2.2.2.2.2.2.1
  exact fun H locs ls hP hD hS hl => va_mmin hX.1 hX.2.1 (hX.2.2.1.trans hl.1.symm) hX.2.2.2.1 (hX.2.2.2.2.1 _ hk) (hX.2.2.2.2.1 _ Sc_min) (hX.2.2.2.2.1 _ J_J9) (hX.2.2.2.2.1 _ Cd_min) (by rw [hR0]; exact hfr) (by rw [hR0]; exact hlo) (by rw [hR0]; exact hcs.1) (by rw [hR0]; exact hcs.2) d (kk H locs ls hP hD hS hl)
theorem a_copy2 {f g : Nat → Int32} {n0 n1 : Nat} {sp dp nn : Int32} (hX : OK X cc nL own R V) (q0 q1 : Nat) (ha0 : w[q0]? = some (a0, .inl (vc V 0, n0, .inl f))) (ha1 : w[q1]? = some (a, .inl (vc V 0, n1, .inl g))) (h1 : ¬ sp < 0) (h2 : ¬ dp < 0) (h3 : ¬ nn < 0) (h4 : sp.toNatClampNeg + nn.toNatClampNeg ≤ n0) (h5 : dp.toNatClampNeg + nn.toNatClampNeg ≤ n1) (hk : Cond.methodLink own idx arraycopyName ∈ gtbl) (hfr : 1 ≤ R.frames) (hlo : (st.map fun v => v.category).sum + (nativeFrameWords "java/lang/System" "arraycopy" 5 + 11) ≤ R.locals) (hw : w.set q1 (a, .inl (vc V 0, n1, .inl (va_cpy f g sp.toNatClampNeg dp.toNatClampNeg nn.toNatClampNeg))) = w2) (d : decode cc pc = .ok (.invokestatic idx, 3)) (hp : pc + 3 = pc') (kk : At X nL k n w2 pc' lv st) : At X nL k n w pc lv (.int nn :: .int dp :: .ref a :: .int sp :: .ref a0 :: st) := by
  subst hp
  have hR0 : cR X = R := hX.2.2.2.2.2.2.2.2.2.1
  refine fun H locs ls hP hD hS hl => va_copyi hX.1 hX.2.1 (hX.2.2.1.trans hl.1.symm) hX.2.2.2.1 (hX.2.2.2.2.1 _ hk) (hX.2.2.2.2.1 _ Nt_acopy) (hX.2.2.2.2.1 _ Sc_acopy) (hX.2.2.2.2.1 _ J_J10) hX.2.2.2.2.2.1 hP hD hS q0 q1 0 0 ha0 ha1 rfl rfl rfl h1 h2 h3 h4 h5 (fun i _ => fits_int _) (by rw [hR0]; exact hfr) (by rw [hR0]; exact hlo) d (fun H1 locs1 hP hD hS => ?_)
  rw [hw] at hP hD
  exact kk H1 locs1 ls hP hD hS hl
theorem a_aretA {ty : FieldType} {Rt : Option Value → va_W → Prop} (hX : OK X cc nL own R V) (hty : (cT X).sig.returnType = some (.array ty)) (hF : Ende X k n Rt) (hr : Rt (some (.ref a)) w) (d : decode cc pc = .ok (.areturn, 1)) : At X nL k n w pc lv [.ref a] := by
  intro H locs ls hP hD hS hl
  obtain ⟨Qc, free, e, hfr, hq⟩ := hF
  rw [e]
  exact W.aret hX.1 hX.2.1 hty (Or.inr ⟨_, rfl⟩) (Or.inr ⟨_, rfl⟩) (fun t ht hW => hq _ _ H locs hr hP hD hS t ht hW) (fun q h => hfr _ (hS.2.2 q h)) d hX.2.2.2.2.2.2.2.1
end TextRows
def RtCo (V : Vx) (q : Nat → Nat) (ts : List Tx) (u : St) (N : Nat) : Option Value → va_W → Prop := fun rv w' => ∃ (a : Nat) (f : Nat → Int32), rv = some (.ref a) ∧ w' = wC V q ts u ++ [(a, .inl (vc V 0, N, .inl f))] ∧ ∀ j, j < N → f j = gA u 103 j
theorem cl_eq {m : Int32} {N : Nat} (hm : ¬ m < 0) (hN : m.toNatClampNeg = N) : N < 2 ^ 31 ∧ m = nI N := by
  obtain ⟨j, hj, rfl⟩ := nI_of hm
  rw [nI_clamp hj] at hN
  subst hN
  exact ⟨hj, rfl⟩
def rmCopy : Room := { frames := 1, cells := 1, slots := 160, locals := 60 }
def rmCodeRead : Room := { frames := 2, cells := 1, slots := 160, locals := 90 }
def rmAddText : Room := { frames := 2, cells := 1, slots := 2, locals := 60 }
def rmText : Room := { frames := 80, cells := 2, slots := 162, locals := 4100 }
theorem ctCopy {V : Vx} {q g : Nat → Nat} {ts : List Tx} {u : St} (hE : EnvC V g) {m : Int32} {N : Nat} (hm : ¬ m < 0) (hN : m.toNatClampNeg = N) (hN2 : N < 160) : Ct V yJ7_copyOf_59c91 (.code yJ7_copyOf_59c91 cJ7_copyOf_59c91 3 (some (.array .int))) rmCopy 1 160 [.ref (q 203), .int m] (wC V q ts u) (RtCo V q ts u N) := by
  refine Ct_of (by decide) (Nat.le_of_ble_eq_true rfl) rfl (fun X hX hT _ hF => ?_)
  obtain ⟨hN3, hmN⟩ := cl_eq hm hN
  have hlt : m < 160 := by
    rw [hmN]
    exact nI_lt hN2 (by decide)
  have hm160 : ¬ m = 160 := by
    intro e
    rw [e] at hlt
    exact absurd hlt (by decide)
  have hjm : jmin 160 m = m := if_pos hlt
  refine a_iload_n hX dJ7_copyOf_59c91_0 rfl 1 rfl rfl ?_
  refine a_aload_n hX dJ7_copyOf_59c91_1 rfl 0 rfl rfl ?_
  refine a_alen (v := 160) hX 21 0 rfl rfl rfl dJ7_copyOf_59c91_2 rfl ?_
  refine a_icmp_ne (tgt := 14) (ft := some ()) (ff := none) (r := some ()) hX dJ7_copyOf_59c91_3 rfl rfl (if_neg hm160) (fun _ => ?_) (fun h => by cases h)
  refine a_iload_n hX dJ7_copyOf_59c91_14 rfl 1 rfl rfl ?_
  refine a_newa_int (N := N) hX hm hN (by show N * 4 ≤ _; omega) ⟨by decide, by show 0 + N ≤ 160; omega⟩ dJ7_copyOf_59c91_15 rfl (fun a => ?_)
  refine a_astore_n (lv' := [(2, .ref a), (0, .ref (q 203)), (1, .int m)]) hX dJ7_copyOf_59c91_17 rfl (by decide) rfl rfl ?_
  refine a_aload_n hX dJ7_copyOf_59c91_18 rfl 1 rfl rfl ?_
  refine a_iconst (v := 0) hX dJ7_copyOf_59c91_19 (by decide) rfl ?_
  refine a_aload_n hX dJ7_copyOf_59c91_20 rfl 0 rfl rfl ?_
  refine a_iconst (v := 0) hX dJ7_copyOf_59c91_21 (by decide) rfl ?_
  refine a_aload_n hX dJ7_copyOf_59c91_22 rfl 1 rfl rfl ?_
  refine a_alen (v := 160) hX 21 0 rfl rfl rfl dJ7_copyOf_59c91_23 rfl ?_
  refine a_iload_n hX dJ7_copyOf_59c91_24 rfl 2 rfl rfl ?_
  refine a_jminK hX K_J7_304 (by decide) (Nat.le_of_ble_eq_true rfl) ⟨by decide, by show 0 + N ≤ 160; omega⟩ dJ7_copyOf_59c91_25 rfl ?_
  rw [hjm]
  have z0 : (0 : Int32).toNatClampNeg = 0 := rfl
  refine a_copy2 hX 21 (wC V q ts u).length rfl (ap_last _ _) (by decide) (by decide) hm (by rw [z0, hN]; omega) (by rw [z0, hN]; omega) K_J7_150 (by decide) (Nat.le_of_ble_eq_true rfl) (ap_set _ _ _) dJ7_copyOf_59c91_28 rfl ?_
  refine a_aload_n hX dJ7_copyOf_59c91_31 rfl 0 rfl rfl ?_
  refine a_wid (k2 := 1) (n2 := 160) (by decide) (by omega) ?_
  refine a_aretA hX hT hF ⟨a, _, rfl, rfl, fun j hj => ?_⟩ dJ7_copyOf_59c91_32
  rw [pk_cpy_in (by rw [z0]; omega) (by rw [z0, hN]; omega), z0]
  congr 1
  omega
theorem ctCodeRead {V : Vx} {q g : Nat → Nat} {ts : List Tx} {u : St} (hE : EnvC V g) {N : Nat} (hm : ¬ gZ u 104 < 0) (hN : (gZ u 104).toNatClampNeg = N) (hN2 : N < 160) : Ct V yX5_codeRead (.code yX5_codeRead cX5_codeRead 1 (some (.array .int))) rmCodeRead 1 160 [.ref (q 5)] (wC V q ts u) (RtCo V q ts u N) := by
  refine Ct_of (by decide) (Nat.le_of_ble_eq_true rfl) rfl (fun X hX hT _ hF => ?_)
  refine a_aload_n hX dX5_codeRead_0 rfl 0 rfl rfl ?_
  refine gX5_3 hX F_X5_13 dX5_codeRead_1 rfl ?_
  refine a_aload_n hX dX5_codeRead_4 rfl 0 rfl rfl ?_
  refine gX5_4 hX F_X5_21 dX5_codeRead_5 rfl ?_
  refine a_callS (rest := []) hX hE.1 Sub.same (ctCopy hE hm hN hN2) K_X5_24 ⟨rfl, rfl, by decide, by decide⟩ ⟨by decide, by decide⟩ (Nat.le_of_ble_eq_true rfl) dX5_codeRead_8 rfl rfl (fun rv w' hR => ?_)
  obtain ⟨a, f, rfl, rfl, hf⟩ := hR
  exact a_aretA hX hT hF ⟨a, f, rfl, rfl, hf⟩ dX5_codeRead_11
theorem dynT_congr (V : Vx) {q q' : Nat → Nat} : ∀ (ts : List Tx) (i : Nat), (∀ j, i ≤ j → j < i + ts.length → q' (1000 + j) = q (1000 + j) ∧ q' (1100 + j) = q (1100 + j)) → dynT V q' i ts = dynT V q i ts
  | [], i, _ => rfl
  | t :: ts, i, h => by
    have h0 := h i (Nat.le_refl i) (by simp)
    have ih := dynT_congr V ts (i + 1) (fun j h1 h2 => h j (by omega) (by simp only [List.length_cons] at *; omega))
    unfold dynT
    rw [h0.1, h0.2, ih]
theorem wF_congr (V : Vx) {q q' : Nat → Nat} (hq : ∀ i, i < 1000 → q' i = q i) (ts : List Tx) (u : St) : wF V q' ts u = (wF V q ts u).set 22 (q 162, .inl (vc V 4, 6, .inr (.inr (.inr (.inr (fun j => if j < ts.length then some (q' (1000 + j)) else none)))))) := by
  unfold wF
  simp only [oX11, oX10, oX4, oX1, oX5, oX3, oX0, oX2, oX8, oX6, oX7, hq 0 (by decide), hq 1 (by decide), hq 2 (by decide), hq 3 (by decide), hq 4 (by decide), hq 5 (by decide), hq 6 (by decide), hq 7 (by decide), hq 8 (by decide), hq 10 (by decide), hq 11 (by decide), hq 101 (by decide), hq 102 (by decide), hq 103 (by decide), hq 121 (by decide), hq 122 (by decide), hq 123 (by decide), hq 162 (by decide), hq 163 (by decide), hq 164 (by decide), hq 165 (by decide), hq 166 (by decide), hq 167 (by decide), hq 183 (by decide), hq 184 (by decide), hq 185 (by decide), hq 186 (by decide), hq 187 (by decide), hq 202 (by decide), hq 203 (by decide), hq 222 (by decide), hq 223 (by decide), hq 240 (by decide), hq 241 (by decide), hq 242 (by decide), hq 262 (by decide), hq 263 (by decide), hq 264 (by decide), hq 265 (by decide), hq 301 (by decide)]
  rfl
theorem ctAddText {V : Vx} {q g : Nat → Nat} {ts : List Tx} {u : St} (hE : EnvC V g) {a N : Nat} {f : Nat → Int32} {v2 : Int32} (hc : gZ u 61 = nI ts.length) (hl : ts.length < 6) : Ct V yX3_addText (.code yX3_addText cX3_addText 3 (some .int)) rmAddText 1 2 [.ref (q 3), .ref a, .int v2] (wC V q ts u ++ [(a, .inl (vc V 0, N, .inl f))]) (fun rv w' => rv = some (.int (nI ts.length)) ∧ ∃ q' : Nat → Nat, (∀ i, i < 1000 → q' i = q i) ∧ w' = wC V q' (ts ++ [(v2, N, f)]) (setZ u 61 (nI ts.length + 1))) := by
  refine Ct_of (by decide) (Nat.le_of_ble_eq_true rfl) rfl (fun X hX hT hN hF => ?_)
  refine a_aload_n hX dX3_addText_0 rfl 0 rfl rfl ?_
  refine a_get (v := .ref (q 162)) hX inG3 5 rfl rfl 2 (by decide) F_X3_13 rfl rfl dX3_addText_1 rfl ?_
  refine a_aload_n hX dX3_addText_4 rfl 0 rfl rfl ?_
  refine a_get (v := .int (gZ u 61)) hX inG3 5 rfl rfl 1 (by decide) F_X3_50 rfl rfl dX3_addText_5 rfl ?_
  refine a_new (ci := 9) (fs := [.null, .int 0]) hX inG9 tyX9_ok B_X3_11 I_X9 J_X9 rfl (fun j hj => match j, hj with | 0, _ => rfl | 1, _ => rfl | _ + 2, h => absurd h (by omega)) ⟨by decide, by decide⟩ dX3_addText_8 rfl (fun b => ?_)
  refine a_dup hX dX3_addText_11 rfl rfl ?_
  refine a_aload_n hX dX3_addText_12 rfl 1 rfl rfl ?_
  refine a_iload_n hX dX3_addText_13 rfl 2 rfl rfl ?_
  refine a_callI (rest := [.ref b, .int (gZ u 61), .ref (q 162)]) hX hE.1 Sub.right (ctX9_init hE b a v2) K_X3_47 ⟨rfl, rfl, by decide, by decide⟩ ⟨by decide, by decide⟩ (Nat.le_of_ble_eq_true rfl) dX3_addText_14 rfl rfl (fun rv w' hR => ?_)
  obtain ⟨rfl, rfl⟩ := hR
  have hcl : (nI ts.length).toNatClampNeg = ts.length := nI_clamp (by omega)
  have hin : ¬ (gZ u 61 < 0 ∨ 6 ≤ (gZ u 61).toNatClampNeg) := by
    rw [hc, hcl]
    intro h
    rcases h with h | h
    · exact nI_pos (by omega) h
    · omega
  refine a_ws (w2 := (wC V q ts u ++ [(a, .inl (vc V 0, N, .inl f))]) ++ [(b, .inr (9, [.ref a, .int v2]))]) (st2 := [.ref b, .int (gZ u 61), .ref (q 162)]) rfl rfl ?_
  refine a_astqT (i := gZ u 61) (v := b) hX 22 _ rfl (ap_last _ _) hin rfl dX3_addText_17 rfl ?_
  refine a_aload_n hX dX3_addText_18 rfl 0 rfl rfl ?_
  refine a_dup hX dX3_addText_19 rfl rfl ?_
  refine a_get (v := .int (gZ u 61)) hX inG3 5 rfl rfl 1 (by decide) F_X3_50 rfl rfl dX3_addText_20 rfl ?_
  refine a_dup_x1 hX dX3_addText_23 rfl rfl rfl ?_
  refine a_iconst (v := 1) hX dX3_addText_24 (by decide) rfl ?_
  refine a_iadd hX dX3_addText_25 rfl ?_
  refine a_putG (ty := .int) hX inG3 tyX3_ok nmX3 5 rfl rfl 1 (by decide) F_X3_50 rfl rfl rfl rfl rfl (Nat.le_of_ble_eq_true rfl) rfl dX3_addText_26 rfl ?_
  have hq' : ∀ i, i < 1000 → (fun i => if i = 1000 + ts.length then b else if i = 1100 + ts.length then a else q i) i = q i := fun i hi => by
    show (if i = 1000 + ts.length then b else if i = 1100 + ts.length then a else q i) = q i
    rw [if_neg (by omega), if_neg (by omega)]
  generalize hqe : (fun i => if i = 1000 + ts.length then b else if i = 1100 + ts.length then a else q i) = q' at hq'
  have qb : q' (1000 + ts.length) = b := by rw [← hqe]; exact if_pos rfl
  have qa : q' (1100 + ts.length) = a := by
    rw [← hqe]
    show (if 1100 + ts.length = 1000 + ts.length then b else if 1100 + ts.length = 1100 + ts.length then a else _) = a
    rw [if_neg (by omega), if_pos rfl]
  have qo : ∀ j, j < ts.length → q' (1000 + j) = q (1000 + j) ∧ q' (1100 + j) = q (1100 + j) := fun j hj => by
    rw [← hqe]
    constructor
    · show (if 1000 + j = 1000 + ts.length then b else if 1000 + j = 1100 + ts.length then a else _) = _
      rw [if_neg (by omega), if_neg (by omega)]
    · show (if 1100 + j = 1000 + ts.length then b else if 1100 + j = 1100 + ts.length then a else _) = _
      rw [if_neg (by omega), if_neg (by omega)]
  have ef : (va_up (fun j => if j < ts.length then some (q (1000 + j)) else none) (gZ u 61).toNatClampNeg (some b)) = fun j => if j < (ts ++ [(v2, N, f)]).length then some (q' (1000 + j)) else none := by
    rw [hc, hcl]
    funext j
    unfold va_up
    simp only [List.length_append, List.length_cons, List.length_nil]
    by_cases h1 : j = ts.length
    · subst h1
      rw [if_pos rfl, if_pos (by omega), qb]
    · rw [if_neg h1]
      by_cases h2 : j < ts.length
      · rw [if_pos h2, if_pos (by omega), (qo j h2).1]
      · rw [if_neg h2, if_neg (by omega)]
  have ew : wC V q' (ts ++ [(v2, N, f)]) (setZ u 61 (gZ u 61 + 1)) = ((((wF V q ts u).set 22 (q 162, .inl (vc V 4, 6, .inr (.inr (.inr (.inr (va_up (fun j => if j < ts.length then some (q (1000 + j)) else none) (gZ u 61).toNatClampNeg (some b)))))))).set 5 (q 3, .inr (3, (oX3 q u).set 1 (.int (gZ u 61 + 1))))) ++ dynT V q 0 ts) ++ [(b, .inr (9, [.ref a, .int v2])), (a, .inl (vc V 0, N, .inl f))] := by
    unfold wC
    rw [wF_congr V hq', dynT_app, dynT_congr V ts 0 (fun j _ h => qo j (by omega)), Nat.zero_add, qb, qa, ef, ← List.append_assoc]
    rfl
  have hlen : (wC V q ts u).length = 40 + (dynT V q 0 ts).length := by
    unfold wC
    rw [List.length_append, wF_len]
  refine a_w (w2 := (((((wF V q ts u).set 22 (q 162, .inl (vc V 4, 6, .inr (.inr (.inr (.inr (va_up (fun j => if j < ts.length then some (q (1000 + j)) else none) (gZ u 61).toNatClampNeg (some b)))))))).set 5 (q 3, .inr (3, (oX3 q u).set 1 (.int (gZ u 61 + 1))))) ++ dynT V q 0 ts) ++ [(a, .inl (vc V 0, N, .inl f))]) ++ [(b, .inr (9, [.ref a, .int v2]))]) rfl ?_
  refine a_perm (w2 := wC V q' (ts ++ [(v2, N, f)]) (setZ u 61 (gZ u 61 + 1))) (List.range (40 + (dynT V q 0 ts).length) ++ [40 + (dynT V q 0 ts).length + 1, 40 + (dynT V q 0 ts).length]) ?_ ?_ ?_
  · exact nd_swap _
  · rw [ew]
    exact map_swap _ _ _ _ (by simp only [List.length_append, List.length_set, wF_len])
  rw [hc]
  exact a_iret hX hT hF ⟨rfl, q', hq', rfl⟩ dX3_addText_29
