/-! a text's code worked out -/
def SK (F : Nat → Int32) : List Int32 → Prop
  | [] => True
  | x :: r => F r.length = x ∧ SK F r
theorem SK_upd {F : Nat → Int32} {k : Nat} {x : Int32} : ∀ {st : List Int32}, st.length ≤ k → SK F st → SK (upd F k x) st := by
  intro st
  induction st with
  | nil => intro _ _; trivial
  | cons y r ih =>
    intro h hs
    have hl : r.length + 1 ≤ k := h
    exact ⟨by rw [upd_n _ _ (by omega)]; exact hs.1, ih (by omega) hs.2⟩
theorem name_ix {c : Int32} (h1 : ¬ c < -6) (h2 : c < 0) : ∃ k : Nat, k < 6 ∧ (-1) - c = nI k ∧ (-1 - c).toNatClampNeg = k := by
  have e1 : (-6 : Int32).toInt = -6 := rfl
  have e2 : (0 : Int32).toInt = 0 := rfl
  rw [Int32.lt_iff_toInt_lt] at h1 h2
  have h : c.toInt = -1 ∨ c.toInt = -2 ∨ c.toInt = -3 ∨ c.toInt = -4 ∨ c.toInt = -5 ∨ c.toInt = -6 := by omega
  rcases h with h | h | h | h | h | h
  · have e : c = -1 := Int32.toInt_inj.mp h
    subst e; exact ⟨0, by decide, by decide, by decide⟩
  · have e : c = -2 := Int32.toInt_inj.mp h
    subst e; exact ⟨1, by decide, by decide, by decide⟩
  · have e : c = -3 := Int32.toInt_inj.mp h
    subst e; exact ⟨2, by decide, by decide, by decide⟩
  · have e : c = -4 := Int32.toInt_inj.mp h
    subst e; exact ⟨3, by decide, by decide, by decide⟩
  · have e : c = -5 := Int32.toInt_inj.mp h
    subst e; exact ⟨4, by decide, by decide, by decide⟩
  · have e : c = -6 := Int32.toInt_inj.mp h
    subst e; exact ⟨5, by decide, by decide, by decide⟩
theorem ofTwo_eq (c x y : Int32) : fX3_ofTwo c x y = some (if c = -9 then bI (x ≠ 0 ∨ y ≠ 0) else if c = -10 then bI (x ≠ 0 ∧ y ≠ 0) else if c = -11 then bI (x < y) else if c = -12 then bI (x = y) else if c = -13 then x + y else if c = -14 then x - y else x * y) := by
  unfold fX3_ofTwo fX3_ofTwo_b48
  by_cases h14 : c = -14
  · subst h14; rfl
  rw [if_neg h14]
  by_cases h13 : c = -13
  · subst h13; rfl
  rw [if_neg h13]
  by_cases h12 : c = -12
  · subst h12
    show (if x = y then some (1 : Int32) else some 0) = some (if x = y then 1 else 0)
    by_cases e : x = y
    · rw [if_pos e, if_pos e]
    · rw [if_neg e, if_neg e]
  rw [if_neg h12]
  by_cases h11 : c = -11
  · subst h11
    show (if y ≤ x then some (0 : Int32) else some 1) = some (if x < y then 1 else 0)
    by_cases e : x < y
    · rw [if_neg (i32_lt.mp e), if_pos e]
    · rw [if_neg e, if_pos (i32_le.mpr e)]
  rw [if_neg h11]
  by_cases h10 : c = -10
  · subst h10
    show (if x = 0 then some (0 : Int32) else if y = 0 then some 0 else some 1) = some (if x ≠ 0 ∧ y ≠ 0 then 1 else 0)
    by_cases e : x = 0
    · rw [if_pos e, if_neg (fun z => z.1 e)]
    · rw [if_neg e]
      by_cases e2 : y = 0
      · rw [if_pos e2, if_neg (fun z => z.2 e2)]
      · rw [if_neg e2, if_pos ⟨e, e2⟩]
  rw [if_neg h10]
  by_cases h9 : c = -9
  · subst h9
    show (if x = 0 then (if y = 0 then some (0 : Int32) else some 1) else some 1) = some (if x ≠ 0 ∨ y ≠ 0 then 1 else 0)
    by_cases e : x = 0
    · rw [if_pos e]
      by_cases e2 : y = 0
      · rw [if_pos e2, if_neg (fun z => z.elim (fun w => w e) (fun w => w e2))]
      · rw [if_neg e2, if_pos (Or.inr e2)]
    · rw [if_neg e, if_pos (Or.inl e)]
  rw [if_neg h9, if_neg h9, if_neg h10, if_neg h11, if_neg h12, if_neg h13, if_neg h14]
theorem ofOne_eq (c x : Int32) : fX3_ofOne c x = some (if c = -7 then -x else bI (x = 0)) := by
  unfold fX3_ofOne
  by_cases h : c = -7
  · rw [if_pos h, if_pos h]
  · rw [if_neg h, if_neg h]
    unfold bI
    by_cases e : x = 0
    · rw [if_pos e, if_pos e]
    · rw [if_neg e, if_neg e]
theorem val_loop {ts : List Tx} {tt : Tx} {u : St} {env : Nat → Int32} {e : Nat} (hN : tt.2.1 ≤ 160) (he : e ≤ tt.2.1) (henv : ∀ k, k < 6 → gA u 67 k = env k) : ∀ (n i m : Nat) (F : Nat → Int32) (st : List Int32), i + n = e → n < m → st.length ≤ i → SK F st → ∃ F', fX3_valueOf_l6 ts tt (nI e) m (setA u 66 F) (nI st.length) (nI i) = some (top0 (evN env tt.2.2 i n st), setA u 66 F') := by
  intro n
  induction n with
  | zero =>
    intro i m F st h1 h2 h3 h4
    obtain ⟨m, rfl⟩ : ∃ k, m = k + 1 := ⟨m - 1, by omega⟩
    show ∃ F', fX3_valueOf_l6b ts tt (fX3_valueOf_l6 ts tt (nI e) m) (setA u 66 F) (nI e) (nI st.length) (nI i) = some (top0 st, setA u 66 F')
    unfold fX3_valueOf_l6b
    rw [if_pos (nI_le (by omega) (by omega))]
    cases st with
    | nil => exact ⟨F, by rw [if_pos (by decide)]; rfl⟩
    | cons x r =>
      have h5 : r.length + 1 ≤ i := h3
      refine ⟨F, ?_⟩
      show (if nI (r.length + 1) ≤ 0 then _ else ldI (gA (setA u 66 F) 66) 160 (nI (r.length + 1) - 1) _) = _
      rw [if_neg (nI_nle (by omega) (by omega)), nI_pred, ldI_s (by omega) (by decide), gA_s, h4.1]
      rfl
  | succ n ih =>
    intro i m F st h1 h2 h3 h4
    obtain ⟨m, rfl⟩ : ∃ k, m = k + 1 := ⟨m - 1, by omega⟩
    show ∃ F', fX3_valueOf_l6b ts tt (fX3_valueOf_l6 ts tt (nI e) m) (setA u 66 F) (nI e) (nI st.length) (nI i) = some (top0 (evN env tt.2.2 (i + 1) n (ev1 env (tt.2.2 i) st)), setA u 66 F')
    unfold fX3_valueOf_l6b fX3_valueOf_b50 fX3_valueOf_b134
    rw [if_neg (nI_ge (by omega) (by omega)), ldI_s (by omega) (by omega), nI_1 i]
    generalize tt.2.2 i = c
    have push : ∀ x : Int32, ∃ F', (stI (setA u 66 F) 66 160 (nI st.length) x fun u11 => fX3_valueOf_l6 ts tt (nI e) m u11 (nI st.length + 1) (nI (i + 1))) = some (top0 (evN env tt.2.2 (i + 1) n (x :: st)), setA u 66 F') := by
      intro x
      rw [stI_s (by omega) (by decide), setA_setA, gA_s, nI_1]
      exact ih (i + 1) m (upd F st.length x) (x :: st) (by omega) (by omega) (by show st.length + 1 ≤ i + 1; omega) ⟨upd_s _ _ _, SK_upd (Nat.le_refl _) h4⟩
    by_cases c6 : c < -6
    · rw [if_pos c6]
      have n6 : ¬ (-6 : Int32) ≤ c := i32_lt.mp c6
      by_cases c8 : c < -8
      · rw [if_pos c8]
        have n8 : ¬ (-8 : Int32) ≤ c := i32_lt.mp c8
        cases st with
        | nil =>
          rw [if_pos (by decide), show ev1 env c [] = [] by unfold ev1; rw [if_neg n6, if_neg n8]]
          exact ih (i + 1) m F [] (by omega) (by omega) (Nat.zero_le _) h4
        | cons y r =>
          cases r with
          | nil =>
            rw [if_pos (show nI [y].length ≤ 1 from (by decide : nI 1 ≤ 1)), show ev1 env c [y] = [y] by unfold ev1; rw [if_neg n6, if_neg n8]]
            exact ih (i + 1) m F [y] (by omega) (by omega) (by show 1 ≤ i + 1; omega) h4
          | cons x r =>
            have h5 : r.length + 1 + 1 ≤ i := h3
            show ∃ F', (if nI (r.length + 1 + 1) ≤ 1 then _ else ldI (gA (setA u 66 F) 66) 160 ((nI (r.length + 1 + 1) + (-1)) - 1) fun x3 => ldI (gA (setA u 66 F) 66) 160 (nI (r.length + 1 + 1) + (-1)) fun x4 => cl1 (fX3_ofTwo c x3 x4) fun x5 => stI (setA u 66 F) 66 160 ((nI (r.length + 1 + 1) + (-1)) - 1) x5 fun u6 => fX3_valueOf_l6 ts tt (nI e) m u6 (nI (r.length + 1 + 1) + (-1)) (nI (i + 1))) = _
            rw [if_neg (show ¬ nI (r.length + 1 + 1) ≤ 1 from nI_ge (a := 1) (by omega) (by omega)), pk_m1, nI_pred, ldI_s (by omega) (by decide), ldI_s (by omega) (by decide), gA_s, ofTwo_eq, cl1_s, stI_s (by omega) (by decide), setA_setA, gA_s]
            have e1 : F (r.length + 1) = y := h4.1
            have e2 : F r.length = x := h4.2.1
            rw [e1, e2, show ev1 env c (y :: x :: r) = (if c = -9 then bI (x ≠ 0 ∨ y ≠ 0) else if c = -10 then bI (x ≠ 0 ∧ y ≠ 0) else if c = -11 then bI (x < y) else if c = -12 then bI (x = y) else if c = -13 then x + y else if c = -14 then x - y else x * y) :: r by unfold ev1; rw [if_neg n6, if_neg n8]]
            generalize (if c = -9 then bI (x ≠ 0 ∨ y ≠ 0) else if c = -10 then bI (x ≠ 0 ∧ y ≠ 0) else if c = -11 then bI (x < y) else if c = -12 then bI (x = y) else if c = -13 then x + y else if c = -14 then x - y else x * y) = z
            exact ih (i + 1) m (upd F r.length z) (z :: r) (by omega) (by omega) (by show r.length + 1 ≤ i + 1; omega) ⟨upd_s _ _ _, SK_upd (Nat.le_refl _) h4.2.2⟩
      · rw [if_neg c8]
        have n8 : (-8 : Int32) ≤ c := i32_le.mpr c8
        cases st with
        | nil =>
          rw [if_pos (by decide), show ev1 env c [] = [] by unfold ev1; rw [if_neg n6, if_pos n8]]
          exact ih (i + 1) m F [] (by omega) (by omega) (Nat.zero_le _) h4
        | cons x r =>
          have h5 : r.length + 1 ≤ i := h3
          show ∃ F', (if nI (r.length + 1) ≤ 0 then _ else ldI (gA (setA u 66 F) 66) 160 (nI (r.length + 1) - 1) fun x7 => cl1 (fX3_ofOne c x7) fun x8 => stI (setA u 66 F) 66 160 (nI (r.length + 1) - 1) x8 fun u9 => fX3_valueOf_l6 ts tt (nI e) m u9 (nI (r.length + 1)) (nI (i + 1))) = _
          rw [if_neg (nI_nle (by omega) (by omega)), nI_pred, ldI_s (by omega) (by decide), gA_s, ofOne_eq, cl1_s, stI_s (by omega) (by decide), setA_setA, gA_s]
          have e1 : F r.length = x := h4.1
          rw [e1, show ev1 env c (x :: r) = (if c = -7 then -x else bI (x = 0)) :: r by unfold ev1; rw [if_neg n6, if_pos n8]]
          generalize (if c = -7 then -x else bI (x = 0)) = z
          exact ih (i + 1) m (upd F r.length z) (z :: r) (by omega) (by omega) (by show r.length + 1 ≤ i + 1; omega) ⟨upd_s _ _ _, SK_upd (Nat.le_refl _) h4.2⟩
    · rw [if_neg c6]
      have p6 : (-6 : Int32) ≤ c := i32_le.mpr c6
      by_cases c0 : c < 0
      · rw [if_pos c0]
        obtain ⟨k, hk, e1, e2⟩ := name_ix c6 c0
        rw [e1, gA_n u F (by decide), ldI_s hk (by decide), henv k hk, show ev1 env c st = env k :: st by unfold ev1; rw [if_pos p6, if_neg (i32_lt.mp c0), e2]]
        exact push _
      · rw [if_neg c0, show ev1 env c st = c :: st by unfold ev1; rw [if_pos p6, if_pos (i32_le.mpr c0)]]
        exact push _
theorem val_ok {ts : List Tx} {tt : Tx} {u : St} {env : Nat → Int32} {i n : Nat} (hN : tt.2.1 ≤ 160) (he : i + n ≤ tt.2.1) (henv : ∀ k, k < 6 → gA u 67 k = env k) : ∃ F', fX3_valueOf ts tt u (nI i) (nI (i + n)) = some (top0 (evN env tt.2.2 i n []), setA u 66 F') := by
  obtain ⟨F', e⟩ := val_loop (ts := ts) (e := i + n) hN he henv n i NF (gA u 66) [] rfl (by unfold NF; omega) (Nat.zero_le _) trivial
  rw [setA_self u 66] at e
  exact ⟨F', e⟩
/-- what the names come to -/
def envN (u : St) (a b p : Nat) : Nat → Int32 := fun k => if k = 0 then nI a else if k = 1 then nI b else if k = 2 then nI p else if k = 3 then gZ u 68 else if k = 4 then nI (pcn 16 (gZ u 82).toNatClampNeg) else gA u 201 ((p * 5 + a) * 5 + b)
theorem env_keep {u v : St} (h : keepC u v) (a b p : Nat) : envN v a b p = envN u a b p := by
  unfold envN
  rw [h.1 68 (by decide), h.1 82 (by decide), h.2.1 201 (by decide)]
theorem k67 (u : St) (f : Nat → Int32) : keepC u (setA u 67 f) := ⟨fun _ _ => rfl, fun k hk => by
  simp only [List.mem_cons, List.not_mem_nil, or_false] at hk
  rcases hk with rfl | rfl | rfl | rfl | rfl | rfl | rfl | rfl | rfl | rfl | rfl | rfl | rfl | rfl | rfl | rfl | rfl | rfl <;> rfl, rfl⟩
theorem k66 (u : St) (f : Nat → Int32) : keepC u (setA u 66 f) := ⟨fun _ _ => rfl, fun k hk => by
  simp only [List.mem_cons, List.not_mem_nil, or_false] at hk
  rcases hk with rfl | rfl | rfl | rfl | rfl | rfl | rfl | rfl | rfl | rfl | rfl | rfl | rfl | rfl | rfl | rfl | rfl | rfl <;> rfl, rfl⟩
theorem name_n {u : St} {v : Int32} {k : Nat} (hk : k < 6) (h : (-1) - v = nI k) (x : Int32) : fX3_name u v x = some (setA u 67 (upd (gA u 67) k x)) := by
  unfold fX3_name
  rw [h, stI_s hk (by decide)]
theorem ld_ts {ρ : Type} {ts : List Tx} {tx : Tx} {i : Nat} (hi : i < 6) (h : ts[i]? = some tx) (k : Tx → Option ρ) : ldX ts (nI i) k = k tx := by
  unfold ldX
  rw [if_neg (oob hi (by decide)), nI_clamp (by omega), h]
theorem look_ok {ts : List Tx} {uC uM : St} (h : Rel ts uC uM) {a b p : Nat} (ha : a < 5) (hb : b < 5) (hp : p < 12) : ∃ (i : Nat) (tx : Tx) (F : Nat → Int32), fX3_look ts uC (nI a) (nI b) (nI p) = some (nI i, setA uC 67 F) ∧ fX12_theLaw uM (nI a) (nI p) = some (nI i) ∧ i < 6 ∧ ts[i]? = some tx ∧ ∀ k, k < 6 → F k = envN uC a b p k := by
  have h82 : ∃ n, n < 65536 ∧ gZ uC 82 = nI n := by
    obtain ⟨T, h1, h2, h3, ⟨P, hP, hc, hm, hk, hf, hg, hs⟩, _⟩ := h
    rw [hs]
    exact stand_inr hP
  obtain ⟨n, hn, e82⟩ := h82
  have hlen : ts.length ≤ 6 := by
    obtain ⟨T, h1, h2, h3, h4, h5, h6, _⟩ := h
    exact h6.2.1
  unfold fX3_look
  rw [name_n (k := 0) (by decide) (by decide), cl1_s, name_n (k := 1) (by decide) (by decide), cl1_s, name_n (k := 2) (by decide) (by decide), cl1_s, name_n (k := 3) (by decide) (by decide), cl1_s]
  simp only [setA_setA, gA_s]
  rw [gZ_setA, gZ_setA, e82, bitCount_n hn, cl1_s, name_n (k := 4) (by decide) (by decide), cl1_s, setA_setA, gA_s]
  generalize hF : upd (upd (upd (upd (upd (gA uC 67) 0 (nI a)) 1 (nI b)) 2 (nI p)) 3 (gZ uC 68)) 4 (nI (pcn 16 n)) = F4
  have ho : fX10_openFor (setA uC 67 F4) (nI a) (nI b) (nI p) = some (gA uC 201 ((p * 5 + a) * 5 + b)) := by
    unfold fX10_openFor
    rw [show (5 : Int32) = nI 5 from rfl, pk_mul, nI_add, pk_mul, nI_add, ldI_s (by omega) (by decide), gA_n uC F4 (by decide)]
  rw [ho, cl1_s, name_n (k := 5) (by decide) (by decide), cl1_s, setA_setA, gA_s]
  have hR := Rel_keep h (k67 uC (upd F4 5 (gA uC 201 ((p * 5 + a) * 5 + b)))) (keepM_rf uM)
  obtain ⟨r, r1, r2, ⟨i, hi, rfl⟩⟩ := theLaw_eq hR (nI a) (nI p)
  have hts : ts[i]? = some ts[i] := List.getElem?_eq_getElem hi
  rw [r1, cl1_s, ld_ts (by omega) hts]
  refine ⟨i, ts[i], _, rfl, r2, by omega, hts, fun k hk => ?_⟩
  rw [← hF]
  unfold envN
  rw [e82, nI_clamp (by omega)]
  rcases (show k = 0 ∨ k = 1 ∨ k = 2 ∨ k = 3 ∨ k = 4 ∨ k = 5 by omega) with rfl | rfl | rfl | rfl | rfl | rfl <;> rfl
theorem env_ok {ts : List Tx} {uC uM : St} (h : Rel ts uC uM) {a b p : Nat} (ha : a < 5) (hb : b < 5) (hp : p < 12) : EnvOK uM (nI a) (nI b) (nI p) (envN uC a b p) := by
  obtain ⟨T, ⟨t1, t2, t3, t4, t5, t6, t7, t8⟩, ⟨W, hW, wc, wm, wk⟩, h3, ⟨P, hP, hc, hm, hk, hf, hg, hs⟩, _⟩ := id h
  obtain ⟨n, hn, e82⟩ : InR (stnd (gA uM 13) (fun i => ¬ gA uM 14 i = 0) P) (2 ^ 16) := stand_inr hP
  refine ⟨rfl, rfl, rfl, ?_, ⟨_, stand_all hP hm, ?_⟩, ?_⟩
  · show gZ uC 68 = _
    rw [t3, t6, show nI T - 1 = nI (T - 1) from pk_sub (a := T) (b := 1) (by omega)]
  · show _ = some (nI (pcn 16 (gZ uC 82).toNatClampNeg))
    rw [hs, e82, nI_clamp (by omega), bitsOf_n hn]
  · show _ = some (gA uC 201 ((p * 5 + a) * 5 + b))
    rw [openM hW wm, wk p a b hp ha hb]
/-- hold and limit of a link, on both sides -/
theorem hold_eq {ts : List Tx} {uC uM : St} (h : Rel ts uC uM) {a b p : Nat} (ha : a < 5) (hb : b < 5) (hp : p < 12) : ∃ (x y r : Int32) (F G F' G' : Nat → Int32) (v v' : St), fX3_hold ts uC (nI a) (nI b) (nI p) = some (x, setA (setA uC 67 F) 66 G) ∧ fX3_limit ts uC (nI a) (nI b) (nI p) = some (y, setA (setA uC 67 F') 66 G') ∧ fX12_theLaw uM (nI a) (nI p) = some r ∧ fX12_read uM r (nI a) (nI b) (nI p) 0 = some (x, v) ∧ keepR uM v ∧ fX12_read uM r (nI a) (nI b) (nI p) 1 = some (y, v') ∧ keepR uM v' := by
  obtain ⟨i, tx, F, e1, e2, hi, e3, hF⟩ := look_ok h ha hb hp
  have hT : TxOK (gA uM 21) (gA uM 22 i) i tx := by
    obtain ⟨T, h1, h2, h3, h4, h5, h6, _⟩ := h
    exact h6.2.2.2.2 i tx e3
  obtain ⟨sp, N, q1, q2, q3, q4, q5⟩ := hT
  obtain ⟨⟨v, v1, v2⟩, ⟨v', v3, v4⟩⟩ := q5 uM (nI a) (nI b) (nI p) (envN uC a b p) (fun j _ => rfl) rfl (env_ok h ha hb hp)
  have hE : ∀ k, k < 6 → gA (setA uC 67 F) 67 k = envN uC a b p k := fun k hk => by rw [gA_s]; exact hF k hk
  obtain ⟨G, g1⟩ := val_ok (ts := ts) (tt := tx) (u := setA uC 67 F) (env := envN uC a b p) (i := 0) (n := sp) (by omega) (by omega) hE
  obtain ⟨G', g2⟩ := val_ok (ts := ts) (tt := tx) (u := setA uC 67 F) (env := envN uC a b p) (i := sp) (n := N - sp) (by omega) (by omega) hE
  refine ⟨_, _, nI i, F, G, F, G', v, v', ?_, ?_, e2, v1, v2, v3, v4⟩
  · unfold fX3_hold
    rw [e1, cl2_s, ld_ts hi e3, q1]
    rw [Nat.zero_add] at g1
    have g1' : fX3_valueOf ts tx (setA uC 67 F) 0 (nI sp) = _ := g1
    rw [g1', cl2_s]
  · unfold fX3_limit
    rw [e1, cl2_s, ld_ts hi e3, q1, show Int32.ofNat tx.2.1 = nI (sp + (N - sp)) by rw [q2, show sp + (N - sp) = N by omega]; rfl, g2, cl2_s]
theorem keepR_M {u v : St} (h : keepR u v) : keepM u v := ⟨h.1, fun k _ => by rw [h.2.1], by rw [h.2.2]⟩
theorem T_says {ts : List Tx} {uC uM : St} (h : Rel ts uC uM) (a0 : Int32) (a1 : Int32) (a2 : Int32) (a3 : Int32) : ∃ (r : Int64) (uC' : St) (uM' : St), fX11_says ts uC a0 a1 a2 a3 = some (r, uC') ∧ fX12_says uM a0 a1 a2 a3 = some (r, uM') ∧ Rel ts uC' uM' := by
  obtain ⟨T, ⟨t1, t2, t3, t4, t5, t6, t7, t8⟩, _⟩ := id h
  unfold fX11_says fX12_says
  by_cases ha : InR a0 5
  · rw [landC_t ha, landM_t ha]
    by_cases hb : InR a1 5
    · rw [landC_t hb, landM_t hb]
      simp only [cl1_s, i10, ↓reduceIte]
      by_cases e0 : a0 = a1
      · rw [if_pos e0, if_pos e0]
        exact ⟨_, _, _, rfl, rfl, h⟩
      · rw [if_neg e0, if_neg e0]
        have hT1 : nI T - 1 = nI (T - 1) := pk_sub (a := T) (b := 1) (by omega)
        have hT2 : nI T - 2 = nI (T - 1) - 1 := by
          rw [show (2 : Int32) = nI 2 from rfl, pk_sub (by omega), show (1 : Int32) = nI 1 from rfl, pk_sub (a := T - 1) (b := 1) (by omega)]
          rfl
        unfold fX11_isMovePeriod
        rw [t3, t4, hT1, hT2]
        by_cases hf : InR a2 (T - 1)
        · rw [ge_t (by omega) hf, in_t (by omega) hf]
          simp only [cl1_s, i10, ↓reduceIte]
          by_cases hw : InR a3 2
          · rw [show fX12_in a3 0 1 = fX12_in a3 0 (nI 2 - 1) from rfl, in_t (by decide) hw, if_neg (inr_0 (by decide) hw), if_pos (show a3 ≤ 1 from inr_l (n := 1) (by decide) hw)]
            obtain ⟨a, ha, rfl⟩ := ha
            obtain ⟨b, hb, rfl⟩ := hb
            obtain ⟨p, hp, rfl⟩ := hf
            obtain ⟨x, y, r, F, G, F', G', v, v', d1, d2, d3, d4, d5, d6, d7⟩ := hold_eq h ha hb (show p < 12 by omega)
            simp only [cl1_s, i10, ↓reduceIte, d1, d2, d3, cl2_s]
            by_cases hw0 : a3 = 0
            · subst hw0
              rw [if_pos rfl, d4]
              exact ⟨_, _, _, rfl, rfl, Rel_keep h (keepC_tr (k67 uC F) (k66 _ G)) (keepR_M d5)⟩
            · have hw1 : a3 = 1 := by
                obtain ⟨k, hk, rfl⟩ := hw
                rcases (show k = 0 ∨ k = 1 by omega) with rfl | rfl
                · exact absurd rfl hw0
                · rfl
              subst hw1
              rw [if_neg (by decide), d6]
              exact ⟨_, _, _, rfl, rfl, Rel_keep h (keepC_tr (k67 uC F') (k66 _ G')) (keepR_M d7)⟩
          · rw [show fX12_in a3 0 1 = fX12_in a3 0 (nI 2 - 1) from rfl, in_f (by decide) hw]
            simp only [cl1_s, ↓reduceIte]
            by_cases z : a3 < 0
            · rw [if_pos z]
              exact ⟨_, _, _, rfl, rfl, h⟩
            · rw [if_neg z, if_neg (show ¬ a3 ≤ 1 from nle_of_ninr (n := 1) (by decide) hw z)]
              exact ⟨_, _, _, rfl, rfl, h⟩
        · rw [ge_f (by omega) hf, in_f (by omega) hf]
          exact ⟨_, _, _, rfl, rfl, h⟩
    · rw [landC_f hb, landM_f hb]
      exact ⟨_, _, _, rfl, rfl, h⟩
  · rw [landC_f ha, landM_f ha]
    exact ⟨_, _, _, rfl, rfl, h⟩
