/-! texts: both parsers side by side -/
theorem stand_congr {u u' : St} (h8 : gZ u' 8 = gZ u 8) (hA : u'.2.2 = u.2.2) (v : Int32) : fX12_standing u' v = fX12_standing u v := by
  have h13 : gA u' 13 = gA u 13 := by unfold gA; rw [hA]
  have h14 : gA u' 14 = gA u 14 := by unfold gA; rw [hA]
  have : ∀ (m : Nat) (x y : Int32), fX12_standing_l4 u' v m x y = fX12_standing_l4 u v m x y := by
    intro m
    induction m with
    | zero => intro x y; rfl
    | succ m ih =>
      intro x y
      show fX12_standing_l4b u' (fX12_standing_l4 u' v m) v x y = fX12_standing_l4b u (fX12_standing_l4 u v m) v x y
      have e : fX12_standing_l4 u' v m = fX12_standing_l4 u v m := by funext a b; exact ih a b
      unfold fX12_standing_l4b fX12_standing_b45
      rw [e, h8, h13, h14]
  exact this NF 0 0
theorem open_congr {u u' : St} (h3 : gZ u' 3 = gZ u 3) (hA : u'.2.2 = u.2.2) (a b p : Int32) : fX12_openWays u' a b p = fX12_openWays u a b p := by
  have h4 : gA u' 4 = gA u 4 := by unfold gA; rw [hA]
  have h5 : gA u' 5 = gA u 5 := by unfold gA; rw [hA]
  have h6 : gA u' 6 = gA u 6 := by unfold gA; rw [hA]
  have h7 : gA u' 7 = gA u 7 := by unfold gA; rw [hA]
  have : ∀ (m : Nat) (x y : Int32), fX12_openWays_l6 u' a b p m x y = fX12_openWays_l6 u a b p m x y := by
    intro m
    induction m with
    | zero => intro x y; rfl
    | succ m ih =>
      intro x y
      show fX12_openWays_l6b u' (fX12_openWays_l6 u' a b p m) a b p x y = fX12_openWays_l6b u (fX12_openWays_l6 u a b p m) a b p x y
      have e : fX12_openWays_l6 u' a b p m = fX12_openWays_l6 u a b p m := by funext a b; exact ih a b
      unfold fX12_openWays_l6b fX12_openWays_b64 fX12_openWays_b65
      rw [e, h3, h4, h5, h6, h7]
  exact this NF 0 0
/-- what the names come to while a text is read -/
def NmOK (u : St) (env : Nat → Int32) : Prop := gZ u 35 = env 0 ∧ gZ u 36 = env 1 ∧ gZ u 37 = env 2 ∧ gZ u 1 - 1 = env 3 ∧ (∃ s, fX12_standing u (-1) = some s ∧ fX12_bitsOf s = some (env 4)) ∧ fX12_openWays u (env 0) (env 1) (env 2) = some (env 5)
def FrC (c c' : St) (n : Nat) : Prop := (∀ k, ¬ k = 104 → ¬ k = 105 → ¬ k = 106 → ¬ k = 107 → ¬ k = 108 → gZ c' k = gZ c k) ∧ (∀ k, ¬ k = 103 → gA c' k = gA c k) ∧ (∀ k, gB c' k = gB c k) ∧ ∀ j, j < n → gA c' 103 j = gA c 103 j
def FrM (u u' : St) : Prop := (∀ k, ¬ k = 28 → ¬ k = 29 → ¬ k = 31 → ¬ k = 32 → ¬ k = 33 → ¬ k = 34 → gZ u' k = gZ u k) ∧ u'.2.2 = u.2.2
theorem FrC_rf (c : St) (n : Nat) : FrC c c n := ⟨fun _ _ _ _ _ _ => rfl, fun _ _ => rfl, fun _ => rfl, fun _ _ => rfl⟩
theorem FrM_rf (u : St) : FrM u u := ⟨fun _ _ _ _ _ _ _ => rfl, rfl⟩
theorem FrC_tr {a b c : St} {n m : Nat} (h : FrC a b n) (k : FrC b c m) (hn : n ≤ m) : FrC a c n := ⟨fun j h1 h2 h3 h4 h5 => (k.1 j h1 h2 h3 h4 h5).trans (h.1 j h1 h2 h3 h4 h5), fun j h1 => (k.2.1 j h1).trans (h.2.1 j h1), fun j => (k.2.2.1 j).trans (h.2.2.1 j), fun j hj => (k.2.2.2 j (by omega)).trans (h.2.2.2 j hj)⟩
theorem FrC_0 {a b : St} {n : Nat} (h : FrC a b n) : FrC a b 0 := ⟨h.1, h.2.1, h.2.2.1, fun j hj => by omega⟩
theorem FrM_tr {a b c : St} (h : FrM a b) (k : FrM b c) : FrM a c := ⟨fun j h1 h2 h3 h4 h5 h6 => (k.1 j h1 h2 h3 h4 h5 h6).trans (h.1 j h1 h2 h3 h4 h5 h6), k.2.trans h.2⟩
theorem fC_Fr {c c' : St} (h : fC c c') (n : Nat) : FrC c c' n := ⟨fun k _ h2 h3 h4 h5 => h.1 k h2 h3 h4 h5, fun k _ => by unfold gA; rw [h.2], fun k => by unfold gB; rw [h.2], fun j _ => by unfold gA; rw [h.2]⟩
theorem fM_Fr {u u' : St} (h : fM u u') : FrM u u' := ⟨fun k h1 h2 h3 _ _ _ => h.1 k h1 h2 h3, h.2⟩
theorem FrM_Z (u : St) {k : Nat} (h : k = 28 ∨ k = 29 ∨ k = 31 ∨ k = 32 ∨ k = 33 ∨ k = 34) (v : Int32) : FrM u (setZ u k v) := ⟨fun j h1 h2 h3 h4 h5 h6 => gZ_n u v (by omega), rfl⟩
theorem Nm_Fr {u u' : St} {env : Nat → Int32} (h : NmOK u env) (k : FrM u u') : NmOK u' env := by
  obtain ⟨h1, h2, h3, h4, ⟨s, h5, h6⟩, h7⟩ := h
  have z : ∀ j, ¬ j = 28 → ¬ j = 29 → ¬ j = 31 → ¬ j = 32 → ¬ j = 33 → ¬ j = 34 → gZ u' j = gZ u j := k.1
  refine ⟨?_, ?_, ?_, ?_, ⟨s, ?_, h6⟩, ?_⟩
  · rw [z 35 (by decide) (by decide) (by decide) (by decide) (by decide) (by decide)]; exact h1
  · rw [z 36 (by decide) (by decide) (by decide) (by decide) (by decide) (by decide)]; exact h2
  · rw [z 37 (by decide) (by decide) (by decide) (by decide) (by decide) (by decide)]; exact h3
  · rw [z 1 (by decide) (by decide) (by decide) (by decide) (by decide) (by decide)]; exact h4
  · rw [stand_congr (z 8 (by decide) (by decide) (by decide) (by decide) (by decide) (by decide)) k.2]; exact h5
  · rw [open_congr (z 3 (by decide) (by decide) (by decide) (by decide) (by decide) (by decide)) k.2]; exact h7
theorem TXc_Fr {c c' : St} {b : Nat → Nat} {K n : Nat} (h : TXc c b K) (k : FrC c c' n) : TXc c' b K := by
  obtain ⟨h1, h2, h3⟩ := h
  refine ⟨h1, by rw [k.1 100 (by decide) (by decide) (by decide) (by decide) (by decide)]; exact h2, fun i hi => ?_⟩
  rw [k.2.1 102 (by decide)]
  exact h3 i hi
theorem TXm_Fr {u u' : St} {b : Nat → Nat} {K : Nat} (h : TXm u b K) (k : FrM u u') : TXm u' b K := by
  obtain ⟨h1, h2, base, h3, h4, h5⟩ := h
  refine ⟨h1, by rw [k.1 27 (by decide) (by decide) (by decide) (by decide) (by decide) (by decide)]; exact h2, base, h3, by rw [k.1 26 (by decide) (by decide) (by decide) (by decide) (by decide) (by decide)]; exact h4, fun i hi => ?_⟩
  have : gA u' 21 = gA u 21 := by unfold gA; rw [k.2]
  rw [this]
  exact h5 i hi
/-- both sides stand well -/
def PI (b : Nat → Nat) (K : Nat) (env : Nat → Int32) (c u : St) (o n s e : Nat) : Prop := TXc c b K ∧ TXm u b K ∧ NmOK u env ∧ TRk c u s e ∧ e ≤ K ∧ (gZ c 105 = 0 ↔ s = K) ∧ gZ u 33 = 0 ∧ gZ u 32 = nI o ∧ gZ c 104 = nI n
def OUT (b : Nat → Nat) (K : Nat) (env : Nat → Int32) (c u : St) (o n s : Nat) (rc rm : Option (Int32 × St)) : Prop :=
  (∃ (c' u' : St) (v : Int32) (n' s' e' : Nat), rc = some (1, c') ∧ rm = some (v, u') ∧ PI b K env c' u' o n' s' e' ∧ FrC c c' n ∧ FrM u u' ∧ n ≤ n' ∧ n' + s ≤ n + s' ∧ ∀ st, evN env (gA c' 103) n (n' - n) st = v :: st)
  ∨ ∃ (c' u' : St) (v : Int32) (s' : Nat), rc = some (0, c') ∧ rm = some (v, u') ∧ gZ c' 106 = nI s' ∧ s' ≤ K ∧ gZ u' 33 = 1 ∧ gZ u' 34 = nI s' ∧ FrC c c' 0 ∧ FrM u u'
section Sim
variable {b : Nat → Nat} {K : Nat} {env : Nat → Int32} {c u : St} {o n s e : Nat}
theorem pi_s (h : PI b K env c u o n s e) : s ≤ K ∧ s ≤ e ∧ K ≤ 160 := ⟨by have := h.2.2.2.1.2.2.1; have := h.2.2.2.2.1; omega, h.2.2.2.1.2.2.1, h.1.1⟩
theorem pi_adv (h : PI b K env c u o n s e) (h0 : ¬ gZ c 105 = 0) (h1 : ¬ gZ c 105 = 1) : ∃ c' u' s' e', fX5_advance c = some c' ∧ fX12_next u = some u' ∧ PI b K env c' u' o n s' e' ∧ fC c c' ∧ fM u u' ∧ s + 1 ≤ s' := by
  obtain ⟨a1, a2, a3, ⟨b1, b2, b3, b4, nv, b5, b6, b7⟩, a5, a6, a7, a8, a9⟩ := h
  obtain ⟨d1, d2⟩ := b7 h0 h1
  obtain ⟨c', u', s', e', f1, f2, f3, f4, f5, f6, f7, f8⟩ := adv_ok a1 a2 b2 d2 a5
  refine ⟨c', u', s', e', f1, f2, ⟨TXc_Fr a1 (fC_Fr f3 0), TXm_Fr a2 (fM_Fr f4), Nm_Fr a3 (fM_Fr f4), f5, f7, f8, ?_, ?_, ?_⟩, f3, f4, by omega⟩
  · rw [f4.1 33 (by decide) (by decide) (by decide)]; exact a7
  · rw [f4.1 32 (by decide) (by decide) (by decide)]; exact a8
  · rw [f3.1 104 (by decide) (by decide) (by decide) (by decide)]; exact a9
theorem wc_ne : ∀ i, i < 11 → ¬ wcN i = 0 ∧ ¬ wcN i = 1 ∧ ¬ wcN i = 2 ∧ ¬ (wcN i = 40 ∨ wcN i = 41 ∨ wcN i = 59 ∨ wcN i = 43 ∨ wcN i = 45 ∨ wcN i = 42 ∨ wcN i = 60 ∨ wcN i = 61) ∧ ∀ j, j < 11 → wcN i = wcN j → i = j := by decide
theorem isWord_ok (h : PI b K env c u o n s e) {i : Nat} (hi : i < 11) : fX12_isWord u (lN (wwN i)) = some (if gZ c 105 = wcN i then 1 else 0) := by
  obtain ⟨a1, a2, a3, ⟨b1, b2, b3, b4, nv, b5, b6, b7⟩, a5, a6, a7, a8, a9⟩ := h
  obtain ⟨w0, w1, w2, w3, w4⟩ := wc_ne i hi
  unfold fX12_isWord
  rw [if_pos a7]
  rcases b6 with ⟨t, k⟩ | ⟨t, k, _⟩ | ⟨t, k, y⟩ | ⟨j, hj, t, k, y⟩ | ⟨t, k⟩
  · rw [k, if_neg (by decide), t, if_neg (fun z => w0 z.symm)]
  · rw [k, if_neg (by decide), t, if_neg (fun z => w2 z.symm)]
  · rw [k, if_neg (by decide), if_neg (fun z => w3 (by rw [← z]; exact t))]
  · rw [k, if_pos rfl, y, t]
    by_cases q : j = i
    · subst q; rw [if_pos rfl, if_pos rfl]
    · have hww : ∀ i, i < 11 → wwN i < 2 ^ 31 := by decide
      rw [if_neg (fun z => q (ww_ne j hj i hi ((lN_eq (hww j hj) (hww i hi)).mp z))), if_neg (fun z => q ((wc_ne j hj).2.2.2.2 i hi z))]
  · rw [t, if_neg (show ¬ (1 : Int32) = wcN i from fun z => w1 z.symm)]
    rcases k with k | ⟨k, y⟩
    · rw [k, if_neg (by decide)]
    · rw [k, if_pos rfl, if_neg (y i hi)]
theorem isSign_ok (h : PI b K env c u o n s e) {x : Int32} (hx : x = 40 ∨ x = 41 ∨ x = 59 ∨ x = 43 ∨ x = 45 ∨ x = 42 ∨ x = 60 ∨ x = 61) : fX12_isSign u x = some (if gZ c 105 = x then 1 else 0) := by
  obtain ⟨a1, a2, a3, ⟨b1, b2, b3, b4, nv, b5, b6, b7⟩, a5, a6, a7, a8, a9⟩ := h
  unfold fX12_isSign
  rw [if_pos a7]
  rcases b6 with ⟨t, k⟩ | ⟨t, k, _⟩ | ⟨t, k, y⟩ | ⟨j, hj, t, k, y⟩ | ⟨t, k⟩
  · rw [k, if_neg (by decide), t, if_neg (fun z => by rw [← z] at hx; exact absurd hx (by decide))]
  · rw [k, if_neg (by decide), t, if_neg (fun z => by rw [← z] at hx; exact absurd hx (by decide))]
  · rw [k, if_pos rfl, y]
    by_cases q : gZ c 105 = x
    · rw [q, if_pos rfl, if_pos rfl]
    · rw [if_neg q, if_neg (fun z => q (by
        have := congrArg Int64.toInt z
        rw [Int32.toInt_toInt64, Int32.toInt_toInt64] at this
        exact Int32.toInt_inj.mp this))]
  · rw [k, if_neg (by decide), t, if_neg (fun z => (wc_ne j hj).2.2.2.1 (by rw [z]; exact hx))]
  · rw [t, if_neg (show ¬ (1 : Int32) = x from fun z => by rw [← z] at hx; exact absurd hx (by decide))]
    rcases k with k | ⟨k, _⟩
    · rw [k, if_neg (by decide)]
    · rw [k, if_neg (by decide)]
theorem isWord_bad {u : St} (h : gZ u 33 = 1) (w : Int64) : fX12_isWord u w = some 0 := by
  unfold fX12_isWord
  rw [h, if_neg (by decide)]
theorem isSign_bad {u : St} (h : gZ u 33 = 1) (w : Int32) : fX12_isSign u w = some 0 := by
  unfold fX12_isSign
  rw [h, if_neg (by decide)]
theorem fail_bad {u : St} (h : gZ u 33 = 1) : fX12_fail u = some u := by
  unfold fX12_fail
  rw [h, if_neg (by decide)]
theorem fail_ok (h : PI b K env c u o n s e) : ∃ u', fX12_fail u = some u' ∧ gZ u' 33 = 1 ∧ gZ u' 34 = nI s ∧ FrM u u' := by
  obtain ⟨a1, a2, a3, ⟨b1, b2, b3, b4, _⟩, a5, a6, a7, a8, a9⟩ := h
  unfold fX12_fail
  rw [if_pos a7, nmS_s, nmS_s, gZ_n u 1 (show 29 ≠ 33 by decide), b4]
  exact ⟨_, rfl, by rw [gZ_n _ _ (by decide), gZ_s], gZ_s _ _ _, FrM_tr (FrM_Z u (by decide) 1) (FrM_Z _ (by decide) _)⟩
theorem write_ok {c : St} {n : Nat} (h : gZ c 104 = nI n) (hn : n < 160) (x : Int32) : fX5_write c x = some (1, setZ (setA c 103 (upd (gA c 103) n x)) 104 (nI (n + 1))) := by
  unfold fX5_write
  rw [h, if_neg (show ¬ nI n = 160 from nI_ne (b := 160) (by omega) (by decide) (by omega)), stI_s hn (by decide), nmS_s, gZ_setA, h, nI_1]
theorem pi_write (h : PI b K env c u o n s e) (x : Int32) : PI b K env (setZ (setA c 103 (upd (gA c 103) n x)) 104 (nI (n + 1))) u o (n + 1) s e := by
  obtain ⟨a1, a2, a3, a4, a5, a6, a7, a8, a9⟩ := h
  exact ⟨a1, a2, a3, a4, a5, a6, a7, a8, rfl⟩
theorem FrC_write (c : St) (n m : Nat) (h : m ≤ n) (x y : Int32) : FrC c (setZ (setA c 103 (upd (gA c 103) n x)) 104 y) m := ⟨fun k h1 _ _ _ _ => by rw [gZ_n _ _ h1]; rfl, fun k h1 => by rw [gA_setZ, gA_n c _ h1], fun _ => rfl, fun j hj => by rw [gA_setZ, gA_s, upd_n _ _ (by omega)]⟩
theorem evN_congr {f g : Nat → Int32} : ∀ (k i : Nat) (st : List Int32), (∀ j, i ≤ j → j < i + k → f j = g j) → evN env f i k st = evN env g i k st := by
  intro k
  induction k with
  | zero => intro i st _; rfl
  | succ k ih =>
    intro i st h
    show evN env f (i + 1) k (ev1 env (f i) st) = evN env g (i + 1) k (ev1 env (g i) st)
    rw [h i (Nat.le_refl i) (by omega), ih (i + 1) _ (fun j h1 h2 => h j (by omega) (by omega))]
theorem evN_app {f : Nat → Int32} : ∀ (k1 k2 i : Nat) (st : List Int32), evN env f i (k1 + k2) st = evN env f (i + k1) k2 (evN env f i k1 st) := by
  intro k1
  induction k1 with
  | zero => intro k2 i st; rw [Nat.zero_add]; rfl
  | succ k1 ih =>
    intro k2 i st
    rw [show k1 + 1 + k2 = (k1 + k2) + 1 by omega]
    show evN env f (i + 1) (k1 + k2) (ev1 env (f i) st) = evN env f (i + (k1 + 1)) k2 (evN env f (i + 1) k1 (ev1 env (f i) st))
    rw [ih, show i + 1 + k1 = i + (k1 + 1) by omega]
/-- a row of like signs -/
theorem loop_sim {RC RM : St → Option (Int32 × St)} (hR : ∀ c u n s e, PI b K env c u o n s e → n ≤ s → OUT b K env c u o n s (RC c) (RM u)) {LC : Nat → St → Int32 → Option (Int32 × St)} {LM : Nat → St → Int32 → Option (Int32 × St)} (isop : Int32 → Bool) (opc : Int32 → Int32) (cmb : Int32 → Int32 → Int32 → Int32) (hop : ∀ t, isop t = true → ¬ t = 0 ∧ ¬ t = 1)
    (hC0 : ∀ m c k, isop (gZ c 105) = false → LC (m + 1) c k = some (1, c))
    (hC1 : ∀ m c k, k < 160 → isop (gZ c 105) = true → LC (m + 1) c (nI k) = cl1 (fX5_advance c) (fun c4 => cl2 (RC c4) (fun x5 c6 => if x5 = 0 then some (0, c6) else cl2 (fX5_write c6 (opc (gZ c 105))) (fun _ c8 => LC m c8 (nI k + 1)))))
    (hM0 : ∀ m c u v n s e, PI b K env c u o n s e → isop (gZ c 105) = false → LM (m + 1) u v = some (v, u))
    (hMb : ∀ m u v, gZ u 33 = 1 → LM (m + 1) u v = some (v, u))
    (hM1 : ∀ m c u v n s e, PI b K env c u o n s e → isop (gZ c 105) = true → LM (m + 1) u v = cl1 (fX12_next u) (fun u5 => cl2 (RM u5) (fun x6 u7 => LM m u7 (cmb (gZ c 105) v x6))))
    (hev : ∀ t v w st, isop t = true → ev1 env (opc t) (w :: v :: st) = cmb t v w :: st) {c0 u0 : St} {n0 s0 : Nat} : ∀ (d : Nat) (c u : St) (v : Int32) (k n s e mC mM : Nat), K - s ≤ d → k ≤ s → d < mC → d < mM → PI b K env c u o n s e → n ≤ s → FrC c0 c n0 → FrM u0 u → n0 ≤ n → n + s0 ≤ n0 + s → (∀ st, evN env (gA c 103) n0 (n - n0) st = v :: st) → OUT b K env c0 u0 o n0 s0 (LC mC c (nI k)) (LM mM u v) := by
  intro d
  induction d with
  | zero =>
    intro c u v k n s e mC mM h1 h2 h3 h4 h5 h6 h7 h8 h9 h10 h11
    obtain ⟨mC, rfl⟩ : ∃ q, mC = q + 1 := ⟨mC - 1, by omega⟩
    obtain ⟨mM, rfl⟩ : ∃ q, mM = q + 1 := ⟨mM - 1, by omega⟩
    have hs := pi_s h5
    have hz : isop (gZ c 105) = false := by
      cases q : isop (gZ c 105)
      · rfl
      · exact absurd (h5.2.2.2.2.2.1.mpr (by omega)) (hop _ q).1
    rw [hC0 mC c (nI k) hz, hM0 mM c u v n s e h5 hz]
    exact Or.inl ⟨c, u, v, n, s, e, rfl, rfl, h5, h7, h8, h9, h10, h11⟩
  | succ d ih =>
    intro c u v k n s e mC mM h1 h2 h3 h4 h5 h6 h7 h8 h9 h10 h11
    obtain ⟨mC, rfl⟩ : ∃ q, mC = q + 1 := ⟨mC - 1, by omega⟩
    obtain ⟨mM, rfl⟩ : ∃ q, mM = q + 1 := ⟨mM - 1, by omega⟩
    have hs := pi_s h5
    cases hz : isop (gZ c 105)
    · rw [hC0 mC c (nI k) hz, hM0 mM c u v n s e h5 hz]
      exact Or.inl ⟨c, u, v, n, s, e, rfl, rfl, h5, h7, h8, h9, h10, h11⟩
    · have hnz := hop _ hz
      have hsK : s < K := by
        rcases Nat.lt_or_ge s K with q | q
        · exact q
        · exact absurd (h5.2.2.2.2.2.1.mpr (by omega)) hnz.1
      rw [hC1 mC c k (by omega) hz, hM1 mM c u v n s e h5 hz]
      obtain ⟨c1, u1, s1, e1, f1, f2, f3, f4, f5, f6⟩ := pi_adv h5 hnz.1 hnz.2
      rw [f1, cl1_s, f2, cl1_s]
      rcases hR c1 u1 n s1 e1 f3 (by omega) with ⟨c2, u2, w, n2, s2, e2, g1, g2, g3, g4, g5, g6, g7, g8⟩ | ⟨c2, u2, w, s2, g1, g2, g3, g4, g5, g6, g7, g8⟩
      · have hs2 := pi_s g3
        have hn2 : n2 < 160 := by omega
        rw [g1, cl2_s, g2, cl2_s, if_neg (by decide), write_ok g3.2.2.2.2.2.2.2.2 hn2, cl2_s, nI_1]
        have hcm : FrC c c2 n := FrC_tr (fC_Fr f4 n) g4 (Nat.le_refl n)
        refine ih _ u2 _ (k + 1) (n2 + 1) s2 e2 mC mM (by omega) (by omega) (by omega) (by omega) (pi_write g3 _) (by omega) (FrC_tr (FrC_tr h7 hcm h9) (FrC_write c2 n2 n (by omega) _ _) h9) (FrM_tr h8 (FrM_tr (fM_Fr f5) g5)) (by omega) (by omega) (fun st => ?_)
        rw [gA_setZ, gA_s, show n2 + 1 - n0 = (n - n0) + ((n2 - n) + 1) by omega, evN_app, show n0 + (n - n0) = n by omega, evN_app, show n + (n2 - n) = n2 by omega]
        rw [evN_congr (f := upd (gA c2 103) n2 (opc (gZ c 105))) (g := gA c 103) (n - n0) n0 st (fun j hj1 hj2 => by rw [upd_n _ _ (by omega)]; exact hcm.2.2.2 j (by omega)), h11]
        rw [evN_congr (f := upd (gA c2 103) n2 (opc (gZ c 105))) (g := gA c2 103) (n2 - n) n _ (fun j hj1 hj2 => by rw [upd_n _ _ (by omega)]), g8]
        show ev1 env (upd (gA c2 103) n2 (opc (gZ c 105)) n2) (w :: v :: st) = _
        rw [upd_s]
        exact hev _ v w st hz
      · obtain ⟨mM, rfl⟩ : ∃ q, mM = q + 1 := ⟨mM - 1, by omega⟩
        rw [g1, cl2_s, if_pos rfl, g2, cl2_s, hMb mM u2 _ g5]
        exact Or.inr ⟨c2, u2, _, s2, rfl, rfl, g3, g4, g5, g6, FrC_tr (FrC_tr (FrC_0 h7) (fC_Fr f4 0) (Nat.le_refl 0)) g7 (Nat.le_refl 0), FrM_tr h8 (FrM_tr (fM_Fr f5) g8)⟩
theorem chain_sim {RC RM : St → Option (Int32 × St)} (hR : ∀ c u n s e, PI b K env c u o n s e → n ≤ s → OUT b K env c u o n s (RC c) (RM u)) {LC : Nat → St → Int32 → Option (Int32 × St)} {LM : Nat → St → Int32 → Option (Int32 × St)} (isop : Int32 → Bool) (opc : Int32 → Int32) (cmb : Int32 → Int32 → Int32 → Int32) (hop : ∀ t, isop t = true → ¬ t = 0 ∧ ¬ t = 1)
    (hC0 : ∀ m c k, isop (gZ c 105) = false → LC (m + 1) c k = some (1, c))
    (hC1 : ∀ m c k, k < 160 → isop (gZ c 105) = true → LC (m + 1) c (nI k) = cl1 (fX5_advance c) (fun c4 => cl2 (RC c4) (fun x5 c6 => if x5 = 0 then some (0, c6) else cl2 (fX5_write c6 (opc (gZ c 105))) (fun _ c8 => LC m c8 (nI k + 1)))))
    (hM0 : ∀ m c u v n s e, PI b K env c u o n s e → isop (gZ c 105) = false → LM (m + 1) u v = some (v, u))
    (hMb : ∀ m u v, gZ u 33 = 1 → LM (m + 1) u v = some (v, u))
    (hM1 : ∀ m c u v n s e, PI b K env c u o n s e → isop (gZ c 105) = true → LM (m + 1) u v = cl1 (fX12_next u) (fun u5 => cl2 (RM u5) (fun x6 u7 => LM m u7 (cmb (gZ c 105) v x6))))
    (hev : ∀ t v w st, isop t = true → ev1 env (opc t) (w :: v :: st) = cmb t v w :: st) {c u : St} {n s e : Nat} (h : PI b K env c u o n s e) (hn : n ≤ s) : OUT b K env c u o n s (cl2 (RC c) (fun x1 u2 => if x1 = 0 then some (0, u2) else LC NF u2 0)) (cl2 (RM u) (fun x1 u2 => LM NF u2 x1)) := by
  rcases hR c u n s e h hn with ⟨c2, u2, w, n2, s2, e2, g1, g2, g3, g4, g5, g6, g7, g8⟩ | ⟨c2, u2, w, s2, g1, g2, g3, g4, g5, g6, g7, g8⟩
  · have hs2 := pi_s g3
    rw [g1, cl2_s, g2, cl2_s, if_neg (by decide)]
    exact loop_sim hR isop opc cmb hop hC0 hC1 hM0 hMb hM1 hev (K - s2) c2 u2 w 0 n2 s2 e2 NF NF (Nat.le_refl _) (Nat.zero_le _) (by unfold NF; omega) (by unfold NF; omega) g3 (by omega) g4 g5 g6 g7 g8
  · rw [g1, cl2_s, g2, cl2_s, if_pos rfl, show NF = 4999 + 1 from rfl, hMb 4999 u2 w g5]
    exact Or.inr ⟨c2, u2, w, s2, rfl, rfl, g3, g4, g5, g6, g7, g8⟩
end Sim
