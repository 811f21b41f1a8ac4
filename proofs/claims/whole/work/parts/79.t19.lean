theorem va_up_comm {α : Type} (x : Nat → α) {k j : Nat} (h : k ≠ j) (f g : α) : va_up (va_up x k f) j g = va_up (va_up x j g) k f := by
  funext i
  unfold va_up
  by_cases e1 : i = j
  · subst e1
    rw [if_pos rfl, if_neg (fun z => h z.symm), if_pos rfl]
  · rw [if_neg e1]
    by_cases e2 : i = k
    · rw [if_pos e2, if_pos e2]
    · rw [if_neg e2, if_neg e2, if_neg e1]
theorem setB_comm (u : St) {k j : Nat} (h : k ≠ j) (f g : Nat → Int64) : setB (setB u k f) j g = setB (setB u j g) k f := by
  show (u.1, u.2.1, u.2.2.1, va_up (va_up u.2.2.2 k f) j g) = (u.1, u.2.1, u.2.2.1, va_up (va_up u.2.2.2 j g) k f)
  rw [va_up_comm _ h]
theorem setA_comm (u : St) {k j : Nat} (h : k ≠ j) (f g : Nat → Int32) : setA (setA u k f) j g = setA (setA u j g) k f := by
  show (u.1, u.2.1, va_up (va_up u.2.2.1 k f) j g, u.2.2.2) = (u.1, u.2.1, va_up (va_up u.2.2.1 j g) k f, u.2.2.2)
  rw [va_up_comm _ h]
theorem m19 (u : St) (f : Nat → Int64) : keepM u (setB u 19 f) := ⟨fun _ _ => rfl, fun _ _ => rfl, rfl⟩
theorem m20 (u : St) (f : Nat → Int64) : keepM u (setB u 20 f) := ⟨fun _ _ => rfl, fun _ _ => rfl, rfl⟩
def stN (A : Nat → Nat → Bool) (G : Nat → Nat → Nat → Bool) (p l q c : Nat) : Nat := if q < p then 0 else if A p l then spN A G p l (q - p) c else 0
theorem spN_S (A : Nat → Nat → Bool) (G : Nat → Nat → Nat → Bool) (p l k b : Nat) : spN A G p l (k + 1) b = if A (p + k + 1) b then sm (fun a => if G (p + k) a b then spN A G p l k a else 0) 5 else 0 := rfl
theorem st_step (A : Nat → Nat → Bool) (G : Nat → Nat → Nat → Bool) {p l q b : Nat} (h : p ≤ q) : stN A G p l (q + 1) b = if A (q + 1) b then sm (fun a => if G q a b then stN A G p l q a else 0) 5 else 0 := by
  unfold stN
  rw [if_neg (by omega)]
  cases ha : A p l
  · have : ∀ a, a < 5 → (if G q a b then (if q < p then 0 else if false then spN A G p l (q - p) a else 0) else 0) = 0 := fun a _ => by
      rw [if_neg (show ¬ q < p by omega)]
      cases G q a b <;> rfl
    rw [(sm_0 5).mpr this]
    cases A (q + 1) b <;> rfl
  · rw [show q + 1 - p = (q - p) + 1 by omega, spN_S, show p + (q - p) + 1 = q + 1 by omega, show p + (q - p) = q by omega]
    have : ∀ a, a < 5 → (if G q a b then spN A G p l (q - p) a else 0) = if G q a b then (if q < p then 0 else if true then spN A G p l (q - p) a else 0) else 0 := fun a _ => by
      rw [if_neg (show ¬ q < p by omega)]
      rfl
    rw [sm_congr 5 this, if_pos rfl]
theorem spread_ok {u : St} {T : Nat} {A : Nat → Nat → Bool} {G : Nat → Nat → Nat → Bool} (h1 : gZ u 1 = nI T) (hC : CM u T A G) (hT : T ≤ 12) {p l : Nat} (hp : p < T) (hl : l < 5) : ∃ s : Nat → Int64, fX12_spread u (nI l) (nI p) = some (setB u 19 s) ∧ ∀ q c, q < T → c < 5 → s (5 * q + c) = lN (stN A G p l q c) := by
  obtain ⟨f0, hf0, e0⟩ := up (fun m (f : Nat → Int64) i => fX12_spread_l2 (nI l) (nI p) m (setB u 19 f) i) (fun i f => ∀ x, x < i → f x = 0) 60 (fun f => fX12_spread_l53 NF (setB u 19 (vp_updL f (5 * p + l) (if A p l then 1 else 0))) (nI (p + 1))) (by
    intro m f hI
    show fX12_spread_l2b (fX12_spread_l2 (nI l) (nI p) m) (setB u 19 f) (nI l) (nI p) 60 = _
    unfold fX12_spread_l2b fX12_spread_b48
    rw [if_pos (by decide), show (5 : Int32) = nI 5 from rfl, pk_mul, nI_add, gA_setB, ldI_s (by omega) (by decide), (hC.1 p l hp hl).1, bitB, stL_s (by omega) (by decide), stL_s (by omega) (by decide), setB_setB, setB_setB, gB_s, nmI_s, nmI_s, nI_1]
    cases A p l <;> simp only [Bool.false_eq_true, ↓reduceIte]) (by
    intro m i f hi hI
    show ∃ f', _ ∧ fX12_spread_l2b (fX12_spread_l2 (nI l) (nI p) m) (setB u 19 f) (nI l) (nI p) (nI i) = fX12_spread_l2 (nI l) (nI p) m (setB u 19 f') (nI (i + 1))
    unfold fX12_spread_l2b
    rw [if_neg (n60 hi), stL_s hi (by decide), setB_setB, gB_s, nI_1]
    refine ⟨_, fun x hx => ?_, rfl⟩
    by_cases e : x = i
    · subst e; rw [updL_s]
    · rw [updL_n _ _ e]; exact hI x (by omega)) NF 0 (gB u 19) (by omega) (by unfold NF; omega) (fun x hx => by omega)
  rw [show setB u 19 (gB u 19) = u from setB_self u 19] at e0
  obtain ⟨s, ⟨hs, _⟩, e1⟩ := up (fun m (s : Nat → Int64) i => fX12_spread_l53 m (setB u 19 s) i) (fun q s => Row s q 0 (fun q c => lN (stN A G p l q c)) ∧ p + 1 ≤ q) T (fun s => some (setB u 19 s)) (by
    intro m s hI
    show fX12_spread_l53b (fX12_spread_l53 m) (setB u 19 s) (nI T) = _
    unfold fX12_spread_l53b
    rw [gZ_setB, h1, if_pos (nI_le (Nat.le_refl T) (by omega))]) (by
    intro m q s hq hI
    obtain ⟨hI, hpq⟩ := hI
    obtain ⟨q, rfl⟩ : ∃ k, q = k + 1 := ⟨q - 1, by omega⟩
    show ∃ s', _ ∧ fX12_spread_l53b (fX12_spread_l53 m) (setB u 19 s) (nI (q + 1)) = fX12_spread_l53 m (setB u 19 s') (nI (q + 1 + 1))
    unfold fX12_spread_l53b
    rw [gZ_setB, h1, if_neg (nI_ge hq (by omega))]
    generalize hk2 : fX12_spread_l53 m = k53
    obtain ⟨s', hs', e⟩ := up (fun m (s : Nat → Int64) i => fX12_spread_l64 k53 (nI (q + 1)) m (setB u 19 s) i) (fun b s => Row s (q + 1) b (fun q c => lN (stN A G p l q c))) 5 (fun s => k53 (setB u 19 s) (nI (q + 1 + 1))) (by
      intro m s hI
      show fX12_spread_l64b k53 (fX12_spread_l64 k53 (nI (q + 1)) m) (setB u 19 s) (nI (q + 1)) 5 = _
      unfold fX12_spread_l64b
      rw [if_pos (by decide), nI_1]) (by
      intro m b s hb hI
      show ∃ s', _ ∧ fX12_spread_l64b k53 (fX12_spread_l64 k53 (nI (q + 1)) m) (setB u 19 s) (nI (q + 1)) (nI b) = fX12_spread_l64 k53 (nI (q + 1)) m (setB u 19 s') (nI (b + 1))
      unfold fX12_spread_l64b
      rw [if_neg (n5 hb)]
      generalize hk3 : fX12_spread_l64 k53 (nI (q + 1)) m = k64
      obtain ⟨r, hr, e⟩ := up (fX12_spread_l76 k53 k64 (setB u 19 s) (nI (q + 1)) (nI b)) (fun a acc => acc = lN (sm (fun a => if G q a b then stN A G p l q a else 0) a)) 5 (fun acc => k64 (setB u 19 (vp_updL s (5 * (q + 1) + b) (lN (stN A G p l (q + 1) b)))) (nI (b + 1))) (by
        intro m acc hI
        subst hI
        show fX12_spread_l76b k53 k64 (fX12_spread_l76 k53 k64 (setB u 19 s) (nI (q + 1)) (nI b) m) (setB u 19 s) (nI (q + 1)) (nI b) _ 5 = _
        unfold fX12_spread_l76b fX12_spread_b162
        rw [if_pos (by decide), show (5 : Int32) = nI 5 from rfl, pk_mul, nI_add, gA_setB, ldI_s (by omega) (by decide), (hC.1 _ _ hq hb).1, bitB, nI_1, st_step A G (by omega), stL_s (by omega) (by decide), stL_s (by omega) (by decide), setB_setB, setB_setB, gB_s]
        cases A (q + 1) b <;> rfl) (by
        intro m a acc ha hI2
        subst hI2
        refine ⟨_, rfl, ?_⟩
        show fX12_spread_l76b k53 k64 (fX12_spread_l76 k53 k64 (setB u 19 s) (nI (q + 1)) (nI b) m) (setB u 19 s) (nI (q + 1)) (nI b) _ (nI a) = _
        unfold fX12_spread_l76b fX12_spread_b123
        rw [if_neg (n5 ha), nI_pred, show (5 : Int32) = nI 5 from rfl, show (25 : Int32) = nI 25 from rfl, pk_mul, pk_mul, pk_mul, nI_add, nI_add, nI_add, gA_setB, ldI_s (by omega) (by decide), hC.2 q a b (by omega) ha hb, bitB, ldL_s (by omega) (by decide), gB_s, hI q a ha (Or.inl (by omega)), nI_1]
        rw [show sm (fun a => if G q a b then stN A G p l q a else 0) (a + 1) = sm (fun a => if G q a b then stN A G p l q a else 0) a + if G q a b then stN A G p l q a else 0 from rfl]
        cases G q a b
        · simp only [Bool.false_eq_true, ↓reduceIte, nmL_s, Int64.add_zero, Nat.add_zero]
        · simp only [↓reduceIte, nmL_s, lN_add]) NF 0 0 (by omega) (by unfold NF; omega) rfl
      exact ⟨_, row_sL hI hb rfl, e⟩) NF 0 s (by omega) (by unfold NF; omega) hI
    exact ⟨s', ⟨row_n hs', by omega⟩, e⟩) NF (p + 1) (vp_updL f0 (5 * p + l) (if A p l then 1 else 0)) (by omega) (by unfold NF; omega) ⟨fun q c hc hq => by
      dsimp only
      unfold stN
      by_cases z : q < p
      · rw [if_pos z, updL_n _ _ (by omega), hf0 _ (by omega)]; rfl
      · have e : q = p := by omega
        subst e
        rw [if_neg z, Nat.sub_self]
        unfold spN
        by_cases y : c = l
        · subst y
          rw [updL_s, if_pos rfl]
          cases A q c <;> rfl
        · rw [updL_n _ _ (by omega), if_neg y, hf0 _ (by omega)]
          cases A q l <;> rfl, Nat.le_refl _⟩
  refine ⟨s, ?_, fun q c hq hc => hs q c hc (Or.inl hq)⟩
  unfold fX12_spread
  exact e0.trans e1
theorem pr_m {al : Nat → Nat → Bool} {so : Nat → Bool} {go : Nat → Nat → Nat → Bool} {T p l q c : Nat} (h2 : 2 ≤ T) (hq : q < T) (hc : c < 5) (h : p ≤ q) : fwN (alS al so) go p l * stN (alS al so) go p l q c * bwN (alS al so) go T q c = prN al so go T p l q c := by
  unfold prN stN
  rw [if_pos h, if_neg (by omega)]
  cases ha : alS al so p l
  · have : fwN (alS al so) go p l = 0 := by
      by_cases z : fwN (alS al so) go p l = 0
      · exact z
      · have := fw_A z
        rw [ha] at this
        exact absurd this (by decide)
    rw [this]; simp
  · rw [if_pos rfl, bwN_so al so go hq hc h2]
    by_cases h0 : 0 < q
    · rw [decide_eq_true h0]; rfl
    · have e1 : q = 0 := by omega
      have e2 : p = 0 := by omega
      subst e1
      subst e2
      rw [decide_eq_false h0, Bool.false_or]
      cases hs : so c
      · rw [Nat.sub_self]
        unfold spN
        by_cases z : c = l
        · subst z
          rw [fwN_so al so go hs]; simp
        · rw [if_neg z]; simp
      · rfl
def prX (al : Nat → Nat → Bool) (so : Nat → Bool) (go : Nat → Nat → Nat → Bool) (T x y : Nat) : Nat := prN al so go T (x / 5) (x % 5) (y / 5) (y % 5)
theorem CM_19 {u : St} {T : Nat} {A : Nat → Nat → Bool} {G : Nat → Nat → Nat → Bool} (hC : CM u T A G) (s : Nat → Int64) : CM (setB u 19 s) T A G := hC
theorem CM_20 {u : St} {T : Nat} {A : Nat → Nat → Bool} {G : Nat → Nat → Nat → Bool} (hC : CM u T A G) (s : Nat → Int64) : CM (setB u 20 s) T A G := hC
theorem b82_ok {u : St} {T : Nat} {al : Nat → Nat → Bool} {so : Nat → Bool} {go : Nat → Nat → Nat → Bool} (h1 : gZ u 1 = nI T) (hC : CM u T (alS al so) go) (h2 : 2 ≤ T) (hT : T ≤ 12) {p l q c : Nat} (hp : p < T) (hl : l < 5) (hq : q < T) (hc : c < 5) (h : p ≤ q) : ∃ s : Nat → Int64, fX12_both_b82 u (nI (5 * p + l)) (nI (5 * q + c)) = some (lN (prN al so go T p l q c), setB u 19 s) := by
  obtain ⟨s, e, hs⟩ := spread_ok h1 hC hT hp hl
  refine ⟨s, ?_⟩
  unfold fX12_both_b82
  rw [show (5 : Int32) = nI 5 from rfl, pk_rem (by omega) (by decide) (by decide), pk_div (by omega) (by decide) (by decide), show (5 * p + l) % 5 = l by omega, show (5 * p + l) / 5 = p by omega, e, cl1_s, ldL_s (by omega) (by decide), ldL_s (by omega) (by decide), ldL_s (by omega) (by decide), gB_s, hs q c hq hc, gB_n u s (by decide), gB_n u s (by decide), (hC.1 p l hp hl).2.1, (hC.1 q c hq hc).2.2, lN_mul, lN_mul, pr_m h2 hq hc h]
theorem T_both {ts : List Tx} {uC uM : St} (h : Rel ts uC uM) (a0 : Int32) (a1 : Int32) (a2 : Int32) (a3 : Int32) : ∃ (r : Int64) (uC' : St) (uM' : St), fX11_both uC a0 a1 a2 a3 = some (r, uC') ∧ fX12_both uM a0 a1 a2 a3 = some (r, uM') ∧ Rel ts uC' uM' := by
  obtain ⟨T, al, so, go, uC', uM', t1, t2, t3, t4, t5, t6, e1, e2, hR, kC, kM, hV, hVM, hC, hM, e3⟩ := cnt_both h
  unfold fX11_both fX12_both
  by_cases hp : InR a0 5 ∧ InR a1 T
  · rw [plaC_t (by omega) t4 hp.1 hp.2, plaM_t (by omega) t3 hp.1 hp.2]
    by_cases hq : InR a2 5 ∧ InR a3 T
    · rw [plaC_t (by omega) t4 hq.1 hq.2, plaM_t (by omega) t3 hq.1 hq.2]
      obtain ⟨⟨l, hl, rfl⟩, ⟨p, hp, rfl⟩⟩ := hp
      obtain ⟨⟨c, hc, rfl⟩, ⟨q, hq, rfl⟩⟩ := hq
      obtain ⟨w, e4, hw⟩ := countWith_ok hV hC t2 hp hl
      have hz : gZ uM' 1 = nI T := (kM.1 1 (by decide)).trans t3
      simp only [cl1_s, i10, ↓reduceIte, e1, e2, cl2_s, e4, place_n]
      rw [ldL_s (by omega) (by decide), gB_s, hw q c hq hc]
      have hk : keepC uC' (setB uC' 23 w) := k23 uC' w
      by_cases z : q < p
      · rw [if_pos (nI_lt z (by omega))]
        obtain ⟨s, e5⟩ := b82_ok hz hM t1 t2 hq hc hp hl (by omega)
        refine ⟨_, _, setB uM' 19 s, rfl, ?_, Rel_keep hR hk (m19 uM' s)⟩
        unfold fX12_both_b40 fX12_both_b61
        rw [if_pos rfl, if_pos rfl, show (5 : Int32) = nI 5 from rfl, pk_mul, pk_mul, nI_add, nI_add, e5, prN_comm]
      · rw [if_neg (nI_nlt (by omega) (by omega))]
        obtain ⟨s, e5⟩ := b82_ok hz hM t1 t2 hp hl hq hc (by omega)
        refine ⟨_, _, setB uM' 19 s, rfl, ?_, Rel_keep hR hk (m19 uM' s)⟩
        unfold fX12_both_b40 fX12_both_b61
        rw [if_neg (by decide), if_neg (by decide), show (5 : Int32) = nI 5 from rfl, pk_mul, pk_mul, nI_add, nI_add, e5]
    · rw [plaC_f (by omega) t4 hq, plaM_f (by omega) t3 hq]
      exact ⟨_, _, _, rfl, rfl, h⟩
  · rw [plaC_f (by omega) t4 hp, plaM_f (by omega) t3 hp]
    exact ⟨_, _, _, rfl, rfl, h⟩
theorem prX_comm (al : Nat → Nat → Bool) (so : Nat → Bool) (go : Nat → Nat → Nat → Bool) (T x y : Nat) : prX al so go T x y = prX al so go T y x := prN_comm _ _ _ _ _ _ _ _
theorem pairUp_ok {u : St} {T : Nat} {al : Nat → Nat → Bool} {so : Nat → Bool} {go : Nat → Nat → Nat → Bool} (h1 : gZ u 1 = nI T) (hC : CM u T (alS al so) go) (h2 : 2 ≤ T) (hT : T ≤ 12) : ∃ s P : Nat → Int64, fX12_pairUp u = some (setB (setB u 19 s) 20 P) ∧ ∀ x y, x < 5 * T → y < 5 * T → P (60 * x + y) = lN (prX al so go T x y) := by
  obtain ⟨⟨s, P⟩, hP, e⟩ := up (fun m (sP : (Nat → Int64) × (Nat → Int64)) i => fX12_pairUp_l2 m (setB (setB u 19 sP.1) 20 sP.2) i) (fun x sP => ∀ x' y', x' ≤ y' → y' < 5 * T → x' < x → sP.2 (60 * x' + y') = lN (prX al so go T x' y') ∧ sP.2 (60 * y' + x') = lN (prX al so go T x' y')) (5 * T) (fun sP => some (setB (setB u 19 sP.1) 20 sP.2)) (by
    intro m sP hI
    show fX12_pairUp_l2b (fX12_pairUp_l2 m) (setB (setB u 19 sP.1) 20 sP.2) (nI (5 * T)) = _
    unfold fX12_pairUp_l2b
    rw [gZ_setB, gZ_setB, h1, show (5 : Int32) = nI 5 from rfl, pk_mul, if_pos (nI_le (Nat.le_refl _) (by omega))]) (by
    intro m x sP hx hI
    obtain ⟨s, P⟩ := sP
    show ∃ sP' : (Nat → Int64) × (Nat → Int64), _ ∧ fX12_pairUp_l2b (fX12_pairUp_l2 m) (setB (setB u 19 s) 20 P) (nI x) = fX12_pairUp_l2 m (setB (setB u 19 sP'.1) 20 sP'.2) (nI (x + 1))
    unfold fX12_pairUp_l2b
    obtain ⟨s2, e, hs⟩ := spread_ok (u := setB (setB u 19 s) 20 P) (T := T) (A := alS al so) (G := go) h1 hC hT (show x / 5 < T by omega) (show x % 5 < 5 by omega)
    rw [gZ_setB, gZ_setB, h1, show (5 : Int32) = nI 5 from rfl, pk_mul, if_neg (nI_ge hx (by omega)), pk_rem (by omega) (by decide) (by decide), pk_div (by omega) (by decide) (by decide), e, cl1_s, nmI_s, pk_sub (by omega)]
    have hcm : setB (setB (setB u 19 s) 20 P) 19 s2 = setB (setB u 19 s2) 20 P := by
      rw [setB_comm (setB u 19 s) (k := 20) (j := 19) (by decide), setB_setB]
    rw [hcm]
    generalize hk2 : fX12_pairUp_l2 m = k2
    obtain ⟨P', hP', e⟩ := up (fun m (P : Nat → Int64) i => fX12_pairUp_l28 k2 (nI x) m (setB (setB u 19 s2) 20 P) i) (fun y P => (∀ x' y', x' ≤ y' → y' < 5 * T → (x' < x ∨ x' = x ∧ y' < y) → P (60 * x' + y') = lN (prX al so go T x' y') ∧ P (60 * y' + x') = lN (prX al so go T x' y')) ∧ x - x % 5 ≤ y) (5 * T) (fun P => k2 (setB (setB u 19 s2) 20 P) (nI (x + 1))) (by
      intro m P hI
      show fX12_pairUp_l28b k2 (fX12_pairUp_l28 k2 (nI x) m) (setB (setB u 19 s2) 20 P) (nI x) (nI (5 * T)) = _
      unfold fX12_pairUp_l28b
      rw [gZ_setB, gZ_setB, h1, show (5 : Int32) = nI 5 from rfl, pk_mul, if_pos (nI_le (Nat.le_refl _) (by omega)), nI_1]) (by
      intro m y P hy hI
      obtain ⟨hI, hxy⟩ := hI
      show ∃ P', _ ∧ fX12_pairUp_l28b k2 (fX12_pairUp_l28 k2 (nI x) m) (setB (setB u 19 s2) 20 P) (nI x) (nI y) = fX12_pairUp_l28 k2 (nI x) m (setB (setB u 19 s2) 20 P') (nI (y + 1))
      unfold fX12_pairUp_l28b
      have b1 := (hC.1 (x / 5) (x % 5) (by omega) (by omega)).2.1
      have b2 := (hC.1 (y / 5) (y % 5) (by omega) (by omega)).2.2
      have b3 := hs (y / 5) (y % 5) (by omega) (by omega)
      rw [show 5 * (x / 5) + x % 5 = x by omega] at b1
      rw [show 5 * (y / 5) + y % 5 = y by omega] at b2 b3
      have b4 := pr_m (al := al) (so := so) (go := go) (T := T) (p := x / 5) (l := x % 5) (q := y / 5) (c := y % 5) h2 (by omega) (by omega) (by omega)
      rw [gZ_setB, gZ_setB, h1, show (5 : Int32) = nI 5 from rfl, show (60 : Int32) = nI 60 from rfl, pk_mul, pk_mul, pk_mul, nI_add, nI_add, if_neg (nI_ge hy (by omega)), ldL_s (by omega) (by decide), ldL_s (by omega) (by decide), ldL_s (by omega) (by decide), gB_n (j := 17) (setB u 19 s2) P (by decide), gB_n (j := 19) (setB u 19 s2) P (by decide), gB_n (j := 18) (setB u 19 s2) P (by decide), gB_n (j := 17) u s2 (by decide), gB_n (j := 18) u s2 (by decide), gB_s, b1, b2, b3, lN_mul, lN_mul, b4, nmL_s, stL_s (by omega) (by decide), setB_setB, gB_s, stL_s (by omega) (by decide), setB_setB, gB_s, nI_1]
      refine ⟨_, ⟨fun x' y' h3 h4 h5 => ?_, by omega⟩, rfl⟩
      have hg : ∀ a b, a < 60 → b < 60 → (a = x ∧ b = y ∨ a = y ∧ b = x ∨ P (60 * a + b) = lN (prX al so go T a b)) → vp_updL (vp_updL P (60 * x + y) (lN (prX al so go T x y))) (60 * y + x) (lN (prX al so go T x y)) (60 * a + b) = lN (prX al so go T a b) := by
        intro a b ha hb h6
        by_cases z1 : 60 * a + b = 60 * y + x
        · have q1 : a = y := by omega
          have q2 : b = x := by omega
          rw [z1, updL_s, q1, q2, prX_comm]
        · rw [updL_n _ _ z1]
          by_cases z2 : 60 * a + b = 60 * x + y
          · have q1 : a = x := by omega
            have q2 : b = y := by omega
            rw [z2, updL_s, q1, q2]
          · rw [updL_n _ _ z2]
            rcases h6 with ⟨rfl, rfl⟩ | ⟨rfl, rfl⟩ | h6
            · exact absurd rfl z2
            · exact absurd rfl z1
            · exact h6
      constructor
      · refine hg x' y' (by omega) (by omega) ?_
        by_cases z : x' = x ∧ y' = y
        · exact Or.inl z
        · exact Or.inr (Or.inr (hI x' y' h3 h4 (by omega)).1)
      · rw [prX_comm al so go T x' y']
        refine hg y' x' (by omega) (by omega) ?_
        by_cases z : x' = x ∧ y' = y
        · exact Or.inr (Or.inl ⟨z.2, z.1⟩)
        · exact Or.inr (Or.inr ((hI x' y' h3 h4 (by omega)).2.trans (by rw [prX_comm])))) NF (x - x % 5) P (by omega) (by unfold NF; omega) ⟨fun x' y' h3 h4 h5 => hI x' y' h3 h4 (by omega), Nat.le_refl _⟩
    exact ⟨(s2, P'), fun x' y' h3 h4 h5 => hP'.1 x' y' h3 h4 (by omega), e⟩) NF 0 (gB u 19, gB u 20) (by omega) (by unfold NF; omega) (fun x' y' h3 h4 h5 => by omega)
  have e0 : setB (setB u 19 (gB u 19)) 20 (gB u 20) = u := by
    rw [setB_self u 19, setB_self u 20]
  have e' : fX12_pairUp_l2 NF (setB (setB u 19 (gB u 19)) 20 (gB u 20)) 0 = some (setB (setB u 19 s) 20 P) := e
  rw [e0] at e'
  refine ⟨s, P, e', fun x y hx hy => ?_⟩
  rcases Nat.le_total x y with z | z
  · exact (hP x y z hy hx).1
  · rw [prX_comm]
    exact (hP y x z hx hy).2
