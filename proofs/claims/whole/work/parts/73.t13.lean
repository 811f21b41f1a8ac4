theorem n5 {i : Nat} (h : i < 5) : ¬ (5 : Int32) ≤ nI i := nI_ge (b := 5) h (by decide)
theorem n60 {i : Nat} (h : i < 60) : ¬ (60 : Int32) ≤ nI i := nI_ge (b := 60) h (by decide)
theorem openM {u : St} {W : Nat} (hW : W ≤ 20) (hz : gZ u 3 = nI W) (a b p : Int32) : fX12_openWays u a b p = some (nI (opn (gA u 4) (gA u 5) (gA u 6) (gA u 7) a b p W)) := by
  obtain ⟨r, hr, e⟩ := up (fX12_openWays_l6 u a b p) (fun i acc => acc = nI (opn (gA u 4) (gA u 5) (gA u 6) (gA u 7) a b p i)) W (fun acc => some acc) (by
    intro m acc hI
    show fX12_openWays_l6b u (fX12_openWays_l6 u a b p m) a b p acc (nI W) = some acc
    unfold fX12_openWays_l6b
    rw [hz, if_pos (nI_le (Nat.le_refl W) (by omega))]) (by
    intro m i acc hi hI
    subst hI
    refine ⟨_, rfl, ?_⟩
    show fX12_openWays_l6b u (fX12_openWays_l6 u a b p m) a b p _ (nI i) = _
    unfold fX12_openWays_l6b
    rw [hz, if_neg (nI_ge (by omega) (by omega))]
    simp only [ldI_s (show i < 20 by omega) (show 20 < 2 ^ 31 by decide)]
    unfold fX12_in
    have e : opn (gA u 4) (gA u 5) (gA u 6) (gA u 7) a b p (i + 1) = opn (gA u 4) (gA u 5) (gA u 6) (gA u 7) a b p i + if gA u 4 i = a ∧ gA u 5 i = b ∧ gA u 6 i ≤ p ∧ p ≤ gA u 7 i then 1 else 0 := rfl
    by_cases h1 : gA u 4 i = a
    · rw [if_pos h1]
      by_cases h2 : gA u 5 i = b
      · rw [if_pos h2]
        by_cases h3 : p < gA u 6 i
        · rw [if_pos h3, e, if_neg (fun z => i32_lt.mp h3 z.2.2.1)]
          simp only [cl1_s, ↓reduceIte, fX12_openWays_b64, fX12_openWays_b65, nmI_s, Int32.add_zero, nI_1, Nat.add_zero]
        · rw [if_neg h3]
          by_cases h4 : gA u 7 i < p
          · rw [if_pos h4, e, if_neg (fun z => i32_lt.mp h4 z.2.2.2)]
            simp only [cl1_s, ↓reduceIte, fX12_openWays_b64, fX12_openWays_b65, nmI_s, Int32.add_zero, nI_1, Nat.add_zero]
          · rw [if_neg h4, e, if_pos ⟨h1, h2, i32_le.mpr h3, i32_le.mpr h4⟩]
            simp only [cl1_s, i10, ↓reduceIte, fX12_openWays_b64, fX12_openWays_b65, nmI_s, nI_1]
      · rw [if_neg h2, e, if_neg (fun z => h2 z.2.1)]
        simp only [fX12_openWays_b64, fX12_openWays_b65, nmI_s, Int32.add_zero, nI_1, Nat.add_zero]
    · rw [if_neg h1, e, if_neg (fun z => h1 z.1)]
      simp only [fX12_openWays_b64, fX12_openWays_b65, nmI_s, Int32.add_zero, nI_1, Nat.add_zero]) NF 0 0 (by omega) (by unfold NF; omega) rfl
  subst hr
  exact e
theorem cnt_ub (P : Nat → Prop) [DecidablePred P] {n m : Nat} (h : n ≤ m) : cnt P n ≤ m := Nat.le_trans (cnt_le P n) h
theorem lets_B {ts : List Tx} {uC uM : St} (h : Rel ts uC uM) {P : Nat} (hm : gZ uM 8 = nI P) (hP : P ≤ 16) {i : Nat} (hi : i < P) (p : Nat) : ∃ y, fX4_landsByPaper uC (nI i) (nI p) = some y ∧ ∀ l, l < 5 → fX12_lets uM (nI i) (nI l) (nI p) = some (if bB y l then 1 else 0) := by
  obtain ⟨T, h1, h2, h3, ⟨P', hP', hc', hm', hk, hf, hg, hs⟩, h5, h6, h7, h8, h9, h10, h11⟩ := id h
  have e : P = P' := nI_inj (by omega) (by omega) (hm.symm.trans hm')
  subst e
  obtain ⟨k1, k2, k3, k4, k5, ⟨k, hk', e1⟩, ⟨a, ha, e2⟩, ⟨b, hb, e3⟩, ⟨q, hq, e4⟩, k10⟩ := hk i hi
  obtain ⟨x, w1, w2⟩ := lands_eq (p := p) (l := 0) (show i < 16 by omega) (k1.trans e1) (k2.trans e2) (k3.trans e3) (k4.trans e4) e1 e2 e3 e4 hk' ha hb (by decide)
  refine ⟨_, w1, fun l hl => ?_⟩
  obtain ⟨x', w3, w4⟩ := lands_eq (p := p) (show i < 16 by omega) (k1.trans e1) (k2.trans e2) (k3.trans e3) (k4.trans e4) e1 e2 e3 e4 hk' ha hb hl
  have e5 := Option.some.inj (w1.symm.trans w3)
  rw [w4, e5]
/-- what papers that stand let be -/
def alN (s : Int32) (lt : Nat → Bool) : Nat → Bool
  | 0 => true
  | k + 1 => alN s lt k && (!(bB s k) || lt k)
theorem alN_congr {s : Int32} {f g : Nat → Bool} : ∀ n, (∀ i, i < n → f i = g i) → alN s f n = alN s g n := by
  intro n
  induction n with
  | zero => intro _; rfl
  | succ n ih =>
    intro h
    show (alN s f n && (!(bB s n) || f n)) = (alN s g n && (!(bB s n) || g n))
    rw [ih (fun i hi => h i (by omega)), h n (by omega)]
def VC (uC : St) (T : Nat) (al : Nat → Nat → Bool) (so : Nat → Bool) (go : Nat → Nat → Nat → Bool) : Prop :=
  ∀ u, keepC uC u → gZ u 24 = nI T ∧ (∀ p, p < T → ∃ x, fX4_allowedLands u (nI p) = some x ∧ ∀ l, l < 5 → bB x l = al p l) ∧ (∀ l, l < 5 → bB (gZ u 20) l = so l) ∧ ∀ p a b, p < 12 → a < 5 → b < 5 → fX10_lead u (nI a) (nI b) (nI p) = some (if go p a b then 1 else 0)
def VM (uM : St) (T : Nat) (al : Nat → Nat → Bool) (so : Nat → Bool) (go : Nat → Nat → Nat → Bool) : Prop :=
  ∃ (S : Int32) (P : Nat) (lt : Nat → Nat → Nat → Bool), P ≤ 16 ∧ (∀ p l, p < T → l < 5 → al p l = alN S (fun k => lt k p l) P) ∧ ∀ u, keepM uM u → gZ u 1 = nI T ∧ gZ u 8 = nI P ∧ fX12_standing u (-1) = some S ∧ (∀ k p l, k < P → l < 5 → fX12_lets u (nI k) (nI l) (nI p) = some (if lt k p l then 1 else 0)) ∧ (∀ l, l < 5 → bB (gZ u 2) l = so l) ∧ ∀ p a b, p < 12 → a < 5 → b < 5 → ∃ n, n ≤ 20 ∧ fX12_openWays u (nI a) (nI b) (nI p) = some (nI n) ∧ go p a b = (decide (a = b) || decide (0 < n))
theorem view {ts : List Tx} {uC uM : St} (h : Rel ts uC uM) : ∃ (T : Nat) (al : Nat → Nat → Bool) (so : Nat → Bool) (go : Nat → Nat → Nat → Bool), RelT T (gZ uM 1) (gZ uC 220) (gZ uC 24) (gZ uC 68) (gZ uC 4) (gZ uC 40) ∧ VC uC T al so go ∧ VM uM T al so go := by
  obtain ⟨T, h1, ⟨W, hW, wc, wm, wk⟩, h3, ⟨P, hP, hc, hm, hk, hf, hg, hs⟩, h5, h6, h7, h8, h9, h10, h11⟩ := id h
  obtain ⟨t1, t2, t3, t4, t5, t6, t7, t8⟩ := id h1
  have hst := stand_all (uM := uM) hP hm
  generalize hS : stnd (gA uM 13) (fun i => ¬ gA uM 14 i = 0) P = S at hst hs
  obtain ⟨lt, hlt⟩ : ∃ lt : Nat → Nat → Nat → Bool, ∀ k p l, lt k p l = decide (fX12_lets uM (nI k) (nI l) (nI p) = some 1) := ⟨_, fun _ _ _ => rfl⟩
  obtain ⟨al, hal⟩ : ∃ al : Nat → Nat → Bool, ∀ p l, al p l = alN S (fun k => lt k p l) P := ⟨_, fun _ _ => rfl⟩
  obtain ⟨so, hso⟩ : ∃ so : Nat → Bool, ∀ l, so l = bB (gZ uM 2) l := ⟨_, fun _ => rfl⟩
  obtain ⟨go, hgo⟩ : ∃ go : Nat → Nat → Nat → Bool, ∀ p a b, go p a b = (decide (a = b) || decide (0 < opn (gA uM 4) (gA uM 5) (gA uM 6) (gA uM 7) (nI a) (nI b) (nI p) W)) := ⟨_, fun _ _ _ => rfl⟩
  refine ⟨T, al, so, go, h1, ?_, ?_⟩
  · intro u hu
    have hR : Rel ts u uM := Rel_keep h hu (keepM_rf uM)
    refine ⟨(hu.1 24 (by decide)).trans t5, ?_, ?_, ?_⟩
    · intro p hp
      have z80 : gZ u 80 = nI P := (hu.1 80 (by decide)).trans hc
      have z82 : gZ u 82 = S := (hu.1 82 (by decide)).trans hs
      obtain ⟨x, hx, e⟩ := up (fX4_allowedLands_l5 u (nI p)) (fun i x => ∀ l, l < 5 → bB x l = alN S (fun k => lt k p l) i) P (fun x => some x) (by
        intro m acc hI
        show fX4_allowedLands_l5b u (fX4_allowedLands_l5 u (nI p) m) (nI p) acc (nI P) = some acc
        unfold fX4_allowedLands_l5b
        rw [z80, if_pos (nI_le (Nat.le_refl P) (by omega))]) (by
        intro m i acc hi hI
        show ∃ u', _ ∧ fX4_allowedLands_l5b u (fX4_allowedLands_l5 u (nI p) m) (nI p) acc (nI i) = _
        unfold fX4_allowedLands_l5b fX4_allowedLands_b33
        rw [z80, if_neg (nI_ge (by omega) (by omega)), z82, isIn_B S (show i < 32 by omega)]
        simp only [cl1_s]
        cases hb : bB S i
        · rw [if_pos (by decide)]
          refine ⟨acc, fun l hl => ?_, by rw [nI_1]⟩
          show _ = (alN S _ i && (!(bB S i) || lt i p l))
          rw [hb, ← hI l hl]
          simp
        · rw [if_neg (by decide)]
          obtain ⟨y, w1, w2⟩ := lets_B hR hm hP hi p
          rw [w1]
          simp only [cl1_s, nmI_s]
          refine ⟨acc &&& y, fun l hl => ?_, by rw [nI_1]⟩
          show _ = (alN S _ i && (!(bB S i) || lt i p l))
          rw [hb, ← hI l hl, bB_and, hlt, w2 l hl]
          cases bB y l <;> simp) NF 0 31 (by omega) (by unfold NF; omega) (fun l hl => b31 hl)
      exact ⟨x, e, fun l hl => (hx l hl).trans (hal p l).symm⟩
    · intro l hl
      rw [hu.1 20 (by decide), h3.1, hso]
    · intro p a b hp ha hb
      unfold fX10_lead fX10_lead_b15 fX10_openFor
      rw [show (5 : Int32) = nI 5 from rfl, pk_mul, nI_add, pk_mul, nI_add, ldI_s (by omega) (by decide), hu.2.1 201 (by decide), wk p a b hp ha hb, hgo]
      have hub : opn (gA uM 4) (gA uM 5) (gA uM 6) (gA uM 7) (nI a) (nI b) (nI p) W ≤ 20 := cnt_ub _ hW
      generalize opn (gA uM 4) (gA uM 5) (gA uM 6) (gA uM 7) (nI a) (nI b) (nI p) W = n at hub
      by_cases e : a = b
      · rw [if_pos (by rw [e]), decide_eq_true e]
        rfl
      · rw [if_neg (nI_ne (by omega) (by omega) e), decide_eq_false e, cl1_s]
        by_cases e0 : 0 < n
        · rw [if_neg (nI_nle e0 (by omega)), decide_eq_true e0]
          rfl
        · rw [show n = 0 by omega]
          rfl
  · refine ⟨S, P, lt, hP, fun p l _ _ => hal p l, ?_⟩
    intro u hu
    have hR : Rel ts uC u := Rel_keep h (keepC_rf uC) hu
    have z8 : gZ u 8 = nI P := (hu.1 8 (by decide)).trans hm
    have z3 : gZ u 3 = nI W := (hu.1 3 (by decide)).trans wm
    refine ⟨(hu.1 1 (by decide)).trans t3, z8, ?_, ?_, ?_, ?_⟩
    · rw [stand_all hP z8, hu.2.1 13 (by decide), hu.2.1 14 (by decide), hS]
    · intro k p l hk hl
      obtain ⟨y, w1, w2⟩ := lets_B h hm hP hk p
      obtain ⟨y', w3, w4⟩ := lets_B hR z8 hP hk p
      have e5 := Option.some.inj (w1.symm.trans w3)
      subst e5
      rw [w4 l hl, hlt, w2 l hl]
      cases bB y l <;> rfl
    · intro l hl
      rw [hu.1 2 (by decide), hso]
    · intro p a b hp ha hb
      refine ⟨opn (gA uM 4) (gA uM 5) (gA uM 6) (gA uM 7) (nI a) (nI b) (nI p) W, cnt_ub _ hW, ?_, hgo p a b⟩
      rw [openM hW z3, hu.2.1 4 (by decide), hu.2.1 5 (by decide), hu.2.1 6 (by decide), hu.2.1 7 (by decide)]
theorem VC_k {uC u : St} {T : Nat} {al : Nat → Nat → Bool} {so : Nat → Bool} {go : Nat → Nat → Nat → Bool} (h : VC uC T al so go) (k : keepC uC u) : VC u T al so go := fun v hv => h v (keepC_tr k hv)
theorem VM_k {uM u : St} {T : Nat} {al : Nat → Nat → Bool} {so : Nat → Bool} {go : Nat → Nat → Nat → Bool} (h : VM uM T al so go) (k : keepM uM u) : VM u T al so go := by
  obtain ⟨S, P, lt, h1, h2, h3⟩ := h
  exact ⟨S, P, lt, h1, h2, fun v hv => h3 v (keepM_tr k hv)⟩
theorem ld_lN {ρ : Type} {f : Nat → Int64} {m j n : Nat} {k : Int64 → Option ρ} (h : j < m) (hm : m < 2 ^ 31) (e : f j = lN n) : ldL f m (nI j) k = k (lN n) := by
  rw [ldL_s h hm, e]
theorem place_n (p l : Nat) : fX11_place (nI l) (nI p) = some (nI (5 * p + l)) := by
  unfold fX11_place
  rw [show (5 : Int32) = nI 5 from rfl, pk_mul, nI_add, Nat.mul_comm]
theorem bitB {ρ : Type} (b : Bool) (x y : ρ) : (if (if b then (1 : Int32) else 0) = 0 then x else y) = if b then y else x := by
  cases b
  · exact if_pos rfl
  · exact if_neg (by decide)
/-- the sums of a place's neighbours -/
theorem sumBefore1 {u : St} {p l : Nat} {g : Nat → Bool} {f : Nat → Nat} (hl : l < 5) (hp : p < 12) (hg : ∀ a, a < 5 → fX10_lead u (nI a) (nI l) (nI p) = some (if g a then 1 else 0)) (hf : ∀ a, a < 5 → gB u 21 (5 * p + a) = lN (f a)) : fX1_sumBefore_X1_1 u (nI l) (nI (p + 1)) = some (lN (sm (fun a => if g a then f a else 0) 5)) := by
  obtain ⟨r, hr, e⟩ := up (fX1_sumBefore_X1_1_l6 u (nI l) (nI (p + 1))) (fun i acc => acc = lN (sm (fun a => if g a then f a else 0) i)) 5 (fun acc => some acc) (by
    intro m acc hI
    show fX1_sumBefore_X1_1_l6b u (fX1_sumBefore_X1_1_l6 u (nI l) (nI (p + 1)) m) (nI l) (nI (p + 1)) acc 5 = some acc
    unfold fX1_sumBefore_X1_1_l6b
    rw [if_pos (by decide)]) (by
    intro m i acc hi hI
    subst hI
    refine ⟨_, rfl, ?_⟩
    show fX1_sumBefore_X1_1_l6b u (fX1_sumBefore_X1_1_l6 u (nI l) (nI (p + 1)) m) (nI l) (nI (p + 1)) _ (nI i) = _
    unfold fX1_sumBefore_X1_1_l6b fX1_sumBefore_X1_1_b43
    rw [if_neg (n5 hi), nI_pred, hg i hi, place_n]
    simp only [cl1_s, bitB]
    rw [show sm (fun a => if g a then f a else 0) (i + 1) = sm (fun a => if g a then f a else 0) i + if g i then f i else 0 from rfl]
    cases g i
    · simp only [Bool.false_eq_true, ↓reduceIte, nI_1, Nat.add_zero]
    · simp only [↓reduceIte]
      rw [ld_lN (by omega) (by decide) (hf i hi), nmL_s, lN_add, nI_1]) NF 0 0 (by omega) (by unfold NF; omega) rfl
  subst hr
  exact e
theorem sumBefore3 {u : St} {p l : Nat} {g : Nat → Bool} {f : Nat → Nat} (hl : l < 5) (hp : p < 12) (hg : ∀ a, a < 5 → fX10_lead u (nI a) (nI l) (nI p) = some (if g a then 1 else 0)) (hf : ∀ a, a < 5 → gB u 23 (5 * p + a) = lN (f a)) : fX1_sumBefore_X1_3 u (nI l) (nI (p + 1)) = some (lN (sm (fun a => if g a then f a else 0) 5)) := by
  obtain ⟨r, hr, e⟩ := up (fX1_sumBefore_X1_3_l6 u (nI l) (nI (p + 1))) (fun i acc => acc = lN (sm (fun a => if g a then f a else 0) i)) 5 (fun acc => some acc) (by
    intro m acc hI
    show fX1_sumBefore_X1_3_l6b u (fX1_sumBefore_X1_3_l6 u (nI l) (nI (p + 1)) m) (nI l) (nI (p + 1)) acc 5 = some acc
    unfold fX1_sumBefore_X1_3_l6b
    rw [if_pos (by decide)]) (by
    intro m i acc hi hI
    subst hI
    refine ⟨_, rfl, ?_⟩
    show fX1_sumBefore_X1_3_l6b u (fX1_sumBefore_X1_3_l6 u (nI l) (nI (p + 1)) m) (nI l) (nI (p + 1)) _ (nI i) = _
    unfold fX1_sumBefore_X1_3_l6b fX1_sumBefore_X1_3_b43
    rw [if_neg (n5 hi), nI_pred, hg i hi, place_n]
    simp only [cl1_s, bitB]
    rw [show sm (fun a => if g a then f a else 0) (i + 1) = sm (fun a => if g a then f a else 0) i + if g i then f i else 0 from rfl]
    cases g i
    · simp only [Bool.false_eq_true, ↓reduceIte, nI_1, Nat.add_zero]
    · simp only [↓reduceIte]
      rw [ld_lN (by omega) (by decide) (hf i hi), nmL_s, lN_add, nI_1]) NF 0 0 (by omega) (by unfold NF; omega) rfl
  subst hr
  exact e
theorem sumBehind2 {u : St} {p l : Nat} {g : Nat → Bool} {f : Nat → Nat} (hl : l < 5) (hp : p + 1 < 12) (hg : ∀ a, a < 5 → fX10_lead u (nI l) (nI a) (nI p) = some (if g a then 1 else 0)) (hf : ∀ a, a < 5 → gB u 22 (5 * (p + 1) + a) = lN (f a)) : fX1_sumBehind_X1_2 u (nI l) (nI p) = some (lN (sm (fun a => if g a then f a else 0) 5)) := by
  obtain ⟨r, hr, e⟩ := up (fX1_sumBehind_X1_2_l6 u (nI l) (nI p)) (fun i acc => acc = lN (sm (fun a => if g a then f a else 0) i)) 5 (fun acc => some acc) (by
    intro m acc hI
    show fX1_sumBehind_X1_2_l6b u (fX1_sumBehind_X1_2_l6 u (nI l) (nI p) m) (nI l) (nI p) acc 5 = some acc
    unfold fX1_sumBehind_X1_2_l6b
    rw [if_pos (by decide)]) (by
    intro m i acc hi hI
    subst hI
    refine ⟨_, rfl, ?_⟩
    show fX1_sumBehind_X1_2_l6b u (fX1_sumBehind_X1_2_l6 u (nI l) (nI p) m) (nI l) (nI p) _ (nI i) = _
    unfold fX1_sumBehind_X1_2_l6b fX1_sumBehind_X1_2_b41
    rw [if_neg (n5 hi), hg i hi, nI_1 p, place_n]
    simp only [cl1_s, bitB]
    rw [show sm (fun a => if g a then f a else 0) (i + 1) = sm (fun a => if g a then f a else 0) i + if g i then f i else 0 from rfl]
    cases g i
    · simp only [Bool.false_eq_true, ↓reduceIte, nI_1, Nat.add_zero]
    · simp only [↓reduceIte]
      rw [ld_lN (by omega) (by decide) (hf i hi), nmL_s, lN_add, nI_1]) NF 0 0 (by omega) (by unfold NF; omega) rfl
  subst hr
  exact e
theorem sumBehind3 {u : St} {p l : Nat} {g : Nat → Bool} {f : Nat → Nat} (hl : l < 5) (hp : p + 1 < 12) (hg : ∀ a, a < 5 → fX10_lead u (nI l) (nI a) (nI p) = some (if g a then 1 else 0)) (hf : ∀ a, a < 5 → gB u 23 (5 * (p + 1) + a) = lN (f a)) : fX1_sumBehind_X1_3 u (nI l) (nI p) = some (lN (sm (fun a => if g a then f a else 0) 5)) := by
  obtain ⟨r, hr, e⟩ := up (fX1_sumBehind_X1_3_l6 u (nI l) (nI p)) (fun i acc => acc = lN (sm (fun a => if g a then f a else 0) i)) 5 (fun acc => some acc) (by
    intro m acc hI
    show fX1_sumBehind_X1_3_l6b u (fX1_sumBehind_X1_3_l6 u (nI l) (nI p) m) (nI l) (nI p) acc 5 = some acc
    unfold fX1_sumBehind_X1_3_l6b
    rw [if_pos (by decide)]) (by
    intro m i acc hi hI
    subst hI
    refine ⟨_, rfl, ?_⟩
    show fX1_sumBehind_X1_3_l6b u (fX1_sumBehind_X1_3_l6 u (nI l) (nI p) m) (nI l) (nI p) _ (nI i) = _
    unfold fX1_sumBehind_X1_3_l6b fX1_sumBehind_X1_3_b41
    rw [if_neg (n5 hi), hg i hi, nI_1 p, place_n]
    simp only [cl1_s, bitB]
    rw [show sm (fun a => if g a then f a else 0) (i + 1) = sm (fun a => if g a then f a else 0) i + if g i then f i else 0 from rfl]
    cases g i
    · simp only [Bool.false_eq_true, ↓reduceIte, nI_1, Nat.add_zero]
    · simp only [↓reduceIte]
      rw [ld_lN (by omega) (by decide) (hf i hi), nmL_s, lN_add, nI_1]) NF 0 0 (by omega) (by unfold NF; omega) rfl
  subst hr
  exact e
