def Row {α : Type} (f : Nat → α) (p l : Nat) (v : Nat → Nat → α) : Prop := ∀ q c, c < 5 → (q < p ∨ q = p ∧ c < l) → f (5 * q + c) = v q c
def Rod {α : Type} (f : Nat → α) (T p l : Nat) (v : Nat → Nat → α) : Prop := ∀ q c, c < 5 → q < T → (p ≤ q ∨ q + 1 = p ∧ c < l) → f (5 * q + c) = v q c
theorem row_0 {α : Type} (f : Nat → α) (v : Nat → Nat → α) : Row f 0 0 v := fun q c _ h => by omega
theorem row_n {α : Type} {f : Nat → α} {p : Nat} {v : Nat → Nat → α} (h : Row f p 5 v) : Row f (p + 1) 0 v := fun q c hc hq => h q c hc (by omega)
theorem row_sL {f : Nat → Int64} {p l : Nat} {v : Nat → Nat → Int64} (h : Row f p l v) (hl : l < 5) {x : Int64} (e : x = v p l) : Row (vp_updL f (5 * p + l) x) p (l + 1) v := by
  intro q c hc hq
  by_cases z : 5 * q + c = 5 * p + l
  · have e1 : q = p := by omega
    have e2 : c = l := by omega
    subst e1
    subst e2
    rw [updL_s, e]
  · rw [updL_n _ _ z]
    exact h q c hc (by omega)
theorem row_sI {f : Nat → Int32} {p l : Nat} {v : Nat → Nat → Int32} (h : Row f p l v) (hl : l < 5) {x : Int32} (e : x = v p l) : Row (upd f (5 * p + l) x) p (l + 1) v := by
  intro q c hc hq
  by_cases z : 5 * q + c = 5 * p + l
  · have e1 : q = p := by omega
    have e2 : c = l := by omega
    subst e1
    subst e2
    rw [upd_s, e]
  · rw [upd_n _ _ z]
    exact h q c hc (by omega)
theorem rod_0 {α : Type} (f : Nat → α) (T : Nat) (v : Nat → Nat → α) : Rod f T T 0 v := fun q c _ h1 h => by omega
theorem rod_n {α : Type} {f : Nat → α} {T p : Nat} {v : Nat → Nat → α} (h : Rod f T (p + 1) 5 v) : Rod f T p 0 v := fun q c hc h1 hq => h q c hc h1 (by omega)
theorem rod_sL {f : Nat → Int64} {T p l : Nat} {v : Nat → Nat → Int64} (h : Rod f T (p + 1) l v) (hl : l < 5) {x : Int64} (e : x = v p l) : Rod (vp_updL f (5 * p + l) x) T (p + 1) (l + 1) v := by
  intro q c hc h1 hq
  by_cases z : 5 * q + c = 5 * p + l
  · have e1 : q = p := by omega
    have e2 : c = l := by omega
    subst e1
    subst e2
    rw [updL_s, e]
  · rw [updL_n _ _ z]
    exact h q c hc h1 (by omega)
theorem gB_n (u : St) {k j : Nat} (g : Nat → Int64) (h : j ≠ k) : gB (setB u k g) j = gB u j := if_neg h
theorem gA_n (u : St) {k j : Nat} (g : Nat → Int32) (h : j ≠ k) : gA (setA u k g) j = gA u j := if_neg h
theorem gZ_n (u : St) {k j : Nat} (v : Int32) (h : j ≠ k) : gZ (setZ u k v) j = gZ u j := if_neg h
theorem k21 (u : St) (f : Nat → Int64) : keepC u (setB u 21 f) := ⟨fun _ _ => rfl, fun _ _ => rfl, rfl⟩
theorem k22 (u : St) (f : Nat → Int64) : keepC u (setB u 22 f) := ⟨fun _ _ => rfl, fun _ _ => rfl, rfl⟩
theorem k23 (u : St) (f : Nat → Int64) : keepC u (setB u 23 f) := ⟨fun _ _ => rfl, fun _ _ => rfl, rfl⟩
theorem begTo {u : St} {T : Nat} {al : Nat → Nat → Bool} {so : Nat → Bool} {go : Nat → Nat → Nat → Bool} (hV : VC u T al so go) {p l : Nat} (hp : p < 12) (hl : l < 5) (ha : al p l = true) (hr : ∀ q c, c < 5 → q < p → gB u 21 (5 * q + c) = lN (fwN (alS al so) go q c)) : fX1_beginningsTo u (nI l) (nI p) = some (lN (fwN (alS al so) go p l)) := by
  obtain ⟨v1, v2, v3, v4⟩ := hV u (keepC_rf u)
  unfold fX1_beginningsTo
  cases p with
  | zero =>
    rw [if_pos (show nI 0 = 0 from rfl), isIn_B _ (show l < 32 by omega), cl1_s, bitB, v3 l hl]
    unfold fwN alS
    rw [ha]
    cases so l <;> rfl
  | succ p =>
    rw [if_neg (nI_ne0 (by omega) (by omega)), sumBefore1 (g := fun a => go p a l) (f := fun a => fwN (alS al so) go p a) hl (by omega) (fun a ha => v4 p a l (by omega) ha hl) (fun a ha => hr p a ha (by omega)), cl1_s, fwN_S]
    unfold alS
    rw [ha, decide_eq_true (show 0 < p + 1 by omega)]
    rfl
theorem endsOf {u : St} {T : Nat} {al : Nat → Nat → Bool} {so : Nat → Bool} {go : Nat → Nat → Nat → Bool} (hV : VC u T al so go) (hT : T ≤ 12) {p l : Nat} (hp : p < T) (hl : l < 5) (ha : al p l = true) (hr : ∀ q c, c < 5 → q < T → p < q → gB u 22 (5 * q + c) = lN (bwN al go T q c)) : fX1_endsFrom u (nI l) (nI p) = some (lN (bwN al go T p l)) := by
  obtain ⟨v1, v2, v3, v4⟩ := hV u (keepC_rf u)
  unfold fX1_endsFrom
  rw [v1, show nI T - 1 = nI (T - 1) from pk_sub (a := T) (b := 1) (by omega)]
  by_cases e : p = T - 1
  · subst e
    rw [if_pos rfl, bwN_T _ _ (by omega), ha]
    rfl
  · rw [if_neg (nI_ne (by omega) (by omega) e), sumBehind2 (g := fun b => go p l b) (f := fun b => bwN al go T (p + 1) b) hl (by omega) (fun a ha => v4 p l a (by omega) hl ha) (fun a ha => hr (p + 1) a ha (by omega) (by omega)), cl1_s, bwN_S _ _ (by omega), ha]
    rfl
/-- what recount leaves -/
def CC (u : St) (T : Nat) (al : Nat → Nat → Bool) (so : Nat → Bool) (go : Nat → Nat → Nat → Bool) : Prop := ∀ p l, p < T → l < 5 → gB u 21 (5 * p + l) = lN (fwN (alS al so) go p l) ∧ gB u 22 (5 * p + l) = lN (bwN al go T p l)
theorem recount_ok {uC : St} {T : Nat} {al : Nat → Nat → Bool} {so : Nat → Bool} {go : Nat → Nat → Nat → Bool} (hV : VC uC T al so go) (h2 : 2 ≤ T) (hT : T ≤ 12) : ∃ f g, fX1_recount uC = some (setB (setB uC 21 f) 22 g) ∧ CC (setB (setB uC 21 f) 22 g) T al so go := by
  obtain ⟨f, hf, e1⟩ := up (fun m (f : Nat → Int64) i => fX1_recount_l2 m (setB uC 21 f) i) (fun p f => Row f p 0 (fun q c => lN (fwN (alS al so) go q c))) T (fun f => fX1_recount_l73 NF (setB uC 21 f) (nI T + (-1))) (by
    intro m f hI
    show fX1_recount_l2b (fX1_recount_l2 m) (setB uC 21 f) (nI T) = _
    unfold fX1_recount_l2b
    obtain ⟨v1, v2, v3, v4⟩ := hV _ (k21 uC f)
    rw [v1, if_pos (nI_le (Nat.le_refl T) (by omega)), nmI_s, Int32.sub_eq_add_neg]) (by
    intro m p f hp hI
    obtain ⟨v1, v2, v3, v4⟩ := hV _ (k21 uC f)
    obtain ⟨x, hx, hxl⟩ := v2 p hp
    show ∃ f', _ ∧ fX1_recount_l2b (fX1_recount_l2 m) (setB uC 21 f) (nI p) = fX1_recount_l2 m (setB uC 21 f') (nI (p + 1))
    unfold fX1_recount_l2b
    rw [v1, if_neg (nI_ge hp (by omega)), hx, cl1_s]
    generalize hk2 : fX1_recount_l2 m = k2
    obtain ⟨f', hf', e⟩ := up (fun m (f : Nat → Int64) i => fX1_recount_l21 k2 (nI p) x m (setB uC 21 f) i) (fun l f => Row f p l (fun q c => lN (fwN (alS al so) go q c))) 5 (fun f => k2 (setB uC 21 f) (nI (p + 1))) (by
      intro m f hI
      show fX1_recount_l21b k2 (fX1_recount_l21 k2 (nI p) x m) (setB uC 21 f) (nI p) x 5 = _
      unfold fX1_recount_l21b
      rw [if_pos (by decide), nI_1]) (by
      intro m l f hl hI
      show ∃ f', _ ∧ fX1_recount_l21b k2 (fX1_recount_l21 k2 (nI p) x m) (setB uC 21 f) (nI p) x (nI l) = fX1_recount_l21 k2 (nI p) x m (setB uC 21 f') (nI (l + 1))
      unfold fX1_recount_l21b fX1_recount_b53
      rw [if_neg (n5 hl), place_n, cl1_s, isIn_B _ (show l < 32 by omega), cl1_s, bitB, hxl l hl]
      cases ha : al p l
      · simp only [Bool.false_eq_true, ↓reduceIte]
        rw [stL_s (by omega) (by decide), setB_setB, gB_s, nI_1]
        refine ⟨_, row_sL hI hl ?_, rfl⟩
        cases p with
        | zero => unfold fwN alS; rw [ha]; rfl
        | succ p => rw [fwN_S]; unfold alS; rw [ha]; rfl
      · simp only [↓reduceIte]
        rw [begTo (VC_k hV (k21 uC f)) (by omega) hl ha (fun q c hc hq => by rw [gB_s]; exact hI q c hc (Or.inl hq)), cl1_s, stL_s (by omega) (by decide), setB_setB, gB_s, nI_1]
        exact ⟨_, row_sL hI hl rfl, rfl⟩) NF 0 f (by omega) (by unfold NF; omega) hI
    exact ⟨f', row_n hf', e⟩) NF 0 (gB uC 21) (by omega) (by unfold NF; omega) (row_0 _ _)
  rw [show setB uC 21 (gB uC 21) = uC from setB_self uC 21] at e1
  obtain ⟨g, hg, e2⟩ := dn (fun m (g : Nat → Int64) i => fX1_recount_l73 m (setB (setB uC 21 f) 22 g) i) (fun p g => p ≤ T ∧ Rod g T p 0 (fun q c => lN (bwN al go T q c))) (fun g => some (setB (setB uC 21 f) 22 g)) (by
    intro m g hI
    show fX1_recount_l73b (fX1_recount_l73 m) (setB (setB uC 21 f) 22 g) (-1) = _
    unfold fX1_recount_l73b
    rw [if_pos (by decide)]) (by
    intro m p g hI
    obtain ⟨hpT, hI⟩ := hI
    have hK : keepC uC (setB (setB uC 21 f) 22 g) := ⟨fun _ _ => rfl, fun _ _ => rfl, rfl⟩
    obtain ⟨v1, v2, v3, v4⟩ := hV _ hK
    obtain ⟨x, hx, hxl⟩ := v2 p hpT
    show ∃ g', _ ∧ fX1_recount_l73b (fX1_recount_l73 m) (setB (setB uC 21 f) 22 g) (nI p) = fX1_recount_l73 m (setB (setB uC 21 f) 22 g') (nI p + (-1))
    unfold fX1_recount_l73b
    rw [if_neg (nI_pos (by omega)), hx, cl1_s]
    generalize hk2 : fX1_recount_l73 m = k2
    obtain ⟨g', hg', e⟩ := up (fun m (g : Nat → Int64) i => fX1_recount_l88 k2 (nI p) x m (setB (setB uC 21 f) 22 g) i) (fun l g => Rod g T (p + 1) l (fun q c => lN (bwN al go T q c))) 5 (fun g => k2 (setB (setB uC 21 f) 22 g) (nI p + (-1))) (by
      intro m g hI
      show fX1_recount_l88b k2 (fX1_recount_l88 k2 (nI p) x m) (setB (setB uC 21 f) 22 g) (nI p) x 5 = _
      unfold fX1_recount_l88b
      rw [if_pos (by decide)]) (by
      intro m l g hl hI
      have hK : keepC uC (setB (setB uC 21 f) 22 g) := ⟨fun _ _ => rfl, fun _ _ => rfl, rfl⟩
      show ∃ f', _ ∧ fX1_recount_l88b k2 (fX1_recount_l88 k2 (nI p) x m) (setB (setB uC 21 f) 22 g) (nI p) x (nI l) = fX1_recount_l88 k2 (nI p) x m (setB (setB uC 21 f) 22 f') (nI (l + 1))
      unfold fX1_recount_l88b fX1_recount_b120
      rw [if_neg (n5 hl), place_n, cl1_s, isIn_B _ (show l < 32 by omega), cl1_s, bitB, hxl l hl]
      cases ha : al p l
      · simp only [Bool.false_eq_true, ↓reduceIte]
        rw [stL_s (by omega) (by decide), setB_setB, gB_s, nI_1]
        refine ⟨_, rod_sL hI hl ?_, rfl⟩
        rcases Nat.lt_or_ge (p + 1) T with q | q
        · show (0 : Int64) = lN (bwN al go T p l)
          rw [bwN_S _ _ q, ha]; rfl
        · have e : p = T - 1 := by omega
          subst e
          show (0 : Int64) = lN (bwN al go T (T - 1) l)
          rw [bwN_T _ _ (by omega), ha]; rfl
      · simp only [↓reduceIte]
        rw [endsOf (VC_k hV hK) hT hpT hl ha (fun q c hc hq hpq => by rw [gB_s]; exact hI q c hc hq (Or.inl (by omega))), cl1_s, stL_s (by omega) (by decide), setB_setB, gB_s, nI_1]
        exact ⟨_, rod_sL hI hl rfl, rfl⟩) NF 0 g (by omega) (by unfold NF; omega) (fun q c hc h1 hq => hI q c hc h1 (by omega))
    exact ⟨g', ⟨by omega, rod_n hg'⟩, e⟩) NF T (gB uC 22) (by unfold NF; omega) ⟨Nat.le_refl T, rod_0 _ _ _⟩
  rw [show setB (setB uC 21 f) 22 (gB uC 22) = setB uC 21 f from setB_self (setB uC 21 f) 22] at e2
  refine ⟨f, g, e1.trans e2, fun p l hp hl => ⟨?_, ?_⟩⟩
  · exact hf p l hl (Or.inl hp)
  · exact hg.2 p l hl hp (Or.inl (by omega))
theorem through_ok {u : St} {T : Nat} {al : Nat → Nat → Bool} {so : Nat → Bool} {go : Nat → Nat → Nat → Bool} (hC : CC u T al so go) (hT : T ≤ 12) {p l : Nat} (hp : p < T) (hl : l < 5) : fX1_through u (nI (5 * p + l)) = some (lN (fwN (alS al so) go p l * bwN al go T p l)) := by
  unfold fX1_through
  rw [ldL_s (by omega) (by decide), ldL_s (by omega) (by decide), (hC p l hp hl).1, (hC p l hp hl).2, lN_mul]
def tot (al : Nat → Nat → Bool) (so : Nat → Bool) (go : Nat → Nat → Nat → Bool) (T : Nat) : Nat := sm (fun l => fwN (alS al so) go 0 l * bwN al go T 0 l) 5
theorem total_ok {u : St} {T : Nat} {al : Nat → Nat → Bool} {so : Nat → Bool} {go : Nat → Nat → Nat → Bool} (hC : CC u T al so go) (h2 : 2 ≤ T) (hT : T ≤ 12) : fX1_total u = some (lN (tot al so go T)) := by
  obtain ⟨r, hr, e⟩ := up (fX1_total_l4 u) (fun i acc => acc = lN (sm (fun l => fwN (alS al so) go 0 l * bwN al go T 0 l) i)) 5 (fun acc => some acc) (by
    intro m acc hI
    show fX1_total_l4b u (fX1_total_l4 u m) acc 5 = some acc
    unfold fX1_total_l4b
    rw [if_pos (by decide)]) (by
    intro m i acc hi hI
    subst hI
    refine ⟨_, rfl, ?_⟩
    show fX1_total_l4b u (fX1_total_l4 u m) _ (nI i) = _
    unfold fX1_total_l4b
    rw [if_neg (n5 hi), show (0 : Int32) = nI 0 from rfl, place_n, cl1_s, through_ok hC hT (by omega) hi, cl1_s, nmL_s, lN_add, nI_1]
    rfl) NF 0 0 (by omega) (by unfold NF; omega) rfl
  subst hr
  exact e
