/-! loops -/
theorem up {σ ρ : Type} (L : Nat → σ → Int32 → ρ) (I : Nat → σ → Prop) (n : Nat) (r : σ → ρ) (hx : ∀ m u, I n u → L (m + 1) u (nI n) = r u) (hs : ∀ m i u, i < n → I i u → ∃ u', I (i + 1) u' ∧ L (m + 1) u (nI i) = L m u' (nI (i + 1))) : ∀ (m i : Nat) (u : σ), i ≤ n → n < m + i → I i u → ∃ u', I n u' ∧ L m u (nI i) = r u' := by
  intro m
  induction m with
  | zero => intro i u h1 h2; omega
  | succ m ih =>
    intro i u h1 h2 hI
    rcases Nat.lt_or_ge i n with hi | hi
    · obtain ⟨u1, hI1, e⟩ := hs m i u hi hI
      obtain ⟨u2, hI2, e2⟩ := ih (i + 1) u1 (by omega) (by omega) hI1
      exact ⟨u2, hI2, e.trans e2⟩
    · have e0 : i = n := by omega
      subst e0
      exact ⟨u, hI, hx m u hI⟩
theorem dn {σ ρ : Type} (L : Nat → σ → Int32 → ρ) (I : Nat → σ → Prop) (r : σ → ρ) (hx : ∀ m u, I 0 u → L (m + 1) u (-1) = r u) (hs : ∀ m i u, I (i + 1) u → ∃ u', I i u' ∧ L (m + 1) u (nI i) = L m u' (nI i + (-1))) : ∀ (m i : Nat) (u : σ), i < m → I i u → ∃ u', I 0 u' ∧ L m u (nI i + (-1)) = r u' := by
  intro m
  induction m with
  | zero => intro i u h1; omega
  | succ m ih =>
    intro i u h1 hI
    cases i with
    | zero => exact ⟨u, hI, hx m u hI⟩
    | succ i =>
      rw [pk_m1]
      obtain ⟨u1, hI1, e⟩ := hs m i u hI
      obtain ⟨u2, hI2, e2⟩ := ih i u1 (by omega) hI1
      exact ⟨u2, hI2, e.trans e2⟩
/-! sums -/
def sm (f : Nat → Nat) : Nat → Nat
  | 0 => 0
  | n + 1 => sm f n + f n
theorem sm_congr {f g : Nat → Nat} : ∀ n, (∀ i, i < n → f i = g i) → sm f n = sm g n := by
  intro n
  induction n with
  | zero => intro _; rfl
  | succ n ih =>
    intro h
    show sm f n + f n = sm g n + g n
    rw [ih (fun i hi => h i (by omega)), h n (by omega)]
theorem sm_le {f g : Nat → Nat} : ∀ n, (∀ i, i < n → f i ≤ g i) → sm f n ≤ sm g n := by
  intro n
  induction n with
  | zero => intro _; exact Nat.le_refl 0
  | succ n ih =>
    intro h
    show sm f n + f n ≤ sm g n + g n
    have := ih (fun i hi => h i (by omega))
    have := h n (by omega)
    omega
theorem sm_const (c : Nat) : ∀ n, sm (fun _ => c) n = n * c := by
  intro n
  induction n with
  | zero => show 0 = 0 * c; omega
  | succ n ih =>
    show sm (fun _ => c) n + c = (n + 1) * c
    rw [ih, Nat.succ_mul]
theorem sm_0 {f : Nat → Nat} : ∀ n, sm f n = 0 ↔ ∀ i, i < n → f i = 0 := by
  intro n
  induction n with
  | zero => exact ⟨fun _ i hi => by omega, fun _ => rfl⟩
  | succ n ih =>
    show sm f n + f n = 0 ↔ _
    constructor
    · intro h i hi
      rcases Nat.lt_or_ge i n with q | q
      · exact ih.mp (by omega) i q
      · have e : i = n := by omega
        rw [e]; omega
    · intro h
      rw [ih.mpr (fun i hi => h i (by omega)), h n (by omega)]
theorem sm_add (f g : Nat → Nat) : ∀ n, sm (fun i => f i + g i) n = sm f n + sm g n := by
  intro n
  induction n with
  | zero => rfl
  | succ n ih =>
    show sm (fun i => f i + g i) n + (f n + g n) = (sm f n + f n) + (sm g n + g n)
    rw [ih]; omega
theorem sm_mul (f : Nat → Nat) (c : Nat) : ∀ n, sm (fun i => f i * c) n = sm f n * c := by
  intro n
  induction n with
  | zero => show 0 = 0 * c; omega
  | succ n ih =>
    show sm (fun i => f i * c) n + f n * c = (sm f n + f n) * c
    rw [ih, Nat.add_mul]
theorem sm_mull (f : Nat → Nat) (c : Nat) : ∀ n, sm (fun i => c * f i) n = c * sm f n := by
  intro n
  induction n with
  | zero => rfl
  | succ n ih =>
    show sm (fun i => c * f i) n + c * f n = c * (sm f n + f n)
    rw [ih, Nat.mul_add]
theorem sm_comm (f : Nat → Nat → Nat) (m : Nat) : ∀ n, sm (fun i => sm (fun j => f i j) m) n = sm (fun j => sm (fun i => f i j) n) m := by
  intro n
  induction n with
  | zero =>
    show 0 = sm (fun j => 0) m
    rw [sm_const]; omega
  | succ n ih =>
    show sm (fun i => sm (fun j => f i j) m) n + sm (fun j => f n j) m = sm (fun j => sm (fun i => f i j) n + f n j) m
    rw [ih, sm_add]
theorem sm_ite (c : Bool) (f : Nat → Nat) (n : Nat) : sm (fun i => if c then f i else 0) n = if c then sm f n else 0 := by
  cases c
  · show sm (fun _ => 0) n = 0
    rw [sm_const]; omega
  · rfl
theorem sm_ge {f : Nat → Nat} : ∀ n i, i < n → f i ≤ sm f n := by
  intro n
  induction n with
  | zero => intro i h; omega
  | succ n ih =>
    intro i h
    show f i ≤ sm f n + f n
    rcases Nat.lt_or_ge i n with q | q
    · have := ih i q; omega
    · have e : i = n := by omega
      rw [e]; omega
/-! how many beginnings, how many ends -/
def fwN (al : Nat → Nat → Bool) (go : Nat → Nat → Nat → Bool) : Nat → Nat → Nat
  | 0, l => if al 0 l then 1 else 0
  | p + 1, l => if al (p + 1) l then sm (fun a => if go p a l then fwN al go p a else 0) 5 else 0
def bwK (al : Nat → Nat → Bool) (go : Nat → Nat → Nat → Bool) (T : Nat) : Nat → Nat → Nat
  | 0, l => if al (T - 1) l then 1 else 0
  | k + 1, l => if al (T - 2 - k) l then sm (fun b => if go (T - 2 - k) l b then bwK al go T k b else 0) 5 else 0
def bwN (al : Nat → Nat → Bool) (go : Nat → Nat → Nat → Bool) (T p l : Nat) : Nat := bwK al go T (T - 1 - p) l
def alS (al : Nat → Nat → Bool) (so : Nat → Bool) : Nat → Nat → Bool := fun p l => al p l && (decide (0 < p) || so l)
theorem fwN_S (al : Nat → Nat → Bool) (go : Nat → Nat → Nat → Bool) (p l : Nat) : fwN al go (p + 1) l = if al (p + 1) l then sm (fun a => if go p a l then fwN al go p a else 0) 5 else 0 := rfl
theorem bwN_T (al : Nat → Nat → Bool) (go : Nat → Nat → Nat → Bool) {T : Nat} (h : 1 ≤ T) (l : Nat) : bwN al go T (T - 1) l = if al (T - 1) l then 1 else 0 := by
  unfold bwN
  rw [Nat.sub_self]
  rfl
theorem bwN_S (al : Nat → Nat → Bool) (go : Nat → Nat → Nat → Bool) {T p : Nat} (h : p + 1 < T) (l : Nat) : bwN al go T p l = if al p l then sm (fun b => if go p l b then bwN al go T (p + 1) b else 0) 5 else 0 := by
  unfold bwN
  rw [show T - 1 - p = (T - 1 - (p + 1)) + 1 by omega]
  show (if al (T - 2 - (T - 1 - (p + 1))) l then sm (fun b => if go (T - 2 - (T - 1 - (p + 1))) l b then bwK al go T (T - 1 - (p + 1)) b else 0) 5 else 0) = _
  rw [show T - 2 - (T - 1 - (p + 1)) = p by omega]
theorem bwN_al {al al' : Nat → Nat → Bool} {go go' : Nat → Nat → Nat → Bool} {T : Nat} (k : Nat) : ∀ p, T - 1 - p = k → p < T → (∀ q, p ≤ q → q < T → ∀ l, l < 5 → al q l = al' q l) → (∀ q, p ≤ q → q + 1 < T → ∀ a b, a < 5 → b < 5 → go q a b = go' q a b) → ∀ l, l < 5 → bwN al go T p l = bwN al' go' T p l := by
  induction k with
  | zero =>
    intro p hk hp h h' l hl
    have e : p = T - 1 := by omega
    subst e
    rw [bwN_T _ _ (by omega), bwN_T _ _ (by omega), h _ (Nat.le_refl _) hp l hl]
  | succ k ih =>
    intro p hk hp h h' l hl
    rw [bwN_S _ _ (by omega), bwN_S _ _ (by omega), h _ (Nat.le_refl _) hp l hl]
    have : ∀ b, b < 5 → (if go p l b then bwN al go T (p + 1) b else 0) = if go' p l b then bwN al' go' T (p + 1) b else 0 := fun b hb => by
      rw [h' p (Nat.le_refl _) (by omega) l b hl hb, ih (p + 1) (by omega) (by omega) (fun q q1 q2 => h q (by omega) q2) (fun q q1 q2 => h' q (by omega) q2) b hb]
    rw [sm_congr 5 this]
theorem bwN_so (al : Nat → Nat → Bool) (so : Nat → Bool) (go : Nat → Nat → Nat → Bool) {T p l : Nat} (hp : p < T) (hl : l < 5) (h2 : 2 ≤ T) : bwN (alS al so) go T p l = if decide (0 < p) || so l then bwN al go T p l else 0 := by
  have key : ∀ p, 0 < p → p < T → ∀ l, l < 5 → bwN (alS al so) go T p l = bwN al go T p l := fun p h0 hp l hl => bwN_al (T - 1 - p) p rfl hp (fun q q1 q2 l hl => by
    unfold alS
    rw [decide_eq_true (show 0 < q by omega)]
    simp) (fun _ _ _ _ _ _ _ => rfl) l hl
  by_cases h0 : 0 < p
  · rw [key p h0 hp l hl, decide_eq_true h0]
    rfl
  · have e : p = 0 := by omega
    subst e
    rw [bwN_S _ _ (by omega), bwN_S _ _ (by omega)]
    have : ∀ b, b < 5 → (if go 0 l b then bwN (alS al so) go T (0 + 1) b else 0) = if go 0 l b then bwN al go T (0 + 1) b else 0 := fun b hb => by
      rw [key (0 + 1) (by omega) (by omega) b hb]
    rw [sm_congr 5 this]
    unfold alS
    simp only [Nat.lt_irrefl, decide_false, Bool.false_or]
    cases al 0 l <;> cases so l <;> rfl
theorem fwN_so (al : Nat → Nat → Bool) (so : Nat → Bool) (go : Nat → Nat → Nat → Bool) {l : Nat} (h : so l = false) : fwN (alS al so) go 0 l = 0 := by
  unfold fwN alS
  rw [h]
  simp
theorem thr_so (al : Nat → Nat → Bool) (so : Nat → Bool) (go : Nat → Nat → Nat → Bool) {T p l : Nat} (hp : p < T) (hl : l < 5) (h2 : 2 ≤ T) : fwN (alS al so) go p l * bwN (alS al so) go T p l = fwN (alS al so) go p l * bwN al go T p l := by
  rw [bwN_so al so go hp hl h2]
  by_cases h0 : 0 < p
  · rw [decide_eq_true h0]; rfl
  · have e : p = 0 := by omega
    subst e
    cases hs : so l
    · rw [fwN_so al so go hs]; omega
    · simp
theorem fw_le (al : Nat → Nat → Bool) (go : Nat → Nat → Nat → Bool) : ∀ p l, fwN al go p l ≤ 5 ^ p := by
  intro p
  induction p with
  | zero =>
    intro l
    unfold fwN
    cases al 0 l <;> decide
  | succ p ih =>
    intro l
    rw [fwN_S, Nat.pow_succ, Nat.mul_comm]
    have : sm (fun a => if go p a l then fwN al go p a else 0) 5 ≤ sm (fun _ => 5 ^ p) 5 := sm_le 5 (fun i _ => by
      have := ih i
      cases go p i l <;> simp <;> omega)
    rw [sm_const] at this
    cases al (p + 1) l
    · exact Nat.zero_le _
    · exact this
theorem bwK_le (al : Nat → Nat → Bool) (go : Nat → Nat → Nat → Bool) (T : Nat) : ∀ k l, bwK al go T k l ≤ 5 ^ k := by
  intro k
  induction k with
  | zero =>
    intro l
    unfold bwK
    cases al (T - 1) l <;> decide
  | succ k ih =>
    intro l
    unfold bwK
    rw [Nat.pow_succ, Nat.mul_comm]
    have : sm (fun b => if go (T - 2 - k) l b then bwK al go T k b else 0) 5 ≤ sm (fun _ => 5 ^ k) 5 := sm_le 5 (fun i _ => by
      have := ih i
      cases go (T - 2 - k) l i <;> simp <;> omega)
    rw [sm_const] at this
    cases al (T - 2 - k) l
    · exact Nat.zero_le _
    · exact this
theorem bw_le (al : Nat → Nat → Bool) (go : Nat → Nat → Nat → Bool) (T p l : Nat) : bwN al go T p l ≤ 5 ^ (T - 1 - p) := bwK_le al go T _ l
