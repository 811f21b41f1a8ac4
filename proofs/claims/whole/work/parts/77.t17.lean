/-! paths -/
def spN (A : Nat → Nat → Bool) (G : Nat → Nat → Nat → Bool) (p l : Nat) : Nat → Nat → Nat
  | 0, b => if b = l then 1 else 0
  | k + 1, b => if A (p + k + 1) b then sm (fun a => if G (p + k) a b then spN A G p l k a else 0) 5 else 0
def rpN (A : Nat → Nat → Bool) (G : Nat → Nat → Nat → Bool) (p l : Nat) : Nat → Nat → Nat
  | 0, a => if a = l then 1 else 0
  | j + 1, a => if A (p - j - 1) a then sm (fun b => if G (p - j - 1) a b then rpN A G p l j b else 0) 5 else 0
theorem sm_d (f : Nat → Nat) (c : Nat) : ∀ n, c < n → sm (fun b => if b = c then f b else 0) n = f c := by
  intro n
  induction n with
  | zero => intro h; omega
  | succ n ih =>
    intro h
    show sm (fun b => if b = c then f b else 0) n + (if n = c then f n else 0) = f c
    by_cases e : n = c
    · subst e
      rw [if_pos rfl, (sm_0 n).mpr (fun i hi => if_neg (by omega)), Nat.zero_add]
    · rw [if_neg e, ih (by omega), Nat.add_zero]
theorem sp_A {A : Nat → Nat → Bool} {G : Nat → Nat → Nat → Bool} {q c : Nat} (h : A q c = true) : ∀ k b, ¬ spN A G q c k b = 0 → A (q + k) b = true := by
  intro k b hb
  cases k with
  | zero =>
    unfold spN at hb
    by_cases e : b = c
    · subst e; exact h
    · rw [if_neg e] at hb; exact absurd rfl hb
  | succ k =>
    unfold spN at hb
    cases e : A (q + k + 1) b
    · rw [e] at hb; exact absurd rfl hb
    · rfl
theorem rp_A {A : Nat → Nat → Bool} {G : Nat → Nat → Nat → Bool} {p l : Nat} (h : A p l = true) : ∀ j b, ¬ rpN A G p l j b = 0 → A (p - j) b = true := by
  intro j b hb
  cases j with
  | zero =>
    unfold rpN at hb
    by_cases e : b = l
    · subst e; exact h
    · rw [if_neg e] at hb; exact absurd rfl hb
  | succ j =>
    unfold rpN at hb
    cases e : A (p - j - 1) b
    · rw [e] at hb; exact absurd rfl hb
    · rfl
theorem ite_mul (b : Bool) (x y : Nat) : (if b then x else 0) * y = if b then x * y else 0 := by
  cases b
  · exact Nat.zero_mul y
  · rfl
theorem mul_ite (b : Bool) (x y : Nat) : y * (if b then x else 0) = if b then y * x else 0 := by
  cases b
  · rfl
  · rfl
theorem sp_rp {A : Nat → Nat → Bool} {G : Nat → Nat → Nat → Bool} {q c p l n : Nat} (hn : q + n = p) (hq : A q c = true) (hp : A p l = true) (hc : c < 5) (hl : l < 5) : spN A G q c n l = rpN A G p l n c := by
  have step : ∀ k, k < n → sm (fun b => spN A G q c k b * rpN A G p l (n - k) b) 5 = sm (fun b => spN A G q c (k + 1) b * rpN A G p l (n - (k + 1)) b) 5 := by
    intro k hk
    obtain ⟨j, hj⟩ : ∃ j, n - k = j + 1 := ⟨n - k - 1, by omega⟩
    have hj2 : n - (k + 1) = j := by omega
    rw [hj, hj2]
    have e1 : ∀ b, b < 5 → spN A G q c k b * rpN A G p l (j + 1) b = sm (fun b' => if G (q + k) b b' then spN A G q c k b * rpN A G p l j b' else 0) 5 := by
      intro b _
      by_cases z : spN A G q c k b = 0
      · rw [z, Nat.zero_mul, (sm_0 5).mpr]
        intro i _
        rw [Nat.zero_mul]
        cases G (q + k) b i <;> rfl
      · show spN A G q c k b * (if A (p - j - 1) b then sm (fun b' => if G (p - j - 1) b b' then rpN A G p l j b' else 0) 5 else 0) = _
        rw [show p - j - 1 = q + k by omega, sp_A hq k b z]
        show spN A G q c k b * sm (fun b' => if G (q + k) b b' then rpN A G p l j b' else 0) 5 = _
        rw [← sm_mull]
        exact sm_congr 5 (fun i _ => mul_ite _ _ _)
    have e2 : ∀ b', b' < 5 → spN A G q c (k + 1) b' * rpN A G p l j b' = sm (fun b => if G (q + k) b b' then spN A G q c k b * rpN A G p l j b' else 0) 5 := by
      intro b' _
      by_cases z : rpN A G p l j b' = 0
      · rw [z, Nat.mul_zero, (sm_0 5).mpr]
        intro i _
        rw [Nat.mul_zero]
        cases G (q + k) i b' <;> rfl
      · show (if A (q + k + 1) b' then sm (fun a => if G (q + k) a b' then spN A G q c k a else 0) 5 else 0) * rpN A G p l j b' = _
        have := rp_A hp j b' z
        rw [show p - j = q + k + 1 by omega] at this
        rw [this]
        show sm (fun a => if G (q + k) a b' then spN A G q c k a else 0) 5 * rpN A G p l j b' = _
        rw [← sm_mul]
        exact sm_congr 5 (fun i _ => ite_mul _ _ _)
    rw [sm_congr 5 e1, sm_congr 5 e2, sm_comm]
  have all : ∀ k, k ≤ n → sm (fun b => spN A G q c 0 b * rpN A G p l (n - 0) b) 5 = sm (fun b => spN A G q c k b * rpN A G p l (n - k) b) 5 := by
    intro k
    induction k with
    | zero => intro _; rfl
    | succ k ih => intro hk; rw [ih (by omega), step k (by omega)]
  have h := all n (Nat.le_refl n)
  rw [Nat.sub_self, Nat.sub_zero] at h
  have f1 : sm (fun b => spN A G q c 0 b * rpN A G p l n b) 5 = rpN A G p l n c := by
    rw [← sm_d (fun b => rpN A G p l n b) c 5 hc]
    exact sm_congr 5 (fun i _ => by
      show (if i = c then 1 else 0) * _ = _
      by_cases e : i = c
      · rw [if_pos e, if_pos e, Nat.one_mul]
      · rw [if_neg e, if_neg e, Nat.zero_mul])
  have f2 : sm (fun b => spN A G q c n b * rpN A G p l 0 b) 5 = spN A G q c n l := by
    rw [← sm_d (fun b => spN A G q c n b) l 5 hl]
    exact sm_congr 5 (fun i _ => by
      show _ * (if i = l then 1 else 0) = _
      by_cases e : i = l
      · rw [if_pos e, if_pos e, Nat.mul_one]
      · rw [if_neg e, if_neg e, Nat.mul_zero])
  rw [f1, f2] at h
  exact h.symm
theorem fw_A {A : Nat → Nat → Bool} {G : Nat → Nat → Nat → Bool} {p l : Nat} (h : ¬ fwN A G p l = 0) : A p l = true := by
  cases p with
  | zero =>
    unfold fwN at h
    cases e : A 0 l
    · rw [e] at h; exact absurd rfl h
    · rfl
  | succ p =>
    rw [fwN_S] at h
    cases e : A (p + 1) l
    · rw [e] at h; exact absurd rfl h
    · rfl
theorem bw_al {al : Nat → Nat → Bool} {G : Nat → Nat → Nat → Bool} {T p l : Nat} (hp : p < T) (h : ¬ bwN al G T p l = 0) : al p l = true := by
  rcases Nat.lt_or_ge (p + 1) T with q | q
  · rw [bwN_S _ _ q] at h
    cases e : al p l
    · rw [e] at h; exact absurd rfl h
    · rfl
  · have e0 : p = T - 1 := by omega
    subst e0
    rw [bwN_T _ _ (by omega)] at h
    cases e : al (T - 1) l
    · rw [e] at h; exact absurd rfl h
    · rfl
theorem alS_p {al : Nat → Nat → Bool} {so : Nat → Bool} {p l : Nat} (hp : 0 < p) : alS al so p l = al p l := by
  unfold alS
  rw [decide_eq_true hp]
  simp
/-- how many histories go through two places -/
def prN (al : Nat → Nat → Bool) (so : Nat → Bool) (go : Nat → Nat → Nat → Bool) (T p l q c : Nat) : Nat :=
  if p ≤ q then fwN (alS al so) go p l * spN (alS al so) go p l (q - p) c * bwN al go T q c else fwN (alS al so) go q c * spN (alS al so) go q c (p - q) l * bwN al go T p l
theorem prN_comm (al : Nat → Nat → Bool) (so : Nat → Bool) (go : Nat → Nat → Nat → Bool) (T p l q c : Nat) : prN al so go T p l q c = prN al so go T q c p l := by
  unfold prN
  rcases Nat.lt_trichotomy p q with h | h | h
  · rw [if_pos (by omega), if_neg (by omega)]
  · subst h
    rw [if_pos (Nat.le_refl p), if_pos (Nat.le_refl p), Nat.sub_self]
    unfold spN
    by_cases e : c = l
    · subst e; rfl
    · rw [if_neg e, if_neg (fun z => e z.symm)]; simp
  · rw [if_neg (by omega), if_pos (by omega)]
theorem prN_self (al : Nat → Nat → Bool) (so : Nat → Bool) (go : Nat → Nat → Nat → Bool) (T p l : Nat) : prN al so go T p l p l = fwN (alS al so) go p l * bwN al go T p l := by
  unfold prN
  rw [if_pos (Nat.le_refl p), Nat.sub_self]
  unfold spN
  rw [if_pos rfl, Nat.mul_one]
/-- the class's cells ahead of its last loop -/
def wfN (al : Nat → Nat → Bool) (so : Nat → Bool) (go : Nat → Nat → Nat → Bool) (T p l q c : Nat) : Nat :=
  if q < p then 0 else if p < q ∧ bwN al go T q c = 0 then 0 else spN (alS al so) go p l (q - p) c
def wgN (al : Nat → Nat → Bool) (so : Nat → Bool) (go : Nat → Nat → Nat → Bool) (T p l q c : Nat) : Nat :=
  if q < p then (if fwN (alS al so) go q c = 0 then 0 else rpN (alS al so) go p l (p - q) c) else wfN al so go T p l q c
theorem wg_pr {al : Nat → Nat → Bool} {so : Nat → Bool} {go : Nat → Nat → Nat → Bool} {T p l q c : Nat} (hp : p < T) (hq : q < T) (hl : l < 5) (hc : c < 5) : wgN al so go T p l q c * (if 5 * q + c < 5 * p + l then fwN (alS al so) go q c * bwN al go T p l else fwN (alS al so) go p l * bwN al go T q c) = prN al so go T p l q c := by
  unfold wgN wfN prN
  rcases Nat.lt_trichotomy p q with h | h | h
  · rw [if_neg (show ¬ q < p by omega), if_neg (show ¬ q < p by omega), if_neg (show ¬ 5 * q + c < 5 * p + l by omega), if_pos (show p ≤ q by omega)]
    by_cases e : bwN al go T q c = 0
    · rw [if_pos (show p < q ∧ bwN al go T q c = 0 from ⟨h, e⟩), e]; simp
    · rw [if_neg (show ¬ (p < q ∧ bwN al go T q c = 0) from fun z => e z.2), ← Nat.mul_assoc, Nat.mul_comm (spN _ _ _ _ _ _)]
  · subst h
    rw [if_neg (show ¬ p < p by omega), if_neg (show ¬ p < p by omega), if_neg (show ¬ (p < p ∧ bwN al go T p c = 0) from fun z => by omega), if_pos (Nat.le_refl p), Nat.sub_self]
    unfold spN
    by_cases e : c = l
    · subst e
      rw [if_pos rfl, if_neg (show ¬ 5 * p + c < 5 * p + c by omega)]; simp
    · rw [if_neg e]; simp
  · rw [if_pos h, if_pos (show 5 * q + c < 5 * p + l by omega), if_neg (show ¬ p ≤ q by omega)]
    by_cases e : fwN (alS al so) go q c = 0
    · rw [if_pos e, e]; simp
    · rw [if_neg e]
      by_cases e2 : bwN al go T p l = 0
      · rw [e2]; simp
      · rw [sp_rp (A := alS al so) (G := go) (q := q) (c := c) (p := p) (l := l) (n := p - q) (by omega) (fw_A e) (by rw [alS_p (by omega)]; exact bw_al hp e2) hc hl, ← Nat.mul_assoc, Nat.mul_comm (rpN _ _ _ _ _ _)]
/-- one step of the class's later cells -/
theorem wf_step {al : Nat → Nat → Bool} {so : Nat → Bool} {go : Nat → Nat → Nat → Bool} {T p l q b : Nat} (h : p ≤ q) (hq : q + 1 < T) (hb : b < 5) : wfN al so go T p l (q + 1) b = if bwN al go T (q + 1) b = 0 then 0 else sm (fun a => if go q a b then wfN al so go T p l q a else 0) 5 := by
  have e0 : wfN al so go T p l (q + 1) b = if bwN al go T (q + 1) b = 0 then 0 else spN (alS al so) go p l (q + 1 - p) b := by
    unfold wfN
    rw [if_neg (by omega)]
    by_cases e : bwN al go T (q + 1) b = 0
    · rw [if_pos e, if_pos ⟨by omega, e⟩]
    · rw [if_neg e, if_neg (fun z => e z.2)]
  rw [e0]
  by_cases e : bwN al go T (q + 1) b = 0
  · rw [if_pos e, if_pos e]
  · rw [if_neg e, if_neg e, show q + 1 - p = (q - p) + 1 by omega]
    unfold spN
    have hal : alS al so (p + (q - p) + 1) b = true := by
      rw [show p + (q - p) + 1 = q + 1 by omega, alS_p (by omega)]
      exact bw_al hq e
    rw [hal, show p + (q - p) = q by omega]
    show sm _ 5 = sm _ 5
    apply sm_congr 5
    intro a ha
    cases hg : go q a b
    · rfl
    · show spN (alS al so) go p l (q - p) a = wfN al so go T p l q a
      unfold wfN
      rw [if_neg (by omega)]
      by_cases z : p < q ∧ bwN al go T q a = 0
      · rw [if_pos z]
        obtain ⟨z1, z2⟩ := z
        have ha2 : al q a = false := by
          cases hh : al q a
          · rfl
          · rw [bwN_S _ _ hq, hh] at z2
            have z3 : sm (fun b => if go q a b then bwN al go T (q + 1) b else 0) 5 = 0 := z2
            have := (sm_0 5).mp z3 b hb
            rw [hg] at this
            exact absurd this e
        obtain ⟨k, hk⟩ : ∃ k, q - p = k + 1 := ⟨q - p - 1, by omega⟩
        rw [hk]
        unfold spN
        rw [show p + k + 1 = q by omega, alS_p (by omega), ha2]
        rfl
      · rw [if_neg z]
theorem wg_step {al : Nat → Nat → Bool} {so : Nat → Bool} {go : Nat → Nat → Nat → Bool} {T p l q a : Nat} (h : q + 1 ≤ p) (hp : p < T) (ha : a < 5) (hl : l < 5) : wgN al so go T p l q a = if fwN (alS al so) go q a = 0 then 0 else sm (fun b => if go q a b then wgN al so go T p l (q + 1) b else 0) 5 := by
  have e0 : wgN al so go T p l q a = if fwN (alS al so) go q a = 0 then 0 else rpN (alS al so) go p l (p - q) a := by
    unfold wgN
    rw [if_pos (by omega)]
  rw [e0]
  by_cases e : fwN (alS al so) go q a = 0
  · rw [if_pos e, if_pos e]
  · rw [if_neg e, if_neg e, show p - q = (p - (q + 1)) + 1 by omega]
    unfold rpN
    rw [show p - (p - (q + 1)) - 1 = q by omega, fw_A e]
    show sm _ 5 = sm _ 5
    apply sm_congr 5
    intro b hb
    cases hg : go q a b
    · rfl
    · show rpN (alS al so) go p l (p - (q + 1)) b = wgN al so go T p l (q + 1) b
      unfold wgN
      by_cases z : q + 1 < p
      · rw [if_pos z]
        by_cases z2 : fwN (alS al so) go (q + 1) b = 0
        · rw [if_pos z2]
          have ha2 : alS al so (q + 1) b = false := by
            cases hh : alS al so (q + 1) b
            · rfl
            · rw [fwN_S, hh] at z2
              have z3 : sm (fun a => if go q a b then fwN (alS al so) go q a else 0) 5 = 0 := z2
              have := (sm_0 5).mp z3 a ha
              rw [hg] at this
              exact absurd this e
          obtain ⟨k, hk⟩ : ∃ k, p - (q + 1) = k + 1 := ⟨p - (q + 1) - 1, by omega⟩
          rw [hk]
          unfold rpN
          rw [show p - k - 1 = q + 1 by omega, ha2]
          rfl
        · rw [if_neg z2]
      · have e2 : p = q + 1 := by omega
        subst e2
        rw [if_neg z, Nat.sub_self]
        unfold wfN
        rw [if_neg z, if_neg (fun y => by omega), Nat.sub_self]
        rfl
