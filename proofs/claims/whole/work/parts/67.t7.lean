def bB (x : Int32) (i : Nat) : Bool := x.toBitVec.getLsbD i
theorem bB_and (x y : Int32) (i : Nat) : bB (x &&& y) i = (bB x i && bB y i) := BitVec.getLsbD_and
theorem bB_or (x y : Int32) (i : Nat) : bB (x ||| y) i = (bB x i || bB y i) := BitVec.getLsbD_or
theorem bB_xor (x y : Int32) (i : Nat) : bB (x ^^^ y) i = (bB x i ^^ bB y i) := BitVec.getLsbD_xor
theorem bB_m1 {i : Nat} (h : i < 32) : bB (-1) i = true := by
  have : ∀ i : Nat, i < 32 → bB (-1) i = true := by decide
  exact this i h
theorem bB_not (x : Int32) {i : Nat} (h : i < 32) : bB (x ^^^ (-1)) i = !bB x i := by
  rw [bB_xor, bB_m1 h, Bool.xor_true]
theorem bB_nI {n : Nat} (h : n < 2 ^ 32) (i : Nat) : bB (nI n) i = n.testBit i := by
  show ((nI n).toBitVec.toNat).testBit i = _
  rw [pk_tn h]
theorem bB_ge (x : Int32) {i : Nat} (h : 32 ≤ i) : bB x i = false := BitVec.getLsbD_of_ge _ _ h
theorem i32_nI (x : Int32) : x = nI x.toBitVec.toNat := by
  apply Int32.toBitVec_inj.mp
  apply BitVec.eq_of_toNat_eq
  rw [pk_tn x.toBitVec.isLt]
theorem bB_ext {x y : Int32} (h : ∀ i, i < 32 → bB x i = bB y i) : x = y := by
  apply Int32.toBitVec_inj.mp
  apply BitVec.eq_of_getLsbD_eq
  intro i hi
  exact h i hi
theorem smod_i : ∀ i : Nat, i < 32 → ((nI i &&& 31).toBitVec.smod 32).toNat = i := by decide
theorem sh1 {i : Nat} (h : i < 32) : (1 : Int32) <<< (nI i &&& 31) = nI (2 ^ i) := by
  have : ∀ i : Nat, i < 32 → (1 : Int32) <<< (nI i &&& 31) = nI (2 ^ i) := by decide
  exact this i h
theorem bB_sh {i : Nat} (h : i < 32) (j : Nat) : bB ((1 : Int32) <<< (nI i &&& 31)) j = decide (i = j) := by
  rw [sh1 h, bB_nI (Nat.pow_lt_pow_right (by decide) h), Nat.testBit_two_pow]
theorem bB_shr (x : Int32) {i : Nat} (h : i < 32) : bB (x >>> (nI i &&& 31)) 0 = bB x i := by
  show (x.toBitVec.sshiftRight ((nI i &&& 31).toBitVec.smod 32).toNat).getLsbD 0 = _
  rw [smod_i i h, BitVec.getLsbD_sshiftRight]
  simp [h]
  rfl
theorem and1 (x : Int32) : x &&& 1 = if bB x 0 then 1 else 0 := by
  apply bB_ext
  intro i hi
  rw [bB_and]
  have h1 : ∀ i : Nat, i < 32 → bB 1 i = decide (i = 0) := by decide
  have h0 : ∀ i : Nat, i < 32 → bB 0 i = false := by decide
  rw [h1 i hi]
  by_cases e : i = 0
  · subst e
    cases q : bB x 0
    · rfl
    · rfl
  · cases q : bB x 0
    · simp [e, h0 i hi]
    · simp [e, h1 i hi]
theorem sh_b (x : Int32) {i : Nat} (h : i < 32) : (x >>> (nI i &&& 31)) &&& 1 = if bB x i then 1 else 0 := by
  rw [and1, bB_shr x h]
theorem bt_B (x : Int32) {i : Nat} (h : i < 32) : bt x i ↔ bB x i = true := by
  unfold bt
  rw [sh_b x h]
  cases bB x i <;> decide
theorem isIn_B (x : Int32) {i : Nat} (h : i < 32) : fX11_isIn x (nI i) = some (if bB x i then 1 else 0) := by
  unfold fX11_isIn
  rw [sh_b x h]
  cases bB x i <;> rfl
theorem inr_bits {x : Int32} {n : Nat} (hn : n ≤ 30) : InR x (2 ^ n) ↔ ∀ i, n ≤ i → bB x i = false := by
  constructor
  · rintro ⟨k, hk, rfl⟩ i hi
    have h30 : 2 ^ n ≤ 2 ^ 30 := Nat.pow_le_pow_right (by decide) hn
    rw [bB_nI (by omega)]
    exact Nat.testBit_lt_two_pow (Nat.lt_of_lt_of_le hk (Nat.pow_le_pow_right (by decide) hi))
  · intro h
    refine ⟨x.toBitVec.toNat, ?_, i32_nI x⟩
    apply Nat.lt_pow_two_of_testBit
    intro i hi
    exact h i hi
theorem stnd_congr {ln ln' : Nat → Int32} {fg fg' : Nat → Prop} [DecidablePred fg] [DecidablePred fg'] : ∀ n, (∀ i, i < n → ln i = ln' i ∧ (fg i ↔ fg' i)) → stnd ln fg n = stnd ln' fg' n := by
  intro n
  induction n with
  | zero => intro _; rfl
  | succ n ih =>
    intro h
    unfold stnd
    rw [ih (fun i hi => h i (by omega)), (h n (by omega)).1]
    by_cases q : ¬ fg n ∧ ln' n &&& (stnd ln' fg' n ^^^ (-1)) = 0
    · rw [if_pos q, if_pos ⟨fun z => q.1 ((h n (by omega)).2.mpr z), q.2⟩]
    · rw [if_neg q, if_neg (fun z => q ⟨fun y => z.1 ((h n (by omega)).2.mp y), z.2⟩)]
theorem stnd_hi {ln : Nat → Int32} {fg : Nat → Prop} [DecidablePred fg] : ∀ n, n ≤ 30 → ∀ i, n ≤ i → bB (stnd ln fg n) i = false := by
  intro n
  induction n with
  | zero =>
    intro _ i _
    show bB 0 i = false
    unfold bB
    exact BitVec.getLsbD_zero
  | succ n ih =>
    intro hn i hi
    unfold stnd
    by_cases q : ¬ fg n ∧ ln n &&& (stnd ln fg n ^^^ (-1)) = 0
    · rw [if_pos q, bB_or, ih (by omega) i (by omega), bB_sh (by omega)]
      simp
      omega
    · rw [if_neg q]
      exact ih (by omega) i (by omega)
theorem standM_loop {u : St} {P : Nat} (hP : P ≤ 16) (hm : gZ u 8 = nI P) (v : Int32) : ∀ (m i : Nat), i ≤ P → P < m + i → fX12_standing_l4 u v m (stnd (gA u 13) (fun j => ¬ gA u 14 j = 0 ∨ nI j = v) i) (nI i) = some (stnd (gA u 13) (fun j => ¬ gA u 14 j = 0 ∨ nI j = v) P) := by
  intro m
  induction m with
  | zero => intro i h1 h2; omega
  | succ m ih =>
    intro i h1 h2
    show fX12_standing_l4b u (fX12_standing_l4 u v m) v _ (nI i) = _
    unfold fX12_standing_l4b fX12_standing_b45
    rw [hm]
    by_cases hi : i = P
    · subst hi
      rw [if_pos (nI_le (Nat.le_refl i) (by omega))]
    · rw [if_neg (nI_ge (by omega) (by omega))]
      simp only [ldI_s (show i < 16 by omega) (show 16 < 2 ^ 31 by decide), nI_1, nmI_s]
      have e := ih (i + 1) (by omega) (by omega)
      rw [show stnd (gA u 13) (fun j => ¬ gA u 14 j = 0 ∨ nI j = v) (i + 1) = if ¬ (¬ gA u 14 i = 0 ∨ nI i = v) ∧ gA u 13 i &&& (stnd (gA u 13) (fun j => ¬ gA u 14 j = 0 ∨ nI j = v) i ^^^ (-1)) = 0 then stnd (gA u 13) (fun j => ¬ gA u 14 j = 0 ∨ nI j = v) i ||| (1 : Int32) <<< (nI i &&& 31) else stnd (gA u 13) (fun j => ¬ gA u 14 j = 0 ∨ nI j = v) i from rfl] at e
      by_cases q1 : gA u 14 i = 0
      · rw [if_pos q1]
        by_cases q2 : nI i = v
        · rw [if_pos q2]
          rw [if_neg (fun z => z.1 (Or.inr q2))] at e
          exact e
        · rw [if_neg q2]
          by_cases q3 : gA u 13 i &&& (stnd (gA u 13) (fun j => ¬ gA u 14 j = 0 ∨ nI j = v) i ^^^ (-1)) = 0
          · rw [if_pos q3]
            rw [if_pos ⟨fun z => z.elim (fun y => y q1) q2, q3⟩] at e
            exact e
          · rw [if_neg q3]
            rw [if_neg (fun z => q3 z.2)] at e
            exact e
      · rw [if_neg q1]
        rw [if_neg (fun z => z.1 (Or.inl q1))] at e
        exact e
theorem standM {u : St} {P : Nat} (hP : P ≤ 16) (hm : gZ u 8 = nI P) (v : Int32) : fX12_standing u v = some (stnd (gA u 13) (fun j => ¬ gA u 14 j = 0 ∨ nI j = v) P) := standM_loop hP hm v NF 0 (by omega) (by unfold NF; omega)
theorem standC_loop {u : St} {P : Nat} (hP : P ≤ 16) (hm : gZ u 80 = nI P) (v : Int32) : ∀ (m i : Nat), i ≤ P → P < m + i → fX4_standingWithout_l4 u v m (stnd (gA u 87) (fun j => bB v j = true) i) (nI i) = some (stnd (gA u 87) (fun j => bB v j = true) P) := by
  intro m
  induction m with
  | zero => intro i h1 h2; omega
  | succ m ih =>
    intro i h1 h2
    show fX4_standingWithout_l4b u (fX4_standingWithout_l4 u v m) v _ (nI i) = _
    unfold fX4_standingWithout_l4b fX4_standingWithout_b39
    rw [hm]
    by_cases hi : i = P
    · subst hi
      rw [if_pos (nI_le (Nat.le_refl i) (by omega))]
    · rw [if_neg (nI_ge (by omega) (by omega)), isIn_B v (by omega)]
      simp only [ldI_s (show i < 16 by omega) (show 16 < 2 ^ 31 by decide), nI_1, nmI_s, cl1_s]
      have e := ih (i + 1) (by omega) (by omega)
      rw [show stnd (gA u 87) (fun j => bB v j = true) (i + 1) = if ¬ (bB v i = true) ∧ gA u 87 i &&& (stnd (gA u 87) (fun j => bB v j = true) i ^^^ (-1)) = 0 then stnd (gA u 87) (fun j => bB v j = true) i ||| (1 : Int32) <<< (nI i &&& 31) else stnd (gA u 87) (fun j => bB v j = true) i from rfl] at e
      by_cases q1 : bB v i = true
      · rw [if_pos q1, if_neg (by decide)]
        rw [if_neg (fun z => z.1 q1)] at e
        exact e
      · rw [if_neg q1, if_pos rfl]
        by_cases q3 : gA u 87 i &&& (stnd (gA u 87) (fun j => bB v j = true) i ^^^ (-1)) = 0
        · rw [if_pos q3]
          rw [if_pos ⟨q1, q3⟩] at e
          exact e
        · rw [if_neg q3]
          rw [if_neg (fun z => q3 z.2)] at e
          exact e
theorem standC {u : St} {P : Nat} (hP : P ≤ 16) (hm : gZ u 80 = nI P) (v : Int32) : fX4_standingWithout u v = some (stnd (gA u 87) (fun j => bB v j = true) P) := standC_loop hP hm v NF 0 (by omega) (by unfold NF; omega)
