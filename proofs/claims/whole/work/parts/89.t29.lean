/-! rows of sherds, as lists -/
def rmN (C s : Nat) : Nat := C &&& (C ^^^ 2 ^ s)
def adN (U b : Nat) : Nat := U ||| 2 ^ b
theorem rm_bit (C s i : Nat) : (rmN C s).testBit i = (C.testBit i && !(decide (s = i))) := by
  unfold rmN
  rw [Nat.testBit_and, Nat.testBit_xor, Nat.testBit_two_pow]
  cases C.testBit i <;> cases decide (s = i) <;> rfl
theorem ad_bit (U b i : Nat) : (adN U b).testBit i = (U.testBit i || decide (b = i)) := by
  unfold adN
  rw [Nat.testBit_or, Nat.testBit_two_pow]
theorem rm_le (C s : Nat) : rmN C s ≤ C := Nat.and_le_left
theorem rm_lt {C s : Nat} (h : C.testBit s = true) : rmN C s < C := by
  have h1 := rm_le C s
  have h2 : rmN C s ≠ C := by
    intro e
    have := rm_bit C s s
    rw [e, h, decide_eq_true rfl] at this
    exact absurd this (by decide)
  omega
theorem ad_gt {U b : Nat} (h : U.testBit b = false) : U < adN U b := by
  have h1 : U ≤ adN U b := Nat.left_le_or
  have h2 : adN U b ≠ U := by
    intro e
    have := ad_bit U b b
    rw [e, h, decide_eq_true rfl] at this
    exact absurd this (by decide)
  omega
theorem ad_lt {U b S : Nat} (h : U < 2 ^ S) (hb : b < S) : adN U b < 2 ^ S := Nat.or_lt_two_pow h (Nat.pow_lt_pow_right (by decide) hb)
theorem rm_256 : ∀ C, C < 256 → ∀ s, s < 8 → nI C &&& ((1 : Int32) <<< (nI s &&& 31) ^^^ (-1)) = nI (rmN C s) ∧ (C.testBit s = true → pcn 16 (rmN C s) + 1 = pcn 16 C) := by decide +kernel
theorem ad_256 : ∀ C, C < 256 → ∀ s, s < 8 → nI C ||| (1 : Int32) <<< (nI s &&& 31) = nI (adN C s) := by decide +kernel
theorem ctz_256 : ∀ C, C < 256 → 0 < C → ∃ k, k < 8 ∧ fJ6_numberOfTrailingZeros_0f7a4 (nI C) = some (nI k) ∧ C.testBit k = true ∧ ∀ j, j < k → C.testBit j = false := by decide +kernel
theorem pc_256 : ∀ C, C < 256 → pcn 16 C ≤ 8 ∧ (pcn 16 C = 0 → C = 0) := by decide +kernel
def hdN (J : Nat → Nat → Bool) (a : Nat) : List Nat → Prop
  | [] => True
  | b :: _ => J a b = true
def chN (J : Nat → Nat → Bool) : List Nat → Prop
  | [] => True
  | a :: r => hdN J a r ∧ chN J r
def cnN (c : Nat → Bool) : List Nat → Prop
  | [] => True
  | b :: _ => c b = true
/-- a row that goes on from used ones, the first as c lets it -/
def exN (J : Nat → Nat → Bool) (S : Nat) : (Nat → Bool) → Nat → List Nat → Prop
  | _, _, [] => True
  | c, U, b :: r => b < S ∧ U.testBit b = false ∧ c b = true ∧ exN J S (J b) (adN U b) r
/-- a row of just a set -/
def hlN (J : Nat → Nat → Bool) : Nat → List Nat → Prop
  | C, [] => C = 0
  | C, s :: r => C.testBit s = true ∧ hlN J (rmN C s) r ∧ hdN J s r
theorem ex_iff {J : Nat → Nat → Bool} {S : Nat} : ∀ (l : List Nat) (c : Nat → Bool) (U : Nat), exN J S c U l ↔ (∀ x, x ∈ l → x < S ∧ U.testBit x = false) ∧ l.Nodup ∧ cnN c l ∧ chN J l := by
  intro l
  induction l with
  | nil => exact fun c U => ⟨fun _ => ⟨fun x h => by simp at h, List.nodup_nil, trivial, trivial⟩, fun _ => trivial⟩
  | cons b r ih =>
    intro c U
    show (b < S ∧ U.testBit b = false ∧ c b = true ∧ exN J S (J b) (adN U b) r) ↔ _
    rw [ih (J b) (adN U b), List.nodup_cons]
    constructor
    · rintro ⟨h1, h2, h3, h4, h5, h6, h7⟩
      refine ⟨fun x hx => ?_, ⟨fun hb => ?_, h5⟩, h3, ?_, h7⟩
      · rcases List.mem_cons.mp hx with rfl | hx
        · exact ⟨h1, h2⟩
        · have := h4 x hx
          rw [ad_bit, Bool.or_eq_false_iff] at this
          exact ⟨this.1, this.2.1⟩
      · have := h4 b hb
        rw [ad_bit, decide_eq_true rfl, Bool.or_true] at this
        exact absurd this.2 (by decide)
      · cases r with
        | nil => trivial
        | cons d r => exact h6
    · rintro ⟨h1, ⟨h2, h3⟩, h4, h5, h6⟩
      refine ⟨(h1 b (List.mem_cons_self)).1, (h1 b (List.mem_cons_self)).2, h4, fun x hx => ?_, h3, ?_, h6⟩
      · have := h1 x (List.mem_cons_of_mem _ hx)
        refine ⟨this.1, ?_⟩
        rw [ad_bit, this.2, decide_eq_false (fun e => h2 (by rw [e]; exact hx))]
        rfl
      · cases r with
        | nil => trivial
        | cons d r => exact h5
theorem hl_iff {J : Nat → Nat → Bool} : ∀ (l : List Nat) (C : Nat), hlN J C l ↔ (∀ x, x ∈ l ↔ C.testBit x = true) ∧ l.Nodup ∧ chN J l := by
  intro l
  induction l with
  | nil =>
    intro C
    show C = 0 ↔ _
    constructor
    · rintro rfl
      exact ⟨fun x => by simp, List.nodup_nil, trivial⟩
    · rintro ⟨h, _⟩
      apply Nat.eq_of_testBit_eq
      intro i
      rw [Nat.zero_testBit]
      cases hc : C.testBit i
      · rfl
      · have := (h i).mpr hc
        simp at this
  | cons s r ih =>
    intro C
    show (C.testBit s = true ∧ hlN J (rmN C s) r ∧ hdN J s r) ↔ _
    rw [ih, List.nodup_cons]
    constructor
    · rintro ⟨h1, ⟨h2, h3, h4⟩, h5⟩
      refine ⟨fun x => ?_, ⟨fun hs => ?_, h3⟩, h5, h4⟩
      · rw [List.mem_cons]
        constructor
        · rintro (rfl | hx)
          · exact h1
          · have := (h2 x).mp hx
            rw [rm_bit, Bool.and_eq_true] at this
            exact this.1
        · intro hx
          by_cases e : x = s
          · exact Or.inl e
          · refine Or.inr ((h2 x).mpr ?_)
            rw [rm_bit, hx, decide_eq_false (fun q => e q.symm)]
            rfl
      · have := (h2 s).mp hs
        rw [rm_bit, decide_eq_true rfl, Bool.not_true, Bool.and_false] at this
        exact absurd this (by decide)
    · rintro ⟨h1, ⟨h2, h3⟩, h4, h5⟩
      refine ⟨(h1 s).mp List.mem_cons_self, ⟨fun x => ?_, h3, h5⟩, h4⟩
      rw [rm_bit]
      constructor
      · intro hx
        rw [(h1 x).mp (List.mem_cons_of_mem _ hx), decide_eq_false (fun e => h2 (by rw [e]; exact hx))]
        rfl
      · intro hx
        rw [Bool.and_eq_true] at hx
        rcases List.mem_cons.mp ((h1 x).mpr hx.1) with e | e
        · rw [e, decide_eq_true rfl] at hx
          exact absurd hx.2 (by decide)
        · exact e
def mkN : List Nat → Nat
  | [] => 0
  | a :: r => adN (mkN r) a
theorem mk_bit : ∀ (l : List Nat) (x : Nat), ((mkN l).testBit x = true ↔ x ∈ l) := by
  intro l
  induction l with
  | nil => intro x; show (0 : Nat).testBit x = true ↔ _; rw [Nat.zero_testBit]; simp
  | cons a r ih =>
    intro x
    show (adN (mkN r) a).testBit x = true ↔ _
    rw [ad_bit, Bool.or_eq_true, ih x, List.mem_cons, decide_eq_true_iff]
    constructor
    · rintro (h | h)
      · exact Or.inr h
      · exact Or.inl h.symm
    · rintro (h | h)
      · exact Or.inr h.symm
      · exact Or.inl h
theorem mk_lt {S : Nat} : ∀ (l : List Nat), (∀ x, x ∈ l → x < S) → mkN l < 2 ^ S := by
  intro l
  induction l with
  | nil => intro _; exact Nat.pow_pos (by decide)
  | cons a r ih => intro h; exact ad_lt (ih (fun x hx => h x (List.mem_cons_of_mem _ hx))) (h a List.mem_cons_self)
theorem ex_hl {J : Nat → Nat → Bool} {S : Nat} {l : List Nat} (h : exN J S (fun _ => true) 0 l) : ∃ C, C < 2 ^ S ∧ hlN J C l := by
  obtain ⟨h1, h2, _, h4⟩ := (ex_iff l _ 0).mp h
  exact ⟨mkN l, mk_lt l (fun x hx => (h1 x hx).1), (hl_iff l _).mpr ⟨fun x => (mk_bit l x).symm, h2, h4⟩⟩
theorem hl_ex {J : Nat → Nat → Bool} {S C : Nat} {l : List Nat} (hC : C < 2 ^ S) (h : hlN J C l) : exN J S (fun _ => true) 0 l := by
  obtain ⟨h1, h2, h3⟩ := (hl_iff l C).mp h
  refine (ex_iff l _ 0).mpr ⟨fun x hx => ⟨?_, Nat.zero_testBit x⟩, h2, ?_, h3⟩
  · rcases Nat.lt_or_ge x S with q | q
    · exact q
    · have := (h1 x).mp hx
      rw [Nat.testBit_lt_two_pow (Nat.lt_of_lt_of_le hC (Nat.pow_le_pow_right (by decide) q))] at this
      exact absurd this (by decide)
  · cases l with
    | nil => trivial
    | cons a r => rfl
theorem hl_len {J : Nat → Nat → Bool} : ∀ (l : List Nat) (C : Nat), C < 256 → hlN J C l → pcn 16 C = l.length := by
  intro l
  induction l with
  | nil => intro C _ h; have e : C = 0 := h; subst e; rfl
  | cons s r ih =>
    intro C hC h
    obtain ⟨h1, h2, _⟩ := h
    have hs : s < 8 := by
      rcases Nat.lt_or_ge s 8 with q | q
      · exact q
      · rw [Nat.testBit_lt_two_pow (Nat.lt_of_lt_of_le (show C < 2 ^ 8 from hC) (Nat.pow_le_pow_right (by decide) q))] at h1
        exact absurd h1 (by decide)
    have e := (rm_256 C hC s hs).2 h1
    have := ih (rmN C s) (Nat.lt_of_le_of_lt (rm_le C s) hC) h2
    show pcn 16 C = r.length + 1
    omega
def cdN : List Nat → Nat
  | [] => 0
  | a :: r => a * 8 ^ r.length + cdN r
theorem cd_lt : ∀ (l : List Nat), (∀ x, x ∈ l → x < 8) → cdN l < 8 ^ l.length := by
  intro l
  induction l with
  | nil => intro _; decide
  | cons a r ih =>
    intro h
    show a * 8 ^ r.length + cdN r < 8 ^ (r.length + 1)
    have h1 := ih (fun x hx => h x (List.mem_cons_of_mem _ hx))
    have h2 := h a List.mem_cons_self
    have h3 : a * 8 ^ r.length ≤ 7 * 8 ^ r.length := Nat.mul_le_mul_right _ (by omega)
    rw [Nat.pow_succ]
    omega
theorem cd_lex {a b : Nat} {r t : List Nat} (h : a < b) (hl : r.length = t.length) (hr : ∀ x, x ∈ r → x < 8) : cdN (a :: r) < cdN (b :: t) := by
  show a * 8 ^ r.length + cdN r < b * 8 ^ t.length + cdN t
  have h1 := cd_lt r hr
  have h2 : (a + 1) * 8 ^ r.length ≤ b * 8 ^ r.length := Nat.mul_le_mul_right _ h
  rw [Nat.add_mul] at h2
  rw [← hl]
  omega
theorem cd_dig : ∀ (l : List Nat), (∀ x, x ∈ l → x < 8) → ∀ (i x : Nat), l[i]? = some x → cdN l / 8 ^ (l.length - 1 - i) % 8 = x := by
  intro l
  induction l with
  | nil => intro _ i x h; simp at h
  | cons a r ih =>
    intro h i x hx
    have h1 := cd_lt r (fun x hx => h x (List.mem_cons_of_mem _ hx))
    have h2 := h a List.mem_cons_self
    have hp : 0 < 8 ^ r.length := Nat.pow_pos (by decide)
    show (a * 8 ^ r.length + cdN r) / 8 ^ (r.length + 1 - 1 - i) % 8 = x
    cases i with
    | zero =>
      have e : a = x := by simpa using hx
      subst e
      rw [show r.length + 1 - 1 - 0 = r.length by omega, Nat.add_comm, Nat.add_mul_div_right _ _ hp, Nat.div_eq_of_lt h1, Nat.zero_add]
      omega
    | succ i =>
      have hx' : r[i]? = some x := by simpa using hx
      have hi : i < r.length := by
        rcases Nat.lt_or_ge i r.length with q | q
        · exact q
        · rw [List.getElem?_eq_none q] at hx'; exact absurd hx' (by simp)
      have := ih (fun x hx => h x (List.mem_cons_of_mem _ hx)) i x hx'
      rw [show r.length + 1 - 1 - (i + 1) = r.length - 1 - i by omega]
      obtain ⟨d, hd⟩ : ∃ d, r.length = (r.length - 1 - i) + (d + 1) := ⟨i, by omega⟩
      generalize hj : r.length - 1 - i = j at this hd
      have e : a * 8 ^ r.length + cdN r = cdN r + (a * 8 ^ d * 8) * 8 ^ j := by
        rw [hd, Nat.pow_add, Nat.pow_succ, Nat.add_comm, Nat.mul_comm (8 ^ j), Nat.mul_assoc, Nat.mul_assoc, Nat.mul_assoc]
      rw [e, Nat.add_mul_div_right _ _ (Nat.pow_pos (by decide)), Nat.add_mul_mod_self_right]
      exact this
/-- a longest row, the least of these -/
def MnN (J : Nat → Nat → Bool) (S : Nat) (c : Nat → Bool) (U : Nat) (l : List Nat) : Prop := exN J S c U l ∧ (∀ t, exN J S c U t → t.length ≤ l.length) ∧ ∀ t, exN J S c U t → t.length = l.length → cdN l ≤ cdN t
theorem mn_tail {J : Nat → Nat → Bool} {S : Nat} {c : Nat → Bool} {U b : Nat} {r : List Nat} (h : MnN J S c U (b :: r)) : MnN J S (J b) (adN U b) r := by
  obtain ⟨⟨h1, h2, h3, h4⟩, h5, h6⟩ := h
  refine ⟨h4, fun t ht => ?_, fun t ht hl => ?_⟩
  · have := h5 (b :: t) ⟨h1, h2, h3, ht⟩
    have e1 : (b :: t).length = t.length + 1 := rfl
    have e2 : (b :: r).length = r.length + 1 := rfl
    omega
  · have := h6 (b :: t) ⟨h1, h2, h3, ht⟩ (by show t.length + 1 = r.length + 1; omega)
    have e1 : cdN (b :: t) = b * 8 ^ t.length + cdN t := rfl
    have e2 : cdN (b :: r) = b * 8 ^ r.length + cdN r := rfl
    rw [e1, e2, hl] at this
    omega
theorem mn_head {J : Nat → Nat → Bool} {S : Nat} {c : Nat → Bool} {U b d : Nat} {r t : List Nat} (hS : S ≤ 8) (h : MnN J S c U (b :: r)) (hd : d < b) (h1 : U.testBit d = false) (h2 : c d = true) (ht : exN J S (J d) (adN U d) t) : t.length ≠ r.length := by
  intro hl
  have hds : d < S := by have := h.1.1; omega
  have h3 := h.2.2 (d :: t) ⟨hds, h1, h2, ht⟩ (by show t.length + 1 = r.length + 1; omega)
  have h4 := cd_lex (a := d) (b := b) (r := t) (t := r) hd hl (fun x hx => by
    have := ((ex_iff t _ _).mp ht).1 x hx
    omega)
  omega
