theorem pcS_256 : ∀ S, S < 9 → ∀ C, C < 256 → C < 2 ^ S → pcn 16 C ≤ S := by decide +kernel
theorem nI_or (a b : Nat) : nI a ||| nI b = nI (a ||| b) := by
  apply bB_ext
  intro i hi
  rw [bB_or]
  show ((nI a).toBitVec.getLsbD i || (nI b).toBitVec.getLsbD i) = (nI (a ||| b)).toBitVec.getLsbD i
  have e : ∀ n : Nat, (nI n).toBitVec.getLsbD i = n.testBit i := fun n => by
    show ((nI n).toBitVec.toNat).testBit i = _
    have : (nI n).toBitVec.toNat = n % 2 ^ 32 := BitVec.toNat_ofNat ..
    rw [this, Nat.testBit_mod_two_pow, decide_eq_true hi, Bool.true_and]
  rw [e, e, e, Nat.testBit_or]
theorem or8 {a t : Nat} (ht : t < 8) : (a * 2 ^ 3) ||| t = 8 * a + t := by
  have := Nat.two_pow_add_eq_or_of_lt (i := 3) (b := t) ht a
  rw [Nat.mul_comm a, ← this]
theorem hd_cn {J : Nat → Nat → Bool} {s : Nat} {r : List Nat} : hdN J s r ↔ cnN (J s) r := by
  cases r <;> exact Iff.rfl
section RowC2
variable {u : St} {S : Nat} {J : Nat → Nat → Bool}
theorem least_loop (hz : gZ u 160 = nI S) (hS : S ≤ 8) (hF : FoN J S (gA u 164)) (hG : ∀ C, C < 2 ^ S → StN J (gA u 165) C) : ∀ (n m C N found k : Nat) (c : Nat → Bool), C < 2 ^ S → pcn 16 C = n → k + n ≤ S → n < m → N < 256 → (∀ t, (N.testBit t = true ↔ c t = true ∧ ∃ r, hlN J C (t :: r))) → found < 8 ^ k → (∃ l, hlN J C l ∧ cnN c l) → ∃ l, (hlN J C l ∧ cnN c l) ∧ (∀ l', hlN J C l' → cnN c l' → cdN l ≤ cdN l') ∧ fX8_leastOf_l15 u m (nI C) (nI N) (nI found) (nI k) = some (nI (found * 8 ^ l.length + cdN l)) := by
  have hp : 2 ^ S ≤ 256 := Nat.pow_le_pow_right (by decide) hS
  intro n
  induction n with
  | zero =>
    intro m C N found k c h1 h2 h3 h4 h5 h6 h7 h8
    obtain ⟨m, rfl⟩ : ∃ q, m = q + 1 := ⟨m - 1, by omega⟩
    have hC : C = 0 := (pc_256 C (by omega)).2 h2
    subst hC
    have hN : N = 0 := by
      apply Nat.eq_of_testBit_eq
      intro i
      rw [Nat.zero_testBit]
      cases hc : N.testBit i
      · rfl
      · obtain ⟨_, r, h9, _⟩ := (h6 i).mp hc
        rw [Nat.zero_testBit] at h9
        exact absurd h9 (by decide)
    subst hN
    refine ⟨[], ⟨rfl, trivial⟩, fun l' _ _ => Nat.zero_le _, ?_⟩
    show fX8_leastOf_l15b u (fX8_leastOf_l15 u m) (nI 0) (nI 0) (nI found) (nI k) = _
    unfold fX8_leastOf_l15b
    rw [show found * 8 ^ ([] : List Nat).length + cdN [] = found by show found * 1 + 0 = found; omega]
    by_cases q : gZ u 160 ≤ nI k
    · rw [if_pos q]
    · rw [if_neg q, if_pos (show nI 0 = 0 from rfl)]
  | succ n ih =>
    intro m C N found k c h1 h2 h3 h4 h5 h6 h7 h8
    obtain ⟨m, rfl⟩ : ∃ q, m = q + 1 := ⟨m - 1, by omega⟩
    have hC0 : ¬ C = 0 := by
      intro e
      subst e
      exact absurd h2 (by show ¬ 0 = n + 1; omega)
    have hN0 : 0 < N := by
      obtain ⟨l, hl1, hl2⟩ := h8
      cases l with
      | nil => exact absurd hl1 hC0
      | cons t r =>
        have := (h6 t).mpr ⟨hl2, r, hl1⟩
        rcases Nat.eq_zero_or_pos N with q | q
        · rw [q, Nat.zero_testBit] at this
          exact absurd this (by decide)
        · exact q
    obtain ⟨s, hs8, hctz, hsb, hsm⟩ := ctz_256 N h5 hN0
    obtain ⟨hcs, r0, hr0⟩ := (h6 s).mp hsb
    have hsS : s < S := bitS h1 hr0.1
    have hrm : rmN C s < 2 ^ S := Nat.lt_of_le_of_lt (rm_le C s) h1
    have hpc : pcn 16 (rmN C s) = n := by
      have := (rm_256 C (by omega) s hs8).2 hr0.1
      omega
    obtain ⟨f, hf, hf1, hf2⟩ := hF s hsS
    obtain ⟨Y, hY, hY1, hY2⟩ := hG (rmN C s) hrm
    have h8k : 8 ^ (k + 1) ≤ 8 ^ 8 := Nat.pow_le_pow_right (by decide) (by omega)
    have hpk : 8 ^ (k + 1) = 8 ^ k * 8 := Nat.pow_succ ..
    have hfo : 8 * found + s < 8 ^ (k + 1) := by omega
    have h88 : (8 : Nat) ^ 8 = 16777216 := rfl
    obtain ⟨l1, ⟨hl1, hl2⟩, hl3, hl4⟩ := ih m (rmN C s) (f &&& Y) (8 * found + s) (k + 1) (J s) hrm hpc (by omega) (by omega) (Nat.lt_of_le_of_lt Nat.and_le_left hf) (fun t => by
      rw [Nat.testBit_and, Bool.and_eq_true, hf2 t, hY2 t]
      constructor
      · rintro ⟨⟨_, _, a3⟩, a4⟩
        exact ⟨a3, a4⟩
      · rintro ⟨a3, r, a4⟩
        have ht : (rmN C s).testBit t = true := a4.1
        have htS := bitS hrm ht
        rw [rm_bit, Bool.and_eq_true] at ht
        exact ⟨⟨htS, fun e => by rw [e, decide_eq_true rfl] at ht; exact absurd ht.2 (by decide), a3⟩, r, a4⟩) hfo ⟨r0, hr0.2.1, hd_cn.mp hr0.2.2⟩
    refine ⟨s :: l1, ⟨⟨hr0.1, hl1, hd_cn.mpr hl2⟩, hcs⟩, fun l' a1 a2 => ?_, ?_⟩
    · cases l' with
      | nil => exact absurd a1 hC0
      | cons t r' =>
        have htb := (h6 t).mpr ⟨a2, r', a1⟩
        have hst : s ≤ t := by
          rcases Nat.lt_or_ge t s with q | q
          · rw [hsm t q] at htb; exact absurd htb (by decide)
          · exact q
        have ht8 : t < 8 := bit8 h5 htb
        have len1 : l1.length = n := (hl_len l1 _ (by omega) hl1).symm.trans hpc
        have len2 : r'.length = n := by
          have e1 := hl_len r' (rmN C t) (Nat.lt_of_le_of_lt (rm_le C t) (by omega)) a1.2.1
          have := (rm_256 C (by omega) t ht8).2 a1.1
          omega
        by_cases q : s = t
        · subst q
          have := hl3 r' a1.2.1 (hd_cn.mp a1.2.2)
          show s * 8 ^ l1.length + cdN l1 ≤ s * 8 ^ r'.length + cdN r'
          rw [len1, len2]
          omega
        · exact Nat.le_of_lt (cd_lex (by omega) (by omega) (fun x hx => by
            have := ((hl_iff l1 _).mp hl1).1 x
            exact bit8 (C := rmN C s) (by omega) (this.mp hx)))
    · show fX8_leastOf_l15b u (fX8_leastOf_l15 u m) (nI C) (nI N) (nI found) (nI k) = _
      unfold fX8_leastOf_l15b
      rw [hz, if_neg (nI_ge (by omega) (by omega)), if_neg (fun y => by have := (nI_zero (n := N) (by omega)).mp y; omega), hctz, cl1_s, pk_shlN (n := found) (3 &&& 31) 3 (by decide) (by omega), nI_or, or8 hs8, nmI_s, (rm_256 C (by omega) s hs8).1, nmI_s, ldI_s (by omega) (by decide), hf1, ldI_s (by omega) (by decide), hY1, nI_and f Y (by omega) (by omega), nmI_s, nI_1, hl4]
      show some (nI ((8 * found + s) * 8 ^ l1.length + cdN l1)) = some (nI (found * 8 ^ (l1.length + 1) + (s * 8 ^ l1.length + cdN l1)))
      congr 2
      rw [Nat.pow_succ, Nat.add_mul, Nat.mul_comm (8 ^ l1.length) 8, ← Nat.mul_assoc, Nat.mul_comm found 8]
      omega
theorem least_ok (hz : gZ u 160 = nI S) (hS : S ≤ 8) (hF : FoN J S (gA u 164)) (hG : ∀ C, C < 2 ^ S → StN J (gA u 165) C) {C : Nat} (hC : C < 2 ^ S) (hex : ∃ l, hlN J C l) : ∃ l, hlN J C l ∧ (∀ l', hlN J C l' → cdN l ≤ cdN l') ∧ fX8_leastOf u (nI C) = some (nI (cdN l)) := by
  have hp : 2 ^ S ≤ 256 := Nat.pow_le_pow_right (by decide) hS
  obtain ⟨X, hX, hX1, hX2⟩ := hG C hC
  have hct : ∀ l, cnN (fun _ => true) l := fun l => by cases l <;> first | trivial | rfl
  obtain ⟨l0, hl0⟩ := hex
  obtain ⟨l, ⟨h1, _⟩, h2, h3⟩ := least_loop hz hS hF hG (pcn 16 C) NF C X 0 0 (fun _ => true) hC rfl (by have := pcS_256 S (by omega) C (by omega) hC; omega) (by have := (pc_256 C (by omega)).1; unfold NF; omega) hX (fun t => (hX2 t).trans ⟨fun h => ⟨rfl, h⟩, fun h => h.2⟩) (by decide) ⟨l0, hl0, hct l0⟩
  refine ⟨l, h1, fun l' hl' => h2 l' hl' (hct l'), ?_⟩
  unfold fX8_leastOf
  rw [ldI_s (by omega) (by decide), hX1]
  have h3' : fX8_leastOf_l15 u NF (nI C) (nI X) 0 0 = some (nI (0 * 8 ^ l.length + cdN l)) := h3
  rw [h3', Nat.zero_mul, Nat.zero_add]
theorem cd_24 {C : Nat} {l : List Nat} (hC : C < 256) (h : hlN J C l) : cdN l < 2 ^ 24 := by
  have h1 := cd_lt l (fun x hx => bit8 hC (((hl_iff l C).mp h).1 x |>.mp hx))
  have h2 : l.length ≤ 8 := by
    rw [← hl_len l C hC h]
    exact (pc_256 C hC).1
  have h3 : 8 ^ l.length ≤ 8 ^ 8 := Nat.pow_le_pow_right (by decide) h2
  have h88 : (8 : Nat) ^ 8 = 2 ^ 24 := rfl
  omega
theorem findRow_loop (hz : gZ u 160 = nI S) (hS : S ≤ 8) (hF : FoN J S (gA u 164)) (hG : ∀ C, C < 2 ^ S → StN J (gA u 165) C) {lg : Nat} (hlg : lg ≤ 8) (hL : LgN J (2 ^ S) lg) : ∃ (z : Int32) (l : List Nat), fX8_findRow_l18 (nI lg) NF (setZ u 166 0) 1 1 = some (nI lg, setZ u 166 z) ∧ MnN J S (fun _ => true) 0 l ∧ l.length = lg ∧ (0 < lg → z = nI (cdN l)) := by
  have hp : 2 ^ S ≤ 256 := Nat.pow_le_pow_right (by decide) hS
  have hsh : (1 : Int32) <<< (nI S &&& 31) = nI (2 ^ S) := sh1 (by omega)
  obtain ⟨⟨z, no⟩, ⟨_, hI⟩, e⟩ := up (fun m (s : Int32 × Int32) i => fX8_findRow_l18 (nI lg) m (setZ u 166 s.1) s.2 i) (fun C s => 1 ≤ C ∧ ((s.2 = 1 ∧ ∀ C', C' < C → 1 ≤ C' → ∀ l, hlN J C' l → l.length ≠ lg) ∨ (s.2 = 0 ∧ ∃ l, s.1 = nI (cdN l) ∧ (∃ C', C' < C ∧ 1 ≤ C' ∧ hlN J C' l) ∧ l.length = lg ∧ ∀ C', C' < C → 1 ≤ C' → ∀ l', hlN J C' l' → l'.length = lg → cdN l ≤ cdN l'))) (2 ^ S) (fun s => some (nI lg, setZ u 166 s.1)) (by
    intro m s hI
    show fX8_findRow_l18b (fX8_findRow_l18 (nI lg) m) (setZ u 166 s.1) (nI lg) s.2 (nI (2 ^ S)) = _
    unfold fX8_findRow_l18b
    rw [gZ_n u s.1 (by decide), hz, hsh, if_pos (nI_le (Nat.le_refl _) (by omega))]) (by
    intro m C s hC hI
    obtain ⟨z, no⟩ := s
    obtain ⟨hC1, hI⟩ := hI
    dsimp only at hI
    show ∃ s' : Int32 × Int32, _ ∧ fX8_findRow_l18b (fX8_findRow_l18 (nI lg) m) (setZ u 166 z) (nI lg) no (nI C) = fX8_findRow_l18 (nI lg) m (setZ u 166 s'.1) s'.2 (nI (C + 1))
    unfold fX8_findRow_l18b fX8_findRow_b68 fX8_findRow_b74 fX8_findRow_b76
    obtain ⟨X, hX, hX1, hX2⟩ := hG C hC
    have skip : (∀ l, hlN J C l → l.length ≠ lg) → ∃ s' : Int32 × Int32, (1 ≤ C + 1 ∧ ((s'.2 = 1 ∧ ∀ C', C' < C + 1 → 1 ≤ C' → ∀ l, hlN J C' l → l.length ≠ lg) ∨ (s'.2 = 0 ∧ ∃ l, s'.1 = nI (cdN l) ∧ (∃ C', C' < C + 1 ∧ 1 ≤ C' ∧ hlN J C' l) ∧ l.length = lg ∧ ∀ C', C' < C + 1 → 1 ≤ C' → ∀ l', hlN J C' l' → l'.length = lg → cdN l ≤ cdN l'))) ∧ fX8_findRow_l18 (nI lg) m (setZ u 166 z) no (nI (C + 1)) = fX8_findRow_l18 (nI lg) m (setZ u 166 s'.1) s'.2 (nI (C + 1)) := by
      intro hn
      refine ⟨(z, no), ⟨by omega, ?_⟩, rfl⟩
      rcases hI with ⟨a1, a2⟩ | ⟨a1, l, a2, ⟨D, a3, a4, a5⟩, a6, a7⟩
      · refine Or.inl ⟨a1, fun C' b1 b2 l b3 => ?_⟩
        by_cases q : C' = C
        · subst q; exact hn l b3
        · exact a2 C' (by omega) b2 l b3
      · refine Or.inr ⟨a1, l, a2, ⟨D, by omega, a4, a5⟩, a6, fun C' b1 b2 l' b3 b4 => ?_⟩
        by_cases q : C' = C
        · subst q; exact absurd b4 (hn l' b3)
        · exact a7 C' (by omega) b2 l' b3 b4
    rw [gZ_n u z (by decide), hz, hsh, if_neg (nI_ge hC (by omega)), gA_setZ, ldI_s (by omega) (by decide), hX1, nI_1]
    by_cases hX0 : X = 0
    · rw [if_pos (by rw [hX0]; decide)]
      refine skip (fun l hl => ?_)
      cases l with
      | nil => have e : C = 0 := hl; omega
      | cons s r =>
        have := (hX2 s).mpr ⟨r, hl⟩
        rw [hX0, Nat.zero_testBit] at this
        exact absurd this (by decide)
    · rw [if_neg (fun y => hX0 ((nI_zero (by omega)).mp y)), bitCount_n (by omega), cl1_s]
      have hpc := (pc_256 C (by omega)).1
      by_cases hq : pcn 16 C = lg
      · rw [if_pos (by rw [hq])]
        have hex : ∃ l, hlN J C l := by
          obtain ⟨t, _, h1, _⟩ := (and_zero (b := X) hX).mp (by rw [Nat.and_self]; exact hX0)
          obtain ⟨r, hr⟩ := (hX2 t).mp h1
          exact ⟨_, hr⟩
        obtain ⟨l1, k1, k2, k3⟩ := least_ok (u := setZ u 166 z) hz hS hF hG hC hex
        have hl1 : l1.length = lg := (hl_len l1 C (by omega) k1).symm.trans hq
        have hb1 := cd_24 (C := C) (by omega) k1
        rw [k3, cl1_s]
        have setit : (∀ C', C' < C → 1 ≤ C' → ∀ l', hlN J C' l' → l'.length = lg → cdN l1 ≤ cdN l') → ∃ s' : Int32 × Int32, (1 ≤ C + 1 ∧ ((s'.2 = 1 ∧ ∀ C', C' < C + 1 → 1 ≤ C' → ∀ l, hlN J C' l → l.length ≠ lg) ∨ (s'.2 = 0 ∧ ∃ l, s'.1 = nI (cdN l) ∧ (∃ C', C' < C + 1 ∧ 1 ≤ C' ∧ hlN J C' l) ∧ l.length = lg ∧ ∀ C', C' < C + 1 → 1 ≤ C' → ∀ l', hlN J C' l' → l'.length = lg → cdN l ≤ cdN l'))) ∧ (nmS (setZ (setZ u 166 z) 166 (nI (cdN l1))) fun u9 => fX8_findRow_l18 (nI lg) m u9 0 (nI (C + 1))) = fX8_findRow_l18 (nI lg) m (setZ u 166 s'.1) s'.2 (nI (C + 1)) := by
          intro hm
          rw [nmS_s, setZ_setZ]
          refine ⟨(nI (cdN l1), 0), ⟨by omega, Or.inr ⟨rfl, l1, rfl, ⟨C, by omega, hC1, k1⟩, hl1, fun C' b1 b2 l' b3 b4 => ?_⟩⟩, rfl⟩
          by_cases q : C' = C
          · subst q; exact k2 l' b3
          · exact hm C' (by omega) b2 l' b3 b4
        rcases hI with ⟨a1, a2⟩ | ⟨a1, l, a2, ⟨D, a3, a4, a5⟩, a6, a7⟩
        · subst a1
          rw [if_neg (by decide)]
          exact setit (fun C' b1 b2 l' b3 b4 => absurd b4 (a2 C' b1 b2 l' b3))
        · subst a1
          have hb2 := cd_24 (C := D) (by omega) a5
          rw [if_pos rfl, gZ_s, a2]
          by_cases w : cdN l ≤ cdN l1
          · rw [if_pos (nI_le w (by omega))]
            refine ⟨(nI (cdN l), 0), ⟨by omega, Or.inr ⟨rfl, l, rfl, ⟨D, by omega, a4, a5⟩, a6, fun C' b1 b2 l' b3 b4 => ?_⟩⟩, rfl⟩
            by_cases q : C' = C
            · subst q
              have := k2 l' b3
              omega
            · exact a7 C' (by omega) b2 l' b3 b4
          · rw [if_neg (nI_ge (by omega) (by omega))]
            rw [a2] at setit
            exact setit (fun C' b1 b2 l' b3 b4 => by have := a7 C' b1 b2 l' b3 b4; omega)
      · rw [if_neg (nI_ne (by omega) (by omega) hq)]
        exact skip (fun l hl => by rw [← hl_len l C (by omega) hl]; exact hq)) NF 1 (0, 1) (Nat.pow_pos (by decide)) (by unfold NF; omega) ⟨Nat.le_refl _, Or.inl ⟨rfl, fun C' h1 h2 => by omega⟩⟩
  have e' : fX8_findRow_l18 (nI lg) NF (setZ u 166 0) 1 1 = some (nI lg, setZ u 166 z) := e
  dsimp only at hI
  obtain ⟨hL1, D, d1, d2, l0, d3, d4⟩ := hL
  have hmax : ∀ t, exN J S (fun _ => true) 0 t → t.length ≤ lg := fun t ht => by
    obtain ⟨C, c1, c2⟩ := ex_hl ht
    exact hL1 C c1 t c2
  by_cases hlg0 : lg = 0
  · subst hlg0
    refine ⟨z, [], e', ⟨trivial, hmax, fun t _ _ => Nat.zero_le _⟩, rfl, fun h => absurd h (Nat.lt_irrefl 0)⟩
  · have hD1 : 1 ≤ D := by
      rcases Nat.eq_zero_or_pos D with q | q
      · subst q
        cases l0 with
        | nil => exact absurd d4.symm hlg0
        | cons s r =>
          have := d3.1
          rw [Nat.zero_testBit] at this
          exact absurd this (by decide)
      · exact q
    rcases hI with ⟨a1, a2⟩ | ⟨a1, l, a2, ⟨C, a3, a4, a5⟩, a6, a7⟩
    · exact absurd d4 (a2 D (by omega) hD1 l0 d3)
    · refine ⟨z, l, e', ⟨hl_ex a3 a5, fun t ht => by rw [a6]; exact hmax t ht, fun t ht htl => ?_⟩, a6, fun _ => a2⟩
      obtain ⟨C', c1, c2⟩ := ex_hl ht
      have hC' : 1 ≤ C' := by
        rcases Nat.eq_zero_or_pos C' with q | q
        · subst q
          cases t with
          | nil => exact absurd (htl.trans a6).symm hlg0
          | cons s r =>
            have := c2.1
            rw [Nat.zero_testBit] at this
            exact absurd this (by decide)
        · exact q
      exact a7 C' c1 hC' t c2 (htl.trans a6)
end RowC2
theorem rowC_ok {uC uM : St} {S : Nat} {J : Nat → Nat → Bool} (hz : gZ uC 160 = nI S) (hS : S ≤ 8) (h0 : gA uC 165 0 = 0) (hJ : ∀ (F : Nat → Int32) a b, a < S → b < S → fX8_fits (setA uC 164 F) (nI a) (nI b) = some (if J a b then 1 else 0)) : ∃ (lg : Nat) (l : List Nat) (F G : Nat → Int32) (z : Int32), fX8_findRow uC = some (nI lg, setZ (setA (setA uC 164 F) 165 G) 166 z) ∧ G 0 = 0 ∧ MnN J S (fun _ => true) 0 l ∧ l.length = lg ∧ lg ≤ 8 ∧ (0 < lg → z = nI (cdN l)) := by
  obtain ⟨F, e1, hF⟩ := follow_ok hz hS hJ
  obtain ⟨G, lg, e2, g1, g2, g3, g4⟩ := starts_ok (F := F) (uC := setA uC 164 F) (S := S) (J := J) hz hS (by rw [gA_s]; exact hF) h0
  obtain ⟨z, l, e3, h1, h2, h3⟩ := findRow_loop (u := setA (setA uC 164 F) 165 G) (S := S) (J := J) hz hS (by rw [gA_n (j := 164) (setA uC 164 F) G (by decide), gA_s]; exact hF) (by rw [gA_s]; exact g2) g1 g3
  refine ⟨lg, l, F, G, z, ?_, g4, h1, h2, g1, h3⟩
  unfold fX8_findRow
  rw [e1, cl1_s, e2, cl2_s, nmS_s, e3]
