section RowC
variable {uC uM : St} {S : Nat} {J : Nat → Nat → Bool}
theorem nI_zero {n : Nat} (h : n < 2 ^ 31) : (nI n = 0) ↔ n = 0 := nI_eq (b := 0) h (by decide)
theorem and_zero {a b : Nat} (ha : a < 256) : ¬ a &&& b = 0 ↔ ∃ t, t < 8 ∧ a.testBit t = true ∧ b.testBit t = true := by
  constructor
  · intro h
    have hne : ∃ t, (a &&& b).testBit t = true := by
      apply Classical.byContradiction
      intro hn
      apply h
      apply Nat.eq_of_testBit_eq
      intro i
      rw [Nat.zero_testBit]
      cases hc : (a &&& b).testBit i
      · rfl
      · exact absurd ⟨i, hc⟩ hn
    obtain ⟨t, ht⟩ := hne
    rw [Nat.testBit_and, Bool.and_eq_true] at ht
    refine ⟨t, ?_, ht.1, ht.2⟩
    rcases Nat.lt_or_ge t 8 with q | q
    · exact q
    · have := ht.1
      rw [Nat.testBit_lt_two_pow (Nat.lt_of_lt_of_le (show a < 2 ^ 8 from ha) (Nat.pow_le_pow_right (by decide) q))] at this
      exact absurd this (by decide)
  · rintro ⟨t, _, h1, h2⟩ h
    have : (a &&& b).testBit t = true := by rw [Nat.testBit_and, h1, h2]; rfl
    rw [h, Nat.zero_testBit] at this
    exact absurd this (by decide)
/-- who can follow, as bits -/
def FoN (J : Nat → Nat → Bool) (S : Nat) (F : Nat → Int32) : Prop := ∀ s, s < S → ∃ f, f < 256 ∧ F s = nI f ∧ ∀ t, (f.testBit t = true ↔ t < S ∧ ¬ t = s ∧ J s t = true)
theorem follow_ok (hz : gZ uC 160 = nI S) (hS : S ≤ 8) (hJ : ∀ (F : Nat → Int32) a b, a < S → b < S → fX8_fits (setA uC 164 F) (nI a) (nI b) = some (if J a b then 1 else 0)) : ∃ F : Nat → Int32, fX8_findFollowers uC = some (setA uC 164 F) ∧ FoN J S F := by
  obtain ⟨F, hF, e⟩ := up (fun m (F : Nat → Int32) i => fX8_findFollowers_l2 m (setA uC 164 F) i) (fun i F => ∀ s, s < i → ∃ f, f < 256 ∧ F s = nI f ∧ ∀ t, (f.testBit t = true ↔ t < S ∧ ¬ t = s ∧ J s t = true)) S (fun F => some (setA uC 164 F)) (by
    intro m F hI
    show fX8_findFollowers_l2b (fX8_findFollowers_l2 m) (setA uC 164 F) (nI S) = _
    unfold fX8_findFollowers_l2b
    rw [gZ_setA, hz, if_pos (nI_le (Nat.le_refl _) (by omega))]) (by
    intro m i F hi hI
    show ∃ F', _ ∧ fX8_findFollowers_l2b (fX8_findFollowers_l2 m) (setA uC 164 F) (nI i) = fX8_findFollowers_l2 m (setA uC 164 F') (nI (i + 1))
    unfold fX8_findFollowers_l2b
    rw [gZ_setA, hz, if_neg (nI_ge hi (by omega)), stI_s (by omega) (by decide), setA_setA, gA_s]
    generalize hk2 : fX8_findFollowers_l2 m = k2
    obtain ⟨F', ⟨hF1, f, hf, hf1, hf2⟩, e⟩ := up (fun m (F : Nat → Int32) t => fX8_findFollowers_l19 k2 (nI i) m (setA uC 164 F) t) (fun t F => (∀ s, s < i → ∃ f, f < 256 ∧ F s = nI f ∧ ∀ t, (f.testBit t = true ↔ t < S ∧ ¬ t = s ∧ J s t = true)) ∧ ∃ f, f < 256 ∧ F i = nI f ∧ ∀ t', (f.testBit t' = true ↔ t' < t ∧ ¬ t' = i ∧ J i t' = true)) S (fun F => k2 (setA uC 164 F) (nI (i + 1))) (by
      intro m F hI
      show fX8_findFollowers_l19b k2 (fX8_findFollowers_l19 k2 (nI i) m) (setA uC 164 F) (nI i) (nI S) = _
      unfold fX8_findFollowers_l19b
      rw [gZ_setA, hz, if_pos (nI_le (Nat.le_refl _) (by omega)), nI_1]) (by
      intro m t F ht hI
      obtain ⟨hF1, f, hf, hf1, hf2⟩ := hI
      show ∃ F', _ ∧ fX8_findFollowers_l19b k2 (fX8_findFollowers_l19 k2 (nI i) m) (setA uC 164 F) (nI i) (nI t) = fX8_findFollowers_l19 k2 (nI i) m (setA uC 164 F') (nI (t + 1))
      unfold fX8_findFollowers_l19b fX8_findFollowers_b53
      have stay : ¬ (¬ t = i ∧ J i t = true) → ∃ F', ((∀ s, s < i → ∃ f, f < 256 ∧ F' s = nI f ∧ ∀ t, (f.testBit t = true ↔ t < S ∧ ¬ t = s ∧ J s t = true)) ∧ ∃ f, f < 256 ∧ F' i = nI f ∧ ∀ t', (f.testBit t' = true ↔ t' < t + 1 ∧ ¬ t' = i ∧ J i t' = true)) ∧ fX8_findFollowers_l19 k2 (nI i) m (setA uC 164 F) (nI (t + 1)) = fX8_findFollowers_l19 k2 (nI i) m (setA uC 164 F') (nI (t + 1)) := by
        intro hn
        refine ⟨F, ⟨hF1, f, hf, hf1, fun t' => (hf2 t').trans ⟨fun h => ⟨by omega, h.2⟩, fun h => ⟨?_, h.2⟩⟩⟩, rfl⟩
        by_cases q : t' = t
        · subst q; exact absurd h.2 hn
        · omega
      rw [gZ_setA, hz, if_neg (nI_ge ht (by omega)), nI_1]
      by_cases q : t = i
      · rw [if_pos (by rw [q])]
        exact stay (fun y => y.1 q)
      · rw [if_neg (nI_ne (by omega) (by omega) q), hJ F i t hi ht, cl1_s, bitB]
        cases hj : J i t
        · simp only [Bool.false_eq_true, ↓reduceIte]
          exact stay (fun y => by rw [hj] at y; exact absurd y.2 (by decide))
        · simp only [↓reduceIte]
          rw [ldI_s (by omega) (by decide), gA_s, hf1, ad_256 f hf t (by omega), stI_s (by omega) (by decide), setA_setA, gA_s]
          refine ⟨_, ⟨fun s hs => ?_, adN f t, ad_lt (S := 8) hf (by omega), upd_s _ _ _, fun t' => ?_⟩, rfl⟩
          · rw [upd_n _ _ (by omega)]; exact hF1 s hs
          · rw [ad_bit, Bool.or_eq_true, hf2 t', decide_eq_true_iff]
            constructor
            · rintro (h | rfl)
              · exact ⟨by omega, h.2⟩
              · exact ⟨by omega, q, hj⟩
            · rintro ⟨h1, h2⟩
              by_cases w : t = t'
              · exact Or.inr w
              · exact Or.inl ⟨by omega, h2⟩) NF 0 (upd F i 0) (by omega) (by unfold NF; omega) ⟨fun s hs => by rw [upd_n _ _ (by omega)]; exact hI s hs, 0, by decide, upd_s _ _ _, fun t' => by
      rw [Nat.zero_testBit]
      exact ⟨fun h => absurd h (by decide), fun h => by omega⟩⟩
    refine ⟨F', fun s hs => ?_, e⟩
    by_cases w : s = i
    · subst w; exact ⟨f, hf, hf1, hf2⟩
    · exact hF1 s (by omega)) NF 0 (gA uC 164) (by omega) (by unfold NF; omega) (fun s hs => by omega)
  rw [show setA uC 164 (gA uC 164) = uC from setA_self uC 164] at e
  exact ⟨F, e, hF⟩
/-- with what a row of just a set can begin -/
def StN (J : Nat → Nat → Bool) (G : Nat → Int32) (C : Nat) : Prop := ∃ X, X < 256 ∧ G C = nI X ∧ ∀ s, (X.testBit s = true ↔ ∃ r, hlN J C (s :: r))
theorem st_0 (J : Nat → Nat → Bool) {G : Nat → Int32} (h : G 0 = 0) : StN J G 0 := ⟨0, by decide, h, fun s => by
  rw [Nat.zero_testBit]
  exact ⟨fun y => absurd y (by decide), fun ⟨r, y, _⟩ => by rw [Nat.zero_testBit] at y; exact absurd y (by decide)⟩⟩
theorem hl_cons {C s : Nat} : (∃ r, hlN J C (s :: r)) ↔ C.testBit s = true ∧ (rmN C s = 0 ∨ ∃ t r, J s t = true ∧ hlN J (rmN C s) (t :: r)) := by
  constructor
  · rintro ⟨r, h1, h2, h3⟩
    refine ⟨h1, ?_⟩
    cases r with
    | nil => exact Or.inl h2
    | cons t r => exact Or.inr ⟨t, r, h3, h2⟩
  · rintro ⟨h1, h | ⟨t, r, h2, h3⟩⟩
    · exact ⟨[], h1, h, trivial⟩
    · exact ⟨t :: r, h1, h3, h2⟩
def LgN (J : Nat → Nat → Bool) (C : Nat) (lg : Nat) : Prop := (∀ C', C' < C → ∀ l, hlN J C' l → l.length ≤ lg) ∧ ∃ C', C' ≤ C ∧ (C' < C ∨ C' = 0) ∧ ∃ l, hlN J C' l ∧ l.length = lg
theorem bit8 {C i : Nat} (hC : C < 256) (h : C.testBit i = true) : i < 8 := by
  rcases Nat.lt_or_ge i 8 with q | q
  · exact q
  · rw [Nat.testBit_lt_two_pow (Nat.lt_of_lt_of_le (show C < 2 ^ 8 from hC) (Nat.pow_le_pow_right (by decide) q))] at h
    exact absurd h (by decide)
theorem bitS {C i : Nat} (hC : C < 2 ^ S) (h : C.testBit i = true) : i < S := by
  rcases Nat.lt_or_ge i S with q | q
  · exact q
  · rw [Nat.testBit_lt_two_pow (Nat.lt_of_lt_of_le hC (Nat.pow_le_pow_right (by decide) q))] at h
    exact absurd h (by decide)
theorem starts_ok {F : Nat → Int32} (hz : gZ uC 160 = nI S) (hS : S ≤ 8) (hF : FoN J S (gA uC 164)) (h0 : gA uC 165 0 = 0) : ∃ (G : Nat → Int32) (lg : Nat), fX8_findStarts uC = some (nI lg, setA uC 165 G) ∧ lg ≤ 8 ∧ (∀ C, C < 2 ^ S → StN J G C) ∧ LgN J (2 ^ S) lg ∧ G 0 = 0 := by
  have hp : 2 ^ S ≤ 256 := Nat.pow_le_pow_right (by decide) hS
  have hsh : (1 : Int32) <<< (nI S &&& 31) = nI (2 ^ S) := sh1 (by omega)
  obtain ⟨⟨G, lgI⟩, ⟨lg, g0, g1, g2, g3, g4, g5⟩, e⟩ := up (fun m (s : (Nat → Int32) × Int32) i => fX8_findStarts_l4 m (setA uC 165 s.1) s.2 i) (fun C s => ∃ lg : Nat, s.2 = nI lg ∧ lg ≤ 8 ∧ (∀ C', C' < C → StN J s.1 C') ∧ LgN J C lg ∧ s.1 0 = 0 ∧ 1 ≤ C) (2 ^ S) (fun s => some (s.2, setA uC 165 s.1)) (by
    intro m s hI
    show fX8_findStarts_l4b (fX8_findStarts_l4 m) (setA uC 165 s.1) s.2 (nI (2 ^ S)) = _
    unfold fX8_findStarts_l4b
    rw [gZ_setA, hz, hsh, if_pos (nI_le (Nat.le_refl _) (by omega))]) (by
    intro m C s hC hI
    obtain ⟨G, v1⟩ := s
    obtain ⟨lg, g0, g1, g2, g3, g4, g5⟩ := hI
    dsimp only at g0 g2 g4
    subst g0
    show ∃ s' : (Nat → Int32) × Int32, _ ∧ fX8_findStarts_l4b (fX8_findStarts_l4 m) (setA uC 165 G) (nI lg) (nI C) = fX8_findStarts_l4 m (setA uC 165 s'.1) s'.2 (nI (C + 1))
    unfold fX8_findStarts_l4b
    rw [gZ_setA, hz, hsh, if_neg (nI_ge hC (by omega))]
    generalize hk2 : fX8_findStarts_l4 m = k4
    obtain ⟨v, ⟨X, hX, hv, hX2⟩, e⟩ := up (fX8_findStarts_l19 k4 (setA uC 165 G) (nI lg) (nI C)) (fun i v => ∃ X, X < 256 ∧ v = nI X ∧ ∀ s, (X.testBit s = true ↔ s < i ∧ ∃ r, hlN J C (s :: r))) S (fun v => stI (setA uC 165 G) 165 256 (nI C) v (fun u1 => if v = 0 then fX8_findStarts_b115 k4 u1 (nI lg) (nI C) else (cl1 (fJ6_bitCount_0f7a4 (nI C)) (fun x2 => nmI (jmax (nI lg) x2) (fun x3 => fX8_findStarts_b115 k4 u1 x3 (nI C)))))) (by
      intro m v hI
      show fX8_findStarts_l19b k4 (fX8_findStarts_l19 k4 (setA uC 165 G) (nI lg) (nI C) m) (setA uC 165 G) (nI lg) (nI C) v (nI S) = _
      unfold fX8_findStarts_l19b
      rw [gZ_setA, hz, if_pos (nI_le (Nat.le_refl _) (by omega))]) (by
      intro m i v hi hI
      obtain ⟨X, hX, hv, hX2⟩ := hI
      subst hv
      show ∃ v', _ ∧ fX8_findStarts_l19b k4 (fX8_findStarts_l19 k4 (setA uC 165 G) (nI lg) (nI C) m) (setA uC 165 G) (nI lg) (nI C) (nI X) (nI i) = fX8_findStarts_l19 k4 (setA uC 165 G) (nI lg) (nI C) m v' (nI (i + 1))
      unfold fX8_findStarts_l19b fX8_findStarts_b61
      rw [gZ_setA, hz, if_neg (nI_ge hi (by omega)), (rm_256 C (by omega) i (by omega)).1, nmI_s]
      have hb66 : ∀ s0 : Bool, (C.testBit i = true → (s0 = true ↔ ∃ r, hlN J C (i :: r))) → ∃ v', (∃ X, X < 256 ∧ v' = nI X ∧ ∀ s, (X.testBit s = true ↔ s < i + 1 ∧ ∃ r, hlN J C (s :: r))) ∧ fX8_findStarts_b66 k4 (fX8_findStarts_l19 k4 (setA uC 165 G) (nI lg) (nI C) m) (setA uC 165 G) (nI lg) (nI C) (nI X) (nI i) (if s0 then 1 else 0) = fX8_findStarts_l19 k4 (setA uC 165 G) (nI lg) (nI C) m v' (nI (i + 1)) := by
        intro s0 hs0
        unfold fX8_findStarts_b66 fX8_findStarts_b89
        rw [isIn_B (nI C) (show i < 32 by omega), cl1_s, bitB, bB_nI (by omega), bitB, nI_1]
        have stay : ¬ (∃ r, hlN J C (i :: r)) → ∃ v', (∃ X, X < 256 ∧ v' = nI X ∧ ∀ s, (X.testBit s = true ↔ s < i + 1 ∧ ∃ r, hlN J C (s :: r))) ∧ fX8_findStarts_l19 k4 (setA uC 165 G) (nI lg) (nI C) m (nI X) (nI (i + 1)) = fX8_findStarts_l19 k4 (setA uC 165 G) (nI lg) (nI C) m v' (nI (i + 1)) := by
          intro hn
          refine ⟨nI X, ⟨X, hX, rfl, fun s => (hX2 s).trans ⟨fun h => ⟨by omega, h.2⟩, fun h => ⟨?_, h.2⟩⟩⟩, rfl⟩
          by_cases q : s = i
          · subst q; exact absurd h.2 hn
          · omega
        cases hc : C.testBit i
        · simp only [Bool.false_eq_true, ↓reduceIte]
          exact stay (fun ⟨r, h1, _⟩ => by rw [hc] at h1; exact absurd h1 (by decide))
        · simp only [↓reduceIte]
          have hs0' := hs0 hc
          cases s0
          · simp only [Bool.false_eq_true, ↓reduceIte]
            exact stay (fun h => absurd (hs0'.mpr h) (by decide))
          · simp only [↓reduceIte]
            rw [ad_256 X hX i (by omega), nmI_s]
            refine ⟨nI (adN X i), ⟨adN X i, ad_lt (S := 8) hX (by omega), rfl, fun s => ?_⟩, rfl⟩
            rw [ad_bit, Bool.or_eq_true, hX2 s, decide_eq_true_iff]
            constructor
            · rintro (h | rfl)
              · exact ⟨by omega, h.2⟩
              · exact ⟨by omega, hs0'.mp rfl⟩
            · rintro ⟨h1, h2⟩
              by_cases w : i = s
              · exact Or.inr w
              · exact Or.inl ⟨by omega, h2⟩
      have hrm : rmN C i < 256 := Nat.lt_of_le_of_lt (rm_le C i) (by omega)
      by_cases z : rmN C i = 0
      · rw [if_pos (by rw [z]; decide)]
        exact hb66 true (fun hc => ⟨fun _ => hl_cons.mpr ⟨hc, Or.inl z⟩, fun _ => rfl⟩)
      · rw [if_neg (fun y => z ((nI_zero (by omega)).mp y))]
        obtain ⟨f, hf, hf1, hf2⟩ := hF i hi
        rw [ldI_s (by omega) (by decide), gA_n (j := 164) uC G (by decide), hf1, ldI_s hrm (by decide), gA_s]
        by_cases hc : C.testBit i = true
        · obtain ⟨Y, hY, hY1, hY2⟩ := g2 (rmN C i) (rm_lt hc)
          rw [hY1, nI_and f Y (by omega) (by omega)]
          have hiff : (∃ r, hlN J C (i :: r)) ↔ ¬ f &&& Y = 0 := by
            rw [hl_cons, and_zero hf]
            constructor
            · rintro ⟨_, h | ⟨t, r, h1, h2⟩⟩
              · exact absurd h z
              · have ht : (rmN C i).testBit t = true := h2.1
                rw [rm_bit, Bool.and_eq_true] at ht
                have hti : ¬ t = i := by
                  intro q
                  subst q
                  rw [decide_eq_true rfl] at ht
                  exact absurd ht.2 (by decide)
                have htS : t < S := bitS hC ht.1
                exact ⟨t, by omega, (hf2 t).mpr ⟨htS, hti, h1⟩, (hY2 t).mpr ⟨r, h2⟩⟩
            · rintro ⟨t, _, h1, h2⟩
              obtain ⟨r, hr⟩ := (hY2 t).mp h2
              exact ⟨hc, Or.inr ⟨t, r, ((hf2 t).mp h1).2.2, hr⟩⟩
          have hfY : f &&& Y < 2 ^ 31 := Nat.lt_of_le_of_lt Nat.and_le_left (by omega)
          by_cases w : f &&& Y = 0
          · rw [if_pos (by rw [w]; decide)]
            exact hb66 false (fun _ => ⟨fun h => absurd h (by decide), fun h => absurd w (hiff.mp h)⟩)
          · rw [if_neg (fun y => w ((nI_zero hfY).mp y))]
            exact hb66 true (fun _ => ⟨fun _ => hiff.mpr w, fun _ => rfl⟩)
        · by_cases w : nI f &&& G (rmN C i) = 0
          · rw [if_pos w]
            exact hb66 false (fun h => absurd h hc)
          · rw [if_neg w]
            exact hb66 true (fun h => absurd h hc)) NF 0 0 (by omega) (by unfold NF; omega) ⟨0, by decide, rfl, fun s => by
      rw [Nat.zero_testBit]
      exact ⟨fun h => absurd h (by decide), fun h => by omega⟩⟩
    have e' : fX8_findStarts_l19 k4 (setA uC 165 G) (nI lg) (nI C) NF 0 0 = _ := e
    rw [e', stI_s (by omega) (by decide), setA_setA, gA_s, hv]
    have hst : ∀ C', C' < C + 1 → StN J (upd G C (nI X)) C' := by
      intro C' hC'
      by_cases q : C' = C
      · subst q
        refine ⟨X, hX, upd_s _ _ _, fun s => (hX2 s).trans ⟨fun h => h.2, fun h => ⟨?_, h⟩⟩⟩
        obtain ⟨r, h1, _⟩ := h
        exact bitS hC h1
      · obtain ⟨Y, hY, hY1, hY2⟩ := g2 C' (by omega)
        exact ⟨Y, hY, by rw [upd_n _ _ q]; exact hY1, hY2⟩
    have h00 : upd G C (nI X) 0 = 0 := by rw [upd_n _ _ (by omega)]; exact g4
    unfold fX8_findStarts_b115
    by_cases z : X = 0
    · rw [if_pos (by rw [z]; decide), nI_1]
      refine ⟨(_, nI lg), ⟨lg, rfl, g1, hst, ⟨fun C' hC' l hl => ?_, ?_⟩, h00, by omega⟩, rfl⟩
      · by_cases q : C' = C
        · subst q
          cases l with
          | nil => exact Nat.zero_le _
          | cons s r =>
            have := (hX2 s).mpr ⟨bitS hC hl.1, r, hl⟩
            rw [z, Nat.zero_testBit] at this
            exact absurd this (by decide)
        · exact g3.1 C' (by omega) l hl
      · obtain ⟨C', h1, h2, h3⟩ := g3.2
        exact ⟨C', by omega, by omega, h3⟩
    · rw [if_neg (fun y => z ((nI_zero (by omega)).mp y)), bitCount_n (by omega), cl1_s, nmI_s, nI_1]
      have hlen : ∀ l, hlN J C l → pcn 16 C = l.length := fun l hl => hl_len l C (by omega) hl
      have hpc : pcn 16 C ≤ 8 := (pc_256 C (by omega)).1
      have hjm : jmax (nI lg) (nI (pcn 16 C)) = nI (if lg < pcn 16 C then pcn 16 C else lg) := by
        unfold jmax
        by_cases q : lg < pcn 16 C
        · rw [if_pos (nI_lt q (by omega)), if_pos q]
        · rw [if_neg (nI_nlt (by omega) (by omega)), if_neg q]
      rw [hjm]
      have hex : ∃ l, hlN J C l := by
        have : ∃ t, X.testBit t = true := by
          obtain ⟨t, _, h1, _⟩ := (and_zero (b := X) hX).mp (by rw [Nat.and_self]; exact z)
          exact ⟨t, h1⟩
        obtain ⟨t, ht⟩ := this
        obtain ⟨_, r, hr⟩ := (hX2 t).mp ht
        exact ⟨t :: r, hr⟩
      refine ⟨(_, nI (if lg < pcn 16 C then pcn 16 C else lg)), ⟨_, rfl, ?_, hst, ⟨fun C' hC' l hl => ?_, ?_⟩, h00, by omega⟩, rfl⟩
      · by_cases q : lg < pcn 16 C
        · rw [if_pos q]; exact hpc
        · rw [if_neg q]; exact g1
      · by_cases q : C' = C
        · subst q
          rw [← hlen l hl]
          by_cases q : lg < pcn 16 C'
          · rw [if_pos q]; exact Nat.le_refl _
          · rw [if_neg q]; omega
        · have := g3.1 C' (by omega) l hl
          by_cases q : lg < pcn 16 C
          · rw [if_pos q]; omega
          · rw [if_neg q]; exact this
      · by_cases q : lg < pcn 16 C
        · rw [if_pos q]
          obtain ⟨l, hl⟩ := hex
          exact ⟨C, by omega, by omega, l, hl, (hlen l hl).symm⟩
        · rw [if_neg q]
          obtain ⟨C', h1, h2, h3⟩ := g3.2
          exact ⟨C', by omega, by omega, h3⟩) NF 1 (gA uC 165, 0) (Nat.pow_pos (by decide)) (by unfold NF; omega) ⟨0, rfl, Nat.zero_le _, fun C' hC' => by
    rw [show C' = 0 by omega]
    exact st_0 J h0, ⟨fun C' hC' l hl => by
      rw [show C' = 0 by omega] at hl
      cases l with
      | nil => exact Nat.zero_le _
      | cons s r =>
        have := hl.1
        rw [Nat.zero_testBit] at this
        exact absurd this (by decide), 0, by omega, by omega, [], rfl, rfl⟩, h0, Nat.le_refl _⟩
  dsimp only at g0 g2 g4
  subst g0
  have e' : fX8_findStarts_l4 NF (setA uC 165 (gA uC 165)) 0 1 = some (nI lg, setA uC 165 G) := e
  rw [setA_self uC 165] at e'
  exact ⟨G, lg, e', g1, g2, g3, g4⟩
end RowC
