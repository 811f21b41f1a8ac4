/-! records -/
def rcN (M : Nat → Nat → Bool) (S a : Nat) : Nat → Nat → Prop
  | 0, b => a = b
  | n + 1, b => rcN M S a n b ∨ ∃ c, c < S ∧ b < S ∧ rcN M S a n c ∧ M c b = true
def ccN (M : Nat → Nat → Bool) (S a b : Nat) : Prop := ∃ n, rcN M S a n b
section CC
variable {M : Nat → Nat → Bool} {S : Nat}
theorem cc_rf (M : Nat → Nat → Bool) (S a : Nat) : ccN M S a a := ⟨0, rfl⟩
theorem cc_st {a c b : Nat} (h : ccN M S a c) (hc : c < S) (hb : b < S) (hm : M c b = true) : ccN M S a b := by
  obtain ⟨n, hn⟩ := h
  exact ⟨n + 1, Or.inr ⟨c, hc, hb, hn, hm⟩⟩
theorem cc_tr {a b c : Nat} (h : ccN M S a b) (k : ccN M S b c) : ccN M S a c := by
  obtain ⟨n, hn⟩ := k
  revert c
  induction n with
  | zero => intro c hn; have e : b = c := hn; subst e; exact h
  | succ n ih =>
    intro c hn
    rcases hn with hn | ⟨d, hd, hc, hn, hm⟩
    · exact ih hn
    · exact cc_st (ih hn) hd hc hm
theorem cc_sy (hS : ∀ a b, a < S → b < S → M a b = M b a) {a b : Nat} (h : ccN M S a b) : ccN M S b a := by
  obtain ⟨n, hn⟩ := h
  revert b
  induction n with
  | zero => intro b hn; have e : a = b := hn; subst e; exact cc_rf M S a
  | succ n ih =>
    intro b hn
    rcases hn with hn | ⟨d, hd, hc, hn, hm⟩
    · exact ih hn
    · exact cc_tr (cc_st (cc_rf M S b) hc hd (by rw [hS b d hc hd]; exact hm)) (ih hn)
theorem cc_in {P : Nat → Prop} {a b : Nat} (h : ccN M S a b) (ha : P a) (hcl : ∀ c d, c < S → d < S → P c → M c d = true → P d) : P b := by
  obtain ⟨n, hn⟩ := h
  revert b
  induction n with
  | zero => intro b hn; have e : a = b := hn; subst e; exact ha
  | succ n ih =>
    intro b hn
    rcases hn with hn | ⟨d, hd, hc, hn, hm⟩
    · exact ih hn
    · exact hcl d b hd hc (ih hn) hm
theorem cc_lt {a b : Nat} (h : ccN M S a b) (ha : a < S) : b < S := cc_in (P := fun i => i < S) h ha (fun _ _ _ hd _ _ => hd)
end CC
theorem cnt_le2 {P Q : Nat → Prop} [DecidablePred P] [DecidablePred Q] : ∀ n, (∀ i, i < n → P i → Q i) → cnt P n ≤ cnt Q n := by
  intro n
  induction n with
  | zero => intro _; exact Nat.le_refl 0
  | succ n ih =>
    intro h
    show cnt P n + (if P n then 1 else 0) ≤ cnt Q n + (if Q n then 1 else 0)
    have := ih (fun i hi => h i (by omega))
    by_cases p : P n
    · rw [if_pos p, if_pos (h n (by omega) p)]; omega
    · rw [if_neg p]; omega
theorem cnt_lt {P Q : Nat → Prop} [DecidablePred P] [DecidablePred Q] : ∀ n, (∀ i, i < n → P i → Q i) → ∀ i, i < n → ¬ P i → Q i → cnt P n < cnt Q n := by
  intro n
  induction n with
  | zero => intro _ i hi; omega
  | succ n ih =>
    intro h i hi h1 h2
    show cnt P n + (if P n then 1 else 0) < cnt Q n + (if Q n then 1 else 0)
    by_cases e : i = n
    · subst e
      rw [if_neg h1, if_pos h2]
      have := cnt_le2 (P := P) (Q := Q) i (fun j hj => h j (by omega))
      omega
    · have := ih (fun j hj => h j (by omega)) i (by omega) h1 h2
      by_cases p : P n
      · rw [if_pos p, if_pos (h n (by omega) p)]; omega
      · rw [if_neg p]; omega
theorem cnt_full {P : Nat → Prop} [DecidablePred P] : ∀ n, n ≤ cnt P n → ∀ i, i < n → P i := by
  intro n
  induction n with
  | zero => intro _ i hi; omega
  | succ n ih =>
    intro h i hi
    have h' : n + 1 ≤ cnt P n + (if P n then 1 else 0) := h
    have hle := cnt_le P n
    by_cases p : P n
    · rw [if_pos p] at h'
      by_cases e : i = n
      · subst e; exact p
      · exact ih (by omega) i (by omega)
    · rw [if_neg p] at h'; omega
theorem cnt_pos {P : Nat → Prop} [DecidablePred P] : ∀ n i, i < n → P i → 1 ≤ cnt P n := by
  intro n
  induction n with
  | zero => intro i hi; omega
  | succ n ih =>
    intro i hi p
    show 1 ≤ cnt P n + (if P n then 1 else 0)
    by_cases e : i = n
    · subst e; rw [if_pos p]; omega
    · have := ih i (by omega) p
      omega
def OmN (u : St) (a b : Nat) : Bool := !(decide (((gA u 54 a ^^^ gA u 54 b) &&& gA u 55 a) &&& gA u 55 b = 0))
def MmN (u : St) (a b : Nat) : Bool := !(OmN u a b) && !(decide (nI (pcn 16 (gA u 55 a &&& gA u 55 b).toNatClampNeg) < gZ u 51))
theorem Om_sy (u : St) (a b : Nat) : OmN u a b = OmN u b a := by
  unfold OmN
  rw [Int32.xor_comm (gA u 54 a), Int32.and_assoc, Int32.and_assoc, Int32.and_comm (gA u 55 a)]
theorem Mm_sy (u : St) (a b : Nat) : MmN u a b = MmN u b a := by
  unfold MmN
  rw [Om_sy u a b, Int32.and_comm (gA u 55 a)]
theorem odds_M {u : St} {a b : Nat} (ha : a < 10) (hb : b < 10) : fX12_areAtOdds u (nI a) (nI b) = some (if OmN u a b then 1 else 0) := by
  unfold fX12_areAtOdds OmN
  rw [ldI_s ha (by decide), ldI_s hb (by decide), ldI_s ha (by decide), ldI_s hb (by decide)]
  by_cases z : ((gA u 54 a ^^^ gA u 54 b) &&& gA u 55 a) &&& gA u 55 b = 0
  · rw [if_pos z, decide_eq_true z]; rfl
  · rw [if_neg z, decide_eq_false z]; rfl
theorem match_M {u : St} {a b : Nat} (ha : a < 10) (hb : b < 10) (hka : InR (gA u 55 a) 1024) (hkb : InR (gA u 55 b) 1024) : fX12_match u (nI a) (nI b) = some (if MmN u a b then 1 else 0) := by
  unfold fX12_match MmN
  rw [odds_M ha hb, cl1_s, bitB]
  cases OmN u a b
  · simp only [Bool.false_eq_true, ↓reduceIte]
    rw [ldI_s ha (by decide), ldI_s hb (by decide)]
    obtain ⟨n, hn, e⟩ := inr_and (by decide) hka (inr_0 (by decide) hkb)
    rw [e, bitsOf_n (by omega), cl1_s, nI_clamp (by omega)]
    by_cases z : nI (pcn 16 n) < gZ u 51
    · rw [if_pos z, decide_eq_true z]; rfl
    · rw [if_neg z, decide_eq_false z]; rfl
  · rfl
section RecC
variable {uC uM : St} {S : Nat}
theorem odds_C (hk : ∀ i, i < S → gA uC 122 i = gA uM 54 i ∧ gA uC 123 i = gA uM 55 i ∧ InR (gA uM 54 i) 1024 ∧ InR (gA uM 55 i) 1024) (hS : S ≤ 10) {a b : Nat} (ha : a < S) (hb : b < S) : fX6_atOdds uC (nI a) (nI b) = some (if OmN uM a b then 1 else 0) := by
  unfold fX6_atOdds OmN
  rw [ldI_s (by omega) (by decide), ldI_s (by omega) (by decide), ldI_s (by omega) (by decide), ldI_s (by omega) (by decide), (hk a ha).1, (hk b hb).1, (hk a ha).2.1, (hk b hb).2.1]
  by_cases z : ((gA uM 54 a ^^^ gA uM 54 b) &&& gA uM 55 a) &&& gA uM 55 b = 0
  · rw [if_pos z, decide_eq_true z]; rfl
  · rw [if_neg z, decide_eq_false z]; rfl
theorem match_C (hk : ∀ i, i < S → gA uC 122 i = gA uM 54 i ∧ gA uC 123 i = gA uM 55 i ∧ InR (gA uM 54 i) 1024 ∧ InR (gA uM 55 i) 1024) (hS : S ≤ 10) (he : gZ uC 121 = gZ uM 51) {a b : Nat} (ha : a < S) (hb : b < S) : fX6_match uC (nI a) (nI b) = some (if MmN uM a b then 1 else 0) := by
  unfold fX6_match MmN
  rw [odds_C hk hS ha hb, cl1_s, bitB]
  cases OmN uM a b
  · simp only [Bool.false_eq_true, ↓reduceIte]
    rw [ldI_s (by omega) (by decide), ldI_s (by omega) (by decide), (hk a ha).2.1, (hk b hb).2.1]
    obtain ⟨n, hn, e⟩ := inr_and (by decide) (hk a ha).2.2.2 (inr_0 (by decide) (hk b hb).2.2.2)
    rw [e, bitCount_n (by omega), cl1_s, nI_clamp (by omega), he]
    by_cases z : nI (pcn 16 n) < gZ uM 51
    · rw [if_pos z, decide_eq_true z]; rfl
    · rw [if_neg z, decide_eq_false z]; rfl
  · rfl
theorem mone_loop {M : Nat → Nat → Bool} (hz : gZ uC 120 = nI S) (hS : S ≤ 10) (hM : ∀ a b, a < S → b < S → fX6_match uC (nI a) (nI b) = some (if M a b then 1 else 0)) {x : Int32} {o : Nat} (ho : o < S) : ∀ (m c : Nat), c ≤ S → S < m + c → ∃ b : Bool, fX6_matchesOneOf_l2 uC x (nI o) m (nI c) = some (if b then 1 else 0) ∧ (b = true ↔ ∃ d, c ≤ d ∧ d < S ∧ bB x d = true ∧ M d o = true) := by
  intro m
  induction m with
  | zero => intro c h1 h2; omega
  | succ m ih =>
    intro c h1 h2
    show ∃ b : Bool, fX6_matchesOneOf_l2b uC (fX6_matchesOneOf_l2 uC x (nI o) m) x (nI o) (nI c) = some (if b then 1 else 0) ∧ _
    unfold fX6_matchesOneOf_l2b fX6_matchesOneOf_b29
    rw [hz]
    by_cases hc : c = S
    · subst hc
      rw [if_pos (nI_le (Nat.le_refl _) (by omega))]
      exact ⟨false, rfl, ⟨fun h => absurd h (by decide), fun ⟨d, h1, h2, _⟩ => by omega⟩⟩
    · rw [if_neg (nI_ge (by omega) (by omega)), isIn_B x (show c < 32 by omega), cl1_s, bitB, nI_1]
      obtain ⟨b, e, hb⟩ := ih (c + 1) (by omega) (by omega)
      cases hx : bB x c
      · simp only [Bool.false_eq_true, ↓reduceIte]
        refine ⟨b, e, hb.trans ⟨fun ⟨d, h1, h2⟩ => ⟨d, by omega, h2⟩, fun ⟨d, h1, h2, h3, h4⟩ => ⟨d, ?_, h2, h3, h4⟩⟩⟩
        by_cases q : d = c
        · subst q; rw [hx] at h3; exact absurd h3 (by decide)
        · omega
      · simp only [↓reduceIte]
        rw [hM c o (by omega) ho, cl1_s, bitB]
        cases hm : M c o
        · simp only [Bool.false_eq_true, ↓reduceIte]
          refine ⟨b, e, hb.trans ⟨fun ⟨d, h1, h2⟩ => ⟨d, by omega, h2⟩, fun ⟨d, h1, h2, h3, h4⟩ => ⟨d, ?_, h2, h3, h4⟩⟩⟩
          by_cases q : d = c
          · subst q; rw [hm] at h4; exact absurd h4 (by decide)
          · omega
        · simp only [↓reduceIte]
          exact ⟨true, rfl, ⟨fun _ => ⟨c, Nat.le_refl c, by omega, hx, hm⟩, fun _ => rfl⟩⟩
theorem thing_round {M : Nat → Nat → Bool} (hz : gZ uC 120 = nI S) (hS : S ≤ 10) (hM : ∀ a b, a < S → b < S → fX6_match uC (nI a) (nI b) = some (if M a b then 1 else 0)) {x0 : Int32} {a : Nat} (hs0 : ∀ i, i < S → bB x0 i = true → ccN M S a i) (k6 : Int32 → Int32 → Option Int32) (r : Nat) : ∃ x : Int32, fX6_thingOf_l20 uC k6 (nI r) x0 NF x0 0 = (if x = x0 then some x else k6 x (nI (r + 1))) ∧ (∀ i, bB x0 i = true → bB x i = true) ∧ (∀ i, i < S → bB x i = true → ccN M S a i) ∧ (x = x0 ∨ ∃ i, i < S ∧ bB x0 i = false ∧ bB x i = true) ∧ ∀ o, o < S → ∀ c, c < S → bB x0 c = true → M c o = true → bB x o = true := by
  obtain ⟨x, hx, e⟩ := up (fX6_thingOf_l20 uC k6 (nI r) x0) (fun o x => (∀ i, bB x0 i = true → bB x i = true) ∧ (∀ i, i < S → bB x i = true → ccN M S a i) ∧ (x = x0 ∨ ∃ i, i < S ∧ bB x0 i = false ∧ bB x i = true) ∧ ∀ o', o' < o → ∀ c, c < S → bB x0 c = true → M c o' = true → bB x o' = true) S (fun x => if x = x0 then some x else k6 x (nI (r + 1))) (by
    intro m x hI
    show fX6_thingOf_l20b uC k6 (fX6_thingOf_l20 uC k6 (nI r) x0 m) x (nI r) x0 (nI S) = _
    unfold fX6_thingOf_l20b
    rw [hz, if_pos (nI_le (Nat.le_refl _) (by omega)), nI_1]) (by
    intro m o x ho hI
    obtain ⟨i1, i2, i3, i4⟩ := hI
    show ∃ x', _ ∧ fX6_thingOf_l20b uC k6 (fX6_thingOf_l20 uC k6 (nI r) x0 m) x (nI r) x0 (nI o) = fX6_thingOf_l20 uC k6 (nI r) x0 m x' (nI (o + 1))
    unfold fX6_thingOf_l20b fX6_thingOf_b55
    rw [hz, if_neg (nI_ge ho (by omega)), isIn_B x (show o < 32 by omega), cl1_s, bitB, nI_1]
    cases hxo : bB x o
    · simp only [Bool.false_eq_true, ↓reduceIte]
      obtain ⟨b, e, hb⟩ := mone_loop hz hS hM (x := x) ho NF 0 (by omega) (by unfold NF; omega)
      unfold fX6_matchesOneOf
      have e' : fX6_matchesOneOf_l2 uC x (nI o) NF 0 = some (if b then 1 else 0) := e
      rw [e', cl1_s, bitB]
      cases b
      · simp only [Bool.false_eq_true, ↓reduceIte]
        refine ⟨x, ⟨i1, i2, i3, fun o' ho' c hc h1 h2 => ?_⟩, rfl⟩
        by_cases q : o' = o
        · subst q
          exact absurd (hb.mpr ⟨c, Nat.zero_le _, hc, i1 c h1, h2⟩) (by decide)
        · exact i4 o' (by omega) c hc h1 h2
      · simp only [↓reduceIte]
        rw [nmI_s]
        obtain ⟨d, _, hd, hd1, hd2⟩ := hb.mp rfl
        have hbit : ∀ i, bB (x ||| (1 : Int32) <<< (nI o &&& 31)) i = (bB x i || decide (o = i)) := fun i => by
          rw [bB_or, bB_sh (show o < 32 by omega)]
        refine ⟨_, ⟨fun i hi => ?_, fun i hi h1 => ?_, Or.inr ⟨o, ho, ?_, ?_⟩, fun o' ho' c hc h1 h2 => ?_⟩, rfl⟩
        · rw [hbit, i1 i hi]; rfl
        · rw [hbit] at h1
          by_cases q : o = i
          · subst q
            exact cc_st (i2 d hd hd1) hd ho hd2
          · rw [decide_eq_false q, Bool.or_false] at h1
            exact i2 i hi h1
        · cases h0 : bB x0 o
          · rfl
          · have := i1 o h0
            rw [hxo] at this
            exact absurd this (by decide)
        · rw [hbit, decide_eq_true rfl, Bool.or_true]
        · rw [hbit]
          by_cases q : o' = o
          · subst q; rw [decide_eq_true rfl, Bool.or_true]
          · rw [i4 o' (by omega) c hc h1 h2]; rfl
    · simp only [↓reduceIte]
      refine ⟨x, ⟨i1, i2, i3, fun o' ho' c hc h1 h2 => ?_⟩, rfl⟩
      by_cases q : o' = o
      · subst q; exact hxo
      · exact i4 o' (by omega) c hc h1 h2) NF 0 x0 (by omega) (by unfold NF; omega) ⟨fun _ h => h, hs0, Or.inl rfl, fun o' ho' => by omega⟩
  exact ⟨x, e, hx⟩
theorem thing_ok {M : Nat → Nat → Bool} (hz : gZ uC 120 = nI S) (hS : S ≤ 10) (hM : ∀ a b, a < S → b < S → fX6_match uC (nI a) (nI b) = some (if M a b then 1 else 0)) {a : Nat} (ha : a < S) : ∃ x : Int32, fX6_thingOf uC (nI a) = some x ∧ ∀ b, b < S → (bB x b = true ↔ ccN M S a b) := by
  have loop : ∀ (m r : Nat) (x : Int32), 1 ≤ r → r ≤ S → S < m + r → bB x a = true → (∀ i, i < S → bB x i = true → ccN M S a i) → r ≤ cnt (fun i => bB x i = true) S → ∃ x' : Int32, fX6_thingOf_l6 uC m x (nI r) = some x' ∧ bB x' a = true ∧ (∀ i, i < S → bB x' i = true → ccN M S a i) ∧ ∀ c o, c < S → o < S → bB x' c = true → M c o = true → bB x' o = true := by
    intro m
    induction m with
    | zero => intro r x h0 h1 h2; omega
    | succ m ih =>
      intro r x h0 h1 h2 h3 h4 h5
      show ∃ x' : Int32, fX6_thingOf_l6b uC (fX6_thingOf_l6 uC m) x (nI r) = some x' ∧ _
      unfold fX6_thingOf_l6b
      rw [hz]
      by_cases hr : r = S
      · subst hr
        rw [if_pos (nI_le (Nat.le_refl _) (by omega))]
        exact ⟨x, rfl, h3, h4, fun c o hc ho _ _ => cnt_full r h5 o ho⟩
      · rw [if_neg (nI_ge (by omega) (by omega))]
        obtain ⟨x', e, g1, g2, g3, g4⟩ := thing_round hz hS hM h4 (fX6_thingOf_l6 uC m) r
        rw [e]
        by_cases q : x' = x
        · rw [if_pos q]
          subst q
          exact ⟨x', rfl, h3, h4, fun c o hc ho w1 w2 => g4 o ho c hc w1 w2⟩
        · rw [if_neg q]
          rcases g3 with g3 | ⟨i, hi, p1, p2⟩
          · exact absurd g3 q
          · have := cnt_lt (P := fun i => bB x i = true) (Q := fun i => bB x' i = true) S (fun j _ hj => g1 j hj) i hi (by rw [p1]; decide) p2
            exact ih (r + 1) x' (by omega) (by omega) (by omega) (g1 a h3) g2 (by omega)
  have hbit : ∀ i, bB ((1 : Int32) <<< (nI a &&& 31)) i = decide (a = i) := fun i => bB_sh (show a < 32 by omega) i
  obtain ⟨x, e, h1, h2, h3⟩ := loop NF 1 ((1 : Int32) <<< (nI a &&& 31)) (Nat.le_refl 1) (by omega) (by unfold NF; omega) (by rw [hbit, decide_eq_true rfl]) (fun i hi hb => by
    rw [hbit] at hb
    rw [of_decide_eq_true hb]
    exact cc_rf M S i) (cnt_pos S a ha (by rw [hbit, decide_eq_true rfl]))
  refine ⟨x, ?_, fun b hb => ⟨h2 b hb, fun h => cc_in (P := fun i => bB x i = true) h h1 (fun c d hc hd w1 w2 => h3 c d hc hd w1 w2)⟩⟩
  unfold fX6_thingOf
  rw [nmI_s]
  exact e
end RecC
