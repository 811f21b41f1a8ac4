theorem sm_updlt {f g : Nat → Nat} {i : Nat} (hlt : g i < f i) (he : ∀ j, j ≠ i → g j = f j) : ∀ n, i < n → sm g n < sm f n := by
  intro n
  induction n with
  | zero => intro h; omega
  | succ n ih =>
    intro h
    show sm g n + g n < sm f n + f n
    by_cases e : i = n
    · subst e
      have := sm_congr (f := g) (g := f) i (fun j hj => he j (by omega))
      omega
    · have := ih (by omega)
      have := he n (fun z => e z.symm)
      omega
theorem m56 (u : St) (f : Nat → Int32) : keepM u (setA u 56 f) := ⟨fun _ _ => rfl, fun k hk => by
  simp only [List.mem_cons, List.not_mem_nil, or_false] at hk
  rcases hk with rfl | rfl | rfl | rfl | rfl | rfl | rfl | rfl | rfl | rfl | rfl | rfl | rfl | rfl | rfl | rfl | rfl | rfl | rfl | rfl | rfl | rfl | rfl | rfl <;> rfl, rfl⟩
section RecM
variable {u : St} {S : Nat} {M : Nat → Nat → Bool}
theorem find_pass (hz : gZ u 53 = nI S) (hS : S ≤ 10) (hM : ∀ (F : Nat → Int32) a b, a < S → b < S → fX12_match (setA u 56 F) (nI a) (nI b) = some (if M a b then 1 else 0)) (hsy : ∀ a b, a < S → b < S → M a b = M b a) (k25 : St → Int32 → Option St) {F0 : Nat → Int32} {L0 : Nat → Nat} (hF0 : ∀ i, i < S → F0 i = nI (L0 i)) (h0 : ∀ i, i < S → L0 i ≤ i ∧ ccN M S i (L0 i)) : ∃ (F : Nat → Int32) (L : Nat → Nat) (more : Bool), fX12_findThings_l33 k25 NF (setA u 56 F0) 0 0 = k25 (setA u 56 F) (if more then 1 else 0) ∧ (∀ i, i < S → F i = nI (L i)) ∧ (∀ i, i < S → L i ≤ i ∧ ccN M S i (L i)) ∧ ((more = false ∧ ∀ a b, a < S → b < S → M a b = true → L a ≤ L b) ∨ (more = true ∧ sm L S < sm L0 S)) := by
  have hMS : ∀ i, i < S → ∀ L : Nat → Nat, (∀ i, i < S → L i ≤ i ∧ ccN M S i (L i)) → L i < S := fun i hi L h => by have := (h i hi).1; omega
  obtain ⟨⟨F, mo⟩, ⟨L, more, hmo, g1, g2, g3⟩, e⟩ := up (fun m (s : (Nat → Int32) × Int32) i => fX12_findThings_l33 k25 m (setA u 56 s.1) s.2 i) (fun a s => ∃ (L : Nat → Nat) (more : Bool), s.2 = (if more then 1 else 0) ∧ (∀ i, i < S → s.1 i = nI (L i)) ∧ (∀ i, i < S → L i ≤ i ∧ ccN M S i (L i)) ∧ ((more = false ∧ (∀ i, i < S → L i = L0 i) ∧ ∀ a' b, a' < a → b < S → M a' b = true → L0 a' ≤ L0 b) ∨ (more = true ∧ sm L S < sm L0 S))) S (fun s => k25 (setA u 56 s.1) s.2) (by
    intro m s hI
    show fX12_findThings_l33b k25 (fX12_findThings_l33 k25 m) (setA u 56 s.1) s.2 (nI S) = _
    unfold fX12_findThings_l33b
    rw [gZ_setA, hz, if_pos (nI_le (Nat.le_refl _) (by omega))]) (by
    intro m a s ha hI
    show ∃ s' : (Nat → Int32) × Int32, _ ∧ fX12_findThings_l33b k25 (fX12_findThings_l33 k25 m) (setA u 56 s.1) s.2 (nI a) = fX12_findThings_l33 k25 m (setA u 56 s'.1) s'.2 (nI (a + 1))
    unfold fX12_findThings_l33b
    rw [gZ_setA, hz, if_neg (nI_ge ha (by omega))]
    generalize hk2 : fX12_findThings_l33 k25 m = k33
    obtain ⟨s', ⟨L, more, g0, g1, g2, g3⟩, e⟩ := up (fun m (s : (Nat → Int32) × Int32) i => fX12_findThings_l43 k25 k33 (nI a) m (setA u 56 s.1) s.2 i) (fun c s => ∃ (L : Nat → Nat) (more : Bool), s.2 = (if more then 1 else 0) ∧ (∀ i, i < S → s.1 i = nI (L i)) ∧ (∀ i, i < S → L i ≤ i ∧ ccN M S i (L i)) ∧ ((more = false ∧ (∀ i, i < S → L i = L0 i) ∧ ∀ a' b, (a' < a ∨ a' = a ∧ b < c) → b < S → M a' b = true → L0 a' ≤ L0 b) ∨ (more = true ∧ sm L S < sm L0 S))) S (fun s => k33 (setA u 56 s.1) s.2 (nI (a + 1))) (by
      intro m s hI
      show fX12_findThings_l43b k25 k33 (fX12_findThings_l43 k25 k33 (nI a) m) (setA u 56 s.1) s.2 (nI a) (nI S) = _
      unfold fX12_findThings_l43b
      rw [gZ_setA, hz, if_pos (nI_le (Nat.le_refl _) (by omega)), nI_1]) (by
      intro m c s hc hI
      obtain ⟨F, mo⟩ := s
      obtain ⟨L, more, g0, g1, g2, g3⟩ := hI
      dsimp only at g0 g1
      subst g0
      show ∃ s' : (Nat → Int32) × Int32, _ ∧ fX12_findThings_l43b k25 k33 (fX12_findThings_l43 k25 k33 (nI a) m) (setA u 56 F) (if more then 1 else 0) (nI a) (nI c) = fX12_findThings_l43 k25 k33 (nI a) m (setA u 56 s'.1) s'.2 (nI (c + 1))
      unfold fX12_findThings_l43b fX12_findThings_b89
      have hLa := hMS a ha L g2
      have hLc := hMS c hc L g2
      rw [gZ_setA, hz, if_neg (nI_ge hc (by omega)), ldI_s (by omega) (by decide), gA_s, ldI_s (by omega) (by decide), g1 c hc, g1 a ha, nI_1]
      have stay : (M a c = true → L a ≤ L c) → ∃ s' : (Nat → Int32) × Int32, (∃ (L : Nat → Nat) (more : Bool), s'.2 = (if more then 1 else 0) ∧ (∀ i, i < S → s'.1 i = nI (L i)) ∧ (∀ i, i < S → L i ≤ i ∧ ccN M S i (L i)) ∧ ((more = false ∧ (∀ i, i < S → L i = L0 i) ∧ ∀ a' b, (a' < a ∨ a' = a ∧ b < c + 1) → b < S → M a' b = true → L0 a' ≤ L0 b) ∨ (more = true ∧ sm L S < sm L0 S))) ∧ fX12_findThings_l43 k25 k33 (nI a) m (setA u 56 F) (if more then 1 else 0) (nI (c + 1)) = fX12_findThings_l43 k25 k33 (nI a) m (setA u 56 s'.1) s'.2 (nI (c + 1)) := by
        intro hst
        refine ⟨(F, if more then 1 else 0), ⟨L, more, rfl, g1, g2, ?_⟩, rfl⟩
        rcases g3 with ⟨w1, w2, w3⟩ | w
        · refine Or.inl ⟨w1, w2, fun a' b h1 h2 h3 => ?_⟩
          by_cases q : a' = a ∧ b = c
          · obtain ⟨rfl, rfl⟩ := q
            rw [← w2 a' ha, ← w2 b hc]
            exact hst h3
          · exact w3 a' b (by omega) h2 h3
        · exact Or.inr w
      by_cases z : L a ≤ L c
      · rw [if_pos (nI_le z (by omega))]
        exact stay (fun _ => z)
      · rw [if_neg (nI_ge (by omega) (by omega)), hM F a c ha hc, cl1_s, bitB]
        cases hm : M a c
        · simp only [Bool.false_eq_true, ↓reduceIte]
          exact stay (fun y => by rw [hm] at y; exact absurd y (by decide))
        · simp only [↓reduceIte]
          rw [ldI_s (by omega) (by decide), g1 c hc, stI_s (by omega) (by decide), setA_setA, gA_s]
          refine ⟨(upd F a (nI (L c)), 1), ⟨fun i => if i = a then L c else L i, true, rfl, fun i hi => ?_, fun i hi => ?_, Or.inr ⟨rfl, ?_⟩⟩, rfl⟩
          · show upd F a (nI (L c)) i = nI (if i = a then L c else L i)
            by_cases q : i = a
            · subst q; rw [upd_s, if_pos rfl]
            · rw [upd_n _ _ q, if_neg q]; exact g1 i hi
          · dsimp only
            by_cases q : i = a
            · subst q
              rw [if_pos rfl]
              have := (g2 i hi).1
              exact ⟨by omega, cc_tr (cc_st (cc_rf M S i) hi hc hm) (g2 c hc).2⟩
            · rw [if_neg q]; exact g2 i hi
          · have h1 : sm (fun i => if i = a then L c else L i) S < sm L S := sm_updlt (i := a) (show (if a = a then L c else L a) < L a by rw [if_pos rfl]; omega) (fun j hj => if_neg hj) S ha
            have h2 : sm L S ≤ sm L0 S := by
              rcases g3 with ⟨_, w2, _⟩ | ⟨_, w⟩
              · exact sm_le S (fun i hi => by rw [w2 i hi]; exact Nat.le_refl _)
              · omega
            omega) NF 0 s (by omega) (by unfold NF; omega) (by
      obtain ⟨L, more, g0, g1, g2, g3⟩ := hI
      refine ⟨L, more, g0, g1, g2, ?_⟩
      rcases g3 with ⟨w1, w2, w3⟩ | w
      · exact Or.inl ⟨w1, w2, fun a' b h1 h2 h3 => w3 a' b (by omega) h2 h3⟩
      · exact Or.inr w)
    refine ⟨s', ⟨L, more, g0, g1, g2, ?_⟩, e⟩
    rcases g3 with ⟨w1, w2, w3⟩ | w
    · exact Or.inl ⟨w1, w2, fun a' b h1 h2 h3 => w3 a' b (by omega) h2 h3⟩
    · exact Or.inr w) NF 0 (F0, 0) (by omega) (by unfold NF; omega) ⟨L0, false, rfl, hF0, h0, Or.inl ⟨rfl, fun _ _ => rfl, fun a' b h1 => by omega⟩⟩
  dsimp only at hmo g1
  subst hmo
  refine ⟨F, L, more, e, g1, g2, ?_⟩
  rcases g3 with ⟨w1, w2, w3⟩ | w
  · exact Or.inl ⟨w1, fun a b ha hb hm => by rw [w2 a ha, w2 b hb]; exact w3 a b ha hb hm⟩
  · exact Or.inr w
theorem find_ok (hz : gZ u 53 = nI S) (hS : S ≤ 10) (hM : ∀ (F : Nat → Int32) a b, a < S → b < S → fX12_match (setA u 56 F) (nI a) (nI b) = some (if M a b then 1 else 0)) (hsy : ∀ a b, a < S → b < S → M a b = M b a) : ∃ (F : Nat → Int32) (L : Nat → Nat), fX12_findThings u = some (setA u 56 F) ∧ (∀ i, i < S → F i = nI (L i) ∧ L i ≤ i) ∧ (∀ i, i < S → ccN M S i (L i)) ∧ ∀ a b, a < S → b < S → (L a = L b ↔ ccN M S a b) := by
  have loop : ∀ (m : Nat) (F0 : Nat → Int32) (L0 : Nat → Nat), sm L0 S + 1 < m → (∀ i, i < S → F0 i = nI (L0 i)) → (∀ i, i < S → L0 i ≤ i ∧ ccN M S i (L0 i)) → ∃ (F : Nat → Int32) (L : Nat → Nat), fX12_findThings_l25 m (setA u 56 F0) 1 = some (setA u 56 F) ∧ (∀ i, i < S → F i = nI (L i)) ∧ (∀ i, i < S → L i ≤ i ∧ ccN M S i (L i)) ∧ ∀ a b, a < S → b < S → M a b = true → L a ≤ L b := by
    intro m
    induction m with
    | zero => intro F0 L0 h; omega
    | succ m ih =>
      intro F0 L0 h hF0 h0
      show ∃ (F : Nat → Int32) (L : Nat → Nat), fX12_findThings_l25b (fX12_findThings_l25 m) (setA u 56 F0) 1 = some (setA u 56 F) ∧ _
      unfold fX12_findThings_l25b
      rw [if_neg (by decide)]
      obtain ⟨F, L, more, e, g1, g2, g3⟩ := find_pass hz hS hM hsy (fX12_findThings_l25 m) hF0 h0
      rw [e]
      rcases g3 with ⟨rfl, w⟩ | ⟨rfl, w⟩
      · obtain ⟨k, rfl⟩ : ∃ k, m = k + 1 := ⟨m - 1, by omega⟩
        refine ⟨F, L, ?_, g1, g2, w⟩
        show fX12_findThings_l25b (fX12_findThings_l25 k) (setA u 56 F) 0 = _
        unfold fX12_findThings_l25b
        rw [if_pos rfl]
      · exact ih F L (by omega) g1 g2
  obtain ⟨F0, hF0, e0⟩ := up (fun m (F : Nat → Int32) i => fX12_findThings_l2 m (setA u 56 F) i) (fun i F => ∀ j, j < i → F j = nI j) S (fun F => fX12_findThings_l25 NF (setA u 56 F) 1) (by
    intro m F hI
    show fX12_findThings_l2b (fX12_findThings_l2 m) (setA u 56 F) (nI S) = _
    unfold fX12_findThings_l2b
    rw [gZ_setA, hz, if_pos (nI_le (Nat.le_refl _) (by omega))]) (by
    intro m i F hi hI
    show ∃ F', _ ∧ fX12_findThings_l2b (fX12_findThings_l2 m) (setA u 56 F) (nI i) = fX12_findThings_l2 m (setA u 56 F') (nI (i + 1))
    unfold fX12_findThings_l2b
    rw [gZ_setA, hz, if_neg (nI_ge hi (by omega)), stI_s (by omega) (by decide), setA_setA, gA_s, nI_1]
    refine ⟨_, fun j hj => ?_, rfl⟩
    by_cases q : j = i
    · subst q; rw [upd_s]
    · rw [upd_n _ _ q]; exact hI j (by omega)) NF 0 (gA u 56) (by omega) (by unfold NF; omega) (fun j hj => by omega)
  rw [show setA u 56 (gA u 56) = u from setA_self u 56] at e0
  have hb : sm (fun i => i) S ≤ 100 := by
    have : sm (fun i => i) S ≤ sm (fun _ => 10) S := sm_le S (fun i hi => by omega)
    rw [sm_const] at this
    omega
  obtain ⟨F, L, e1, g1, g2, g3⟩ := loop NF F0 (fun i => i) (by unfold NF; omega) hF0 (fun i _ => ⟨Nat.le_refl i, cc_rf M S i⟩)
  refine ⟨F, L, e0.trans e1, fun i hi => ⟨g1 i hi, (g2 i hi).1⟩, fun i hi => (g2 i hi).2, fun a b ha hb => ⟨fun h => ?_, fun h => ?_⟩⟩
  · have k1 := (g2 a ha).2
    have k2 := cc_sy hsy (g2 b hb).2
    rw [← h] at k2
    exact cc_tr k1 k2
  · have hP := cc_in (P := fun i => i < S ∧ L a = L i) h ⟨ha, rfl⟩ (fun c d hc hd w1 w2 => ⟨hd, by
      have h1 := g3 c d hc hd w2
      have h2 := g3 d c hd hc (by rw [hsy d c hd hc]; exact w2)
      have := w1.2
      omega⟩)
    exact hP.2
/-- two of a thing that are at odds -/
def cpN (S : Nat) (inn : Nat → Prop) (O : Nat → Nat → Bool) : Prop := ∃ a b, a < b ∧ b < S ∧ inn a ∧ inn b ∧ O a b = true
theorem copy_M {O : Nat → Nat → Bool} {L : Nat → Nat} (hz : gZ u 53 = nI S) (hS : S ≤ 10) (hO : ∀ a b, a < S → b < S → fX12_areAtOdds u (nI a) (nI b) = some (if O a b then 1 else 0)) (hF : ∀ i, i < S → gA u 56 i = nI (L i) ∧ L i ≤ i) {k : Nat} (hk : k < S) : ∃ r : Bool, fX12_hasCopy u (nI k) = some (if r then 1 else 0) ∧ (r = true ↔ cpN S (fun i => L i = k) O) := by
  have inner : ∀ (k2 : Int32 → Option Int32) (a m c : Nat), a < S → c ≤ S → S < m + c → ((∃ d, c ≤ d ∧ d < S ∧ L a = k ∧ L d = k ∧ O a d = true) ∧ fX12_hasCopy_l14 u k2 (nI k) (nI a) m (nI c) = some 1) ∨ ((∀ d, c ≤ d → d < S → ¬ (L a = k ∧ L d = k ∧ O a d = true)) ∧ fX12_hasCopy_l14 u k2 (nI k) (nI a) m (nI c) = k2 (nI (a + 1))) := by
    intro k2 a m
    induction m with
    | zero => intro c h1 h2 h3; omega
    | succ m ih =>
      intro c h1 h2 h3
      show (_ ∧ fX12_hasCopy_l14b u k2 (fX12_hasCopy_l14 u k2 (nI k) (nI a) m) (nI k) (nI a) (nI c) = some 1) ∨ (_ ∧ fX12_hasCopy_l14b u k2 (fX12_hasCopy_l14 u k2 (nI k) (nI a) m) (nI k) (nI a) (nI c) = k2 (nI (a + 1)))
      unfold fX12_hasCopy_l14b fX12_hasCopy_b53
      rw [hz]
      by_cases hc : c = S
      · subst hc
        rw [if_pos (nI_le (Nat.le_refl _) (by omega)), nI_1]
        exact Or.inr ⟨fun d h4 h5 => by omega, rfl⟩
      · rw [if_neg (nI_ge (by omega) (by omega)), nI_1 c]
        have hLa : L a < 2 ^ 31 := by have := (hF a h1).2; omega
        have hLc : L c < 2 ^ 31 := by have := (hF c (by omega)).2; omega
        rw [ldI_s (by omega) (by decide), (hF a h1).1]
        have skip : ¬ (L a = k ∧ L c = k ∧ O a c = true) → ((∃ d, c ≤ d ∧ d < S ∧ L a = k ∧ L d = k ∧ O a d = true) ∧ fX12_hasCopy_l14 u k2 (nI k) (nI a) m (nI (c + 1)) = some 1) ∨ ((∀ d, c ≤ d → d < S → ¬ (L a = k ∧ L d = k ∧ O a d = true)) ∧ fX12_hasCopy_l14 u k2 (nI k) (nI a) m (nI (c + 1)) = k2 (nI (a + 1))) := by
          intro hn
          rcases ih (c + 1) h1 (by omega) (by omega) with ⟨⟨d, d1, d2⟩, e⟩ | ⟨d1, e⟩
          · exact Or.inl ⟨⟨d, by omega, d2⟩, e⟩
          · refine Or.inr ⟨fun d h4 h5 => ?_, e⟩
            by_cases q : d = c
            · subst q; exact hn
            · exact d1 d (by omega) h5
        by_cases q1 : L a = k
        · rw [if_pos (by rw [q1]), ldI_s (by omega) (by decide), (hF c (by omega)).1]
          by_cases q2 : L c = k
          · rw [if_pos (by rw [q2]), hO a c h1 (by omega), cl1_s, bitB]
            cases hO2 : O a c
            · simp only [Bool.false_eq_true, ↓reduceIte]
              exact skip (fun y => by rw [hO2] at y; exact absurd y.2.2 (by decide))
            · exact Or.inl ⟨⟨c, Nat.le_refl c, by omega, q1, q2, hO2⟩, rfl⟩
          · rw [if_neg (nI_ne hLc (by omega) q2)]
            exact skip (fun y => q2 y.2.1)
        · rw [if_neg (nI_ne hLa (by omega) q1)]
          exact skip (fun y => q1 y.1)
  have outer : ∀ (m a : Nat), a ≤ S → S < m + a → ∃ r : Bool, fX12_hasCopy_l2 u (nI k) m (nI a) = some (if r then 1 else 0) ∧ (r = true ↔ ∃ c d, a ≤ c ∧ c < d ∧ d < S ∧ L c = k ∧ L d = k ∧ O c d = true) := by
    intro m
    induction m with
    | zero => intro a h1 h2; omega
    | succ m ih =>
      intro a h1 h2
      show ∃ r : Bool, fX12_hasCopy_l2b u (fX12_hasCopy_l2 u (nI k) m) (nI k) (nI a) = some (if r then 1 else 0) ∧ _
      unfold fX12_hasCopy_l2b
      rw [hz]
      by_cases hc : a = S
      · subst hc
        rw [if_pos (nI_le (Nat.le_refl _) (by omega))]
        exact ⟨false, rfl, ⟨fun h => absurd h (by decide), fun ⟨c, d, h3, h4, h5, _⟩ => by omega⟩⟩
      · rw [if_neg (nI_ge (by omega) (by omega)), nmI_s, nI_1]
        rcases inner (fX12_hasCopy_l2 u (nI k) m) a NF (a + 1) (by omega) (by omega) (by unfold NF; omega) with ⟨⟨d, d1, d2, d3⟩, e⟩ | ⟨d1, e⟩
        · rw [e]
          exact ⟨true, rfl, ⟨fun _ => ⟨a, d, Nat.le_refl a, by omega, d2, d3⟩, fun _ => rfl⟩⟩
        · rw [e]
          obtain ⟨r, e2, hr⟩ := ih (a + 1) (by omega) (by omega)
          refine ⟨r, e2, hr.trans ⟨fun ⟨c, d, h3, h4⟩ => ⟨c, d, by omega, h4⟩, fun ⟨c, d, h3, h4, h5, h6⟩ => ⟨c, d, ?_, h4, h5, h6⟩⟩⟩
          by_cases q : c = a
          · subst q; exact absurd h6 (d1 d (by omega) h5)
          · omega
  obtain ⟨r, e, hr⟩ := outer NF 0 (by omega) (by unfold NF; omega)
  refine ⟨r, e, hr.trans ⟨fun ⟨c, d, _, h⟩ => ⟨c, d, h⟩, fun ⟨c, d, h⟩ => ⟨c, d, Nat.zero_le _, h⟩⟩⟩
theorem copy_C {O : Nat → Nat → Bool} (hz : gZ u 120 = nI S) (hS : S ≤ 10) (hO : ∀ a b, a < S → b < S → fX6_atOdds u (nI a) (nI b) = some (if O a b then 1 else 0)) (x : Int32) : ∃ r : Bool, fX6_tellsCopy u x = some (if r then 1 else 0) ∧ (r = true ↔ cpN S (fun i => bB x i = true) O) := by
  have inner : ∀ (k2 : Int32 → Option Int32) (a m c : Nat), a < S → c ≤ S → S < m + c → ((∃ d, c ≤ d ∧ d < S ∧ bB x a = true ∧ bB x d = true ∧ O a d = true) ∧ fX6_tellsCopy_l14 u k2 x (nI a) m (nI c) = some 1) ∨ ((∀ d, c ≤ d → d < S → ¬ (bB x a = true ∧ bB x d = true ∧ O a d = true)) ∧ fX6_tellsCopy_l14 u k2 x (nI a) m (nI c) = k2 (nI (a + 1))) := by
    intro k2 a m
    induction m with
    | zero => intro c h1 h2 h3; omega
    | succ m ih =>
      intro c h1 h2 h3
      show (_ ∧ fX6_tellsCopy_l14b u k2 (fX6_tellsCopy_l14 u k2 x (nI a) m) x (nI a) (nI c) = some 1) ∨ (_ ∧ fX6_tellsCopy_l14b u k2 (fX6_tellsCopy_l14 u k2 x (nI a) m) x (nI a) (nI c) = k2 (nI (a + 1)))
      unfold fX6_tellsCopy_l14b fX6_tellsCopy_b49
      rw [hz]
      by_cases hc : c = S
      · subst hc
        rw [if_pos (nI_le (Nat.le_refl _) (by omega)), nI_1]
        exact Or.inr ⟨fun d h4 h5 => by omega, rfl⟩
      · rw [if_neg (nI_ge (by omega) (by omega)), nI_1 c, isIn_B x (show a < 32 by omega), cl1_s, bitB]
        have skip : ¬ (bB x a = true ∧ bB x c = true ∧ O a c = true) → ((∃ d, c ≤ d ∧ d < S ∧ bB x a = true ∧ bB x d = true ∧ O a d = true) ∧ fX6_tellsCopy_l14 u k2 x (nI a) m (nI (c + 1)) = some 1) ∨ ((∀ d, c ≤ d → d < S → ¬ (bB x a = true ∧ bB x d = true ∧ O a d = true)) ∧ fX6_tellsCopy_l14 u k2 x (nI a) m (nI (c + 1)) = k2 (nI (a + 1))) := by
          intro hn
          rcases ih (c + 1) h1 (by omega) (by omega) with ⟨⟨d, d1, d2⟩, e⟩ | ⟨d1, e⟩
          · exact Or.inl ⟨⟨d, by omega, d2⟩, e⟩
          · refine Or.inr ⟨fun d h4 h5 => ?_, e⟩
            by_cases q : d = c
            · subst q; exact hn
            · exact d1 d (by omega) h5
        by_cases q1 : bB x a = true
        · rw [if_pos q1, isIn_B x (show c < 32 by omega), cl1_s, bitB]
          by_cases q2 : bB x c = true
          · rw [if_pos q2, hO a c h1 (by omega), cl1_s, bitB]
            cases hO2 : O a c
            · simp only [Bool.false_eq_true, ↓reduceIte]
              exact skip (fun y => by rw [hO2] at y; exact absurd y.2.2 (by decide))
            · exact Or.inl ⟨⟨c, Nat.le_refl c, by omega, q1, q2, hO2⟩, rfl⟩
          · rw [if_neg q2]
            exact skip (fun y => q2 y.2.1)
        · rw [if_neg q1]
          exact skip (fun y => q1 y.1)
  have outer : ∀ (m a : Nat), a ≤ S → S < m + a → ∃ r : Bool, fX6_tellsCopy_l2 u x m (nI a) = some (if r then 1 else 0) ∧ (r = true ↔ ∃ c d, a ≤ c ∧ c < d ∧ d < S ∧ bB x c = true ∧ bB x d = true ∧ O c d = true) := by
    intro m
    induction m with
    | zero => intro a h1 h2; omega
    | succ m ih =>
      intro a h1 h2
      show ∃ r : Bool, fX6_tellsCopy_l2b u (fX6_tellsCopy_l2 u x m) x (nI a) = some (if r then 1 else 0) ∧ _
      unfold fX6_tellsCopy_l2b
      rw [hz]
      by_cases hc : a = S
      · subst hc
        rw [if_pos (nI_le (Nat.le_refl _) (by omega))]
        exact ⟨false, rfl, ⟨fun h => absurd h (by decide), fun ⟨c, d, h3, h4, h5, _⟩ => by omega⟩⟩
      · rw [if_neg (nI_ge (by omega) (by omega)), nmI_s, nI_1]
        rcases inner (fX6_tellsCopy_l2 u x m) a NF (a + 1) (by omega) (by omega) (by unfold NF; omega) with ⟨⟨d, d1, d2, d3⟩, e⟩ | ⟨d1, e⟩
        · rw [e]
          exact ⟨true, rfl, ⟨fun _ => ⟨a, d, Nat.le_refl a, by omega, d2, d3⟩, fun _ => rfl⟩⟩
        · rw [e]
          obtain ⟨r, e2, hr⟩ := ih (a + 1) (by omega) (by omega)
          refine ⟨r, e2, hr.trans ⟨fun ⟨c, d, h3, h4⟩ => ⟨c, d, by omega, h4⟩, fun ⟨c, d, h3, h4, h5, h6⟩ => ⟨c, d, ?_, h4, h5, h6⟩⟩⟩
          by_cases q : c = a
          · subst q; exact absurd h6 (d1 d (by omega) h5)
          · omega
  obtain ⟨r, e, hr⟩ := outer NF 0 (by omega) (by unfold NF; omega)
  refine ⟨r, e, hr.trans ⟨fun ⟨c, d, _, h⟩ => ⟨c, d, h⟩, fun ⟨c, d, h⟩ => ⟨c, d, Nat.zero_le _, h⟩⟩⟩
end RecM
/-- both sides' records -/
theorem rec_both {ts : List Tx} {uC uM : St} (h : Rel ts uC uM) : ∃ (S : Nat) (F : Nat → Int32) (L : Nat → Nat), S ≤ 10 ∧ gZ uC 120 = nI S ∧ gZ uM 53 = nI S ∧ fX12_findThings uM = some (setA uM 56 F) ∧ (∀ i, i < S → F i = nI (L i) ∧ L i ≤ i) ∧ (∀ i, i < S → ccN (MmN uM) S i (L i)) ∧ (∀ a b, a < S → b < S → (L a = L b ↔ ccN (MmN uM) S a b)) ∧ (∀ a b, a < S → b < S → fX6_match uC (nI a) (nI b) = some (if MmN uM a b then 1 else 0)) ∧ (∀ a b, a < S → b < S → fX6_atOdds uC (nI a) (nI b) = some (if OmN uM a b then 1 else 0)) ∧ (∀ a b, a < S → b < S → fX12_match (setA uM 56 F) (nI a) (nI b) = some (if MmN uM a b then 1 else 0)) ∧ (∀ a b, a < S → b < S → fX12_areAtOdds (setA uM 56 F) (nI a) (nI b) = some (if OmN uM a b then 1 else 0)) ∧ Rel ts uC (setA uM 56 F) := by
  obtain ⟨T, h1, h2, h3, h4, h5, h6, h7, h8, h9, ⟨hs1, hs2, S, hS, hc, hm, hk⟩, h11⟩ := id h
  have hM : ∀ (F : Nat → Int32) a b, a < S → b < S → fX12_match (setA uM 56 F) (nI a) (nI b) = some (if MmN uM a b then 1 else 0) := fun F a b ha hb => match_M (u := setA uM 56 F) (by omega) (by omega) (hk a ha).2.2.2 (hk b hb).2.2.2
  obtain ⟨F, L, e, g1, g0, g2⟩ := find_ok hm hS hM (fun a b _ _ => Mm_sy uM a b)
  refine ⟨S, F, L, hS, hc, hm, e, g1, g0, g2, fun a b ha hb => match_C hk hS hs1 ha hb, fun a b ha hb => odds_C hk hS ha hb, hM F, fun a b ha hb => odds_M (u := setA uM 56 F) (by omega) (by omega), Rel_keep h (keepC_rf uC) (m56 uM F)⟩
theorem T_same {ts : List Tx} {uC uM : St} (h : Rel ts uC uM) (a0 : Int32) (a1 : Int32) (a2 : Int32) : ∃ (r : Int32) (uM' : St), fX11_same uC a0 a1 a2 = some r ∧ fX12_same uM a0 a1 a2 = some (r, uM') ∧ Rel ts uC uM' := by
  obtain ⟨S, F, L, hS, hc, hm, e, g1, g0, g2, q1, q2, q3, q4, hR⟩ := rec_both h
  unfold fX11_same fX12_same fX6_has
  rw [hc, hm]
  by_cases ha : InR a0 S
  · rw [ge_t (by omega) ha, in_t (by omega) ha]
    by_cases hb : InR a1 S
    · rw [ge_t (by omega) hb, in_t (by omega) hb]
      simp only [cl1_s, i10, ↓reduceIte]
      by_cases hw : InR a2 3
      · rw [show fX12_in a2 0 2 = fX12_in a2 0 (nI 3 - 1) from rfl, in_t (by decide) hw, e]
        obtain ⟨a, ha, rfl⟩ := ha
        obtain ⟨b, hb, rfl⟩ := hb
        obtain ⟨w, hw, rfl⟩ := hw
        simp only [cl1_s, i10, ↓reduceIte]
        rcases (show w = 0 ∨ w = 1 ∨ w = 2 by omega) with rfl | rfl | rfl
        · have e0 : (nI 0 : Int32) = 0 := rfl
          rw [if_pos e0, if_pos e0, q1 a b ha hb, q3 a b ha hb, cl1_s, cl1_s, bitB, bitB]
          cases MmN uM a b
          · exact ⟨_, _, rfl, rfl, hR⟩
          · exact ⟨_, _, rfl, rfl, hR⟩
        · have e0 : ¬ (nI 1 : Int32) = 0 := by decide
          have e1 : (nI 1 : Int32) = 1 := rfl
          rw [if_neg e0, if_neg e0, if_pos e1, if_pos e1, q2 a b ha hb, q4 a b ha hb, cl1_s, cl1_s, bitB, bitB]
          cases OmN uM a b
          · exact ⟨_, _, rfl, rfl, hR⟩
          · exact ⟨_, _, rfl, rfl, hR⟩
        · have e0 : ¬ (nI 2 : Int32) = 0 := by decide
          have e1 : ¬ (nI 2 : Int32) = 1 := by decide
          have e2 : (nI 2 : Int32) = 2 := rfl
          obtain ⟨x, x1, x2⟩ := thing_ok hc hS q1 ha
          rw [if_neg e0, if_neg e0, if_neg e1, if_neg e1, if_pos e2, x1, cl1_s, isIn_B x (show b < 32 by omega), cl1_s, bitB, ldI_s (by omega) (by decide), ldI_s (by omega) (by decide), gA_s, (g1 a ha).1, (g1 b hb).1]
          by_cases z : L a = L b
          · rw [if_pos ((x2 b hb).mpr ((g2 a b ha hb).mp z)), if_pos (by rw [z])]
            exact ⟨_, _, rfl, rfl, hR⟩
          · rw [if_neg (fun y => z ((g2 a b ha hb).mpr ((x2 b hb).mp y))), if_neg (nI_ne (by have := (g1 a ha).2; omega) (by have := (g1 b hb).2; omega) z)]
            exact ⟨_, _, rfl, rfl, hR⟩
      · rw [show fX12_in a2 0 2 = fX12_in a2 0 (nI 3 - 1) from rfl, in_f (by decide) hw]
        have e0 : ¬ a2 = 0 := fun y => hw ⟨0, by decide, y⟩
        have e1 : ¬ a2 = 1 := fun y => hw ⟨1, by decide, y⟩
        have e2 : ¬ a2 = 2 := fun y => hw ⟨2, by decide, y⟩
        rw [if_neg e0, if_neg e1, if_neg e2]
        exact ⟨_, _, rfl, rfl, h⟩
    · rw [ge_f (by omega) hb, in_f (by omega) hb]
      exact ⟨_, _, rfl, rfl, h⟩
  · rw [ge_f (by omega) ha, in_f (by omega) ha]
    exact ⟨_, _, rfl, rfl, h⟩
theorem cp_congr {S : Nat} {P Q : Nat → Prop} {O : Nat → Nat → Bool} (h : ∀ i, i < S → (P i ↔ Q i)) : cpN S P O ↔ cpN S Q O := by
  constructor
  · rintro ⟨a, b, h1, h2, h3, h4, h5⟩
    exact ⟨a, b, h1, h2, (h a (by omega)).mp h3, (h b h2).mp h4, h5⟩
  · rintro ⟨a, b, h1, h2, h3, h4, h5⟩
    exact ⟨a, b, h1, h2, (h a (by omega)).mpr h3, (h b h2).mpr h4, h5⟩
/-- how many things, or how many of them with a copy -/
def ntN (L : Nat → Nat) (cp : Nat → Bool) : Nat → Nat
  | 0 => 0
  | n + 1 => ntN L cp n + if L n = n ∧ cp n = true then 1 else 0
theorem things_core {ts : List Tx} {uC uM : St} (h : Rel ts uC uM) (one : Bool) : ∃ (n : Nat) (F : Nat → Int32), fX6_countThings uC (if one then 0 else 1) = some (nI n) ∧ fX12_things_b14 uM (if one then -1 else -2) = some (nI n, setA uM 56 F) ∧ Rel ts uC (setA uM 56 F) := by
  obtain ⟨S, F, L, hS, hc, hm, e, g1, g0, g2, q1, q2, q3, q4, hR⟩ := rec_both h
  have hsy : ∀ a b, a < S → b < S → MmN uM a b = MmN uM b a := fun a b _ _ => Mm_sy uM a b
  have hLL : ∀ i, i < S → L (L i) = L i := fun i hi => by
    have h1 := (g1 i hi).2
    exact (g2 (L i) i (by omega) hi).mpr (cc_sy hsy (g0 i hi))
  obtain ⟨cp, hcp⟩ : ∃ cp : Nat → Bool, ∀ k, k < S → fX12_hasCopy (setA uM 56 F) (nI k) = some (if cp k then 1 else 0) ∧ (cp k = true ↔ cpN S (fun i => L i = k) (OmN uM)) := by
    obtain ⟨cp, hd⟩ : ∃ cp : Nat → Bool, ∀ k, cp k = decide (fX12_hasCopy (setA uM 56 F) (nI k) = some 1) := ⟨_, fun _ => rfl⟩
    refine ⟨cp, fun k hk => ?_⟩
    obtain ⟨r, r1, r2⟩ := copy_M (u := setA uM 56 F) (O := OmN uM) hm hS q4 (fun i hi => by rw [gA_s]; exact g1 i hi) hk
    have hk' : cp k = r := by
      rw [hd, r1]
      cases r <;> rfl
    rw [r1, hk']
    exact ⟨rfl, r2⟩
  obtain ⟨g, hgd⟩ : ∃ g : Nat → Bool, ∀ k, g k = (one || cp k) := ⟨_, fun _ => rfl⟩
  obtain ⟨s, hs, d1⟩ := up (fun m (s : Int32 × Int32) i => fX6_countThings_l7 uC (if one then 0 else 1) m s.1 s.2 i) (fun i s => s.1 = nI (ntN L g i) ∧ ∀ b, b < S → (bB s.2 b = true ↔ ∃ f, f < i ∧ ccN (MmN uM) S f b)) S (fun s => some s.1) (by
    intro m s hI
    show fX6_countThings_l7b uC (fX6_countThings_l7 uC (if one then 0 else 1) m) (if one then 0 else 1) s.1 s.2 (nI S) = _
    unfold fX6_countThings_l7b
    rw [hc, if_pos (nI_le (Nat.le_refl _) (by omega))]) (by
    intro m i s hi hI
    obtain ⟨n0, x⟩ := s
    obtain ⟨i1, i2⟩ := hI
    dsimp only at i1 i2
    subst i1
    show ∃ s' : Int32 × Int32, _ ∧ fX6_countThings_l7b uC (fX6_countThings_l7 uC (if one then 0 else 1) m) (if one then 0 else 1) (nI (ntN L g i)) x (nI i) = fX6_countThings_l7 uC (if one then 0 else 1) m s'.1 s'.2 (nI (i + 1))
    unfold fX6_countThings_l7b fX6_countThings_b54 fX6_countThings_b57
    rw [hc, if_neg (nI_ge hi (by omega)), isIn_B x (show i < 32 by omega), cl1_s, bitB, nI_1 i]
    have hnt : ntN L g (i + 1) = ntN L g i + if L i = i ∧ g i = true then 1 else 0 := rfl
    cases hx : bB x i
    · simp only [Bool.false_eq_true, ↓reduceIte]
      obtain ⟨y, y1, y2⟩ := thing_ok hc hS q1 hi
      rw [y1, cl1_s, nmI_s]
      have hLi : L i = i := by
        by_cases q : L i = i
        · exact q
        · have h1 := (g1 i hi).2
          have := (i2 i hi).mpr ⟨L i, by omega, (g2 (L i) i (by omega) hi).mp (hLL i hi)⟩
          rw [hx] at this
          exact absurd this (by decide)
      have hbits : ∀ b, b < S → (bB (x ||| y) b = true ↔ ∃ f, f < i + 1 ∧ ccN (MmN uM) S f b) := by
        intro b hb
        rw [bB_or, Bool.or_eq_true, i2 b hb, y2 b hb]
        constructor
        · rintro (⟨f, f1, f2⟩ | f2)
          · exact ⟨f, by omega, f2⟩
          · exact ⟨i, by omega, f2⟩
        · rintro ⟨f, f1, f2⟩
          by_cases q : f = i
          · subst q; exact Or.inr f2
          · exact Or.inl ⟨f, by omega, f2⟩
      cases one
      · have hgi : g i = cp i := by rw [hgd]; rfl
        rw [if_neg (show ¬ (if false = true then (0 : Int32) else 1) = 0 by decide)]
        obtain ⟨r, r1, r2⟩ := copy_C (u := uC) (O := OmN uM) hc hS q2 y
        have hrc : r = cp i := by
          have h1 := (hcp i hi).2
          have h2 : r = true ↔ cp i = true := r2.trans ((cp_congr (fun j hj => by
            rw [y2 j hj, ← g2 i j hi hj, hLi]
            exact eq_comm)).trans h1.symm)
          cases r <;> cases hcpi : cp i
          · rfl
          · rw [hcpi] at h2; exact absurd (h2.mpr rfl) (by decide)
          · rw [hcpi] at h2; exact absurd (h2.mp rfl) (by decide)
          · rfl
        rw [r1, cl1_s, bitB, hrc]
        cases hcpi : cp i
        · rw [if_neg (show ¬ (false = true) by decide)]
          refine ⟨(nI (ntN L g i), x ||| y), ⟨?_, hbits⟩, rfl⟩
          show nI (ntN L g i) = nI (ntN L g (i + 1))
          rw [hnt, hgi, hcpi, if_neg (fun z => absurd z.2 (by decide)), Nat.add_zero]
        · rw [if_pos rfl]
          refine ⟨(nI (ntN L g i + 1), x ||| y), ⟨?_, hbits⟩, by rw [nI_1]⟩
          show nI (ntN L g i + 1) = nI (ntN L g (i + 1))
          rw [hnt, hgi, hcpi, if_pos ⟨hLi, rfl⟩]
      · have hgi : g i = true := by rw [hgd]; rfl
        rw [if_pos (show (if true = true then (0 : Int32) else 1) = 0 by decide)]
        refine ⟨(nI (ntN L g i + 1), x ||| y), ⟨?_, hbits⟩, by rw [nI_1]⟩
        show nI (ntN L g i + 1) = nI (ntN L g (i + 1))
        rw [hnt, hgi, if_pos ⟨hLi, rfl⟩]
    · simp only [↓reduceIte]
      obtain ⟨f, f1, f2⟩ := (i2 i hi).mp hx
      have hLi : ¬ L i = i := by
        intro q
        have h1 := (g2 f i (by omega) hi).mpr f2
        have := (g1 f (by omega)).2
        omega
      refine ⟨(nI (ntN L g i), x), ⟨?_, fun b hb => ?_⟩, rfl⟩
      · show nI (ntN L g i) = nI (ntN L g (i + 1))
        rw [hnt, if_neg (fun y => hLi y.1), Nat.add_zero]
      · dsimp only
        rw [i2 b hb]
        constructor
        · rintro ⟨g, h1, h2⟩
          exact ⟨g, by omega, h2⟩
        · rintro ⟨g, h1, h2⟩
          by_cases q : g = i
          · subst q
            exact ⟨f, f1, cc_tr f2 h2⟩
          · exact ⟨g, by omega, h2⟩) NF 0 (0, 0) (by omega) (by unfold NF; omega) ⟨rfl, fun b hb => ⟨fun y => by
      have : bB 0 b = false := BitVec.getLsbD_zero
      rw [this] at y
      exact absurd y (by decide), fun ⟨f, hf, _⟩ => by omega⟩⟩
  obtain ⟨x, hx, d2⟩ := up (fX12_things_l22 (setA uM 56 F) (if one then -1 else -2)) (fun i x => x = nI (ntN L g i)) S (fun x => some (x, setA uM 56 F)) (by
    intro m x hI
    show fX12_things_l22b (fX12_things_l22 (setA uM 56 F) (if one then -1 else -2) m) (setA uM 56 F) (if one then -1 else -2) x (nI S) = _
    unfold fX12_things_l22b
    rw [gZ_setA, hm, if_pos (nI_le (Nat.le_refl _) (by omega))]) (by
    intro m i x hi hI
    subst hI
    refine ⟨_, rfl, ?_⟩
    show fX12_things_l22b (fX12_things_l22 (setA uM 56 F) (if one then -1 else -2) m) (setA uM 56 F) (if one then -1 else -2) _ (nI i) = _
    unfold fX12_things_l22b fX12_things_b54 fX12_things_b58 fX12_things_b59
    have hLb : L i < 2 ^ 31 := by have := (g1 i hi).2; omega
    rw [gZ_setA, hm, if_neg (nI_ge hi (by omega)), ldI_s (by omega) (by decide), gA_s, (g1 i hi).1, nmI_s, nmI_s, nI_1 i, Int32.add_zero]
    show _ = fX12_things_l22 (setA uM 56 F) (if one then -1 else -2) m (nI (ntN L g i + if L i = i ∧ g i = true then 1 else 0)) (nI (i + 1))
    by_cases q : L i = i
    · rw [if_pos (show nI (L i) = nI i by rw [q])]
      cases one
      · have hgi : g i = cp i := by rw [hgd]; rfl
        rw [if_neg (show ¬ (if false = true then (-1 : Int32) else -2) = -1 by decide), (hcp i hi).1, cl1_s, bitB, hgi]
        cases hcpi : cp i
        · rw [if_neg (show ¬ (false = true) by decide), if_neg (show ¬ (L i = i ∧ false = true) from fun z => absurd z.2 (by decide))]
          rfl
        · rw [if_pos rfl, if_pos (show L i = i ∧ true = true from ⟨q, rfl⟩), nI_1]
      · have hgi : g i = true := by rw [hgd]; rfl
        rw [if_pos (show (if true = true then (-1 : Int32) else -2) = -1 by decide), hgi, if_pos (show L i = i ∧ true = true from ⟨q, rfl⟩), nI_1]
    · rw [if_neg (nI_ne hLb (by omega) q), if_neg (show ¬ (L i = i ∧ g i = true) from fun y => q y.1)]
      rfl) NF 0 0 (by omega) (by unfold NF; omega) rfl
  refine ⟨ntN L g S, F, ?_, ?_, hR⟩
  · unfold fX6_countThings
    have d1' : fX6_countThings_l7 uC (if one then 0 else 1) NF 0 0 0 = some s.1 := d1
    rw [d1', hs.1]
  · unfold fX12_things_b14
    have d2' : fX12_things_l22 (setA uM 56 F) (if one then -1 else -2) NF 0 0 = some (x, setA uM 56 F) := d2
    rw [e, cl1_s, d2', hx]
theorem T_things {ts : List Tx} {uC uM : St} (h : Rel ts uC uM) (a0 : Int32) : ∃ (r : Int32) (uM' : St), fX11_things uC a0 = some r ∧ fX12_things uM a0 = some (r, uM') ∧ Rel ts uC uM' := by
  unfold fX11_things fX12_things fX11_things_b14 fX11_things_b29
  by_cases h1 : a0 = -1
  · subst h1
    obtain ⟨n, F, e1, e2, hR⟩ := things_core h true
    rw [if_pos rfl, if_neg (by decide), if_pos rfl]
    have e1' : fX6_countThings uC 0 = some (nI n) := e1
    have e2' : fX12_things_b14 uM (-1) = some (nI n, setA uM 56 F) := e2
    rw [e1', e2']
    exact ⟨_, _, rfl, rfl, hR⟩
  · rw [if_neg h1, if_neg h1]
    by_cases h2 : a0 = -2
    · subst h2
      obtain ⟨n, F, e1, e2, hR⟩ := things_core h false
      rw [if_pos rfl, if_pos rfl, if_pos rfl]
      have e1' : fX6_countThings uC 1 = some (nI n) := e1
      have e2' : fX12_things_b14 uM (-2) = some (nI n, setA uM 56 F) := e2
      rw [e1', e2']
      exact ⟨_, _, rfl, rfl, hR⟩
    · rw [if_neg h2, if_neg h2]
      exact ⟨_, _, rfl, rfl, h⟩
