theorem pow512 {T k : Nat} (hk : k ≤ T) (hT : T ≤ 12) : 5 ^ k < 2 ^ 31 := Nat.lt_of_le_of_lt (Nat.pow_le_pow_right (by decide) (Nat.le_trans hk hT)) (by decide)
theorem lN0 {n : Nat} (h : n < 2 ^ 31) : (lN n = 0) = (n = 0) := propext (lN_eq (b := 0) h (by decide))
theorem bw31 (al : Nat → Nat → Bool) (go : Nat → Nat → Nat → Bool) {T p l : Nat} (hT : T ≤ 12) : bwN al go T p l < 2 ^ 31 := Nat.lt_of_le_of_lt (bw_le al go T p l) (pow512 (T := 12) (by omega) (by decide))
theorem fw31 (al : Nat → Nat → Bool) (go : Nat → Nat → Nat → Bool) {p l : Nat} (hp : p ≤ 12) : fwN al go p l < 2 ^ 31 := Nat.lt_of_le_of_lt (fw_le al go p l) (pow512 (T := 12) hp (by decide))
theorem fill3 (u : St) : ∃ f : Nat → Int64, fJ7_fill_d0a16_X1_3 u 0 = some (setB u 23 f) ∧ ∀ x, x < 60 → f x = 0 := by
  obtain ⟨f, hf, e⟩ := up (fun m (f : Nat → Int64) i => fJ7_fill_d0a16_X1_3_l6 0 60 m (setB u 23 f) i) (fun i f => ∀ x, x < i → f x = 0) 60 (fun f => some (setB u 23 f)) (by
    intro m f hI
    show fJ7_fill_d0a16_X1_3_l6b (fJ7_fill_d0a16_X1_3_l6 0 60 m) (setB u 23 f) 0 60 60 = _
    unfold fJ7_fill_d0a16_X1_3_l6b
    rw [if_pos (by decide)]) (by
    intro m i f hi hI
    show ∃ f', _ ∧ fJ7_fill_d0a16_X1_3_l6b (fJ7_fill_d0a16_X1_3_l6 0 60 m) (setB u 23 f) 0 (nI i) 60 = fJ7_fill_d0a16_X1_3_l6 0 60 m (setB u 23 f') (nI (i + 1))
    unfold fJ7_fill_d0a16_X1_3_l6b
    rw [if_neg (n60 hi), stL_s hi (by decide), setB_setB, gB_s, nI_1]
    refine ⟨_, fun x hx => ?_, rfl⟩
    by_cases e : x = i
    · subst e; rw [updL_s]
    · rw [updL_n _ _ e]; exact hI x (by omega)) NF 0 (gB u 23) (by omega) (by unfold NF; omega) (fun x hx => by omega)
  rw [show setB u 23 (gB u 23) = u from setB_self u 23] at e
  exact ⟨f, e, hf⟩
theorem countWith_ok {u : St} {T : Nat} {al : Nat → Nat → Bool} {so : Nat → Bool} {go : Nat → Nat → Nat → Bool} (hV : VC u T al so go) (hC : CC u T al so go) (hT : T ≤ 12) {p l : Nat} (hp : p < T) (hl : l < 5) : ∃ w : Nat → Int64, fX1_countWith u (nI l) (nI p) = some (setB u 23 w) ∧ ∀ q c, q < T → c < 5 → w (5 * q + c) = lN (prN al so go T p l q c) := by
  have hgo : ∀ w q a b, q < 12 → a < 5 → b < 5 → fX10_lead (setB u 23 w) (nI a) (nI b) (nI q) = some (if go q a b then 1 else 0) := fun w => (hV _ (k23 u w)).2.2.2
  have h24 : gZ u 24 = nI T := (hV u (keepC_rf u)).1
  obtain ⟨f0, e0, hf0⟩ := fill3 u
  have hr0 : Row (vp_updL f0 (5 * p + l) 1) (p + 1) 0 (fun q c => lN (wfN al so go T p l q c)) := by
    intro q c hc hq
    dsimp only
    unfold wfN
    by_cases z : q < p
    · rw [if_pos z, updL_n _ _ (by omega), hf0 _ (by omega)]; rfl
    · have e : q = p := by omega
      subst e
      rw [if_neg z, if_neg (fun y => by omega), Nat.sub_self]
      unfold spN
      by_cases y : c = l
      · subst y; rw [updL_s, if_pos rfl]; rfl
      · rw [updL_n _ _ (by omega), if_neg y, hf0 _ (by omega)]; rfl
  obtain ⟨w, ⟨hw, _, _⟩, e1⟩ := up (fun m (w : Nat → Int64) i => fX1_countWith_l26 (nI p) (nI (5 * p + l)) m (setB u 23 w) i) (fun q w => Row w q 0 (fun q c => lN (wfN al so go T p l q c)) ∧ (∀ q' c, c < 5 → q' < T → q ≤ q' → w (5 * q' + c) = 0) ∧ p + 1 ≤ q) T (fun w => fX1_countWith_l102 (nI (5 * p + l)) NF (setB u 23 w) (nI p + (-1))) (by
    intro m w hI
    show fX1_countWith_l26b (fX1_countWith_l26 (nI p) (nI (5 * p + l)) m) (setB u 23 w) (nI p) (nI (5 * p + l)) (nI T) = _
    unfold fX1_countWith_l26b
    rw [gZ_setB, h24, if_pos (nI_le (Nat.le_refl T) (by omega)), nmI_s, Int32.sub_eq_add_neg]) (by
    intro m q w hq hI
    obtain ⟨hI1, hI2, hpq⟩ := hI
    obtain ⟨q, rfl⟩ : ∃ k, q = k + 1 := ⟨q - 1, by omega⟩
    show ∃ w', _ ∧ fX1_countWith_l26b (fX1_countWith_l26 (nI p) (nI (5 * p + l)) m) (setB u 23 w) (nI p) (nI (5 * p + l)) (nI (q + 1)) = fX1_countWith_l26 (nI p) (nI (5 * p + l)) m (setB u 23 w') (nI (q + 1 + 1))
    unfold fX1_countWith_l26b
    rw [gZ_setB, h24, if_neg (nI_ge hq (by omega))]
    generalize hk2 : fX1_countWith_l26 (nI p) (nI (5 * p + l)) m = k26
    obtain ⟨w', ⟨hw1, hw2⟩, e⟩ := up (fun m (w : Nat → Int64) i => fX1_countWith_l38 k26 (nI p) (nI (5 * p + l)) (nI (q + 1)) m (setB u 23 w) i) (fun b w => Row w (q + 1) b (fun q c => lN (wfN al so go T p l q c)) ∧ ∀ q' c, c < 5 → q' < T → (q + 1 < q' ∨ q' = q + 1 ∧ b ≤ c) → w (5 * q' + c) = 0) 5 (fun w => k26 (setB u 23 w) (nI (q + 1 + 1))) (by
      intro m w hI
      show fX1_countWith_l38b k26 (fX1_countWith_l38 k26 (nI p) (nI (5 * p + l)) (nI (q + 1)) m) (setB u 23 w) (nI p) (nI (5 * p + l)) (nI (q + 1)) 5 = _
      unfold fX1_countWith_l38b
      rw [if_pos (by decide), nI_1]) (by
      intro m b w hb hI
      obtain ⟨hI1, hI2⟩ := hI
      show ∃ w', _ ∧ fX1_countWith_l38b k26 (fX1_countWith_l38 k26 (nI p) (nI (5 * p + l)) (nI (q + 1)) m) (setB u 23 w) (nI p) (nI (5 * p + l)) (nI (q + 1)) (nI b) = fX1_countWith_l38 k26 (nI p) (nI (5 * p + l)) (nI (q + 1)) m (setB u 23 w') (nI (b + 1))
      unfold fX1_countWith_l38b fX1_countWith_b85
      rw [if_neg (n5 hb), place_n]
      simp only [cl1_s]
      rw [ldL_s (by omega) (by decide), gB_n u w (by decide), (hC (q + 1) b hq hb).2, nI_1]
      have hst := wf_step (al := al) (so := so) (go := go) (T := T) (p := p) (l := l) (q := q) (b := b) (by omega) hq hb
      by_cases z : bwN al go T (q + 1) b = 0
      · rw [if_pos (show lN (bwN al go T (q + 1) b) = 0 by rw [z]; rfl)]
        rw [if_pos z] at hst
        refine ⟨w, ⟨fun q' c hc hq' => ?_, fun q' c hc h1 h2 => hI2 q' c hc h1 (by omega)⟩, rfl⟩
        by_cases y : q' = q + 1 ∧ c = b
        · obtain ⟨rfl, rfl⟩ := y
          rw [hI2 _ c hc hq (Or.inr ⟨rfl, Nat.le_refl _⟩)]
          show 0 = lN (wfN al so go T p l (q + 1) c)
          rw [hst]; rfl
        · exact hI1 q' c hc (by omega)
      · rw [if_neg (show ¬ lN (bwN al go T (q + 1) b) = 0 from fun y => z ((lN_eq (b := 0) (bw31 al go hT) (by decide)).mp y))]
        rw [if_neg z] at hst
        rw [sumBefore3 (g := fun a => go q a b) (f := fun a => wfN al so go T p l q a) hb (by omega) (fun a ha => hgo w q a b (by omega) ha hb) (fun a ha => by rw [gB_s]; exact hI1 q a ha (Or.inl (by omega))), cl1_s, stL_s (by omega) (by decide), setB_setB, gB_s]
        refine ⟨_, ⟨row_sL hI1 hb (by rw [hst]), fun q' c hc h1 h2 => ?_⟩, rfl⟩
        rw [updL_n _ _ (by omega)]
        exact hI2 q' c hc h1 (by omega)) NF 0 w (by omega) (by unfold NF; omega) ⟨hI1, fun q' c hc h1 h2 => hI2 q' c hc h1 (by omega)⟩
    exact ⟨w', ⟨row_n hw1, fun q' c hc h1 h2 => hw2 q' c hc h1 (by omega), by omega⟩, e⟩) NF (p + 1) (vp_updL f0 (5 * p + l) 1) (by omega) (by unfold NF; omega) ⟨hr0, fun q' c hc h1 h2 => by rw [updL_n _ _ (by omega), hf0 _ (by omega)], Nat.le_refl _⟩
  obtain ⟨w2, ⟨_, hw2, _⟩, e2⟩ := dn (fun m (w : Nat → Int64) i => fX1_countWith_l102 (nI (5 * p + l)) m (setB u 23 w) i) (fun q w => q ≤ p ∧ Rod w T q 0 (fun q c => lN (wgN al so go T p l q c)) ∧ ∀ q' c, c < 5 → q' < q → w (5 * q' + c) = 0) (fun w => fX1_countWith_l172 (nI (5 * p + l)) NF (setB u 23 w) 0) (by
    intro m w hI
    show fX1_countWith_l102b (fX1_countWith_l102 (nI (5 * p + l)) m) (setB u 23 w) (nI (5 * p + l)) (-1) = _
    unfold fX1_countWith_l102b
    rw [if_pos (by decide)]) (by
    intro m q w hI
    obtain ⟨hqp, hI1, hI2⟩ := hI
    show ∃ w', _ ∧ fX1_countWith_l102b (fX1_countWith_l102 (nI (5 * p + l)) m) (setB u 23 w) (nI (5 * p + l)) (nI q) = fX1_countWith_l102 (nI (5 * p + l)) m (setB u 23 w') (nI q + (-1))
    unfold fX1_countWith_l102b
    rw [if_neg (nI_pos (by omega))]
    generalize hk2 : fX1_countWith_l102 (nI (5 * p + l)) m = k102
    obtain ⟨w', ⟨hw1, hw2⟩, e⟩ := up (fun m (w : Nat → Int64) i => fX1_countWith_l110 k102 (nI (5 * p + l)) (nI q) m (setB u 23 w) i) (fun a w => Rod w T (q + 1) a (fun q c => lN (wgN al so go T p l q c)) ∧ ∀ q' c, c < 5 → (q' < q ∨ q' = q ∧ a ≤ c) → w (5 * q' + c) = 0) 5 (fun w => k102 (setB u 23 w) (nI q + (-1))) (by
      intro m w hI
      show fX1_countWith_l110b k102 (fX1_countWith_l110 k102 (nI (5 * p + l)) (nI q) m) (setB u 23 w) (nI (5 * p + l)) (nI q) 5 = _
      unfold fX1_countWith_l110b
      rw [if_pos (by decide)]) (by
      intro m a w ha hI
      obtain ⟨hI1, hI2⟩ := hI
      show ∃ w', _ ∧ fX1_countWith_l110b k102 (fX1_countWith_l110 k102 (nI (5 * p + l)) (nI q) m) (setB u 23 w) (nI (5 * p + l)) (nI q) (nI a) = fX1_countWith_l110 k102 (nI (5 * p + l)) (nI q) m (setB u 23 w') (nI (a + 1))
      unfold fX1_countWith_l110b fX1_countWith_b157
      rw [if_neg (n5 ha), place_n]
      simp only [cl1_s]
      rw [ldL_s (by omega) (by decide), gB_n u w (by decide), (hC q a (by omega) ha).1, nI_1]
      have hst := wg_step (al := al) (so := so) (go := go) (T := T) (p := p) (l := l) (q := q) (a := a) hqp hp ha hl
      by_cases z : fwN (alS al so) go q a = 0
      · rw [if_pos (show lN (fwN (alS al so) go q a) = 0 by rw [z]; rfl)]
        rw [if_pos z] at hst
        refine ⟨w, ⟨fun q' c hc h1 hq' => ?_, fun q' c hc h2 => hI2 q' c hc (by omega)⟩, rfl⟩
        by_cases y : q' = q ∧ c = a
        · obtain ⟨rfl, rfl⟩ := y
          rw [hI2 _ c hc (Or.inr ⟨rfl, Nat.le_refl _⟩)]
          show 0 = lN (wgN al so go T p l q' c)
          rw [hst]; rfl
        · exact hI1 q' c hc h1 (by omega)
      · rw [if_neg (show ¬ lN (fwN (alS al so) go q a) = 0 from fun y => z ((lN_eq (b := 0) (fw31 _ go (by omega)) (by decide)).mp y))]
        rw [if_neg z] at hst
        rw [sumBehind3 (g := fun b => go q a b) (f := fun b => wgN al so go T p l (q + 1) b) ha (by omega) (fun b hb => hgo w q a b (by omega) ha hb) (fun b hb => by rw [gB_s]; exact hI1 (q + 1) b hb (by omega) (Or.inl (Nat.le_refl _))), cl1_s, stL_s (by omega) (by decide), setB_setB, gB_s]
        refine ⟨_, ⟨rod_sL hI1 ha (by rw [hst]), fun q' c hc h2 => ?_⟩, rfl⟩
        rw [updL_n _ _ (by omega)]
        exact hI2 q' c hc (by omega)) NF 0 w (by omega) (by unfold NF; omega) ⟨fun q' c hc h1 h2 => hI1 q' c hc h1 (by omega), fun q' c hc h2 => hI2 q' c hc (by omega)⟩
    exact ⟨w', ⟨by omega, rod_n hw1, fun q' c hc h2 => hw2 q' c hc (Or.inl h2)⟩, e⟩) NF p w (by unfold NF; omega) ⟨Nat.le_refl p, fun q c hc h1 h2 => by
      rw [hw q c hc (Or.inl h1)]
      dsimp only
      unfold wgN
      rw [if_neg (by omega)], fun q' c hc h2 => by
      rw [hw q' c hc (Or.inl (by omega))]
      dsimp only
      unfold wfN
      rw [if_pos h2]; rfl⟩
  obtain ⟨w3, hw3, e3⟩ := up (fun m (w : Nat → Int64) i => fX1_countWith_l172 (nI (5 * p + l)) m (setB u 23 w) i) (fun i w => ∀ q c, c < 5 → q < T → w (5 * q + c) = if 5 * q + c < i then lN (prN al so go T p l q c) else lN (wgN al so go T p l q c)) (5 * T) (fun w => some (setB u 23 w)) (by
    intro m w hI
    show fX1_countWith_l172b (fX1_countWith_l172 (nI (5 * p + l)) m) (setB u 23 w) (nI (5 * p + l)) (nI (5 * T)) = _
    unfold fX1_countWith_l172b
    rw [gZ_setB, h24, show (5 : Int32) = nI 5 from rfl, pk_mul, Nat.mul_comm T 5, if_pos (nI_le (Nat.le_refl _) (by omega))]) (by
    intro m i w hi hI
    show ∃ w', _ ∧ fX1_countWith_l172b (fX1_countWith_l172 (nI (5 * p + l)) m) (setB u 23 w) (nI (5 * p + l)) (nI i) = fX1_countWith_l172 (nI (5 * p + l)) m (setB u 23 w') (nI (i + 1))
    unfold fX1_countWith_l172b
    rw [gZ_setB, h24, show (5 : Int32) = nI 5 from rfl, pk_mul, Nat.mul_comm T 5, if_neg (nI_ge hi (by omega))]
    obtain ⟨q, c, hc, hqc⟩ : ∃ q c, c < 5 ∧ i = 5 * q + c := ⟨i / 5, i % 5, by omega, by omega⟩
    have hq : q < T := by omega
    have hwi := hI q c hc hq
    rw [if_neg (by omega)] at hwi
    have hres := wg_pr (al := al) (so := so) (go := go) hp hq hl hc
    have fin : ∀ n, n = prN al so go T p l q c → ∃ w' : Nat → Int64, (∀ q c, c < 5 → q < T → w' (5 * q + c) = if 5 * q + c < i + 1 then lN (prN al so go T p l q c) else lN (wgN al so go T p l q c)) ∧ fX1_countWith_l172 (nI (5 * p + l)) m (setB u 23 (vp_updL w i (lN n))) (nI (i + 1)) = fX1_countWith_l172 (nI (5 * p + l)) m (setB u 23 w') (nI (i + 1)) := by
      intro n hn
      refine ⟨_, fun q' c' hc' hq' => ?_, rfl⟩
      by_cases y : 5 * q' + c' = i
      · have e1 : q' = q := by omega
        have e2 : c' = c := by omega
        subst e1
        subst e2
        rw [y, updL_s, if_pos (by omega), hn]
      · rw [updL_n _ _ y, hI q' c' hc' hq']
        by_cases y2 : 5 * q' + c' < i
        · rw [if_pos y2, if_pos (by omega)]
        · rw [if_neg y2, if_neg (by omega)]
    unfold jmin jmax
    simp only [nmI_s]
    by_cases z : i < 5 * p + l
    · rw [if_pos (show 5 * q + c < 5 * p + l by omega)] at hres
      rw [if_pos (nI_lt z (by omega)), if_neg (nI_nlt (by omega) (by omega)), ldL_s (by omega) (by decide), gB_s, hqc, hwi, ldL_s (by omega) (by decide), gB_n (j := 21) u w (by decide), (hC q c hq hc).1, ldL_s (by omega) (by decide), gB_n (j := 22) u w (by decide), (hC p l hp hl).2, lN_mul, lN_mul, stL_s (by omega) (by decide), setB_setB, gB_s, nI_1, hres, ← hqc]
      exact fin _ rfl
    · rw [if_neg (show ¬ 5 * q + c < 5 * p + l by omega)] at hres
      have key : (if nI (5 * p + l) < nI i then nI i else nI (5 * p + l)) = nI i := by
        by_cases y : 5 * p + l < i
        · rw [if_pos (nI_lt y (by omega))]
        · rw [if_neg (nI_nlt (by omega) (by omega)), show 5 * p + l = i by omega]
      rw [if_neg (nI_nlt (by omega) (by omega)), key, ldL_s (by omega) (by decide), gB_s, hqc, hwi, ldL_s (by omega) (by decide), gB_n (j := 21) u w (by decide), (hC p l hp hl).1, ldL_s (by omega) (by decide), gB_n (j := 22) u w (by decide), (hC q c hq hc).2, lN_mul, lN_mul, stL_s (by omega) (by decide), setB_setB, gB_s, nI_1, hres, ← hqc]
      exact fin _ rfl) NF 0 w2 (by omega) (by unfold NF; omega) (fun q c hc hq => by
      rw [if_neg (by omega)]
      exact hw2 q c hc hq (Or.inl (by omega)))
  refine ⟨w3, ?_, fun q c hq hc => by rw [hw3 q c hc hq, if_pos (by omega)]⟩
  unfold fX1_countWith
  rw [place_n, cl1_s, e0, cl1_s, stL_s (by omega) (by decide), setB_setB, gB_s, nmI_s, nI_1]
  exact e1.trans (e2.trans e3)
