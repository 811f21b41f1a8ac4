theorem m15 (u : St) (f : Nat → Int32) : keepM u (setA u 15 f) := ⟨fun _ _ => rfl, fun k hk => by
  simp only [List.mem_cons, List.not_mem_nil, or_false] at hk
  rcases hk with rfl | rfl | rfl | rfl | rfl | rfl | rfl | rfl | rfl | rfl | rfl | rfl | rfl | rfl | rfl | rfl | rfl | rfl | rfl | rfl | rfl | rfl | rfl | rfl <;> rfl, rfl⟩
theorem m16 (u : St) (f : Nat → Int32) : keepM u (setA u 16 f) := ⟨fun _ _ => rfl, fun k hk => by
  simp only [List.mem_cons, List.not_mem_nil, or_false] at hk
  rcases hk with rfl | rfl | rfl | rfl | rfl | rfl | rfl | rfl | rfl | rfl | rfl | rfl | rfl | rfl | rfl | rfl | rfl | rfl | rfl | rfl | rfl | rfl | rfl | rfl <;> rfl, rfl⟩
theorem m17 (u : St) (f : Nat → Int64) : keepM u (setB u 17 f) := ⟨fun _ _ => rfl, fun _ _ => rfl, rfl⟩
theorem m18 (u : St) (f : Nat → Int64) : keepM u (setB u 18 f) := ⟨fun _ _ => rfl, fun _ _ => rfl, rfl⟩
theorem stZ_b {ρ : Type} {u : St} {a m j : Nat} {b : Bool} {k : St → Option ρ} (h : j < m) (hm : m < 2 ^ 31) : stZ u a m (nI j) (if b then 1 else 0) k = k (setA u a (upd (gA u a) j (if b then 1 else 0))) := by
  rw [stZ_s h hm, nar_b]
theorem layOut_ok {uM : St} {T : Nat} {al : Nat → Nat → Bool} {so : Nat → Bool} {go : Nat → Nat → Nat → Bool} (hV : VM uM T al so go) (h2 : 2 ≤ T) (hT : T ≤ 12) : ∃ f g, fX12_layOut uM = some (setA (setA uM 15 f) 16 g) ∧ (∀ p l, p < T → l < 5 → f (5 * p + l) = if alS al so p l then 1 else 0) ∧ ∀ p a b, p + 1 < T → a < 5 → b < 5 → g (25 * p + 5 * a + b) = if go p a b then 1 else 0 := by
  obtain ⟨S, P, lt, hP, w5, hV⟩ := hV
  obtain ⟨w1, w2, w3, w4, w6, w7⟩ := hV uM (keepM_rf uM)
  obtain ⟨f, hf, e1⟩ := up (fun m (f : Nat → Int32) i => fX12_layOut_l8 S m (setA uM 15 f) i) (fun p f => Row f p 0 (fun q c => if alS al so q c then 1 else 0)) T (fun f => fX12_layOut_l122 NF (setA uM 15 f) 0) (by
    intro m f hI
    show fX12_layOut_l8b (fX12_layOut_l8 S m) (setA uM 15 f) S (nI T) = _
    unfold fX12_layOut_l8b
    rw [gZ_setA, w1, if_pos (nI_le (Nat.le_refl T) (by omega))]) (by
    intro m p f hp hI
    show ∃ f', _ ∧ fX12_layOut_l8b (fX12_layOut_l8 S m) (setA uM 15 f) S (nI p) = fX12_layOut_l8 S m (setA uM 15 f') (nI (p + 1))
    unfold fX12_layOut_l8b
    rw [gZ_setA, w1, if_neg (nI_ge hp (by omega))]
    generalize hk2 : fX12_layOut_l8 S m = k8
    obtain ⟨f', hf', e⟩ := up (fun m (f : Nat → Int32) i => fX12_layOut_l18 k8 S (nI p) m (setA uM 15 f) i) (fun l f => Row f p l (fun q c => if alS al so q c then 1 else 0)) 5 (fun f => k8 (setA uM 15 f) (nI (p + 1))) (by
      intro m f hI
      show fX12_layOut_l18b k8 (fX12_layOut_l18 k8 S (nI p) m) (setA uM 15 f) S (nI p) 5 = _
      unfold fX12_layOut_l18b
      rw [if_pos (by decide), nI_1]) (by
      intro m l f hl hI
      obtain ⟨y1, y2, y3, y4, y6, y7⟩ := hV _ (m15 uM f)
      show ∃ f', _ ∧ fX12_layOut_l18b k8 (fX12_layOut_l18 k8 S (nI p) m) (setA uM 15 f) S (nI p) (nI l) = fX12_layOut_l18 k8 S (nI p) m (setA uM 15 f') (nI (l + 1))
      generalize hk3 : fX12_layOut_l18 k8 S (nI p) m = k18
      have key : ∀ s0 : Bool, s0 = (decide (0 < p) || so l) → ∃ f', Row f' p (l + 1) (fun q c => if alS al so q c then 1 else 0) ∧ fX12_layOut_b44 k8 k18 (setA uM 15 f) S (nI p) (nI l) (if s0 then 1 else 0) = k18 (setA uM 15 f') (nI (l + 1)) := by
        intro s0 hs0
        unfold fX12_layOut_b44
        obtain ⟨r, hr, e⟩ := up (fX12_layOut_l49 k8 k18 (setA uM 15 f) S (nI p) (nI l)) (fun k v => v = if alN S (fun k => lt k p l) k && s0 then 1 else 0) P (fun v => k18 (setA uM 15 (upd f (5 * p + l) (if alS al so p l then 1 else 0))) (nI (l + 1))) (by
          intro m v hI
          subst hI
          show fX12_layOut_l49b k8 k18 (fX12_layOut_l49 k8 k18 (setA uM 15 f) S (nI p) (nI l) m) (setA uM 15 f) S (nI p) (nI l) _ (nI P) = _
          unfold fX12_layOut_l49b
          rw [gZ_setA, w2, if_pos (nI_le (Nat.le_refl _) (by omega)), show (5 : Int32) = nI 5 from rfl, pk_mul, nI_add, stZ_b (by omega) (by decide), setA_setA, gA_s, nI_1, hs0]
          unfold alS
          rw [w5 p l hp hl]) (by
          intro m k v hk hI
          subst hI
          refine ⟨_, rfl, ?_⟩
          show fX12_layOut_l49b k8 k18 (fX12_layOut_l49 k8 k18 (setA uM 15 f) S (nI p) (nI l) m) (setA uM 15 f) S (nI p) (nI l) _ (nI k) = _
          unfold fX12_layOut_l49b fX12_layOut_b83 fX12_layOut_b87 fX12_layOut_b88
          rw [gZ_setA, w2, if_neg (nI_ge hk (by omega)), bitB, sh_b S (show k < 32 by omega), bitB, nI_1, y4 k p l hk hl, cl1_s, bitB]
          rw [show alN S (fun k => lt k p l) (k + 1) = (alN S (fun k => lt k p l) k && (!(bB S k) || lt k p l)) from rfl]
          cases alN S (fun k => lt k p l) k <;> cases s0 <;> cases bB S k <;> cases lt k p l <;> rfl) NF 0 (if s0 then 1 else 0) (by omega) (by unfold NF; omega) (by
            show _ = if (true && s0) then 1 else 0
            cases s0 <;> rfl)
        exact ⟨_, row_sI hI hl rfl, e⟩
      unfold fX12_layOut_l18b fX12_layOut_b39
      rw [if_neg (n5 hl), gZ_setA]
      by_cases h0 : 0 < p
      · rw [if_pos (show (0 : Int32) < nI p from nI_lt (a := 0) h0 (by omega))]
        exact key true (by rw [decide_eq_true h0]; rfl)
      · rw [if_neg (fun z => by rw [show (0 : Int32) = nI 0 from rfl, nI_ltI (by omega) (by omega)] at z; exact h0 z), sh_b _ (show l < 32 by omega), w6 l hl]
        have k0 := key (so l) (by rw [decide_eq_false h0]; rfl)
        revert k0
        cases so l
        · rw [if_neg (by decide)]; exact id
        · rw [if_pos (by decide)]; exact id) NF 0 f (by omega) (by unfold NF; omega) hI
    exact ⟨f', row_n hf', e⟩) NF 0 (gA uM 15) (by omega) (by unfold NF; omega) (row_0 _ _)
  rw [show setA uM 15 (gA uM 15) = uM from setA_self uM 15] at e1
  obtain ⟨g, hg, e2⟩ := up (fun m (g : Nat → Int32) i => fX12_layOut_l122 m (setA (setA uM 15 f) 16 g) i) (fun p g => Row g (5 * p) 0 (fun q c => if go (q / 5) (q % 5) c then 1 else 0)) (T - 1) (fun g => some (setA (setA uM 15 f) 16 g)) (by
    intro m g hI
    show fX12_layOut_l122b (fX12_layOut_l122 m) (setA (setA uM 15 f) 16 g) (nI (T - 1)) = _
    unfold fX12_layOut_l122b
    rw [gZ_setA, gZ_setA, w1, show nI T - 1 = nI (T - 1) from pk_sub (a := T) (b := 1) (by omega), if_pos (nI_le (Nat.le_refl _) (by omega))]) (by
    intro m p g hp hI
    show ∃ g', _ ∧ fX12_layOut_l122b (fX12_layOut_l122 m) (setA (setA uM 15 f) 16 g) (nI p) = fX12_layOut_l122 m (setA (setA uM 15 f) 16 g') (nI (p + 1))
    unfold fX12_layOut_l122b
    rw [gZ_setA, gZ_setA, w1, show nI T - 1 = nI (T - 1) from pk_sub (a := T) (b := 1) (by omega), if_neg (nI_ge hp (by omega))]
    generalize hk2 : fX12_layOut_l122 m = k122
    obtain ⟨g', hg', e⟩ := up (fun m (g : Nat → Int32) i => fX12_layOut_l134 k122 (nI p) m (setA (setA uM 15 f) 16 g) i) (fun a g => Row g (5 * p + a) 0 (fun q c => if go (q / 5) (q % 5) c then 1 else 0)) 5 (fun g => k122 (setA (setA uM 15 f) 16 g) (nI (p + 1))) (by
      intro m g hI
      show fX12_layOut_l134b k122 (fX12_layOut_l134 k122 (nI p) m) (setA (setA uM 15 f) 16 g) (nI p) 5 = _
      unfold fX12_layOut_l134b
      rw [if_pos (by decide), nI_1]) (by
      intro m a g ha hI
      show ∃ g', _ ∧ fX12_layOut_l134b k122 (fX12_layOut_l134 k122 (nI p) m) (setA (setA uM 15 f) 16 g) (nI p) (nI a) = fX12_layOut_l134 k122 (nI p) m (setA (setA uM 15 f) 16 g') (nI (a + 1))
      unfold fX12_layOut_l134b
      rw [if_neg (n5 ha)]
      generalize hk3 : fX12_layOut_l134 k122 (nI p) m = k134
      obtain ⟨g', hg', e⟩ := up (fun m (g : Nat → Int32) i => fX12_layOut_l142 k122 k134 (nI p) (nI a) m (setA (setA uM 15 f) 16 g) i) (fun b g => Row g (5 * p + a) b (fun q c => if go (q / 5) (q % 5) c then 1 else 0)) 5 (fun g => k134 (setA (setA uM 15 f) 16 g) (nI (a + 1))) (by
        intro m g hI
        show fX12_layOut_l142b k122 k134 (fX12_layOut_l142 k122 k134 (nI p) (nI a) m) (setA (setA uM 15 f) 16 g) (nI p) (nI a) 5 = _
        unfold fX12_layOut_l142b
        rw [if_pos (by decide), nI_1]) (by
        intro m b g hb hI
        obtain ⟨y1, y2, y3, y8, y9, y4⟩ := hV (setA (setA uM 15 f) 16 g) (keepM_tr (m15 uM f) (m16 _ g))
        obtain ⟨n, hn, y5, y6⟩ := y4 p a b (by omega) ha hb
        show ∃ g', _ ∧ fX12_layOut_l142b k122 k134 (fX12_layOut_l142 k122 k134 (nI p) (nI a) m) (setA (setA uM 15 f) 16 g) (nI p) (nI a) (nI b) = fX12_layOut_l142 k122 k134 (nI p) (nI a) m (setA (setA uM 15 f) 16 g') (nI (b + 1))
        unfold fX12_layOut_l142b fX12_layOut_b180 fX12_layOut_b185
        rw [if_neg (n5 hb), show (25 : Int32) = nI 25 from rfl, show (5 : Int32) = nI 5 from rfl, pk_mul, pk_mul, nI_add, nI_add, y5, cl1_s, show 25 * p + 5 * a + b = 5 * (5 * p + a) + b by omega, nI_1]
        refine ⟨upd g (5 * (5 * p + a) + b) (if go p a b then 1 else 0), row_sI hI hb (by
          show (if go p a b then (1 : Int32) else 0) = if go ((5 * p + a) / 5) ((5 * p + a) % 5) b then 1 else 0
          rw [show (5 * p + a) / 5 = p by omega, show (5 * p + a) % 5 = a by omega]), ?_⟩
        by_cases hab : a = b
        · rw [if_pos (by rw [hab]), show go p a b = true by rw [y6, decide_eq_true hab]; rfl, stZ_s (by omega) (by decide), setA_setA, gA_s]
          rfl
        · rw [if_neg (nI_ne (by omega) (by omega) hab)]
          by_cases hn0 : 0 < n
          · rw [if_neg (nI_nle hn0 (by omega)), show go p a b = true by rw [y6, decide_eq_true hn0]; simp, stZ_s (by omega) (by decide), setA_setA, gA_s]
            rfl
          · rw [if_pos (by rw [show n = 0 by omega]; decide), show go p a b = false by rw [y6, decide_eq_false hn0, decide_eq_false hab]; rfl, stZ_s (by omega) (by decide), setA_setA, gA_s]
            rfl) NF 0 g (by omega) (by unfold NF; omega) hI
      exact ⟨g', row_n hg', e⟩) NF 0 g (by omega) (by unfold NF; omega) hI
    exact ⟨g', hg', e⟩) NF 0 (gA uM 16) (by omega) (by unfold NF; omega) (row_0 _ _)
  rw [show setA (setA uM 15 f) 16 (gA uM 16) = setA uM 15 f from setA_self (setA uM 15 f) 16] at e2
  refine ⟨f, g, ?_, fun p l hp hl => hf p l hl (Or.inl hp), fun p a b hp ha hb => ?_⟩
  · unfold fX12_layOut
    rw [w3, cl1_s]
    exact e1.trans e2
  · have := hg (5 * p + a) b hb (Or.inl (by omega))
    rw [show 25 * p + 5 * a + b = 5 * (5 * p + a) + b by omega, this]
    dsimp only
    rw [show (5 * p + a) / 5 = p by omega, show (5 * p + a) % 5 = a by omega]
