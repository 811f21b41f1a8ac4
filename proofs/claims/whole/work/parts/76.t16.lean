theorem counted_ok {u : St} {T : Nat} {A : Nat → Nat → Bool} {G : Nat → Nat → Nat → Bool} (h1 : gZ u 1 = nI T) (hA : ∀ p l, p < T → l < 5 → gA u 15 (5 * p + l) = if A p l then 1 else 0) (hG : ∀ p a b, p + 1 < T → a < 5 → b < 5 → gA u 16 (25 * p + 5 * a + b) = if G p a b then 1 else 0) (h2 : 2 ≤ T) (hT : T ≤ 12) : ∃ f g, fX12_counted u = some (lN (sm (fun l => bwN A G T 0 l) 5), setB (setB u 17 f) 18 g) ∧ (∀ p l, p < T → l < 5 → f (5 * p + l) = lN (fwN A G p l)) ∧ ∀ p l, p < T → l < 5 → g (5 * p + l) = lN (bwN A G T p l) := by
  obtain ⟨f0, hf0, e0⟩ := up (fun m (f : Nat → Int64) i => fX12_counted_l4 0 m (setB u 17 f) i) (fun i f => Row f 0 i (fun q c => lN (fwN A G q c))) 5 (fun f => fX12_counted_l37 0 NF (setB u 17 f) 1) (by
    intro m f hI
    show fX12_counted_l4b (fX12_counted_l4 0 m) (setB u 17 f) 0 5 = _
    unfold fX12_counted_l4b
    rw [if_pos (by decide)]) (by
    intro m i f hi hI
    show ∃ f', _ ∧ fX12_counted_l4b (fX12_counted_l4 0 m) (setB u 17 f) 0 (nI i) = fX12_counted_l4 0 m (setB u 17 f') (nI (i + 1))
    unfold fX12_counted_l4b fX12_counted_b28
    have ha := hA 0 i (by omega) hi
    rw [show 5 * 0 + i = i by omega] at ha
    rw [if_neg (n5 hi), gA_setB, ldI_s (by omega) (by decide), ha, bitB, nI_1]
    have e : lN (fwN A G 0 i) = if A 0 i then 1 else 0 := by
      unfold fwN
      cases A 0 i <;> rfl
    have hr := row_sL hI hi (x := if A 0 i then 1 else 0) e.symm
    rw [show 5 * 0 + i = i by omega] at hr
    refine ⟨_, hr, ?_⟩
    cases A 0 i
    · simp only [Bool.false_eq_true, ↓reduceIte]
      rw [stL_s (by omega) (by decide), setB_setB, gB_s]
    · simp only [↓reduceIte]
      rw [stL_s (by omega) (by decide), setB_setB, gB_s]) NF 0 (gB u 17) (by omega) (by unfold NF; omega) (row_0 _ _)
  rw [show setB u 17 (gB u 17) = u from setB_self u 17] at e0
  obtain ⟨f, hf, e1⟩ := up (fun m (f : Nat → Int64) i => fX12_counted_l37 0 m (setB u 17 f) i) (fun p f => Row f p 0 (fun q c => lN (fwN A G q c)) ∧ 1 ≤ p) T (fun f => fX12_counted_l166 0 NF (setB u 17 f) (nI T + (-1))) (by
    intro m f hI
    show fX12_counted_l37b (fX12_counted_l37 0 m) (setB u 17 f) 0 (nI T) = _
    unfold fX12_counted_l37b
    rw [gZ_setB, h1, if_pos (nI_le (Nat.le_refl T) (by omega)), nmI_s, Int32.sub_eq_add_neg]) (by
    intro m p f hp hI
    obtain ⟨hI, hp1⟩ := hI
    obtain ⟨q, rfl⟩ : ∃ q, p = q + 1 := ⟨p - 1, by omega⟩
    show ∃ f', _ ∧ fX12_counted_l37b (fX12_counted_l37 0 m) (setB u 17 f) 0 (nI (q + 1)) = fX12_counted_l37 0 m (setB u 17 f') (nI (q + 1 + 1))
    unfold fX12_counted_l37b
    rw [gZ_setB, h1, if_neg (nI_ge hp (by omega))]
    generalize hk2 : fX12_counted_l37 0 m = k37
    obtain ⟨f', hf', e⟩ := up (fun m (f : Nat → Int64) i => fX12_counted_l48 k37 0 (nI (q + 1)) m (setB u 17 f) i) (fun b f => Row f (q + 1) b (fun q c => lN (fwN A G q c))) 5 (fun f => k37 (setB u 17 f) (nI (q + 1 + 1))) (by
      intro m f hI
      show fX12_counted_l48b k37 (fX12_counted_l48 k37 0 (nI (q + 1)) m) (setB u 17 f) 0 (nI (q + 1)) 5 = _
      unfold fX12_counted_l48b
      rw [if_pos (by decide), nI_1]) (by
      intro m b f hb hI
      show ∃ f', _ ∧ fX12_counted_l48b k37 (fX12_counted_l48 k37 0 (nI (q + 1)) m) (setB u 17 f) 0 (nI (q + 1)) (nI b) = fX12_counted_l48 k37 0 (nI (q + 1)) m (setB u 17 f') (nI (b + 1))
      unfold fX12_counted_l48b
      rw [if_neg (n5 hb)]
      generalize hk3 : fX12_counted_l48 k37 0 (nI (q + 1)) m = k48
      obtain ⟨r, hr, e⟩ := up (fX12_counted_l60 k37 k48 (setB u 17 f) 0 (nI (q + 1)) (nI b)) (fun a acc => acc = lN (sm (fun a => if G q a b then fwN A G q a else 0) a)) 5 (fun acc => k48 (setB u 17 (vp_updL f (5 * (q + 1) + b) (lN (fwN A G (q + 1) b)))) (nI (b + 1))) (by
        intro m acc hI
        subst hI
        show fX12_counted_l60b k37 k48 (fX12_counted_l60 k37 k48 (setB u 17 f) 0 (nI (q + 1)) (nI b) m) (setB u 17 f) 0 (nI (q + 1)) (nI b) _ 5 = _
        unfold fX12_counted_l60b fX12_counted_b146
        rw [if_pos (by decide), show (5 : Int32) = nI 5 from rfl, pk_mul, nI_add, gA_setB, ldI_s (by omega) (by decide), hA _ _ hp hb, bitB, nI_1, fwN_S, stL_s (by omega) (by decide), stL_s (by omega) (by decide), setB_setB, setB_setB, gB_s]
        cases A (q + 1) b <;> rfl) (by
        intro m a acc ha hI
        subst hI
        refine ⟨_, rfl, ?_⟩
        show fX12_counted_l60b k37 k48 (fX12_counted_l60 k37 k48 (setB u 17 f) 0 (nI (q + 1)) (nI b) m) (setB u 17 f) 0 (nI (q + 1)) (nI b) _ (nI a) = _
        unfold fX12_counted_l60b fX12_counted_b107
        rw [if_neg (n5 ha), nI_pred, show (5 : Int32) = nI 5 from rfl, show (25 : Int32) = nI 25 from rfl, pk_mul, pk_mul, pk_mul, nI_add, nI_add, nI_add, gA_setB, ldI_s (by omega) (by decide), hG q a b (by omega) ha hb, bitB, ldL_s (by omega) (by decide), gB_s, hI q a ha (Or.inl (by omega)), nI_1]
        rw [show sm (fun a => if G q a b then fwN A G q a else 0) (a + 1) = sm (fun a => if G q a b then fwN A G q a else 0) a + if G q a b then fwN A G q a else 0 from rfl]
        cases G q a b
        · simp only [Bool.false_eq_true, ↓reduceIte, nmL_s, Int64.add_zero, Nat.add_zero]
        · simp only [↓reduceIte, nmL_s, lN_add]) NF 0 0 (by omega) (by unfold NF; omega) rfl
      exact ⟨_, row_sL hI hb rfl, e⟩) NF 0 f (by omega) (by unfold NF; omega) hI
    exact ⟨f', ⟨row_n hf', by omega⟩, e⟩) NF 1 f0 (by omega) (by unfold NF; omega) ⟨row_n hf0, Nat.le_refl 1⟩
  obtain ⟨g, hg, e2⟩ := dn (fun m (g : Nat → Int64) i => fX12_counted_l166 0 m (setB (setB u 17 f) 18 g) i) (fun p g => p ≤ T ∧ Rod g T p 0 (fun q c => lN (bwN A G T q c))) (fun g => fX12_counted_l308 (setB (setB u 17 f) 18 g) NF 0 0) (by
    intro m g hI
    show fX12_counted_l166b (fX12_counted_l166 0 m) (setB (setB u 17 f) 18 g) 0 (-1) = _
    unfold fX12_counted_l166b
    rw [if_pos (by decide)]) (by
    intro m p g hI
    obtain ⟨hpT, hI⟩ := hI
    show ∃ g', _ ∧ fX12_counted_l166b (fX12_counted_l166 0 m) (setB (setB u 17 f) 18 g) 0 (nI p) = fX12_counted_l166 0 m (setB (setB u 17 f) 18 g') (nI p + (-1))
    unfold fX12_counted_l166b
    rw [if_neg (nI_pos (by omega))]
    generalize hk2 : fX12_counted_l166 0 m = k166
    obtain ⟨g', hg', e⟩ := up (fun m (g : Nat → Int64) i => fX12_counted_l173 k166 0 (nI p) m (setB (setB u 17 f) 18 g) i) (fun a g => Rod g T (p + 1) a (fun q c => lN (bwN A G T q c))) 5 (fun g => k166 (setB (setB u 17 f) 18 g) (nI p + (-1))) (by
      intro m g hI
      show fX12_counted_l173b k166 (fX12_counted_l173 k166 0 (nI p) m) (setB (setB u 17 f) 18 g) 0 (nI p) 5 = _
      unfold fX12_counted_l173b
      rw [if_pos (by decide)]) (by
      intro m a g ha hI
      show ∃ f', _ ∧ fX12_counted_l173b k166 (fX12_counted_l173 k166 0 (nI p) m) (setB (setB u 17 f) 18 g) 0 (nI p) (nI a) = fX12_counted_l173 k166 0 (nI p) m (setB (setB u 17 f) 18 f') (nI (a + 1))
      generalize hk3 : fX12_counted_l173 k166 0 (nI p) m = k173
      refine ⟨vp_updL g (5 * p + a) (lN (bwN A G T p a)), rod_sL hI ha rfl, ?_⟩
      have key : ∀ S : Nat, bwN A G T p a = (if A p a then S else 0) → fX12_counted_b263 k166 k173 (setB (setB u 17 f) 18 g) 0 (nI p) (nI a) (lN S) = k173 (setB (setB u 17 f) 18 (vp_updL g (5 * p + a) (lN (bwN A G T p a)))) (nI (a + 1)) := by
        intro S hS
        unfold fX12_counted_b263 fX12_counted_b293
        rw [show (5 : Int32) = nI 5 from rfl, pk_mul, nI_add, gA_setB, gA_setB, ldI_s (by omega) (by decide), hA _ _ hpT ha, bitB, nI_1, stL_s (by omega) (by decide), stL_s (by omega) (by decide), setB_setB, setB_setB, gB_s, hS]
        cases A p a <;> rfl
      unfold fX12_counted_l173b fX12_counted_b194
      rw [if_neg (n5 ha), gZ_setB, gZ_setB, h1, show nI T - 1 = nI (T - 1) from pk_sub (a := T) (b := 1) (by omega)]
      by_cases e : p = T - 1
      · subst e
        rw [if_pos rfl, show NF = 4999 + 1 from rfl]
        show fX12_counted_l199b k166 k173 (fX12_counted_l199 k166 k173 (setB (setB u 17 f) 18 g) 0 (nI (T - 1)) (nI a) 4999) (setB (setB u 17 f) 18 g) 0 (nI (T - 1)) (nI a) 1 0 = _
        unfold fX12_counted_l199b
        rw [if_neg (by decide), gZ_setB, gZ_setB, h1, show nI T - 1 = nI (T - 1) from pk_sub (a := T) (b := 1) (by omega), if_pos (nI_le (Nat.le_refl _) (by omega))]
        exact key 1 (bwN_T _ _ (by omega) a)
      · rw [if_neg (nI_ne (by omega) (by omega) e)]
        obtain ⟨r, hr, e3⟩ := up (fX12_counted_l199 k166 k173 (setB (setB u 17 f) 18 g) 0 (nI p) (nI a)) (fun b acc => acc = lN (sm (fun b => if G p a b then bwN A G T (p + 1) b else 0) b)) 5 (fun acc => k173 (setB (setB u 17 f) 18 (vp_updL g (5 * p + a) (lN (bwN A G T p a)))) (nI (a + 1))) (by
          intro m acc hI
          subst hI
          show fX12_counted_l199b k166 k173 (fX12_counted_l199 k166 k173 (setB (setB u 17 f) 18 g) 0 (nI p) (nI a) m) (setB (setB u 17 f) 18 g) 0 (nI p) (nI a) _ 5 = _
          unfold fX12_counted_l199b
          rw [if_pos (by decide)]
          exact key _ (bwN_S _ _ (by omega) a)) (by
          intro m b acc hb hI2
          subst hI2
          refine ⟨_, rfl, ?_⟩
          show fX12_counted_l199b k166 k173 (fX12_counted_l199 k166 k173 (setB (setB u 17 f) 18 g) 0 (nI p) (nI a) m) (setB (setB u 17 f) 18 g) 0 (nI p) (nI a) _ (nI b) = _
          unfold fX12_counted_l199b fX12_counted_b254
          rw [if_neg (n5 hb), gZ_setB, gZ_setB, h1, show nI T - 1 = nI (T - 1) from pk_sub (a := T) (b := 1) (by omega), if_neg (nI_ge (by omega) (by omega)), nI_1, nI_1, show (5 : Int32) = nI 5 from rfl, show (25 : Int32) = nI 25 from rfl, pk_mul, pk_mul, pk_mul, nI_add, nI_add, nI_add, gA_setB, gA_setB, ldI_s (by omega) (by decide), hG p a b (by omega) ha hb, bitB, ldL_s (by omega) (by decide), gB_s, hI (p + 1) b hb (by omega) (Or.inl (Nat.le_refl _))]
          rw [show sm (fun b => if G p a b then bwN A G T (p + 1) b else 0) (b + 1) = sm (fun b => if G p a b then bwN A G T (p + 1) b else 0) b + if G p a b then bwN A G T (p + 1) b else 0 from rfl]
          cases G p a b
          · simp only [Bool.false_eq_true, ↓reduceIte, nmL_s, Int64.add_zero, Nat.add_zero]
          · simp only [↓reduceIte, nmL_s, lN_add]) NF 0 0 (by omega) (by unfold NF; omega) rfl
        exact e3) NF 0 g (by omega) (by unfold NF; omega) (fun q c hc h1 hq => hI q c hc h1 (by omega))
    exact ⟨g', ⟨by omega, rod_n hg'⟩, e⟩) NF T (gB u 18) (by unfold NF; omega) ⟨Nat.le_refl T, rod_0 _ _ _⟩
  rw [show setB (setB u 17 f) 18 (gB u 18) = setB u 17 f from setB_self (setB u 17 f) 18] at e2
  have hg1 : ∀ p l, p < T → l < 5 → g (5 * p + l) = lN (bwN A G T p l) := fun p l hp hl => hg.2 p l hl hp (Or.inl (by omega))
  obtain ⟨r, hr, e3⟩ := up (fX12_counted_l308 (setB (setB u 17 f) 18 g)) (fun i acc => acc = lN (sm (fun l => bwN A G T 0 l) i)) 5 (fun acc => some (acc, setB (setB u 17 f) 18 g)) (by
    intro m acc hI
    show fX12_counted_l308b (fX12_counted_l308 (setB (setB u 17 f) 18 g) m) (setB (setB u 17 f) 18 g) acc 5 = _
    unfold fX12_counted_l308b
    rw [if_pos (by decide)]) (by
    intro m i acc hi hI
    subst hI
    refine ⟨_, rfl, ?_⟩
    show fX12_counted_l308b (fX12_counted_l308 (setB (setB u 17 f) 18 g) m) (setB (setB u 17 f) 18 g) _ (nI i) = _
    unfold fX12_counted_l308b
    have e := hg1 0 i (by omega) hi
    rw [show 5 * 0 + i = i by omega] at e
    rw [if_neg (n5 hi), ldL_s (by omega) (by decide), gB_s, e, nmL_s, lN_add, nI_1]
    rfl) NF 0 0 (by omega) (by unfold NF; omega) rfl
  subst hr
  refine ⟨f, g, ?_, fun p l hp hl => hf.1 p l hl (Or.inl hp), hg1⟩
  unfold fX12_counted
  exact e0.trans (e1.trans (e2.trans e3))
/-- what all() leaves -/
def CM (u : St) (T : Nat) (A : Nat → Nat → Bool) (G : Nat → Nat → Nat → Bool) : Prop := (∀ p l, p < T → l < 5 → gA u 15 (5 * p + l) = (if A p l then 1 else 0) ∧ gB u 17 (5 * p + l) = lN (fwN A G p l) ∧ gB u 18 (5 * p + l) = lN (bwN A G T p l)) ∧ ∀ p a b, p + 1 < T → a < 5 → b < 5 → gA u 16 (25 * p + 5 * a + b) = if G p a b then 1 else 0
theorem all_ok {uM : St} {T : Nat} {al : Nat → Nat → Bool} {so : Nat → Bool} {go : Nat → Nat → Nat → Bool} (hV : VM uM T al so go) (h2 : 2 ≤ T) (hT : T ≤ 12) : ∃ u', fX12_all uM = some (lN (tot al so go T), u') ∧ keepM uM u' ∧ CM u' T (alS al so) go := by
  obtain ⟨f, g, e1, hf, hg⟩ := layOut_ok hV h2 hT
  have hz : gZ (setA (setA uM 15 f) 16 g) 1 = nI T := by
    obtain ⟨S, P, lt, q1, q2, q3⟩ := hV
    exact (q3 uM (keepM_rf uM)).1
  obtain ⟨f2, g2, e2, hf2, hg2⟩ := counted_ok (u := setA (setA uM 15 f) 16 g) (A := alS al so) (G := go) hz hf hg h2 hT
  refine ⟨_, ?_, keepM_tr (keepM_tr (m15 uM f) (m16 _ g)) (keepM_tr (m17 _ f2) (m18 _ g2)), ?_, ?_⟩
  · unfold fX12_all
    rw [e1, cl1_s, e2]
    show some (lN (sm (fun l => bwN (alS al so) go T 0 l) 5), setB (setB (setA (setA uM 15 f) 16 g) 17 f2) 18 g2) = _
    rw [show sm (fun l => bwN (alS al so) go T 0 l) 5 = tot al so go T from sm_congr 5 (fun l hl => by
      rw [bwN_so al so go (by omega) hl h2]
      unfold fwN alS
      simp only [Nat.lt_irrefl, decide_false, Bool.false_or]
      cases hs : so l
      · simp
      · cases ha : al 0 l
        · rw [bwN_S _ _ (by omega), ha]; simp
        · simp)]
  · exact fun p l hp hl => ⟨hf p l hp hl, hf2 p l hp hl, hg2 p l hp hl⟩
  · exact hg
theorem throughM {u : St} {T : Nat} {A : Nat → Nat → Bool} {G : Nat → Nat → Nat → Bool} (hC : CM u T A G) (hT : T ≤ 12) {p l : Nat} (hp : p < T) (hl : l < 5) : fX12_through u (nI l) (nI p) = some (lN (fwN A G p l * bwN A G T p l)) := by
  unfold fX12_through
  rw [show (5 : Int32) = nI 5 from rfl, pk_mul, nI_add, ldL_s (by omega) (by decide), ldL_s (by omega) (by decide), (hC.1 p l hp hl).2.1, (hC.1 p l hp hl).2.2, lN_mul]
/-- both sides' counting -/
theorem cnt_both {ts : List Tx} {uC uM : St} (h : Rel ts uC uM) : ∃ (T : Nat) (al : Nat → Nat → Bool) (so : Nat → Bool) (go : Nat → Nat → Nat → Bool) (uC' uM' : St), 2 ≤ T ∧ T ≤ 12 ∧ gZ uM 1 = nI T ∧ gZ uC 220 = nI T ∧ gZ uC 4 = nI T ∧ gZ uC 40 = nI T ∧ fX1_recount uC = some uC' ∧ fX12_all uM = some (lN (tot al so go T), uM') ∧ Rel ts uC' uM' ∧ keepC uC uC' ∧ keepM uM uM' ∧ VC uC' T al so go ∧ VM uM' T al so go ∧ CC uC' T al so go ∧ CM uM' T (alS al so) go ∧ fX1_total uC' = some (lN (tot al so go T)) := by
  obtain ⟨T, al, so, go, ⟨t1, t2, t3, t4, t5, t6, t7, t8⟩, hV, hM⟩ := view h
  obtain ⟨f, g, e1, hC⟩ := recount_ok hV t1 t2
  obtain ⟨u', e2, kM, hCM⟩ := all_ok hM t1 t2
  have kC : keepC uC (setB (setB uC 21 f) 22 g) := ⟨fun _ _ => rfl, fun _ _ => rfl, rfl⟩
  exact ⟨T, al, so, go, _, u', t1, t2, t3, t4, t7, t8, e1, e2, Rel_keep h kC kM, kC, kM, VC_k hV kC, VM_k hM kM, hC, hCM, total_ok hC t1 t2⟩
theorem T_histories {ts : List Tx} {uC uM : St} (h : Rel ts uC uM) : ∃ (r : Int64) (uC' : St) (uM' : St), fX11_histories uC = some (r, uC') ∧ fX12_histories uM = some (r, uM') ∧ Rel ts uC' uM' := by
  obtain ⟨T, al, so, go, uC', uM', t1, t2, t3, t4, t5, t6, e1, e2, hR, kC, kM, hV, hVM, hC, hM, e3⟩ := cnt_both h
  refine ⟨lN (tot al so go T), uC', uM', ?_, ?_, hR⟩
  · unfold fX11_histories
    rw [e1, cl1_s, e3]
    rfl
  · unfold fX12_histories
    rw [e2]
    rfl
theorem thr_eq {u v : St} {T : Nat} {al : Nat → Nat → Bool} {so : Nat → Bool} {go : Nat → Nat → Nat → Bool} (hC : CC u T al so go) (hM : CM v T (alS al so) go) (h2 : 2 ≤ T) (hT : T ≤ 12) {p l : Nat} (hp : p < T) (hl : l < 5) : fX12_through v (nI l) (nI p) = some (lN (fwN (alS al so) go p l * bwN al go T p l)) := by
  rw [throughM hM hT hp hl, thr_so al so go hp hl h2]
theorem T_at {ts : List Tx} {uC uM : St} (h : Rel ts uC uM) (a0 : Int32) (a1 : Int32) : ∃ (r : Int64) (uC' : St) (uM' : St), fX11_at uC a0 a1 = some (r, uC') ∧ fX12_at uM a0 a1 = some (r, uM') ∧ Rel ts uC' uM' := by
  obtain ⟨T, al, so, go, uC', uM', t1, t2, t3, t4, t5, t6, e1, e2, hR, kC, kM, hV, hVM, hC, hM, e3⟩ := cnt_both h
  unfold fX11_at fX12_at
  by_cases hp : InR a0 5 ∧ InR a1 T
  · rw [plaC_t (by omega) t4 hp.1 hp.2, plaM_t (by omega) t3 hp.1 hp.2]
    obtain ⟨⟨l, hl, rfl⟩, ⟨p, hp, rfl⟩⟩ := hp
    simp only [cl1_s, i10, ↓reduceIte, e1, e2, place_n, cl2_s, through_ok hC t2 hp hl, thr_eq hC hM t1 t2 hp hl]
    exact ⟨_, _, _, rfl, rfl, hR⟩
  · rw [plaC_f (by omega) t4 hp, plaM_f (by omega) t3 hp]
    exact ⟨_, _, _, rfl, rfl, h⟩
