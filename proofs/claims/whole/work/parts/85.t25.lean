def kJ (u v : St) : Prop := keepM u v ∧ gA v 15 = gA u 15 ∧ gA v 16 = gA u 16 ∧ ∀ k, gB v k = gB u k
theorem kJ_rf (u : St) : kJ u u := ⟨keepM_rf u, rfl, rfl, fun _ => rfl⟩
theorem kJ_tr {u v w : St} (h : kJ u v) (k : kJ v w) : kJ u w := ⟨keepM_tr h.1 k.1, k.2.1.trans h.2.1, k.2.2.1.trans h.2.2.1, fun j => (k.2.2.2 j).trans (h.2.2.2 j)⟩
theorem kJ_R {u v : St} (h : keepR u v) : kJ u v := ⟨keepR_M h, by rw [h.2.1], by rw [h.2.1], fun k => by rw [h.2.2]⟩
theorem m42 (u : St) (f : Nat → Int32) : keepM u (setA u 42 f) := ⟨fun _ _ => rfl, fun k hk => by
  simp only [List.mem_cons, List.not_mem_nil, or_false] at hk
  rcases hk with rfl | rfl | rfl | rfl | rfl | rfl | rfl | rfl | rfl | rfl | rfl | rfl | rfl | rfl | rfl | rfl | rfl | rfl | rfl | rfl | rfl | rfl | rfl | rfl <;> rfl, rfl⟩
theorem kJ_42 (u : St) (f : Nat → Int32) : kJ u (setA u 42 f) := ⟨m42 u f, rfl, rfl, fun _ => rfl⟩
/-- the links that give back, as the reference has them -/
def WM (ts : List Tx) (uC : St) (go : Nat → Nat → Nat → Bool) : Nat → Nat → Nat → Bool := fun p a b => decide (¬ a = b) && (go p a b && gbN ts uC p a b)
section Judge
variable {ts : List Tx} {uC uM u0 : St} {T : Nat} {go : Nat → Nat → Nat → Bool}
theorem judge_ok (h : Rel ts uC uM) (hT : RelT T (gZ uM 1) (gZ uC 220) (gZ uC 24) (gZ uC 68) (gZ uC 4) (gZ uC 40)) (hM : keepM uM u0) (hgo : ∀ p a b, p + 1 < T → a < 5 → b < 5 → gA u0 16 (25 * p + 5 * a + b) = if go p a b then 1 else 0) : ∃ u', fX12_judgeSteps u0 = some u' ∧ kJ u0 u' ∧ ∀ p a b, p + 1 < T → a < 5 → b < 5 → gA u' 42 (25 * p + 5 * a + b) = if WM ts uC go p a b then 1 else 0 := by
  obtain ⟨t1, t2, t3, t4, t5, t6, t7, t8⟩ := hT
  have h1 : ∀ u, kJ u0 u → gZ u 1 = nI T := fun u hu => (hu.1.1 1 (by decide)).trans ((hM.1 1 (by decide)).trans t3)
  have hT1 : nI T - 1 = nI (T - 1) := pk_sub (a := T) (b := 1) (by omega)
  obtain ⟨u', ⟨k1, hr⟩, e⟩ := up fX12_judgeSteps_l2 (fun p u => kJ u0 u ∧ Row (gA u 42) (5 * p) 0 (fun q c => if WM ts uC go (q / 5) (q % 5) c then 1 else 0)) (T - 1) (fun u => some u) (by
    intro m u hI
    show fX12_judgeSteps_l2b (fX12_judgeSteps_l2 m) u (nI (T - 1)) = _
    unfold fX12_judgeSteps_l2b
    rw [h1 u hI.1, hT1, if_pos (nI_le (Nat.le_refl _) (by omega))]) (by
    intro m p u hp hI
    show ∃ u', _ ∧ fX12_judgeSteps_l2b (fX12_judgeSteps_l2 m) u (nI p) = fX12_judgeSteps_l2 m u' (nI (p + 1))
    unfold fX12_judgeSteps_l2b
    rw [h1 u hI.1, hT1, if_neg (nI_ge hp (by omega))]
    generalize hk2 : fX12_judgeSteps_l2 m = k2
    obtain ⟨u', hI', e⟩ := up (fX12_judgeSteps_l14 k2 (nI p)) (fun a u => kJ u0 u ∧ Row (gA u 42) (5 * p + a) 0 (fun q c => if WM ts uC go (q / 5) (q % 5) c then 1 else 0)) 5 (fun u => k2 u (nI (p + 1))) (by
      intro m u hI
      show fX12_judgeSteps_l14b k2 (fX12_judgeSteps_l14 k2 (nI p) m) u (nI p) 5 = _
      unfold fX12_judgeSteps_l14b
      rw [if_pos (by decide), nI_1]) (by
      intro m a u ha hI
      obtain ⟨hk, hI⟩ := hI
      show ∃ u', _ ∧ fX12_judgeSteps_l14b k2 (fX12_judgeSteps_l14 k2 (nI p) m) u (nI p) (nI a) = fX12_judgeSteps_l14 k2 (nI p) m u' (nI (a + 1))
      unfold fX12_judgeSteps_l14b
      obtain ⟨_, q2⟩ := hold_all h ha (show 0 < 5 by decide) (show p < 12 by omega)
      obtain ⟨_, _, d1, _⟩ := q2 u (keepM_tr hM hk.1)
      rw [if_neg (n5 ha), d1, cl1_s]
      generalize hk3 : fX12_judgeSteps_l14 k2 (nI p) m = k14
      obtain ⟨u', ⟨hI1, hI2⟩, e⟩ := up (fX12_judgeSteps_l29 k2 k14 (nI p) (nI a) (lwN uC a p)) (fun b u => kJ u0 u ∧ Row (gA u 42) (5 * p + a) b (fun q c => if WM ts uC go (q / 5) (q % 5) c then 1 else 0)) 5 (fun u => k14 u (nI (a + 1))) (by
        intro m u hI
        show fX12_judgeSteps_l29b k2 k14 (fX12_judgeSteps_l29 k2 k14 (nI p) (nI a) (lwN uC a p) m) u (nI p) (nI a) (lwN uC a p) 5 = _
        unfold fX12_judgeSteps_l29b
        rw [if_pos (by decide), nI_1]) (by
        intro m b u hb hI
        obtain ⟨hk, hI⟩ := hI
        show ∃ u', _ ∧ fX12_judgeSteps_l29b k2 k14 (fX12_judgeSteps_l29 k2 k14 (nI p) (nI a) (lwN uC a p) m) u (nI p) (nI a) (lwN uC a p) (nI b) = fX12_judgeSteps_l29 k2 k14 (nI p) (nI a) (lwN uC a p) m u' (nI (b + 1))
        unfold fX12_judgeSteps_l29b fX12_judgeSteps_b108
        have fin : ∀ v : St, kJ u v → gA v 42 = gA u 42 → ∀ x : Int32, x = (if WM ts uC go p a b then 1 else 0) → ∃ u', (kJ u0 u' ∧ Row (gA u' 42) (5 * p + a) (b + 1) (fun q c => if WM ts uC go (q / 5) (q % 5) c then 1 else 0)) ∧ fX12_judgeSteps_b109 k2 k14 (fX12_judgeSteps_l29 k2 k14 (nI p) (nI a) (lwN uC a p) m) v (nI p) (nI a) (lwN uC a p) (nI b) x (nI (5 * (5 * p + a) + b)) = fX12_judgeSteps_l29 k2 k14 (nI p) (nI a) (lwN uC a p) m u' (nI (b + 1)) := by
          intro v hv h42 x hx
          unfold fX12_judgeSteps_b109
          rw [stZ_s (by omega) (by decide), nI_1]
          refine ⟨_, ⟨kJ_tr (kJ_tr hk hv) (kJ_42 v _), ?_⟩, rfl⟩
          rw [gA_s, h42]
          refine row_sI hI hb ?_
          rw [hx, nar_b]
          show _ = if WM ts uC go ((5 * p + a) / 5) ((5 * p + a) % 5) b then (1 : Int32) else 0
          rw [show (5 * p + a) / 5 = p by omega, show (5 * p + a) % 5 = a by omega]
        rw [if_neg (n5 hb), show (25 : Int32) = nI 25 from rfl, show (5 : Int32) = nI 5 from rfl, pk_mul, pk_mul, nI_add, nI_add, show 25 * p + 5 * a + b = 5 * (5 * p + a) + b by omega, nmI_s]
        by_cases hab : a = b
        · rw [if_pos (by rw [hab])]
          exact fin u (kJ_rf u) rfl 0 (by unfold WM; rw [decide_eq_false (fun y => y hab)]; rfl)
        · rw [if_neg (nI_ne (by omega) (by omega) hab), ldI_s (by omega) (by decide), hk.2.2.1, show 5 * (5 * p + a) + b = 25 * p + 5 * a + b by omega, hgo p a b (by omega) ha hb, bitB, show 25 * p + 5 * a + b = 5 * (5 * p + a) + b by omega]
          cases hg : go p a b
          · exact fin u (kJ_rf u) rfl 0 (by unfold WM; rw [hg]; simp)
          · simp only [↓reduceIte]
            have hW : WM ts uC go p a b = gbN ts uC p a b := by unfold WM; rw [hg, decide_eq_true hab]; simp
            obtain ⟨_, q2⟩ := hold_all h ha hb (show p < 12 by omega)
            obtain ⟨w1, w2, d1, d2, d3, d4, d5⟩ := q2 u (keepM_tr hM hk.1)
            obtain ⟨x1, x2, f1, f2, f3, f4, f5⟩ := q2 w1 (keepM_tr hM (keepM_tr hk.1 (keepR_M d3)))
            rw [d2, cl2_s]
            by_cases z : hvN ts uC a b p = 0
            · rw [if_pos z, f4, cl2_s, h1 w1 (kJ_tr hk (kJ_R d3)), hT1, ← t6]
              have hkx : kJ u x2 := kJ_tr (kJ_R d3) (kJ_R f5)
              have h42 : gA x2 42 = gA u 42 := by rw [f5.2.1, d3.2.1]
              by_cases y : lvN ts uC a b p < gZ uC 68 - nI p
              · rw [if_pos y]
                exact fin x2 hkx h42 0 (by rw [hW]; unfold gbN; rw [decide_eq_true z, decide_eq_true y]; rfl)
              · rw [if_neg y]
                exact fin x2 hkx h42 1 (by rw [hW]; unfold gbN; rw [decide_eq_true z, decide_eq_false y]; rfl)
            · rw [if_neg z]
              exact fin w1 (kJ_R d3) (by rw [d3.2.1]) 0 (by rw [hW]; unfold gbN; rw [decide_eq_false z]; rfl)) NF 0 u (by omega) (by unfold NF; omega) ⟨hk, hI⟩
      exact ⟨u', ⟨hI1, row_n hI2⟩, e⟩) NF 0 u (by omega) (by unfold NF; omega) hI
    exact ⟨u', hI', e⟩) NF 0 u0 (by omega) (by unfold NF; omega) ⟨kJ_rf u0, row_0 _ _⟩
  refine ⟨u', e, k1, fun p a b hp ha hb => ?_⟩
  have := hr (5 * p + a) b hb (Or.inl (by omega))
  rw [show 25 * p + 5 * a + b = 5 * (5 * p + a) + b by omega, this]
  dsimp only
  rw [show (5 * p + a) / 5 = p by omega, show (5 * p + a) % 5 = a by omega]
end Judge
theorem m43 (u : St) (f : Nat → Int64) : keepM u (setB u 43 f) := ⟨fun _ _ => rfl, fun _ _ => rfl, rfl⟩
theorem m44 (u : St) (f : Nat → Int64) : keepM u (setB u 44 f) := ⟨fun _ _ => rfl, fun _ _ => rfl, rfl⟩
section GiveM
variable {u0 : St} {T : Nat} {al : Nat → Nat → Bool} {so : Nat → Bool} {go W : Nat → Nat → Nat → Bool}
/-- give's last part, over any links that give back -/
theorem giveM_ok (h1 : gZ u0 1 = nI T) (hC : CM u0 T (alS al so) go) (hW : ∀ p a b, p + 1 < T → a < 5 → b < 5 → gA u0 42 (25 * p + 5 * a + b) = if go p a b && W p a b then 1 else 0) (h2 : 2 ≤ T) (hT : T ≤ 12) : ∃ f g : Nat → Int64, fX12_give_l11 NF u0 0 = some (setB (setB u0 43 f) 44 g) ∧ ∀ l, l < 5 → g l = lN (bkN (c2M (alS al so) go W) (bwN al go T) (ruN (c1M (alS al so) go W) (fun l => fwN (alS al so) go 0 l)) (T - 1) l + ruN (c1M (alS al so) go W) (fun l => fwN (alS al so) go 0 l) (T - 1) l) := by
  generalize hru : ruN (c1M (alS al so) go W) (fun l => fwN (alS al so) go 0 l) = ru
  have hru0 : ∀ c, ru 0 c = if alS al so 0 c then 1 else 0 := fun c => by rw [← hru]; rfl
  have hT1 : nI T - 1 = nI (T - 1) := pk_sub (a := T) (b := 1) (by omega)
  have hcm : ∀ f g g' : Nat → Int64, setB (setB (setB u0 43 f) 44 g) 43 g' = setB (setB u0 43 g') 44 g := fun f g g' => by
    rw [setB_comm (setB u0 43 f) (k := 44) (j := 43) (by decide), setB_setB]
  obtain ⟨⟨f, g⟩, hfg, e1⟩ := up (fun m (s : (Nat → Int64) × (Nat → Int64)) i => fX12_give_l11 m (setB (setB u0 43 s.1) 44 s.2) i) (fun i s => (∀ x, x < i → s.1 x = lN (ru 0 x)) ∧ ∀ x, x < i → s.2 x = 0) 5 (fun s => fX12_give_l51 NF (setB (setB u0 43 s.1) 44 s.2) 0) (by
    intro m s hI
    show fX12_give_l11b (fX12_give_l11 m) (setB (setB u0 43 s.1) 44 s.2) 5 = _
    unfold fX12_give_l11b
    rw [if_pos (by decide)]) (by
    intro m i s hi hI
    obtain ⟨f, g⟩ := s
    dsimp only at hI
    show ∃ s' : (Nat → Int64) × (Nat → Int64), _ ∧ fX12_give_l11b (fX12_give_l11 m) (setB (setB u0 43 f) 44 g) (nI i) = fX12_give_l11 m (setB (setB u0 43 s'.1) 44 s'.2) (nI (i + 1))
    unfold fX12_give_l11b fX12_give_b42
    have ha := (hC.1 0 i (by omega) hi).1
    rw [show 5 * 0 + i = i by omega] at ha
    rw [if_neg (n5 hi), stL_s (by omega) (by decide), setB_setB, gB_s, gA_setB, gA_setB, ldI_s (by omega) (by decide), ha, bitB, nI_1]
    refine ⟨(vp_updL f i (if alS al so 0 i then 1 else 0), vp_updL g i 0), ⟨fun x hx => ?_, fun x hx => ?_⟩, ?_⟩
    · by_cases e : x = i
      · subst e
        show vp_updL f x _ x = _
        rw [updL_s, hru0]
        cases alS al so 0 x <;> rfl
      · show vp_updL f i _ x = _
        rw [updL_n _ _ e]; exact hI.1 x (by omega)
    · by_cases e : x = i
      · subst e
        show vp_updL g x _ x = _
        rw [updL_s]
      · show vp_updL g i _ x = _
        rw [updL_n _ _ e]; exact hI.2 x (by omega)
    · cases alS al so 0 i
      · simp only [Bool.false_eq_true, ↓reduceIte]
        rw [stL_s (by omega) (by decide), hcm, gB_n (j := 43) (setB u0 43 f) _ (by decide), gB_s]
      · simp only [↓reduceIte]
        rw [stL_s (by omega) (by decide), hcm, gB_n (j := 43) (setB u0 43 f) _ (by decide), gB_s]) NF 0 (gB u0 43, gB u0 44) (by omega) (by unfold NF; omega) ⟨fun x hx => by omega, fun x hx => by omega⟩
  dsimp only at hfg
  have e1' : fX12_give_l11 NF (setB (setB u0 43 (gB u0 43)) 44 (gB u0 44)) 0 = fX12_give_l51 NF (setB (setB u0 43 f) 44 g) 0 := e1
  rw [setB_self u0 43, setB_self u0 44] at e1'
  obtain ⟨⟨f2, g2⟩, hfg2, e2⟩ := up (fun m (s : (Nat → Int64) × (Nat → Int64)) i => fX12_give_l51 m (setB (setB u0 43 s.1) 44 s.2) i) (fun p s => IO (c2M (alS al so) go W) (bwN al go T) ru s.2 s.1 p) (T - 1) (fun s => fX12_give_l238 NF (setB (setB u0 43 s.1) 44 s.2) 0) (by
    intro m s hI
    show fX12_give_l51b (fX12_give_l51 m) (setB (setB u0 43 s.1) 44 s.2) (nI (T - 1)) = _
    unfold fX12_give_l51b
    rw [gZ_setB, gZ_setB, h1, hT1, if_pos (nI_le (Nat.le_refl _) (by omega))]) (by
    intro m p s hp hI
    obtain ⟨f, g⟩ := s
    dsimp only at hI
    show ∃ s' : (Nat → Int64) × (Nat → Int64), _ ∧ fX12_give_l51b (fX12_give_l51 m) (setB (setB u0 43 f) 44 g) (nI p) = fX12_give_l51 m (setB (setB u0 43 s'.1) 44 s'.2) (nI (p + 1))
    unfold fX12_give_l51b
    rw [gZ_setB, gZ_setB, h1, hT1, if_neg (nI_ge hp (by omega))]
    generalize hk2 : fX12_give_l51 m = k51
    obtain ⟨f3, hf3, e3⟩ := up (fun m (f : Nat → Int64) i => fX12_give_l64 k51 (nI p) m (setB (setB u0 43 f) 44 g) i) (fun b f => IO (c2M (alS al so) go W) (bwN al go T) ru g f p ∧ ∀ c, c < b → f (5 * (p + 1) + c) = 0) 5 (fun f => fX12_give_l93 k51 (nI p) NF (setB (setB u0 43 f) 44 g) 0) (by
      intro m f hI
      show fX12_give_l64b k51 (fX12_give_l64 k51 (nI p) m) (setB (setB u0 43 f) 44 g) (nI p) 5 = _
      unfold fX12_give_l64b
      rw [if_pos (by decide)]) (by
      intro m b f hb hI
      show ∃ f', _ ∧ fX12_give_l64b k51 (fX12_give_l64 k51 (nI p) m) (setB (setB u0 43 f) 44 g) (nI p) (nI b) = fX12_give_l64 k51 (nI p) m (setB (setB u0 43 f') 44 g) (nI (b + 1))
      unfold fX12_give_l64b
      rw [if_neg (n5 hb), nI_1 p, show (5 : Int32) = nI 5 from rfl, pk_mul, nI_add, stL_s (by omega) (by decide), hcm, gB_n (j := 43) (setB u0 43 f) g (by decide), gB_s, nI_1]
      refine ⟨_, ⟨⟨hI.1.1, fun q c hc hq => ?_⟩, fun c hc => ?_⟩, rfl⟩
      · rw [updL_n _ _ (by omega)]; exact hI.1.2 q c hc hq
      · by_cases e : c = b
        · subst e; rw [updL_s]
        · rw [updL_n _ _ (by omega)]; exact hI.2 c (by omega)) NF 0 f (by omega) (by unfold NF; omega) ⟨hI, fun c hc => by omega⟩
    obtain ⟨s4, hs4, e4⟩ := up (fun m (s : (Nat → Int64) × (Nat → Int64)) i => fX12_give_l93 k51 (nI p) m (setB (setB u0 43 s.1) 44 s.2) i) (fun a s => IV (c1M (alS al so) go W) (c2M (alS al so) go W) (bwN al go T) ru s.2 s.1 p a 0) 5 (fun s => k51 (setB (setB u0 43 s.1) 44 s.2) (nI (p + 1))) (by
      intro m s hI
      show fX12_give_l93b k51 (fX12_give_l93 k51 (nI p) m) (setB (setB u0 43 s.1) 44 s.2) (nI p) 5 = _
      unfold fX12_give_l93b
      rw [if_pos (by decide), nI_1]) (by
      intro m a s ha hI
      show ∃ s' : (Nat → Int64) × (Nat → Int64), _ ∧ fX12_give_l93b k51 (fX12_give_l93 k51 (nI p) m) (setB (setB u0 43 s.1) 44 s.2) (nI p) (nI a) = fX12_give_l93 k51 (nI p) m (setB (setB u0 43 s'.1) 44 s'.2) (nI (a + 1))
      unfold fX12_give_l93b
      rw [if_neg (n5 ha)]
      generalize hk3 : fX12_give_l93 k51 (nI p) m = k93
      obtain ⟨s', hs', e⟩ := up (fun m (s : (Nat → Int64) × (Nat → Int64)) i => fX12_give_l102 k51 k93 (nI p) (nI a) m (setB (setB u0 43 s.1) 44 s.2) i) (fun b s => IV (c1M (alS al so) go W) (c2M (alS al so) go W) (bwN al go T) ru s.2 s.1 p a b) 5 (fun s => k93 (setB (setB u0 43 s.1) 44 s.2) (nI (a + 1))) (by
        intro m s hI
        show fX12_give_l102b k51 k93 (fX12_give_l102 k51 k93 (nI p) (nI a) m) (setB (setB u0 43 s.1) 44 s.2) (nI p) (nI a) 5 = _
        unfold fX12_give_l102b
        rw [if_pos (by decide), nI_1]) (by
        intro m b s hb hI
        obtain ⟨f, g⟩ := s
        dsimp only at hI
        show ∃ s' : (Nat → Int64) × (Nat → Int64), _ ∧ fX12_give_l102b k51 k93 (fX12_give_l102 k51 k93 (nI p) (nI a) m) (setB (setB u0 43 f) 44 g) (nI p) (nI a) (nI b) = fX12_give_l102 k51 k93 (nI p) (nI a) m (setB (setB u0 43 s'.1) 44 s'.2) (nI (b + 1))
        unfold fX12_give_l102b fX12_give_b218
        rw [if_neg (n5 hb), nI_1 p, nI_1 b, show (25 : Int32) * nI p + 5 * nI a + nI b = nI (25 * p + 5 * a + b) from by
          rw [show (25 : Int32) = nI 25 from rfl, show (5 : Int32) = nI 5 from rfl, pk_mul, pk_mul, nI_add, nI_add], show (5 : Int32) * nI (p + 1) + nI b = nI (5 * (p + 1) + b) from by
          rw [show (5 : Int32) = nI 5 from rfl, pk_mul, nI_add], show (5 : Int32) * nI p + nI a = nI (5 * p + a) from by
          rw [show (5 : Int32) = nI 5 from rfl, pk_mul, nI_add], nmI_s, nmI_s]
        simp only [gA_setB]
        rw [ldI_s (by omega) (by decide), hC.2 p a b (by omega) ha hb, bitB]
        cases hg : go p a b
        · refine ⟨(f, g), iv_sk hI ?_ ?_, rfl⟩
          · unfold c1M; rw [hg]; simp
          · unfold c2M; rw [hg]; simp
        · simp only [↓reduceIte]
          rw [ldI_s (by omega) (by decide), (hC.1 (p + 1) b (by omega) hb).1, bitB]
          cases hal : alS al so (p + 1) b
          · refine ⟨(f, g), iv_sk hI ?_ ?_, rfl⟩
            · unfold c1M; rw [hal]; rfl
            · unfold c2M; rw [hal]; rfl
          · simp only [↓reduceIte]
            rw [ldI_s (by omega) (by decide), hW p a b (by omega) ha hb, hg, Bool.true_and, bitB]
            have c1e : c1M (alS al so) go W p a b = !(W p a b) := by unfold c1M; rw [hg, hal]; simp
            have c2e : c2M (alS al so) go W p a b = W p a b := by unfold c2M; rw [hg, hal]; simp
            have hfa : f (5 * p + a) = lN (ru p a) := hI.2.1 p a ha (Nat.le_refl p)
            cases hw : W p a b
            · simp only [Bool.false_eq_true, ↓reduceIte]
              rw [ldL_s (by omega) (by decide), gB_n (j := 43) (setB u0 43 f) g (by decide), gB_s, hI.2.2 b hb, ldL_s (by omega) (by decide), hfa, lN_add, stL_s (by omega) (by decide), hcm, gB_n (j := 43) (setB u0 43 f) g (by decide), gB_s]
              exact ⟨(_, g), iv_un hI hb (by rw [c1e, hw]; rfl) (by rw [c2e, hw]) rfl, rfl⟩
            · simp only [↓reduceIte]
              have hbe : gB u0 18 (5 * (p + 1) + b) = lN (bwN al go T (p + 1) b) := by
                rw [(hC.1 (p + 1) b (by omega) hb).2.2, bwN_so al so go (by omega) hb h2, decide_eq_true (show 0 < p + 1 by omega)]
                rfl
              rw [ldL_s ha (by decide), gB_s, hI.1 a ha, ldL_s (by omega) (by decide), gB_n (j := 43) (setB u0 43 f) g (by decide), gB_s, hfa, ldL_s (by omega) (by decide), gB_n (j := 18) (setB u0 43 f) g (by decide), gB_n (j := 18) u0 f (by decide), hbe, lN_mul, lN_add, stL_s ha (by decide), setB_setB, gB_s]
              exact ⟨(f, _), iv_bk hI (by rw [c1e, hw]; rfl) (by rw [c2e, hw]) rfl, rfl⟩) NF 0 s (by omega) (by unfold NF; omega) hI
      exact ⟨s', iv_n hs', e⟩) NF 0 (f3, g) (by omega) (by unfold NF; omega) (iv_i hf3.1 hf3.2)
    refine ⟨s4, ?_, e3.trans e4⟩
    subst hru
    exact iv_o hs4) NF 0 (f, g) (by omega) (by unfold NF; omega) ⟨fun a ha => by
      show g a = _
      rw [hfg.2 a ha]; rfl, fun q c hc hq => by
      show f (5 * q + c) = _
      rw [show q = 0 by omega, show 5 * 0 + c = c by omega]
      exact hfg.1 c hc⟩
  dsimp only at hfg2
  have e2' : fX12_give_l51 NF (setB (setB u0 43 f) 44 g) 0 = fX12_give_l238 NF (setB (setB u0 43 f2) 44 g2) 0 := e2
  obtain ⟨g3, hg3, e3⟩ := up (fun m (g : Nat → Int64) i => fX12_give_l238 m (setB (setB u0 43 f2) 44 g) i) (fun i g => ∀ l, l < 5 → g l = lN (bkN (c2M (alS al so) go W) (bwN al go T) ru (T - 1) l + if l < i then ru (T - 1) l else 0)) 5 (fun g => some (setB (setB u0 43 f2) 44 g)) (by
    intro m g hI
    show fX12_give_l238b (fX12_give_l238 m) (setB (setB u0 43 f2) 44 g) 5 = _
    unfold fX12_give_l238b
    rw [if_pos (by decide)]) (by
    intro m i g hi hI
    show ∃ g', _ ∧ fX12_give_l238b (fX12_give_l238 m) (setB (setB u0 43 f2) 44 g) (nI i) = fX12_give_l238 m (setB (setB u0 43 f2) 44 g') (nI (i + 1))
    unfold fX12_give_l238b
    have hf2 : f2 (5 * (T - 1) + i) = lN (ru (T - 1) i) := hfg2.2 (T - 1) i hi (Nat.le_refl _)
    rw [if_neg (n5 hi), ldL_s hi (by decide), gB_s, hI i hi, if_neg (show ¬ i < i by omega), Nat.add_zero, gZ_setB, gZ_setB, h1, hT1, show (5 : Int32) = nI 5 from rfl, pk_mul, nI_add, ldL_s (by omega) (by decide), gB_n (j := 43) (setB u0 43 f2) g (by decide), gB_s, hf2, lN_add, stL_s hi (by decide), setB_setB, gB_s, nI_1]
    refine ⟨_, fun l hl => ?_, rfl⟩
    by_cases e : l = i
    · subst e
      rw [updL_s, if_pos (show l < l + 1 by omega)]
      try rw [Nat.add_zero]
    · rw [updL_n _ _ e, hI l hl]
      by_cases e2 : l < i
      · rw [if_pos e2, if_pos (show l < i + 1 by omega)]
      · rw [if_neg e2, if_neg (show ¬ l < i + 1 by omega)]) NF 0 g2 (by omega) (by unfold NF; omega) (fun l hl => by
    rw [if_neg (show ¬ l < 0 by omega), Nat.add_zero]
    exact hfg2.1 l hl)
  refine ⟨f2, g3, e1'.trans (e2'.trans e3), fun l hl => ?_⟩
  rw [hg3 l hl, if_pos hl]
end GiveM
