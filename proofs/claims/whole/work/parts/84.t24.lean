def hvN (ts : List Tx) (u : St) (a b p : Nat) : Int32 := match fX3_hold ts u (nI a) (nI b) (nI p) with
  | some r => r.1
  | none => 0
def lvN (ts : List Tx) (u : St) (a b p : Nat) : Int32 := match fX3_limit ts u (nI a) (nI b) (nI p) with
  | some r => r.1
  | none => 0
def lwN (u : St) (a p : Nat) : Int32 := match fX3_textFor u (nI a) (nI p) with
  | some r => r
  | none => 0
theorem hold_all {ts : List Tx} {uC uM : St} (h : Rel ts uC uM) {a b p : Nat} (ha : a < 5) (hb : b < 5) (hp : p < 12) : (∀ u, keepC uC u → ∃ F G F' G' : Nat → Int32, fX3_hold ts u (nI a) (nI b) (nI p) = some (hvN ts uC a b p, setA (setA u 67 F) 66 G) ∧ fX3_limit ts u (nI a) (nI b) (nI p) = some (lvN ts uC a b p, setA (setA u 67 F') 66 G')) ∧ ∀ v, keepM uM v → ∃ v1 v2, fX12_theLaw v (nI a) (nI p) = some (lwN uC a p) ∧ fX12_read v (lwN uC a p) (nI a) (nI b) (nI p) 0 = some (hvN ts uC a b p, v1) ∧ keepR v v1 ∧ fX12_read v (lwN uC a p) (nI a) (nI b) (nI p) 1 = some (lvN ts uC a b p, v2) ∧ keepR v v2 := by
  have law : ∀ v, keepM uM v → fX12_theLaw v (nI a) (nI p) = some (lwN uC a p) := by
    intro v hv
    obtain ⟨r, r1, r2, _⟩ := theLaw_eq (Rel_keep h (keepC_rf uC) hv) (nI a) (nI p)
    unfold lwN
    rw [r1, r2]
  constructor
  · intro u hu
    obtain ⟨x, y, r, F, G, F', G', v, v', d1, d2, d3, d4, d5, d6, d7⟩ := hold_eq h ha hb hp
    obtain ⟨x2, y2, r2, F2, G2, F2', G2', v2, v2', f1, f2, f3, f4, f5, f6, f7⟩ := hold_eq (Rel_keep h hu (keepM_rf uM)) ha hb hp
    have er : r2 = r := Option.some.inj (f3.symm.trans d3)
    subst er
    have ex : x2 = x := congrArg Prod.fst (Option.some.inj (f4.symm.trans d4))
    have ey : y2 = y := congrArg Prod.fst (Option.some.inj (f6.symm.trans d6))
    have e1 : hvN ts uC a b p = x := by unfold hvN; rw [d1]
    have e2 : lvN ts uC a b p = y := by unfold lvN; rw [d2]
    exact ⟨F2, G2, F2', G2', by rw [f1, e1, ex], by rw [f2, e2, ey]⟩
  · intro v hv
    obtain ⟨x2, y2, r2, F2, G2, F2', G2', v2, v2', f1, f2, f3, f4, f5, f6, f7⟩ := hold_eq (Rel_keep h (keepC_rf uC) hv) ha hb hp
    have er : r2 = lwN uC a p := Option.some.inj (f3.symm.trans (law v hv))
    subst er
    have e1 : hvN ts uC a b p = x2 := by unfold hvN; rw [f1]
    have e2 : lvN ts uC a b p = y2 := by unfold lvN; rw [f2]
    exact ⟨v2, v2', f3, by rw [e1]; exact f4, f5, by rw [e2]; exact f6, f7⟩
/-- whether a link gives back -/
def gbN (ts : List Tx) (u : St) (p a b : Nat) : Bool := decide (hvN ts u a b p = 0) && !(decide (lvN ts u a b p < gZ u 68 - nI p))
def kG (u v : St) : Prop := keepC u v ∧ ∀ k, gB v k = gB u k
theorem gives_C {ts : List Tx} {uC uM : St} (h : Rel ts uC uM) {a b p : Nat} (ha : a < 5) (hb : b < 5) (hp : p < 12) {u : St} (hu : keepC uC u) : ∃ u', fX3_givesBack ts u (nI a) (nI b) (nI p) = some (if gbN ts uC p a b then 1 else 0, u') ∧ kG u u' := by
  obtain ⟨q1, _⟩ := hold_all h ha hb hp
  obtain ⟨F, G, F', G', e1, e2⟩ := q1 u hu
  have kk : ∀ F G, keepC u (setA (setA u 67 F) 66 G) := fun F G => keepC_tr (k67 u F) (k66 _ G)
  obtain ⟨F2, G2, F2', G2', e3, e4⟩ := q1 _ (keepC_tr hu (kk F G))
  unfold fX3_givesBack gbN
  rw [e1, cl2_s]
  by_cases z : hvN ts uC a b p = 0
  · rw [if_pos z, e4, cl2_s, decide_eq_true z]
    have e68 : gZ (setA (setA u 67 F) 66 G) 68 = gZ uC 68 := hu.1 68 (by decide)
    rw [e68]
    refine ⟨setA (setA (setA (setA u 67 F) 66 G) 67 F2') 66 G2', ?_, keepC_tr (kk F G) (keepC_tr (k67 _ F2') (k66 _ G2')), fun k => rfl⟩
    by_cases y : lvN ts uC a b p < gZ uC 68 - nI p
    · rw [if_pos y, decide_eq_true y]; rfl
    · rw [if_neg y, decide_eq_false y]; rfl
  · rw [if_neg z, decide_eq_false z]
    exact ⟨_, rfl, kk F G, fun k => rfl⟩
theorem kG_rf (u : St) : kG u u := ⟨keepC_rf u, fun _ => rfl⟩
/-- the class's giving back -/
def WN (ts : List Tx) (u : St) (jd : Nat → Bool) : Nat → Nat → Nat → Bool := fun p a b => decide (¬ a = b) && (jd a && gbN ts u p a b)
def kH (u v : St) : Prop := keepC u v ∧ gB v 21 = gB u 21 ∧ gB v 22 = gB u 22
theorem kH_rf (u : St) : kH u u := ⟨keepC_rf u, rfl, rfl⟩
theorem kH_tr {u v w : St} (h : kH u v) (k : kH v w) : kH u w := ⟨keepC_tr h.1 k.1, k.2.1.trans h.2.1, k.2.2.trans h.2.2⟩
theorem kH_G {u v : St} (h : kG u v) : kH u v := ⟨h.1, h.2 21, h.2 22⟩
theorem kH_2 (u : St) (f : Nat → Int64) : kH u (setB u 2 f) := ⟨⟨fun _ _ => rfl, fun _ _ => rfl, rfl⟩, rfl, rfl⟩
theorem kH_3 (u : St) (f : Nat → Int64) : kH u (setB u 3 f) := ⟨⟨fun _ _ => rfl, fun _ _ => rfl, rfl⟩, rfl, rfl⟩
theorem fill2 (u : St) : ∃ f : Nat → Int64, fJ7_fill_d0a16_X0_2 u 0 = some (setB u 2 f) ∧ ∀ x, x < 5 → f x = 0 := by
  obtain ⟨f, hf, e⟩ := up (fun m (f : Nat → Int64) i => fJ7_fill_d0a16_X0_2_l6 0 5 m (setB u 2 f) i) (fun i f => ∀ x, x < i → f x = 0) 5 (fun f => some (setB u 2 f)) (by
    intro m f hI
    show fJ7_fill_d0a16_X0_2_l6b (fJ7_fill_d0a16_X0_2_l6 0 5 m) (setB u 2 f) 0 5 5 = _
    unfold fJ7_fill_d0a16_X0_2_l6b
    rw [if_pos (by decide)]) (by
    intro m i f hi hI
    show ∃ f', _ ∧ fJ7_fill_d0a16_X0_2_l6b (fJ7_fill_d0a16_X0_2_l6 0 5 m) (setB u 2 f) 0 (nI i) 5 = fJ7_fill_d0a16_X0_2_l6 0 5 m (setB u 2 f') (nI (i + 1))
    unfold fJ7_fill_d0a16_X0_2_l6b
    rw [if_neg (n5 hi), stL_s hi (by decide), setB_setB, gB_s, nI_1]
    refine ⟨_, fun x hx => ?_, rfl⟩
    by_cases e : x = i
    · subst e; rw [updL_s]
    · rw [updL_n _ _ e]; exact hI x (by omega)) NF 0 (gB u 2) (by omega) (by unfold NF; omega) (fun x hx => by omega)
  rw [show setB u 2 (gB u 2) = u from setB_self u 2] at e
  exact ⟨f, e, hf⟩
theorem fill03 (u : St) : ∃ f : Nat → Int64, fJ7_fill_d0a16_X0_3 u 0 = some (setB u 3 f) ∧ ∀ x, x < 60 → f x = 0 := by
  obtain ⟨f, hf, e⟩ := up (fun m (f : Nat → Int64) i => fJ7_fill_d0a16_X0_3_l6 0 60 m (setB u 3 f) i) (fun i f => ∀ x, x < i → f x = 0) 60 (fun f => some (setB u 3 f)) (by
    intro m f hI
    show fJ7_fill_d0a16_X0_3_l6b (fJ7_fill_d0a16_X0_3_l6 0 60 m) (setB u 3 f) 0 60 60 = _
    unfold fJ7_fill_d0a16_X0_3_l6b
    rw [if_pos (by decide)]) (by
    intro m i f hi hI
    show ∃ f', _ ∧ fJ7_fill_d0a16_X0_3_l6b (fJ7_fill_d0a16_X0_3_l6 0 60 m) (setB u 3 f) 0 (nI i) 60 = fJ7_fill_d0a16_X0_3_l6 0 60 m (setB u 3 f') (nI (i + 1))
    unfold fJ7_fill_d0a16_X0_3_l6b
    rw [if_neg (n60 hi), stL_s hi (by decide), setB_setB, gB_s, nI_1]
    refine ⟨_, fun x hx => ?_, rfl⟩
    by_cases e : x = i
    · subst e; rw [updL_s]
    · rw [updL_n _ _ e]; exact hI x (by omega)) NF 0 (gB u 3) (by omega) (by unfold NF; omega) (fun x hx => by omega)
  rw [show setB u 3 (gB u 3) = u from setB_self u 3] at e
  exact ⟨f, e, hf⟩
/-- rows that are not begun -/
def ZR (T : Nat) (un : Nat → Int64) (p : Nat) : Prop := ∀ q c, c < 5 → q < T → p < q → un (5 * q + c) = 0
section GB
variable {ts : List Tx} {u0 uM : St} {T : Nat} {al : Nat → Nat → Bool} {so : Nat → Bool} {go : Nat → Nat → Nat → Bool} {v1 : Int32} {jd : Nat → Bool}
theorem goOn_ok (h : Rel ts u0 uM) (hV : VC u0 T al so go) (hC : CC u0 T al so go) (hT : T ≤ 12) (hjd : ∀ a, a < 5 → (jd a = true ↔ v1 = -1 ∨ v1 = nI a)) {p a0 : Nat} (hp : p + 1 < T) (ha0 : a0 < 5) {s0 : Nat → Nat} {u : St} (hu : kH u0 u) (hI : IV (c1C al go (WN ts u0 jd) T) (c2C al go (WN ts u0 jd) T) (bwN al go T) (ruN (c1C al go (WN ts u0 jd) T) s0) (gB u 2) (gB u 3) p a0 0) (hZ : ZR T (gB u 3) (p + 1)) : ∃ u', fX0_goOn ts u (nI a0) (nI p) v1 = some u' ∧ kH u0 u' ∧ IV (c1C al go (WN ts u0 jd) T) (c2C al go (WN ts u0 jd) T) (bwN al go T) (ruN (c1C al go (WN ts u0 jd) T) s0) (gB u' 2) (gB u' 3) p (a0 + 1) 0 ∧ ZR T (gB u' 3) (p + 1) := by
  unfold fX0_goOn
  rw [place_n, cl1_s, ldL_s (by omega) (by decide), hI.2.1 p a0 ha0 (Nat.le_refl p)]
  generalize hbg : ruN (c1C al go (WN ts u0 jd) T) s0 p a0 = bg
  obtain ⟨u', ⟨h1, h2, h3⟩, e⟩ := up (fX0_goOn_l15 ts (nI a0) (nI p) v1 (lN bg)) (fun b u => kH u0 u ∧ IV (c1C al go (WN ts u0 jd) T) (c2C al go (WN ts u0 jd) T) (bwN al go T) (ruN (c1C al go (WN ts u0 jd) T) s0) (gB u 2) (gB u 3) p a0 b ∧ ZR T (gB u 3) (p + 1)) 5 (fun u => some u) (by
    intro m u hI
    show fX0_goOn_l15b ts (fX0_goOn_l15 ts (nI a0) (nI p) v1 (lN bg) m) u (nI a0) (nI p) v1 (lN bg) 5 = _
    unfold fX0_goOn_l15b
    rw [if_pos (by decide)]) (by
    intro m b u hb hI
    obtain ⟨hu, hI, hZ⟩ := hI
    show ∃ u', _ ∧ fX0_goOn_l15b ts (fX0_goOn_l15 ts (nI a0) (nI p) v1 (lN bg) m) u (nI a0) (nI p) v1 (lN bg) (nI b) = fX0_goOn_l15 ts (nI a0) (nI p) v1 (lN bg) m u' (nI (b + 1))
    unfold fX0_goOn_l15b fX0_goOn_b142
    have hlead := (hV u hu.1).2.2.2 p a0 b (by omega) ha0 hb
    rw [if_neg (n5 hb), nI_1 p, place_n, cl1_s, ldL_s (by omega) (by decide), hu.2.2, (hC (p + 1) b hp hb).2, nI_1 b]
    by_cases z : bwN al go T (p + 1) b = 0
    · rw [if_pos (show lN (bwN al go T (p + 1) b) = 0 by rw [z]; rfl)]
      refine ⟨u, ⟨hu, iv_sk hI ?_ ?_, hZ⟩, rfl⟩
      · unfold c1C; rw [decide_eq_false (fun y => y z)]; rfl
      · unfold c2C; rw [decide_eq_false (fun y => y z)]; rfl
    · rw [if_neg (show ¬ lN (bwN al go T (p + 1) b) = 0 from fun y => z ((lN_eq (b := 0) (bw31 al go hT) (by decide)).mp y)), hlead, cl1_s, bitB]
      cases hg : go p a0 b
      · refine ⟨u, ⟨hu, iv_sk hI ?_ ?_, hZ⟩, rfl⟩
        · unfold c1C; rw [hg]; simp
        · unfold c2C; rw [hg]; simp
      · simp only [↓reduceIte]
        have c1e : c1C al go (WN ts u0 jd) T p a0 b = !(WN ts u0 jd p a0 b) := by
          unfold c1C; rw [hg, decide_eq_true z]; simp
        have c2e : c2C al go (WN ts u0 jd) T p a0 b = WN ts u0 jd p a0 b := by
          unfold c2C; rw [hg, decide_eq_true z]; simp
        have b130 : WN ts u0 jd p a0 b = false → ∀ u, kH u0 u → IV (c1C al go (WN ts u0 jd) T) (c2C al go (WN ts u0 jd) T) (bwN al go T) (ruN (c1C al go (WN ts u0 jd) T) s0) (gB u 2) (gB u 3) p a0 b → ZR T (gB u 3) (p + 1) → ∃ u', (kH u0 u' ∧ IV (c1C al go (WN ts u0 jd) T) (c2C al go (WN ts u0 jd) T) (bwN al go T) (ruN (c1C al go (WN ts u0 jd) T) s0) (gB u' 2) (gB u' 3) p a0 (b + 1) ∧ ZR T (gB u' 3) (p + 1)) ∧ fX0_goOn_b130 ts (fX0_goOn_l15 ts (nI a0) (nI p) v1 (lN bg) m) u (nI a0) (nI p) v1 (lN bg) (nI b) (nI (5 * (p + 1) + b)) = fX0_goOn_l15 ts (nI a0) (nI p) v1 (lN bg) m u' (nI (b + 1)) := by
          intro hw u hu hI hZ
          unfold fX0_goOn_b130 fX0_goOn_b142
          rw [ldL_s (by omega) (by decide), hI.2.2 b hb, lN_add, stL_s (by omega) (by decide), nI_1]
          refine ⟨_, ⟨kH_tr hu (kH_3 u _), ?_, ?_⟩, rfl⟩
          · rw [gB_s, gB_n (j := 2) u _ (by decide)]
            exact iv_un hI hb (by rw [c1e, hw]; rfl) (by rw [c2e, hw]) (by rw [hbg])
          · rw [gB_s]
            intro q c hc h1 h2
            rw [updL_n _ _ (by omega)]
            exact hZ q c hc h1 h2
        have b84 : jd a0 = true → ¬ a0 = b → ∃ u', (kH u0 u' ∧ IV (c1C al go (WN ts u0 jd) T) (c2C al go (WN ts u0 jd) T) (bwN al go T) (ruN (c1C al go (WN ts u0 jd) T) s0) (gB u' 2) (gB u' 3) p a0 (b + 1) ∧ ZR T (gB u' 3) (p + 1)) ∧ fX0_goOn_b79 ts (fX0_goOn_l15 ts (nI a0) (nI p) v1 (lN bg) m) u (nI a0) (nI p) v1 (lN bg) (nI b) (nI (5 * (p + 1) + b)) = fX0_goOn_l15 ts (nI a0) (nI p) v1 (lN bg) m u' (nI (b + 1)) := by
          intro hj hne
          have hwe : WN ts u0 jd p a0 b = gbN ts u0 p a0 b := by
            unfold WN; rw [hj, decide_eq_true hne]; simp
          unfold fX0_goOn_b79 fX0_goOn_b84
          obtain ⟨u2, e2, hk2⟩ := gives_C h ha0 hb (show p < 12 by omega) hu.1
          rw [if_neg (by decide), e2, cl2_s, bitB]
          have hu2 : kH u0 u2 := kH_tr hu (kH_G hk2)
          cases hgb : gbN ts u0 p a0 b
          · simp only [Bool.false_eq_true, ↓reduceIte]
            exact b130 (by rw [hwe, hgb]) u2 hu2 (by rw [hk2.2 2, hk2.2 3]; exact hI) (by rw [hk2.2 3]; exact hZ)
          · simp only [↓reduceIte]
            unfold fX0_goOn_b142
            rw [ldL_s ha0 (by decide), hk2.2 2, hI.1 a0 ha0, ldL_s (by omega) (by decide), hu2.2.2, (hC (p + 1) b hp hb).2, lN_mul, lN_add, stL_s ha0 (by decide), nI_1]
            refine ⟨_, ⟨kH_tr hu2 (kH_2 u2 _), ?_, ?_⟩, rfl⟩
            · rw [gB_s, gB_n (j := 3) u2 _ (by decide), hk2.2 2, hk2.2 3]
              exact iv_bk hI (by rw [c1e, hwe, hgb]; rfl) (by rw [c2e, hwe, hgb]) (by rw [hbg])
            · rw [gB_n (j := 3) u2 _ (by decide), hk2.2 3]
              exact hZ
        have b83 : WN ts u0 jd p a0 b = false → ∃ u', (kH u0 u' ∧ IV (c1C al go (WN ts u0 jd) T) (c2C al go (WN ts u0 jd) T) (bwN al go T) (ruN (c1C al go (WN ts u0 jd) T) s0) (gB u' 2) (gB u' 3) p a0 (b + 1) ∧ ZR T (gB u' 3) (p + 1)) ∧ fX0_goOn_b83 ts (fX0_goOn_l15 ts (nI a0) (nI p) v1 (lN bg) m) u (nI a0) (nI p) v1 (lN bg) (nI b) (nI (5 * (p + 1) + b)) = fX0_goOn_l15 ts (nI a0) (nI p) v1 (lN bg) m u' (nI (b + 1)) := by
          intro hw
          unfold fX0_goOn_b83 fX0_goOn_b84
          rw [if_pos rfl]
          exact b130 hw u hu hI hZ
        by_cases hab : a0 = b
        · rw [if_pos (by rw [hab])]
          exact b83 (by unfold WN; rw [decide_eq_false (fun y => y hab)]; rfl)
        · rw [if_neg (nI_ne (by omega) (by omega) hab)]
          by_cases hv1 : v1 = -1
          · rw [if_pos hv1]
            exact b84 ((hjd a0 ha0).mpr (Or.inl hv1)) hab
          · rw [if_neg hv1]
            by_cases hv2 : v1 = nI a0
            · rw [if_pos hv2]
              exact b84 ((hjd a0 ha0).mpr (Or.inr hv2)) hab
            · rw [if_neg hv2]
              refine b83 ?_
              have : jd a0 = false := by
                cases hj : jd a0
                · rfl
                · rcases (hjd a0 ha0).mp hj with q | q
                  · exact absurd q hv1
                  · exact absurd q hv2
              unfold WN
              rw [this]; simp) NF 0 u (by omega) (by unfold NF; omega) ⟨hu, hI, hZ⟩
  exact ⟨u', e, h1, iv_n h2, h3⟩
theorem giveBack_ok (h : Rel ts u0 uM) (hV : VC u0 T al so go) (hC : CC u0 T al so go) (h4 : gZ u0 4 = nI T) (h2 : 2 ≤ T) (hT : T ≤ 12) (hjd : ∀ a, a < 5 → (jd a = true ↔ v1 = -1 ∨ v1 = nI a)) : ∃ u', fX0_giveBack ts u0 v1 = some u' ∧ kH u0 u' ∧ IO (c2C al go (WN ts u0 jd) T) (bwN al go T) (ruN (c1C al go (WN ts u0 jd) T) (fun l => fwN (alS al so) go 0 l)) (gB u' 2) (gB u' 3) (T - 1) := by
  obtain ⟨f2, e2, hf2⟩ := fill2 u0
  obtain ⟨f3, e3, hf3⟩ := fill03 (setB u0 2 f2)
  generalize hru : ruN (c1C al go (WN ts u0 jd) T) (fun l => fwN (alS al so) go 0 l) = ru
  have hru0 : ∀ c, ru 0 c = fwN (alS al so) go 0 c := fun c => by rw [← hru]; rfl
  obtain ⟨f, hf, e4⟩ := up (fun m (f : Nat → Int64) i => fX0_giveBack_l18 ts v1 m (setB (setB u0 2 f2) 3 f) i) (fun i f => (∀ x, x < i → f x = lN (ru 0 x)) ∧ ∀ x, 5 ≤ x → x < 60 → f x = 0) 5 (fun f => fX0_giveBack_l46 ts v1 NF (setB (setB u0 2 f2) 3 f) 0) (by
    intro m f hI
    show fX0_giveBack_l18b ts (fX0_giveBack_l18 ts v1 m) (setB (setB u0 2 f2) 3 f) v1 5 = _
    unfold fX0_giveBack_l18b
    rw [if_pos (by decide)]) (by
    intro m i f hi hI
    show ∃ f', _ ∧ fX0_giveBack_l18b ts (fX0_giveBack_l18 ts v1 m) (setB (setB u0 2 f2) 3 f) v1 (nI i) = fX0_giveBack_l18 ts v1 m (setB (setB u0 2 f2) 3 f') (nI (i + 1))
    unfold fX0_giveBack_l18b
    have hci := (hC 0 i (by omega) hi).1
    rw [show 5 * 0 + i = i by omega] at hci
    rw [if_neg (n5 hi), ldL_s (by omega) (by decide), gB_n (j := 21) (setB u0 2 f2) f (by decide), gB_n (j := 21) u0 f2 (by decide), hci, stL_s (by omega) (by decide), setB_setB, gB_s, nI_1]
    refine ⟨_, ⟨fun x hx => ?_, fun x h1 h2 => ?_⟩, rfl⟩
    · by_cases e : x = i
      · subst e; rw [updL_s, hru0]
      · rw [updL_n _ _ e]; exact hI.1 x (by omega)
    · rw [updL_n _ _ (by omega)]; exact hI.2 x h1 h2) NF 0 f3 (by omega) (by unfold NF; omega) ⟨fun x hx => by omega, fun x _ h2 => hf3 x h2⟩
  obtain ⟨u', ⟨g1, g2, _⟩, e5⟩ := up (fX0_giveBack_l46 ts v1) (fun p u => kH u0 u ∧ IO (c2C al go (WN ts u0 jd) T) (bwN al go T) ru (gB u 2) (gB u 3) p ∧ ZR T (gB u 3) p) (T - 1) (fun u => some u) (by
    intro m u hI
    show fX0_giveBack_l46b ts (fX0_giveBack_l46 ts v1 m) u v1 (nI (T - 1)) = _
    unfold fX0_giveBack_l46b
    rw [hI.1.1.1 4 (by decide), h4, show nI T - 1 = nI (T - 1) from pk_sub (a := T) (b := 1) (by omega), if_pos (nI_le (Nat.le_refl _) (by omega))]) (by
    intro m p u hp hI
    obtain ⟨hu, hI, hZ⟩ := hI
    show ∃ u', _ ∧ fX0_giveBack_l46b ts (fX0_giveBack_l46 ts v1 m) u v1 (nI p) = fX0_giveBack_l46 ts v1 m u' (nI (p + 1))
    unfold fX0_giveBack_l46b
    rw [hu.1.1 4 (by decide), h4, show nI T - 1 = nI (T - 1) from pk_sub (a := T) (b := 1) (by omega), if_neg (nI_ge hp (by omega))]
    generalize hk2 : fX0_giveBack_l46 ts v1 m = k46
    obtain ⟨u', ⟨w1, w2, w3⟩, e⟩ := up (fX0_giveBack_l58 ts k46 v1 (nI p)) (fun a u => kH u0 u ∧ IV (c1C al go (WN ts u0 jd) T) (c2C al go (WN ts u0 jd) T) (bwN al go T) ru (gB u 2) (gB u 3) p a 0 ∧ ZR T (gB u 3) (p + 1)) 5 (fun u => k46 u (nI (p + 1))) (by
      intro m u hI
      show fX0_giveBack_l58b ts k46 (fX0_giveBack_l58 ts k46 v1 (nI p) m) u v1 (nI p) 5 = _
      unfold fX0_giveBack_l58b
      rw [if_pos (by decide), nI_1]) (by
      intro m a u ha hI
      obtain ⟨hu, hI, hZ⟩ := hI
      show ∃ u', _ ∧ fX0_giveBack_l58b ts k46 (fX0_giveBack_l58 ts k46 v1 (nI p) m) u v1 (nI p) (nI a) = fX0_giveBack_l58 ts k46 v1 (nI p) m u' (nI (a + 1))
      unfold fX0_giveBack_l58b fX0_giveBack_b85
      rw [if_neg (n5 ha), place_n, cl1_s, ldL_s (by omega) (by decide), hI.2.1 p a ha (Nat.le_refl p), nI_1]
      subst hru
      obtain ⟨u', e, w1, w2, w3⟩ := goOn_ok h hV hC hT hjd (by omega) ha hu hI hZ
      by_cases z : lN (ruN (c1C al go (WN ts u0 jd) T) (fun l => fwN (alS al so) go 0 l) p a) = 0
      · rw [if_pos z]
        by_cases z2 : ruN (c1C al go (WN ts u0 jd) T) (fun l => fwN (alS al so) go 0 l) p a = 0
        · exact ⟨u, ⟨hu, iv_z hI z2, hZ⟩, rfl⟩
        · have hlt : ∀ p a, ruN (c1C al go (WN ts u0 jd) T) (fun l => fwN (alS al so) go 0 l) p a ≤ 5 ^ p := by
            intro p
            induction p with
            | zero =>
              intro a
              exact fw_le (alS al so) go 0 a
            | succ p ih =>
              intro a
              rw [Nat.pow_succ, Nat.mul_comm]
              have := sm_le (f := fun b => if c1C al go (WN ts u0 jd) T p b a then ruN (c1C al go (WN ts u0 jd) T) (fun l => fwN (alS al so) go 0 l) p b else 0) (g := fun _ => 5 ^ p) 5 (fun i _ => by
                have := ih i
                cases c1C al go (WN ts u0 jd) T p i a
                · exact Nat.zero_le _
                · exact this)
              rw [sm_const] at this
              exact this
          exact absurd ((lN_eq (b := 0) (Nat.lt_of_le_of_lt (hlt p a) (pow512 (T := 12) (by omega) (by decide))) (by decide)).mp z) z2
      · rw [if_neg z, e, cl1_s]
        exact ⟨u', ⟨w1, w2, w3⟩, rfl⟩) NF 0 u (by omega) (by unfold NF; omega) ⟨hu, iv_i hI (fun c hc => hZ (p + 1) c hc (by omega) (by omega)), fun q c hc h1 h2 => hZ q c hc h1 (by omega)⟩
    refine ⟨u', ⟨w1, ?_, w3⟩, e⟩
    subst hru
    exact iv_o w2) NF 0 (setB (setB u0 2 f2) 3 f) (by omega) (by unfold NF; omega) ⟨kH_tr (kH_2 u0 f2) (kH_3 _ f), ⟨fun a ha => by
      rw [gB_n (j := 2) (setB u0 2 f2) f (by decide), gB_s, hf2 a ha]
      rfl, fun q c hc hq => by
      rw [gB_s, show q = 0 by omega, show 5 * 0 + c = c by omega]
      exact hf.1 c hc⟩, fun q c hc h1 h2 => by
      rw [gB_s]
      exact hf.2 _ (by omega) (by omega)⟩
  refine ⟨u', ?_, g1, g2⟩
  unfold fX0_giveBack
  rw [e2, cl1_s, e3, cl1_s]
  exact e4.trans e5
end GB
