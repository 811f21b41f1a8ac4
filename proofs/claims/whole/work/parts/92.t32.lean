theorem dn0 {σ ρ : Type} (L : Nat → σ → Int32 → ρ) (I : Nat → σ → Prop) (r : σ → ρ) (hx : ∀ m u, I 0 u → L (m + 1) u 0 = r u) (hs : ∀ m i u, I (i + 1) u → ∃ u', I i u' ∧ L (m + 1) u (nI (i + 1)) = L m u' (nI i)) : ∀ (m i : Nat) (u : σ), i < m → I i u → ∃ u', I 0 u' ∧ L m u (nI i) = r u' := by
  intro m
  induction m with
  | zero => intro i u h1; omega
  | succ m ih =>
    intro i u h1 hI
    cases i with
    | zero => exact ⟨u, hI, hx m u hI⟩
    | succ i =>
      obtain ⟨u1, hI1, e⟩ := hs m i u hI
      obtain ⟨u2, hI2, e2⟩ := ih i u1 (by omega) hI1
      exact ⟨u2, hI2, e.trans e2⟩
def htN (b : Nat) : List Nat → Prop
  | [] => True
  | d :: _ => d < b
/-- the longest that can go on -/
def CvN (J : Nat → Nat → Bool) (S : Nat) (F : Nat → Int32) (U a : Nat) : Prop := ∃ n, F (8 * U + a) = nI n ∧ (∃ l, exN J S (J a) U l ∧ l.length = n) ∧ ∀ l, exN J S (J a) U l → l.length ≤ n
theorem ex_len {J : Nat → Nat → Bool} {S : Nat} (hS : S ≤ 8) {c : Nat → Bool} {U : Nat} {l : List Nat} (h : exN J S c U l) : l.length ≤ S := by
  have hp : 2 ^ S ≤ 256 := Nat.pow_le_pow_right (by decide) hS
  obtain ⟨h1, h2, _, h4⟩ := (ex_iff l c U).mp h
  have hm := mk_lt l (fun x hx => (h1 x hx).1)
  have := hl_len l (mkN l) (by omega) ((hl_iff l (mkN l)).mpr ⟨fun x => (mk_bit l x).symm, h2, h4⟩)
  have := pcS_256 S (by omega) (mkN l) (by omega) hm
  omega
section RowM
variable {u : St} {S : Nat} {J : Nat → Nat → Bool}
theorem comes_ok (hz : gZ u 47 = nI S) (hS : S ≤ 8) (hJ : ∀ (F : Nat → Int32) a b, a < S → b < S → fX12_isJoined (setA u 52 F) (nI a) (nI b) = some (if J a b then 1 else 0)) : ∃ F : Nat → Int32, fX12_findRow u = some (setA u 52 F) ∧ ∀ U, 1 ≤ U → U < 2 ^ S → ∀ a, a < S → CvN J S F U a := by
  have hp : 2 ^ S ≤ 256 := Nat.pow_le_pow_right (by decide) hS
  have hp0 : 0 < 2 ^ S := Nat.pow_pos (by decide)
  have hsh : (1 : Int32) <<< (nI S &&& 31) = nI (2 ^ S) := sh1 (by omega)
  obtain ⟨F, ⟨_, hF⟩, e⟩ := dn0 (fun m (F : Nat → Int32) i => fX12_findRow_l11 m (setA u 52 F) i) (fun U F => U < 2 ^ S ∧ ∀ U', U < U' → U' < 2 ^ S → ∀ a, a < S → CvN J S F U' a) (fun F => some (setA u 52 F)) (by
    intro m F hI
    show fX12_findRow_l11b (fX12_findRow_l11 m) (setA u 52 F) 0 = _
    unfold fX12_findRow_l11b
    rw [if_pos (by decide)]) (by
    intro m i F hI
    obtain ⟨hi, hI⟩ := hI
    show ∃ F', _ ∧ fX12_findRow_l11b (fX12_findRow_l11 m) (setA u 52 F) (nI (i + 1)) = fX12_findRow_l11 m (setA u 52 F') (nI i)
    unfold fX12_findRow_l11b
    rw [if_neg (nI_nle (by omega) (by omega))]
    generalize hk2 : fX12_findRow_l11 m = k11
    obtain ⟨F', ⟨hF1, hF2⟩, e⟩ := up (fun m (F : Nat → Int32) a => fX12_findRow_l17 k11 (nI (i + 1)) m (setA u 52 F) a) (fun a F => (∀ U', i + 1 < U' → U' < 2 ^ S → ∀ a, a < S → CvN J S F U' a) ∧ ∀ a', a' < a → CvN J S F (i + 1) a') S (fun F => k11 (setA u 52 F) (nI i)) (by
      intro m F hI
      show fX12_findRow_l17b k11 (fX12_findRow_l17 k11 (nI (i + 1)) m) (setA u 52 F) (nI (i + 1)) (nI S) = _
      unfold fX12_findRow_l17b
      rw [gZ_setA, hz, if_pos (nI_le (Nat.le_refl _) (by omega)), pk_m1]) (by
      intro m a F ha hI
      obtain ⟨hI1, hI2⟩ := hI
      show ∃ F', _ ∧ fX12_findRow_l17b k11 (fX12_findRow_l17 k11 (nI (i + 1)) m) (setA u 52 F) (nI (i + 1)) (nI a) = fX12_findRow_l17 k11 (nI (i + 1)) m (setA u 52 F') (nI (a + 1))
      unfold fX12_findRow_l17b
      rw [gZ_setA, hz, if_neg (nI_ge ha (by omega))]
      generalize hk3 : fX12_findRow_l17 k11 (nI (i + 1)) m = k17
      obtain ⟨v, ⟨n, hv, hn8, hn1, hn2⟩, e⟩ := up (fX12_findRow_l31 k11 k17 (setA u 52 F) (nI (i + 1)) (nI a)) (fun b v => ∃ n, v = nI n ∧ n ≤ 8 ∧ (∃ l, exN J S (J a) (i + 1) l ∧ l.length = n) ∧ ∀ l, exN J S (J a) (i + 1) l → htN b l → l.length ≤ n) S (fun v => stI (setA u 52 F) 52 2048 (8 * nI (i + 1) + nI a) v (fun u2 => k17 u2 (nI (a + 1)))) (by
        intro m v hI
        show fX12_findRow_l31b k11 k17 (fX12_findRow_l31 k11 k17 (setA u 52 F) (nI (i + 1)) (nI a) m) (setA u 52 F) (nI (i + 1)) (nI a) v (nI S) = _
        unfold fX12_findRow_l31b
        rw [gZ_setA, hz, if_pos (nI_le (Nat.le_refl _) (by omega)), nI_1 a]) (by
        intro m b v hb hI
        obtain ⟨n, hv, hn8, hn1, hn2⟩ := hI
        subst hv
        show ∃ v', _ ∧ fX12_findRow_l31b k11 k17 (fX12_findRow_l31 k11 k17 (setA u 52 F) (nI (i + 1)) (nI a) m) (setA u 52 F) (nI (i + 1)) (nI a) (nI n) (nI b) = fX12_findRow_l31 k11 k17 (setA u 52 F) (nI (i + 1)) (nI a) m v' (nI (b + 1))
        unfold fX12_findRow_l31b fX12_findRow_b98 fX12_findRow_b100
        have skip : ¬ ((i + 1).testBit b = false ∧ J a b = true) → ∃ v', (∃ n, v' = nI n ∧ n ≤ 8 ∧ (∃ l, exN J S (J a) (i + 1) l ∧ l.length = n) ∧ ∀ l, exN J S (J a) (i + 1) l → htN (b + 1) l → l.length ≤ n) ∧ fX12_findRow_l31 k11 k17 (setA u 52 F) (nI (i + 1)) (nI a) m (nI n) (nI (b + 1)) = fX12_findRow_l31 k11 k17 (setA u 52 F) (nI (i + 1)) (nI a) m v' (nI (b + 1)) := by
          intro hn
          refine ⟨nI n, ⟨n, rfl, hn8, hn1, fun l hl hh => ?_⟩, rfl⟩
          cases l with
          | nil => exact Nat.zero_le _
          | cons d r =>
            by_cases q : d = b
            · subst q; exact absurd ⟨hl.2.1, hl.2.2.1⟩ hn
            · have hh' : d < b + 1 := hh
              exact hn2 (d :: r) hl (by show d < b; omega)
        rw [gZ_setA, hz, if_neg (nI_ge hb (by omega)), sh_b _ (show b < 32 by omega), bB_nI (by omega), nI_1 b]
        cases hc : (i + 1).testBit b
        · rw [if_neg (by decide), hJ F a b ha hb, cl1_s, bitB]
          cases hj : J a b
          · simp only [Bool.false_eq_true, ↓reduceIte]
            exact skip (fun y => by rw [hj] at y; exact absurd y.2 (by decide))
          · simp only [↓reduceIte]
            have hU : adN (i + 1) b < 2 ^ S := ad_lt hi hb
            have hU2 : i + 1 < adN (i + 1) b := ad_gt hc
            obtain ⟨cv, c1, ⟨l1, c2, c3⟩, c4⟩ := hI1 (adN (i + 1) b) hU2 hU b hb
            have hcv := ex_len hS (show exN J S (J a) (i + 1) (b :: l1) from ⟨hb, hc, hj, c2⟩)
            have hcv' : l1.length + 1 ≤ S := hcv
            rw [ad_256 (i + 1) (by omega) b (by omega), show (8 : Int32) = nI 8 from rfl, pk_mul, nI_add, ldI_s (by omega) (by decide), gA_s, c1, nmI_s, show (1 : Int32) + nI cv = nI (1 + cv) from nI_add 1 cv]
            by_cases q : 1 + cv ≤ n
            · rw [if_pos (nI_le q (by omega))]
              refine ⟨nI n, ⟨n, rfl, hn8, hn1, fun l hl hh => ?_⟩, rfl⟩
              cases l with
              | nil => exact Nat.zero_le _
              | cons d r =>
                by_cases w : d = b
                · subst w
                  have := c4 r hl.2.2.2
                  show r.length + 1 ≤ n
                  omega
                · have hh' : d < b + 1 := hh
                  exact hn2 (d :: r) hl (by show d < b; omega)
            · rw [if_neg (nI_ge (by omega) (by omega))]
              refine ⟨nI (1 + cv), ⟨1 + cv, rfl, by omega, ⟨b :: l1, ⟨hb, hc, hj, c2⟩, by show l1.length + 1 = 1 + cv; omega⟩, fun l hl hh => ?_⟩, rfl⟩
              cases l with
              | nil => exact Nat.zero_le _
              | cons d r =>
                by_cases w : d = b
                · subst w
                  have := c4 r hl.2.2.2
                  show r.length + 1 ≤ 1 + cv
                  omega
                · have hh' : d < b + 1 := hh
                  have := hn2 (d :: r) hl (by show d < b; omega)
                  omega
        · rw [if_pos (by decide)]
          exact skip (fun y => by rw [hc] at y; exact absurd y.1 (by decide))) NF 0 0 (by omega) (by unfold NF; omega) ⟨0, rfl, Nat.zero_le _, ⟨[], trivial, rfl⟩, fun l hl hh => by
        cases l with
        | nil => exact Nat.zero_le _
        | cons d r => exact absurd hh (Nat.not_lt_zero _)⟩
      have e' : fX12_findRow_l31 k11 k17 (setA u 52 F) (nI (i + 1)) (nI a) NF 0 0 = _ := e
      rw [e', show (8 : Int32) = nI 8 from rfl, pk_mul, nI_add, stI_s (by omega) (by decide), setA_setA, gA_s, hv]
      refine ⟨_, ⟨fun U' h1 h2 a' h3 => ?_, fun a' h3 => ?_⟩, rfl⟩
      · obtain ⟨cv, c1, c2⟩ := hI1 U' h1 h2 a' h3
        exact ⟨cv, by rw [upd_n _ _ (by omega)]; exact c1, c2⟩
      · by_cases q : a' = a
        · subst q
          exact ⟨n, upd_s _ _ _, hn1, fun l hl => hn2 l hl (by
            cases l with
            | nil => trivial
            | cons d r => exact hl.1)⟩
        · obtain ⟨cv, c1, c2⟩ := hI2 a' (by omega)
          exact ⟨cv, by rw [upd_n _ _ (by omega)]; exact c1, c2⟩) NF 0 F (by omega) (by unfold NF; omega) ⟨hI, fun a' h => by omega⟩
    refine ⟨F', ⟨by omega, fun U' h1 h2 a h3 => ?_⟩, e⟩
    by_cases q : U' = i + 1
    · subst q; exact hF2 a h3
    · exact hF1 U' (by omega) h2 a h3) NF (2 ^ S - 1) (gA u 52) (by unfold NF; omega) ⟨by omega, fun U' h1 h2 => by omega⟩
  have e' : fX12_findRow_l11 NF (setA u 52 (gA u 52)) (nI (2 ^ S - 1)) = some (setA u 52 F) := e
  rw [setA_self u 52] at e'
  refine ⟨F, ?_, fun U h1 h2 a ha => hF U (by omega) h2 a ha⟩
  unfold fX12_findRow
  rw [hz, hsh, show nI (2 ^ S) - 1 = nI (2 ^ S - 1) from pk_sub (a := 2 ^ S) (b := 1) (by omega), nmI_s, e']
theorem greedy {F : Nat → Int32} (hS : S ≤ 8) (hJ : ∀ a b, a < S → b < S → fX12_isJoined u (nI a) (nI b) = some (if J a b then 1 else 0)) (hF : ∀ U, 1 ≤ U → U < 2 ^ S → ∀ a, a < S → CvN J S (gA u 52) U a) {i most : Nat} (hmost : most ≤ 8) : ∀ (l : List Nat) (m k U : Nat) (c : Nat → Bool) (last : Int32), MnN J S c U l → U < 2 ^ S → k + l.length = most → k ≤ i → i < most → l.length < m → ((k = 0 ∧ c = fun _ => true) ∨ (0 < k ∧ ∃ a, a < S ∧ last = nI a ∧ c = J a)) → ∃ x, l[i - k]? = some x ∧ fX12_row_l80 u (nI i) (nI most) m (nI U) last (nI k) = some (nI x, u) := by
  have hp : 2 ^ S ≤ 256 := Nat.pow_le_pow_right (by decide) hS
  intro l
  induction l with
  | nil =>
    intro m k U c last h1 h2 h3 h4 h5 h6 h7
    have : k + 0 = most := h3
    omega
  | cons b r ih =>
    intro m k U c last h1 h2 h3 h4 h5 h6 h7
    have h3' : k + (r.length + 1) = most := h3
    have h6' : r.length + 1 < m := h6
    obtain ⟨m, rfl⟩ : ∃ q, m = q + 1 := ⟨m - 1, by omega⟩
    obtain ⟨hbS, hbU, hcb, hex⟩ := h1.1
    have hU : adN U b < 2 ^ S := ad_lt h2 hbS
    have hcvb : ∀ d, d < S → U.testBit d = false → ∃ n, gA u 52 (8 * adN U d + d) = nI n ∧ (∃ t, exN J S (J d) (adN U d) t ∧ t.length = n) ∧ ∀ t, exN J S (J d) (adN U d) t → t.length ≤ n := fun d hd hdU => hF (adN U d) (by have := ad_gt hdU; omega) (ad_lt h2 hd) d hd
    show ∃ x, (b :: r)[i - k]? = some x ∧ fX12_row_l80b (fX12_row_l80 u (nI i) (nI most) m) u (nI i) (nI most) (nI U) last (nI k) = some (nI x, u)
    unfold fX12_row_l80b
    rw [if_neg (nI_nlt h4 (by omega))]
    generalize hk2 : fX12_row_l80 u (nI i) (nI most) m = k80
    have hsub : (nI most - nI k) - 1 = nI r.length := by
      rw [pk_sub (by omega), show (1 : Int32) = nI 1 from rfl, pk_sub (by omega), show most - k - 1 = r.length by omega]
    obtain ⟨_, _, e⟩ := up (fun m (_ : Unit) d => fX12_row_l89 k80 u (nI i) (nI most) (nI U) last (nI k) m d) (fun _ _ => True) b (fun _ => k80 (nI (adN U b)) (nI b) (nI (k + 1))) (by
      intro m _ _
      show fX12_row_l89b k80 (fX12_row_l89 k80 u (nI i) (nI most) (nI U) last (nI k) m) u (nI i) (nI most) (nI U) last (nI k) (nI b) = _
      unfold fX12_row_l89b
      have hb115 : fX12_row_b115 k80 (fX12_row_l89 k80 u (nI i) (nI most) (nI U) last (nI k) m) u (nI i) (nI most) (nI U) last (nI k) (nI b) = k80 (nI (adN U b)) (nI b) (nI (k + 1)) := by
        unfold fX12_row_b115
        obtain ⟨n, c1, ⟨t, c2, c3⟩, c4⟩ := hcvb b hbS hbU
        have hn : n = r.length := by
          have a1 := c4 r hex
          have a2 := (mn_tail h1).2.1 t c2
          omega
        rw [ad_256 U (by omega) b (by omega), show (8 : Int32) = nI 8 from rfl, pk_mul, nI_add, ldI_s (by omega) (by decide), c1, hsub, if_pos (by rw [hn]), nmI_s, nI_1]
      rw [sh_b _ (show b < 32 by omega), bB_nI (by omega), hbU, if_neg (by decide)]
      rcases h7 with ⟨k0, _⟩ | ⟨k1, a, ha, hla, hc⟩
      · rw [if_pos (by rw [k0]; decide)]
        exact hb115
      · rw [if_neg (nI_nle k1 (by omega)), hla, hJ a b ha hbS, cl1_s, bitB, ← congrFun hc b, hcb, ← hla]
        exact hb115) (by
      intro m d _ hd _
      refine ⟨(), trivial, ?_⟩
      show fX12_row_l89b k80 (fX12_row_l89 k80 u (nI i) (nI most) (nI U) last (nI k) m) u (nI i) (nI most) (nI U) last (nI k) (nI d) = fX12_row_l89 k80 u (nI i) (nI most) (nI U) last (nI k) m (nI (d + 1))
      unfold fX12_row_l89b fX12_row_b141
      have hdS : d < S := by omega
      rw [sh_b _ (show d < 32 by omega), bB_nI (by omega), nI_1 d]
      cases hdU : U.testBit d
      · rw [if_neg (by decide)]
        have hb115 : c d = true → fX12_row_b115 k80 (fX12_row_l89 k80 u (nI i) (nI most) (nI U) last (nI k) m) u (nI i) (nI most) (nI U) last (nI k) (nI d) = fX12_row_l89 k80 u (nI i) (nI most) (nI U) last (nI k) m (nI (d + 1)) := by
          intro hcd
          unfold fX12_row_b115 fX12_row_b141
          obtain ⟨n, c1, ⟨t, c2, c3⟩, c4⟩ := hcvb d hdS hdU
          have hn : n ≠ r.length := by
            rw [← c3]
            exact mn_head hS h1 hd hdU hcd c2
          have hU2 : adN U d < 2 ^ S := ad_lt h2 hdS
          have hn8 : n ≤ 8 := by
            have := ex_len hS c2
            omega
          rw [ad_256 U (by omega) d (by omega), show (8 : Int32) = nI 8 from rfl, pk_mul, nI_add, ldI_s (by omega) (by decide), c1, hsub, if_neg (nI_ne (by omega) (by omega) hn), nI_1]
        rcases h7 with ⟨k0, hc⟩ | ⟨k1, a, ha, hla, hc⟩
        · rw [if_pos (by rw [k0]; decide)]
          exact hb115 (by rw [hc])
        · rw [if_neg (nI_nle k1 (by omega)), hla, hJ a d ha hdS, cl1_s, bitB, ← congrFun hc d, ← hla]
          cases hcd : c d
          · rfl
          · exact hb115 hcd
      · rw [if_pos (by decide)]) NF 0 () (by omega) (by unfold NF; omega) trivial
    have e' : fX12_row_l89 k80 u (nI i) (nI most) (nI U) last (nI k) NF 0 = k80 (nI (adN U b)) (nI b) (nI (k + 1)) := e
    rw [e']
    subst hk2
    by_cases q : i = k
    · subst q
      obtain ⟨m, rfl⟩ : ∃ q, m = q + 1 := ⟨m - 1, by omega⟩
      refine ⟨b, by rw [Nat.sub_self]; rfl, ?_⟩
      show fX12_row_l80b (fX12_row_l80 u (nI i) (nI most) m) u (nI i) (nI most) (nI (adN U b)) (nI b) (nI (i + 1)) = _
      unfold fX12_row_l80b
      rw [if_pos (nI_lt (by omega) (by omega))]
    · obtain ⟨x, hx, e2⟩ := ih m (k + 1) (adN U b) (J b) (nI b) (mn_tail h1) hU (by omega) (by omega) h5 (by omega) (Or.inr ⟨by omega, b, hbS, rfl, rfl⟩)
      refine ⟨x, ?_, e2⟩
      rw [show i - k = (i - (k + 1)) + 1 by omega]
      exact hx
end RowM
theorem T_row {ts : List Tx} {uC uM : St} (h : Rel ts uC uM) (a0 : Int32) : ∃ (r : Int32) (uC' : St) (uM' : St), fX11_row uC a0 = some (r, uC') ∧ fX12_row uM a0 = some (r, uM') ∧ Rel ts uC' uM' := by
  obtain ⟨T, h1, h2, h3, h4, h5, h6, h7, h8, h9, h10, h11⟩ := id h
  obtain ⟨hs1, hs2, S, hS, hc, hm, hk⟩ := id h9
  obtain ⟨J, hJd⟩ : ∃ J : Nat → Nat → Bool, ∀ a b, J a b = decide (fX12_isJoined uM (nI a) (nI b) = some 1) := ⟨_, fun _ _ => rfl⟩
  have hJM : ∀ a b, a < S → b < S → fX12_isJoined uM (nI a) (nI b) = some (if J a b then 1 else 0) := fun a b ha hb => by
    obtain ⟨r, r1, r2⟩ := isJoined_tot (uM := uM) (i := a) (j := b) (by omega) (by omega)
    rw [hJd, r1]
    rcases r2 with rfl | rfl <;> rfl
  have hJC : ∀ a b, a < S → b < S → fX8_fits uC (nI a) (nI b) = some (if J a b then 1 else 0) := fun a b ha hb => by
    rw [joined_eq h9 hm hS ha hb, hJM a b ha hb]
  have hJ52 : ∀ (F : Nat → Int32) a b, a < S → b < S → fX12_isJoined (setA uM 52 F) (nI a) (nI b) = some (if J a b then 1 else 0) := fun F a b ha hb => by
    rw [← joined_eq (uC := uC) (uM := setA uM 52 F) h9 hm hS ha hb, hJC a b ha hb]
  have hJ164 : ∀ (F : Nat → Int32) a b, a < S → b < S → fX8_fits (setA uC 164 F) (nI a) (nI b) = some (if J a b then 1 else 0) := fun F a b ha hb => by
    rw [joined_eq (uC := setA uC 164 F) (uM := uM) h9 hm hS ha hb, hJM a b ha hb]
  obtain ⟨lg, l, F, G, z, e1, g0, hl, hlen, hlg, hz⟩ := rowC_ok (uM := uM) hc hS h3.2.2 hJ164
  obtain ⟨F2, e2, hF2⟩ := comes_ok hm hS hJ52
  have hRM : keepM uM (setA uM 52 F2) := ⟨fun _ _ => rfl, fun k hk => by
    simp only [List.mem_cons, List.not_mem_nil, or_false] at hk
    rcases hk with rfl | rfl | rfl | rfl | rfl | rfl | rfl | rfl | rfl | rfl | rfl | rfl | rfl | rfl | rfl | rfl | rfl | rfl | rfl | rfl | rfl | rfl | rfl | rfl <;> rfl, rfl⟩
  have hR1 : Rel ts uC (setA uM 52 F2) := Rel_keep h (keepC_rf uC) hRM
  have hR2 : Rel ts (setZ (setA (setA uC 164 F) 165 G) 166 z) (setA uM 52 F2) := by
    obtain ⟨T, h1, h2, h3, h4, h5, h6, h7, h8, h9, h10, h11⟩ := hR1
    exact ⟨T, h1, h2, ⟨h3.1, h3.2.1, g0⟩, h4, h5, h6, h7, h8, h9, h10, h11⟩
  have hlS : lg ≤ S := by
    rw [← hlen]
    exact ex_len hS hl.1
  -- the reference's answer
  have hmost : ∃ x, x = nI lg ∧ fX12_row_l8 (setA uM 52 F2) a0 NF 0 0 = (if a0 = -1 then some (x, setA uM 52 F2) else cl1 (fX12_in a0 0 (x - 1)) (fun x3 => if x3 = 0 then some ((-1), setA uM 52 F2) else (fX12_row_l80 (setA uM 52 F2) a0 x NF 0 (-1) 0))) := by
    have hp : 2 ^ S ≤ 256 := Nat.pow_le_pow_right (by decide) hS
    obtain ⟨x, ⟨n, hx, n8, ⟨t, t1, t2⟩, n2⟩, e⟩ := up (fX12_row_l8 (setA uM 52 F2) a0) (fun a v => ∃ n, v = nI n ∧ n ≤ 8 ∧ (∃ l, exN J S (fun _ => true) 0 l ∧ l.length = n) ∧ ∀ l, exN J S (fun _ => true) 0 l → htN a l → l.length ≤ n) S (fun x => if a0 = -1 then some (x, setA uM 52 F2) else cl1 (fX12_in a0 0 (x - 1)) (fun x3 => if x3 = 0 then some ((-1), setA uM 52 F2) else (fX12_row_l80 (setA uM 52 F2) a0 x NF 0 (-1) 0))) (by
      intro m v hI
      show fX12_row_l8b (fX12_row_l8 (setA uM 52 F2) a0 m) (setA uM 52 F2) a0 v (nI S) = _
      unfold fX12_row_l8b
      rw [gZ_setA, hm, if_pos (nI_le (Nat.le_refl _) (by omega))]) (by
      intro m a v ha hI
      obtain ⟨n, hv, n8, n1, n2⟩ := hI
      subst hv
      show ∃ v', _ ∧ fX12_row_l8b (fX12_row_l8 (setA uM 52 F2) a0 m) (setA uM 52 F2) a0 (nI n) (nI a) = fX12_row_l8 (setA uM 52 F2) a0 m v' (nI (a + 1))
      unfold fX12_row_l8b fX12_row_b45
      have hU : 2 ^ a < 2 ^ S := Nat.pow_lt_pow_right (by decide) ha
      obtain ⟨cv, c1, ⟨l1, c2, c3⟩, c4⟩ := hF2 (2 ^ a) (Nat.pow_pos (by decide)) hU a ha
      have had : adN 0 a = 2 ^ a := Nat.zero_or _
      have hl1 : exN J S (fun _ => true) 0 (a :: l1) := ⟨ha, Nat.zero_testBit a, rfl, by rw [had]; exact c2⟩
      have hcv := ex_len hS hl1
      have hcv' : l1.length + 1 ≤ S := hcv
      rw [gZ_setA, hm, if_neg (nI_ge ha (by omega)), sh1 (show a < 32 by omega), show (8 : Int32) = nI 8 from rfl, pk_mul, nI_add, ldI_s (by omega) (by decide), gA_s, c1, nmI_s, show (1 : Int32) + nI cv = nI (1 + cv) from nI_add 1 cv, nI_1 a]
      by_cases q : 1 + cv ≤ n
      · rw [if_pos (nI_le q (by omega))]
        refine ⟨nI n, ⟨n, rfl, n8, n1, fun l hl hh => ?_⟩, rfl⟩
        cases l with
        | nil => exact Nat.zero_le _
        | cons d r =>
          by_cases w : d = a
          · subst w
            have := c4 r (by rw [← had]; exact hl.2.2.2)
            show r.length + 1 ≤ n
            omega
          · have hh' : d < a + 1 := hh
            exact n2 (d :: r) hl (by show d < a; omega)
      · rw [if_neg (nI_ge (by omega) (by omega))]
        refine ⟨nI (1 + cv), ⟨1 + cv, rfl, by omega, ⟨a :: l1, hl1, by show l1.length + 1 = 1 + cv; omega⟩, fun l hl hh => ?_⟩, rfl⟩
        cases l with
        | nil => exact Nat.zero_le _
        | cons d r =>
          by_cases w : d = a
          · subst w
            have := c4 r (by rw [← had]; exact hl.2.2.2)
            show r.length + 1 ≤ 1 + cv
            omega
          · have hh' : d < a + 1 := hh
            have := n2 (d :: r) hl (by show d < a; omega)
            omega) NF 0 0 (by omega) (by unfold NF; omega) ⟨0, rfl, Nat.zero_le _, ⟨[], trivial, rfl⟩, fun l hl hh => by
      cases l with
      | nil => exact Nat.zero_le _
      | cons d r => exact absurd hh (Nat.not_lt_zero _)⟩
    have hn : n = lg := by
      have a1 := hl.2.1 t t1
      have a2 := n2 l hl.1 (by
        have := hl.1
        cases l with
        | nil => trivial
        | cons d r => exact this.1)
      omega
    subst hn
    exact ⟨x, hx, e⟩
  obtain ⟨x, rfl, hrow⟩ := hmost
  unfold fX11_row fX12_row
  rw [e2, cl1_s, hrow, hc]
  by_cases q1 : a0 = -1
  · subst q1
    rw [if_neg (by decide), if_pos (show (-1 : Int32) < nI S by
      rw [Int32.lt_iff_toInt_lt, nI_toInt (by omega)]
      show (-1 : Int) < _
      omega), e1, cl2_s, if_pos rfl, if_pos rfl]
    exact ⟨_, _, _, rfl, rfl, hR2⟩
  · rw [if_neg q1]
    by_cases q2 : InR a0 lg
    · obtain ⟨i, hi, rfl⟩ := q2
      rw [if_neg (show ¬ nI i < -1 by
        rw [Int32.lt_iff_toInt_lt, nI_toInt (by omega)]
        show ¬ _ < (-1 : Int)
        omega), if_pos (nI_lt (by omega) (by omega)), e1, cl2_s, if_neg q1, if_neg (nI_ge hi (by omega)), in_t (by omega) ⟨i, hi, rfl⟩, cl1_s, if_neg (by decide)]
      obtain ⟨x, hx, e3⟩ := greedy (u := setA uM 52 F2) (F := F2) hS (hJ52 F2) (by rw [gA_s]; exact hF2) (i := i) (most := lg) hlg l NF 0 0 (fun _ => true) (-1) hl (Nat.pow_pos (by decide)) (by omega) (Nat.zero_le _) hi (by unfold NF; omega) (Or.inl ⟨rfl, rfl⟩)
      have e3' : fX12_row_l80 (setA uM 52 F2) (nI i) (nI lg) NF 0 (-1) 0 = some (nI x, setA uM 52 F2) := e3
      rw [e3']
      rw [Nat.sub_zero] at hx
      have h8 : ∀ y, y ∈ l → y < 8 := fun y hy => by
        have := ((ex_iff l _ _).mp hl.1).1 y hy
        omega
      have hdig := cd_dig l h8 i x hx
      have hcd := cd_lt l h8
      have h88 : 8 ^ l.length ≤ 8 ^ 8 := Nat.pow_le_pow_right (by decide) (by omega)
      have h816 : (8 : Nat) ^ 8 = 16777216 := rfl
      refine ⟨nI x, _, _, ?_, rfl, hR2⟩
      unfold fX8_inRow
      rw [gZ_s, hz (by omega), show (nI lg - 1) - nI i = nI (lg - 1 - i) from by
        rw [show (1 : Int32) = nI 1 from rfl, pk_sub (by omega), pk_sub (by omega)], show (3 : Int32) = nI 3 from rfl, pk_mul, pk_shrN (n := cdN l) (by omega) (nI (3 * (lg - 1 - i)) &&& 31) (3 * (lg - 1 - i)) (smod_i _ (by omega)), pk_andN (n := cdN l / 2 ^ (3 * (lg - 1 - i))) (by
        have := Nat.div_le_self (cdN l) (2 ^ (3 * (lg - 1 - i)))
        omega) 3 (by decide), cl1_s, Nat.pow_mul, show (2 : Nat) ^ 3 = 8 from rfl, ← hlen, hdig]
    · rw [in_f (by omega) q2, cl1_s, if_pos rfl]
      by_cases q3 : a0 < -1
      · rw [if_pos q3]
        exact ⟨_, _, _, rfl, rfl, hR1⟩
      · rw [if_neg q3]
        have q0 : ¬ a0 < 0 := by
          intro z
          apply q1
          apply Int32.toInt_inj.mp
          rw [Int32.lt_iff_toInt_lt] at z q3
          have e1 : (-1 : Int32).toInt = -1 := rfl
          have e2 : (0 : Int32).toInt = 0 := rfl
          omega
        by_cases q4 : a0 < nI S
        · rw [if_pos q4, e1, cl2_s, if_neg q1, if_pos (ninr_n (by omega) q2 q0)]
          exact ⟨_, _, _, rfl, rfl, hR2⟩
        · rw [if_neg q4]
          exact ⟨_, _, _, rfl, rfl, hR1⟩
