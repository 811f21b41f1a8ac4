/-! texts: tokens -/
def wtL : List (Int32 × Nat) := [(3, 168727), (4, 6564179), (-9, 423), (-10, 1111), (-8, 10631), (-1, 131638), (-2, 555), (-3, 232600981), (-4, 10634), (-5, 230433031), (-6, 307058)]
def wcN (i : Nat) : Int32 := (wtL.getD i (0, 0)).1
def wwN (i : Nat) : Nat := (wtL.getD i (0, 0)).2
def diN (i j : Nat) : Nat := (sby i j).toNatClampNeg - 96
def diV (i : Nat) : Nat → Nat
  | 0 => 0
  | n + 1 => 27 * diV i n + diN i n
theorem wd_ok : ∀ i, i < 11 → diV i (sln i) = wwN i ∧ 1 ≤ sln i ∧ sln i ≤ 6 ∧ fJ0_length_8abf5 i = some (nI (sln i)) ∧ ∀ j, j < 6 → j < sln i → fJ0_charAt_5068e i (nI j) = some (sby i j) ∧ sby i j = nI (diN i j + 96) ∧ 1 ≤ diN i j ∧ diN i j ≤ 26 := by decide +kernel
theorem ww_ne : ∀ i, i < 11 → ∀ j, j < 11 → wwN i = wwN j → i = j := by decide +kernel
theorem dig_inj {f g : Nat → Nat} {F G : Nat → Nat} (hf0 : F 0 = 0) (hg0 : G 0 = 0) (hf : ∀ n, F (n + 1) = 27 * F n + f n) (hg : ∀ n, G (n + 1) = 27 * G n + g n) : ∀ (n m : Nat), (∀ j, j < n → 1 ≤ f j ∧ f j ≤ 26) → (∀ j, j < m → 1 ≤ g j ∧ g j ≤ 26) → F n = G m → n = m ∧ ∀ j, j < n → f j = g j := by
  intro n
  induction n with
  | zero =>
    intro m _ h2 h
    cases m with
    | zero => exact ⟨rfl, fun j hj => by omega⟩
    | succ m =>
      have := h2 m (by omega)
      rw [hf0, hg] at h
      omega
  | succ n ih =>
    intro m h1 h2 h
    cases m with
    | zero =>
      have := h1 n (by omega)
      rw [hg0, hf] at h
      omega
    | succ m =>
      have a1 := h1 n (by omega)
      have a2 := h2 m (by omega)
      rw [hf, hg] at h
      obtain ⟨e, e2⟩ := ih m (fun j hj => h1 j (by omega)) (fun j hj => h2 j (by omega)) (by omega)
      subst e
      refine ⟨rfl, fun j hj => ?_⟩
      by_cases q : j = n
      · subst q; omega
      · exact e2 j (by omega)
/-- word i stands from s to e -/
def spN' (b : Nat → Nat) (s e i : Nat) : Prop := e - s = sln i ∧ ∀ j, j < sln i → nI (b (s + j)) = sby i j
theorem sp_wv {b : Nat → Nat} {s e i : Nat} (hi : i < 11) (hb : ∀ j, s ≤ j → j < e → ltB (b j) = true) (hse : s ≤ e) : spN' b s e i ↔ (e - s ≤ 8 ∧ wvN b s (e - s) = wwN i) := by
  obtain ⟨w1, w2, w3, w4, w5⟩ := wd_ok i hi
  have hd : ∀ j, j < e - s → 1 ≤ b (s + j) - 96 ∧ b (s + j) - 96 ≤ 26 := fun j hj => by
    have : 97 ≤ b (s + j) ∧ b (s + j) ≤ 122 := of_decide_eq_true (hb (s + j) (by omega) (by omega))
    omega
  constructor
  · rintro ⟨h1, h2⟩
    refine ⟨by omega, ?_⟩
    rw [h1, ← w1]
    have : ∀ n, n ≤ sln i → wvN b s n = diV i n := by
      intro n
      induction n with
      | zero => intro _; rfl
      | succ n ih =>
        intro hn
        show 27 * wvN b s n + (b (s + n) - 96) = 27 * diV i n + diN i n
        have h3 := h2 n (by omega)
        rw [(w5 n (by omega) (by omega)).2.1] at h3
        have hbn : 97 ≤ b (s + n) ∧ b (s + n) ≤ 122 := of_decide_eq_true (hb (s + n) (by omega) (by omega))
        have h4 := nI_inj (by omega) (by have := (w5 n (by omega) (by omega)).2.2; omega) h3
        rw [ih (by omega), h4]
        omega
    exact this _ (Nat.le_refl _)
  · rintro ⟨h1, h2⟩
    obtain ⟨e1, e2⟩ := dig_inj (f := fun j => b (s + j) - 96) (g := fun j => diN i j) (F := wvN b s) (G := diV i) rfl rfl (fun _ => rfl) (fun _ => rfl) (e - s) (sln i) hd (fun j hj => (w5 j (by omega) hj).2.2) (h2.trans w1.symm)
    refine ⟨e1, fun j hj => ?_⟩
    have h3 := e2 j (by omega)
    have hbn : 97 ≤ b (s + j) ∧ b (s + j) ≤ 122 := of_decide_eq_true (hb (s + j) (by omega) (by omega))
    have h3 : b (s + j) - 96 = diN i j := h3
    rw [(w5 j (by omega) hj).2.1, show diN i j + 96 = b (s + j) by omega]
theorem spells_ok {c : St} {b : Nat → Nat} {K s e i : Nat} (h : TXc c b K) (h106 : gZ c 106 = nI s) (h107 : gZ c 107 = nI e) (hse : s ≤ e) (he : e ≤ K) (hi : i < 11) (hl : ∀ j, s ≤ j → j < e → ltB (b j) = true) : ∃ r : Bool, fX5_spells i c = some (if r then 1 else 0) ∧ (r = true ↔ spN' b s e i) := by
  obtain ⟨hK, h100, hb⟩ := h
  obtain ⟨w1, w2, w3, w4, w5⟩ := wd_ok i hi
  unfold fX5_spells
  rw [w4, cl1_s, h106, h107, pk_sub hse]
  by_cases q : e - s = sln i
  · rw [if_pos (by rw [q])]
    have loop : ∀ (d j m : Nat), j + d = sln i → d < m → ∃ r : Bool, fX5_spells_l20 i c m (nI j) = some (if r then 1 else 0) ∧ (r = true ↔ ∀ k, j ≤ k → k < sln i → nI (b (s + k)) = sby i k) := by
      intro d
      induction d with
      | zero =>
        intro j m h1 hm
        obtain ⟨m, rfl⟩ : ∃ q, m = q + 1 := ⟨m - 1, by omega⟩
        show ∃ r : Bool, fX5_spells_l20b i c (fX5_spells_l20 i c m) (nI j) = some (if r then 1 else 0) ∧ _
        unfold fX5_spells_l20b
        rw [w4, cl1_s, if_pos (nI_le (by omega) (by omega))]
        exact ⟨true, rfl, ⟨fun _ k h2 h3 => by omega, fun _ => rfl⟩⟩
      | succ d ih =>
        intro j m h1 hm
        obtain ⟨m, rfl⟩ : ∃ q, m = q + 1 := ⟨m - 1, by omega⟩
        show ∃ r : Bool, fX5_spells_l20b i c (fX5_spells_l20 i c m) (nI j) = some (if r then 1 else 0) ∧ _
        unfold fX5_spells_l20b
        have hsj : s + j < K := by omega
        have hcl := (by_256 (b (s + j)) (hb _ hsj).1).2.2.2.2.2.2 (by rw [hl (s + j) (by omega) (by omega)]; simp)
        rw [w4, cl1_s, if_neg (nI_ge (by omega) (by omega)), h106, nI_add, ldI_s (by omega) (by decide), (hb _ hsj).2, hcl, (w5 j (by omega) (by omega)).1, cl1_s, nI_1]
        obtain ⟨r, r1, r2⟩ := ih (j + 1) m (by omega) (by omega)
        by_cases z : nI (b (s + j)) = sby i j
        · rw [if_pos z]
          refine ⟨r, r1, r2.trans ⟨fun h k h2 h3 => ?_, fun h k h2 h3 => h k (by omega) h3⟩⟩
          by_cases w : k = j
          · subst w; exact z
          · exact h k (by omega) h3
        · rw [if_neg z]
          exact ⟨false, rfl, ⟨fun h => absurd h (by decide), fun h => absurd (h j (Nat.le_refl j) (by omega)) z⟩⟩
    obtain ⟨r, r1, r2⟩ := loop (sln i) 0 NF (by omega) (by unfold NF; omega)
    exact ⟨r, r1, r2.trans ⟨fun h => ⟨q, fun j hj => h j (Nat.zero_le _) hj⟩, fun h k _ h3 => h.2 k h3⟩⟩
  · rw [if_neg (nI_ne (by omega) (by omega) q)]
    exact ⟨false, rfl, ⟨fun h => absurd h (by decide), fun h => absurd h.1 q⟩⟩
/-- the token that stands, on both sides -/
def MTk (u : St) (t : Int32) (nv : Nat) : Prop :=
  (t = 0 ∧ gZ u 28 = 0) ∨ (t = 2 ∧ gZ u 28 = 2 ∧ gY u 30 = lN nv ∧ nv < 10000) ∨ ((t = 40 ∨ t = 41 ∨ t = 59 ∨ t = 43 ∨ t = 45 ∨ t = 42 ∨ t = 60 ∨ t = 61) ∧ gZ u 28 = 3 ∧ gY u 30 = Int32.toInt64 t) ∨ (∃ i, i < 11 ∧ t = wcN i ∧ gZ u 28 = 1 ∧ gY u 30 = lN (wwN i)) ∨ (t = 1 ∧ (gZ u 28 = 4 ∨ gZ u 28 = 1 ∧ ∀ i, i < 11 → ¬ gY u 30 = lN (wwN i)))
/-- both sides stand at the token from s to e -/
def TRk (c u : St) (s e : Nat) : Prop := gZ c 106 = nI s ∧ gZ c 107 = nI e ∧ s ≤ e ∧ gZ u 29 = nI s ∧ ∃ nv, (gZ c 105 = 2 → gZ c 108 = nI nv) ∧ MTk u (gZ c 105) nv ∧ (¬ gZ c 105 = 0 → ¬ gZ c 105 = 1 → s < e ∧ gZ u 31 = nI e)
def fC (c c' : St) : Prop := (∀ k, ¬ k = 105 → ¬ k = 106 → ¬ k = 107 → ¬ k = 108 → gZ c' k = gZ c k) ∧ c'.2 = c.2
def fM (u u' : St) : Prop := (∀ k, ¬ k = 28 → ¬ k = 29 → ¬ k = 31 → gZ u' k = gZ u k) ∧ u'.2.2 = u.2.2
theorem word_b39 {c : St} {b : Nat → Nat} {K s e : Nat} (h : TXc c b K) (h106 : gZ c 106 = nI s) (h107 : gZ c 107 = nI e) (hse : s < e) (he : e ≤ K) (hl : ∀ j, s ≤ j → j < e → ltB (b j) = true) : ∃ t : Int32, fX5_readWord_b39 c = some (t, c) ∧ ((∃ i, i < 11 ∧ t = wcN i ∧ spN' b s e i) ∨ (t = 1 ∧ ∀ i, i < 11 → ¬ spN' b s e i)) := by
  have hs : ∀ i, i < 11 → ∃ r : Bool, fX5_spells i c = some (if r then 1 else 0) ∧ (r = true ↔ spN' b s e i) := fun i hi => spells_ok h h106 h107 (by omega) he hi hl
  obtain ⟨r0, a0, b0⟩ := hs 0 (by decide)
  obtain ⟨r1, a1, b1⟩ := hs 1 (by decide)
  obtain ⟨r2, a2, b2⟩ := hs 2 (by decide)
  obtain ⟨r3, a3, b3⟩ := hs 3 (by decide)
  obtain ⟨r4, a4, b4⟩ := hs 4 (by decide)
  obtain ⟨r5, a5, b5⟩ := hs 5 (by decide)
  obtain ⟨r6, a6, b6⟩ := hs 6 (by decide)
  obtain ⟨r7, a7, b7⟩ := hs 7 (by decide)
  obtain ⟨r8, a8, b8⟩ := hs 8 (by decide)
  obtain ⟨r9, a9, b9⟩ := hs 9 (by decide)
  obtain ⟨r10, a10, b10⟩ := hs 10 (by decide)
  unfold fX5_readWord_b39
  rw [a0, cl1_s, bitB]
  cases r0
  · rw [if_neg (by decide), a1, cl1_s, bitB]
    cases r1
    · rw [if_neg (by decide), a2, cl1_s, bitB]
      cases r2
      · rw [if_neg (by decide), a3, cl1_s, bitB]
        cases r3
        · rw [if_neg (by decide), a4, cl1_s, bitB]
          cases r4
          · rw [if_neg (by decide), a5, cl1_s, bitB]
            cases r5
            · rw [if_neg (by decide), a6, cl1_s, bitB]
              cases r6
              · rw [if_neg (by decide), a7, cl1_s, bitB]
                cases r7
                · rw [if_neg (by decide), a8, cl1_s, bitB]
                  cases r8
                  · rw [if_neg (by decide), a9, cl1_s, bitB]
                    cases r9
                    · rw [if_neg (by decide), a10, cl1_s, bitB]
                      cases r10
                      · rw [if_neg (by decide)]
                        refine ⟨1, rfl, Or.inr ⟨rfl, fun i hi hsp => ?_⟩⟩
                        rcases (show i = 0 ∨ i = 1 ∨ i = 2 ∨ i = 3 ∨ i = 4 ∨ i = 5 ∨ i = 6 ∨ i = 7 ∨ i = 8 ∨ i = 9 ∨ i = 10 by omega) with rfl | rfl | rfl | rfl | rfl | rfl | rfl | rfl | rfl | rfl | rfl
                        · exact absurd (b0.mpr hsp) (by decide)
                        · exact absurd (b1.mpr hsp) (by decide)
                        · exact absurd (b2.mpr hsp) (by decide)
                        · exact absurd (b3.mpr hsp) (by decide)
                        · exact absurd (b4.mpr hsp) (by decide)
                        · exact absurd (b5.mpr hsp) (by decide)
                        · exact absurd (b6.mpr hsp) (by decide)
                        · exact absurd (b7.mpr hsp) (by decide)
                        · exact absurd (b8.mpr hsp) (by decide)
                        · exact absurd (b9.mpr hsp) (by decide)
                        · exact absurd (b10.mpr hsp) (by decide)
                      · exact ⟨_, if_pos rfl, Or.inl ⟨10, by decide, rfl, b10.mp rfl⟩⟩
                    · exact ⟨_, if_pos rfl, Or.inl ⟨9, by decide, rfl, b9.mp rfl⟩⟩
                  · exact ⟨_, if_pos rfl, Or.inl ⟨8, by decide, rfl, b8.mp rfl⟩⟩
                · exact ⟨_, if_pos rfl, Or.inl ⟨7, by decide, rfl, b7.mp rfl⟩⟩
              · exact ⟨_, if_pos rfl, Or.inl ⟨6, by decide, rfl, b6.mp rfl⟩⟩
            · exact ⟨_, if_pos rfl, Or.inl ⟨5, by decide, rfl, b5.mp rfl⟩⟩
          · exact ⟨_, if_pos rfl, Or.inl ⟨4, by decide, rfl, b4.mp rfl⟩⟩
        · exact ⟨_, if_pos rfl, Or.inl ⟨3, by decide, rfl, b3.mp rfl⟩⟩
      · exact ⟨_, if_pos rfl, Or.inl ⟨2, by decide, rfl, b2.mp rfl⟩⟩
    · exact ⟨_, if_pos rfl, Or.inl ⟨1, by decide, rfl, b1.mp rfl⟩⟩
  · exact ⟨_, if_pos rfl, Or.inl ⟨0, by decide, rfl, b0.mp rfl⟩⟩
def sgI (x : Int32) : Bool := decide (x = 40 ∨ x = 41 ∨ x = 59 ∨ x = 43 ∨ x = 45 ∨ x = 42 ∨ x = 60 ∨ x = 61)
theorem sign_256 : ∀ n, n < 256 → ltB n = false → dgB n = false → sgI (nI n) = sgB n ∧ sgI (clI (nI n)) = sgB n ∧ (sgB n = true → clI (nI n) = nI n) := by decide +kernel
theorem ite8 {α : Type} {v : Int32} {X Y : α} (h : v = 40 ∨ v = 41 ∨ v = 59 ∨ v = 43 ∨ v = 45 ∨ v = 42 ∨ v = 60 ∨ v = 61) : (if v = 40 then X else (if v = 41 then X else (if v = 59 then X else (if v = 43 then X else (if v = 45 then X else (if v = 42 then X else (if v = 60 then X else (if v = 61 then X else Y)))))))) = X := by
  rcases h with rfl | rfl | rfl | rfl | rfl | rfl | rfl | rfl <;> rfl
theorem ite8n {α : Type} {v : Int32} {X Y : α} (h : ¬ (v = 40 ∨ v = 41 ∨ v = 59 ∨ v = 43 ∨ v = 45 ∨ v = 42 ∨ v = 60 ∨ v = 61)) : (if v = 40 then X else (if v = 41 then X else (if v = 59 then X else (if v = 43 then X else (if v = 45 then X else (if v = 42 then X else (if v = 60 then X else (if v = 61 then X else Y)))))))) = Y := by
  simp only [not_or] at h
  obtain ⟨h1, h2, h3, h4, h5, h6, h7, h8⟩ := h
  rw [if_neg h1, if_neg h2, if_neg h3, if_neg h4, if_neg h5, if_neg h6, if_neg h7, if_neg h8]
theorem sign_C {c : St} {x : Int32} {s : Nat} (hs : s < 160) (h106 : gZ c 106 = nI s) (hx : gA c 102 s = x) : fX5_readSign c = some (if x = 40 ∨ x = 41 ∨ x = 59 ∨ x = 43 ∨ x = 45 ∨ x = 42 ∨ x = 60 ∨ x = 61 then x else 1, setZ c 107 (nI (s + 1))) := by
  unfold fX5_readSign
  rw [h106, ldI_s hs (by decide), hx, nmS_s, nI_1]
  by_cases h : x = 40 ∨ x = 41 ∨ x = 59 ∨ x = 43 ∨ x = 45 ∨ x = 42 ∨ x = 60 ∨ x = 61
  · rw [if_pos h]
    rcases h with rfl | rfl | rfl | rfl | rfl | rfl | rfl | rfl <;> rfl
  · rw [if_neg h]
    simp only [not_or] at h
    obtain ⟨h1, h2, h3, h4, h5, h6, h7, h8⟩ := h
    simp only [if_neg h1, if_neg h2, if_neg h3, if_neg h4, if_neg h5, if_neg h6, if_neg h7, if_neg h8, ite_self]
theorem fC_rf (c : St) : fC c c := ⟨fun _ _ _ _ _ => rfl, rfl⟩
theorem adv_ok {c u : St} {b : Nat → Nat} {K p : Nat} (hc : TXc c b K) (hu : TXm u b K) (h107 : gZ c 107 = nI p) (h31 : gZ u 31 = nI p) (hp : p ≤ K) : ∃ (c' u' : St) (s e : Nat), fX5_advance c = some c' ∧ fX12_next u = some u' ∧ fC c c' ∧ fM u u' ∧ TRk c' u' s e ∧ p ≤ s ∧ e ≤ K ∧ (gZ c' 105 = 0 ↔ s = K) := by
  have hK := hc.1
  obtain ⟨s, s1, s2, s3, s4⟩ := run_ex blB b K (K - p) p (by omega)
  have hC0 : fX5_advance c = fX5_advance_b60 (setZ c 106 (nI s)) := by
    unfold fX5_advance
    rw [nmS_s, h107]
    exact skip_C hc s2 s4 (s - p) p NF (by omega) (by unfold NF; omega) s3
  have hM0 : ∃ m, fX12_next u = fX12_next_l0b (fX12_next_l0 m) (setZ u 31 (nI s)) := by
    refine ⟨NF - (s - p) - 1, ?_⟩
    have := skip_M hu s2 (s - p) p (NF - (s - p)) (by omega) s3
    rw [show NF - (s - p) + (s - p) = NF by unfold NF; omega, ← h31, setZ_self u 31] at this
    unfold fX12_next
    rw [this, show NF - (s - p) = (NF - (s - p) - 1) + 1 by unfold NF; omega]
    rfl
  obtain ⟨m, hM0⟩ := hM0
  rw [hC0, hM0]
  unfold fX5_advance_b60 fX12_next_l0b
  have hb100 : gZ (setZ (setZ c 106 (nI s)) 107 (nI s)) 100 = nI K := by
    rw [gZ_n _ _ (by decide), gZ_n _ _ (by decide)]; exact hc.2.1
  have huX : TXm (setZ u 31 (nI s)) b K := txm_Z hu (by decide) (by decide) _
  rw [nmS_s, gZ_s, gZ_n (setZ c 106 (nI s)) _ (show 106 ≠ 107 by decide), gZ_s, hb100]
  by_cases hsK : s = K
  · subst hsK
    have hbt := byteAt_out huX
    have huX2 : TXm (setZ (setZ u 31 (nI s)) 29 (nI s)) b s := txm_Z huX (by decide) (by decide) _
    have hbt2 := byteAt_out huX2
    rw [if_pos rfl, nmS_s, gZ_s, hbt, cl1_s, if_neg (by decide), cl1_s, if_neg (by decide), nmS_s, gZ_n _ _ (show 31 ≠ 29 by decide), gZ_s, hbt2, cl1_s, nmS_s, if_neg (by decide), nmS_s, nmS_s]
    have h27 : gZ (setZ (setZ (setZ (setZ u 31 (nI s)) 29 (nI s)) 28 4) 28 0) 27 = nI s := by
      rw [gZ_n _ _ (by decide), gZ_n _ _ (by decide), gZ_n _ _ (by decide), gZ_n _ _ (by decide)]; exact hu.2.1
    rw [h27]
    refine ⟨_, _, s, s, rfl, rfl, ⟨fun k h1 h2 h3 h4 => ?_, rfl⟩, ⟨fun k h1 h2 h3 => ?_, rfl⟩, ⟨?_, ?_, Nat.le_refl s, gZ_s _ _ _, 0, ?_, ?_, ?_⟩, s1, Nat.le_refl s, ?_⟩
    · rw [gZ_n _ _ h1, gZ_n _ _ h3, gZ_n _ _ h2]
    · rw [gZ_n _ _ h2, gZ_n _ _ h1, gZ_n _ _ h1, gZ_n _ _ h2, gZ_n _ _ h3]
    · rw [gZ_n _ _ (by decide), gZ_n _ _ (by decide), gZ_s]
    · rw [gZ_n _ _ (by decide), gZ_s]
    · rw [gZ_s]; intro y; exact absurd y (by decide)
    · rw [gZ_s]
      refine Or.inl ⟨rfl, ?_⟩
      rw [gZ_n _ _ (by decide), gZ_s]
    · rw [gZ_s]; intro y; exact absurd rfl y
    · rw [gZ_s]; exact ⟨fun _ => rfl, fun _ => rfl⟩
  · have hsl : s < K := by omega
    have hb := (hc.2.2 s hsl).1
    have hnb : blB (b s) = false := s4.resolve_left hsK
    have hbt := byteAt_in huX hsl
    have huX2 : TXm (setZ (setZ u 31 (nI s)) 29 (nI s)) b K := txm_Z huX (by decide) (by decide) _
    have hbt2 := byteAt_in huX2 hsl
    obtain ⟨f1, f2, f3, f4, f5, f6, f7⟩ := by_256 (b s) hb
    have hn32 : ¬ nI (b s) = 32 := fun y => by rw [f6.mp (Or.inl y)] at hnb; exact absurd hnb (by decide)
    have hn10 : ¬ nI (b s) = 10 := fun y => by rw [f6.mp (Or.inr y)] at hnb; exact absurd hnb (by decide)
    have hc102 : gA (setZ (setZ c 106 (nI s)) 107 (nI s)) 102 s = clI (nI (b s)) := (hc.2.2 s hsl).2
    have h0 : (0 : Int32) ≤ nI (b s) := nI_pos' (by omega)
    rw [if_neg (nI_ne (by omega) (by omega) hsK), ldI_s (by omega) (by decide), hc102, f1, cl1_s, bitB, gZ_s, hbt, cl1_s, if_neg hn32, cl1_s, if_neg hn10, nmS_s, gZ_n _ _ (show 31 ≠ 29 by decide), gZ_s, hbt2, cl1_s, nmS_s, if_pos h0, f3, cl1_s, bitB]
    have fM0 : ∀ k, ¬ k = 28 → ¬ k = 29 → ¬ k = 31 → gZ (setZ (setZ (setZ u 31 (nI s)) 29 (nI s)) 28 4) k = gZ u k := fun k h1 h2 h3 => by
      rw [gZ_n _ _ h1, gZ_n _ _ h2, gZ_n _ _ h3]
    cases hlt : ltB (b s)
    · rw [if_neg (show ¬ (false = true) by decide), if_neg (show ¬ (false = true) by decide), f4, cl1_s, bitB, ldI_s (by omega) (by decide), hc102, f2, cl1_s, bitB]
      cases hdg : dgB (b s)
      · rw [if_neg (show ¬ (false = true) by decide), if_neg (show ¬ (false = true) by decide)]
        obtain ⟨g1, g2, g3⟩ := sign_256 (b s) hb hlt hdg
        rw [sign_C (c := setZ (setZ c 106 (nI s)) 107 (nI s)) (show s < 160 by omega) (by rw [gZ_n _ _ (by decide), gZ_s]) hc102, cl2_s, nmS_s]
        cases hsg : sgB (b s)
        · rw [hsg] at g1 g2
          rw [if_neg (of_decide_eq_false g2), ite8n (of_decide_eq_false g1)]
          refine ⟨_, _, s, s + 1, rfl, rfl, ⟨fun k h1 h2 h3 h4 => ?_, rfl⟩, ⟨fun k h1 h2 h3 => fM0 k h1 h2 h3, rfl⟩, ⟨?_, ?_, by omega, ?_, 0, ?_, ?_, ?_⟩, s1, by omega, ?_⟩
          · rw [gZ_n _ _ h1, gZ_n _ _ h3, gZ_n _ _ h3, gZ_n _ _ h2]
          · rw [gZ_n _ _ (by decide), gZ_n _ _ (by decide), gZ_n _ _ (by decide), gZ_s]
          · rw [gZ_n _ _ (by decide), gZ_s]
          · rw [gZ_n _ _ (by decide), gZ_s]
          · rw [gZ_s]; intro y; exact absurd y (by decide)
          · rw [gZ_s]
            exact Or.inr (Or.inr (Or.inr (Or.inr ⟨rfl, Or.inl (gZ_s _ _ _)⟩)))
          · rw [gZ_s]; intro _ y; exact absurd rfl y
          · rw [gZ_s]; exact ⟨fun y => absurd y (by decide), fun y => absurd y hsK⟩
        · rw [hsg] at g1
          have k1 := of_decide_eq_true g1
          rw [g3 hsg, if_pos k1, ite8 k1]
          unfold fX12_next_b339
          rw [nmS_s, nmS_s, nmS_s, gZ_setY, gZ_n _ _ (show 31 ≠ 28 by decide), gZ_n _ _ (show 31 ≠ 28 by decide), gZ_n _ _ (show 31 ≠ 29 by decide), gZ_s, nI_1]
          refine ⟨_, _, s, s + 1, rfl, rfl, ⟨fun k h1 h2 h3 h4 => ?_, rfl⟩, ⟨fun k h1 h2 h3 => ?_, rfl⟩, ⟨?_, ?_, by omega, ?_, 0, ?_, ?_, ?_⟩, s1, by omega, ?_⟩
          · rw [gZ_n _ _ h1, gZ_n _ _ h3, gZ_n _ _ h3, gZ_n _ _ h2]
          · rw [gZ_n _ _ h3, gZ_setY, gZ_n _ _ h1, fM0 k h1 h2 h3]
          · rw [gZ_n _ _ (by decide), gZ_n _ _ (by decide), gZ_n _ _ (by decide), gZ_s]
          · rw [gZ_n _ _ (by decide), gZ_s]
          · rw [gZ_n _ _ (by decide), gZ_setY, gZ_n _ _ (by decide), gZ_n _ _ (by decide), gZ_s]
          · rw [gZ_s]; intro y; rw [y] at k1; exact absurd k1 (by decide)
          · rw [gZ_s]
            exact Or.inr (Or.inr (Or.inl ⟨k1, by rw [gZ_n _ _ (by decide), gZ_setY, gZ_s], by rw [gY_setZ, gY_s]⟩))
          · rw [gZ_s]; intro _ _; exact ⟨by omega, gZ_s _ _ _⟩
          · rw [gZ_s]; exact ⟨fun y => by rw [y] at k1; exact absurd k1 (by decide), fun y => absurd y hsK⟩
      · rw [if_pos rfl, if_pos rfl]
        obtain ⟨e, e1, e2, e3, e4⟩ := run_ex dgB b K (K - s) s (by omega)
        have hse : s < e := by
          rcases Nat.lt_or_ge s e with q | q
          · exact q
          · have e0 : e = s := by omega
            subst e0
            rcases e4 with q2 | q2
            · exact absurd q2 hsK
            · rw [hdg] at q2; exact absurd q2 (by decide)
        have hnum := num_C (c := setZ c 106 (nI s)) (txc_Z hc (by decide) _) (gZ_s _ _ _) e2 e4 (e - s) 0 NF (by omega) (by unfold NF; omega) e3
        rw [Nat.add_zero] at hnum
        have hnum' : fX5_readNumber (setZ (setZ c 106 (nI s)) 107 (nI s)) = some (if e - s ≤ 4 then 2 else 1, setZ (setZ (setZ c 106 (nI s)) 107 (nI e)) 108 (nI (dvN b s (e - s)))) := by
          unfold fX5_readNumber
          rw [nmS_s]
          exact hnum
        have hnM := num_M (u := setZ (setZ (setZ u 29 (nI s)) 28 4) 28 2) (txm_Z (txm_Z (txm_Z hu (k := 29) (by decide) (by decide) _) (k := 28) (by decide) (by decide) _) (k := 28) (by decide) (by decide) _) e2 e4 (e - s) 0 NF (by omega) (by unfold NF; omega) e3
        rw [Nat.add_zero] at hnM
        have hst : setY (setZ (setZ (setZ (setZ u 31 (nI s)) 29 (nI s)) 28 4) 28 2) 30 0 = setY (setZ (setZ (setZ (setZ u 29 (nI s)) 28 4) 28 2) 31 (nI s)) 30 (dvL b s 0) := by
          rw [setZ_comm u (k := 31) (j := 29) (by decide), setZ_comm (setZ u 29 (nI s)) (k := 31) (j := 28) (by decide), setZ_comm (setZ (setZ u 29 (nI s)) 28 4) (k := 31) (j := 28) (by decide)]
          rfl
        rw [hnum', cl2_s, nmS_s, nmS_s, nmS_s, hst]
        have hnM' : fX12_next_l202 NF (setY (setZ (setZ (setZ (setZ u 29 (nI s)) 28 4) 28 2) 31 (nI s)) 30 (dvL b s 0)) 0 = _ := hnM
        rw [hnM']
        refine ⟨_, _, s, e, rfl, rfl, ⟨fun k h1 h2 h3 h4 => ?_, rfl⟩, ⟨fun k h1 h2 h3 => ?_, rfl⟩, ⟨?_, ?_, by omega, ?_, dvN b s (e - s), ?_, ?_, ?_⟩, s1, e2, ?_⟩
        · rw [gZ_n _ _ h1, gZ_n _ _ h4, gZ_n _ _ h3, gZ_n _ _ h2]
        · rw [gZ_n _ _ h1, gZ_setY, gZ_n _ _ h3, gZ_n _ _ h1, gZ_n _ _ h1, gZ_n _ _ h2]
        · rw [gZ_n _ _ (by decide), gZ_n _ _ (by decide), gZ_n _ _ (by decide), gZ_s]
        · rw [gZ_n _ _ (by decide), gZ_n _ _ (by decide), gZ_s]
        · rw [gZ_n _ _ (by decide), gZ_setY, gZ_n _ _ (by decide), gZ_n _ _ (by decide), gZ_n _ _ (by decide), gZ_s]
        · intro _
          rw [gZ_n _ _ (by decide), gZ_s]
        · rw [gZ_s]
          by_cases q : e - s ≤ 4
          · rw [if_pos q, if_pos q]
            refine Or.inr (Or.inl ⟨rfl, gZ_s _ _ _, ?_, ?_⟩)
            · rw [gY_setZ, gY_s]
              unfold dvL
              rw [if_pos q]
            · have hdv : ∀ n, n ≤ e - s → dvN b s n < 10 ^ n := by
                intro n
                induction n with
                | zero => intro _; exact Nat.one_pos
                | succ n ih =>
                  intro hn
                  show 10 * dvN b s n + (b (s + n) - 48) < 10 ^ (n + 1)
                  have h1 := ih (by omega)
                  have h2 : 48 ≤ b (s + n) ∧ b (s + n) ≤ 57 := of_decide_eq_true (e3 (s + n) (by omega) (by omega))
                  rw [Nat.pow_succ]
                  omega
              have h1 := hdv (e - s) (Nat.le_refl _)
              have h2 : 10 ^ (e - s) ≤ 10 ^ 4 := Nat.pow_le_pow_right (by decide) q
              omega
          · rw [if_neg q, if_neg q]
            exact Or.inr (Or.inr (Or.inr (Or.inr ⟨rfl, Or.inl (gZ_s _ _ _)⟩)))
        · intro _ _
          exact ⟨hse, by rw [gZ_n _ _ (by decide), gZ_setY, gZ_s]⟩
        · rw [gZ_s]
          refine ⟨fun y => ?_, fun y => absurd y hsK⟩
          by_cases q : e - s ≤ 4
          · rw [if_pos q] at y; exact absurd y (by decide)
          · rw [if_neg q] at y; exact absurd y (by decide)
    · rw [if_pos rfl, if_pos rfl]
      obtain ⟨e, e1, e2, e3, e4⟩ := run_ex ltB b K (K - s) s (by omega)
      have hse : s < e := by
        rcases Nat.lt_or_ge s e with q | q
        · exact q
        · have e0 : e = s := by omega
          subst e0
          rcases e4 with q2 | q2
          · exact absurd q2 hsK
          · rw [hlt] at q2; exact absurd q2 (by decide)
      have hwC := word_C (c := setZ c 106 (nI s)) (txc_Z hc (by decide) _) e2 e4 (e - s) s NF (by omega) (by unfold NF; omega) e3
      obtain ⟨t, ht, htt⟩ := word_b39 (c := setZ (setZ c 106 (nI s)) 107 (nI e)) (txc_Z (txc_Z hc (k := 106) (by decide) _) (k := 107) (by decide) _) (by rw [gZ_n _ _ (by decide), gZ_s]) (gZ_s _ _ _) hse e2 e3
      have hwM := word_M (u := setZ (setZ (setZ u 29 (nI s)) 28 4) 28 1) (txm_Z (txm_Z (txm_Z hu (k := 29) (by decide) (by decide) _) (k := 28) (by decide) (by decide) _) (k := 28) (by decide) (by decide) _) e2 e4 (e - s) 0 NF (by omega) (by unfold NF; omega) e3
      rw [Nat.add_zero] at hwM
      have hst : setY (setZ (setZ (setZ (setZ u 31 (nI s)) 29 (nI s)) 28 4) 28 1) 30 0 = setY (setZ (setZ (setZ (setZ u 29 (nI s)) 28 4) 28 1) 31 (nI s)) 30 (wvL b s 0) := by
        rw [setZ_comm u (k := 31) (j := 29) (by decide), setZ_comm (setZ u 29 (nI s)) (k := 31) (j := 28) (by decide), setZ_comm (setZ (setZ u 29 (nI s)) 28 4) (k := 31) (j := 28) (by decide)]
        rfl
      unfold fX5_readWord
      rw [hwC, ht, cl2_s, nmS_s, nmS_s, nmS_s, hst]
      have hwM' : fX12_next_l104 NF (setY (setZ (setZ (setZ (setZ u 29 (nI s)) 28 4) 28 1) 31 (nI s)) 30 (wvL b s 0)) 0 = _ := hwM
      rw [hwM']
      have hneq : ¬ t = 0 ∧ ¬ t = 2 := by
        rcases htt with ⟨i, hi, rfl, _⟩ | ⟨rfl, _⟩
        · have : ∀ i, i < 11 → ¬ wcN i = 0 ∧ ¬ wcN i = 2 := by decide
          exact this i hi
        · exact ⟨by decide, by decide⟩
      refine ⟨_, _, s, e, rfl, rfl, ⟨fun k h1 h2 h3 h4 => ?_, rfl⟩, ⟨fun k h1 h2 h3 => ?_, rfl⟩, ⟨?_, ?_, by omega, ?_, 0, ?_, ?_, ?_⟩, s1, e2, ?_⟩
      · rw [gZ_n _ _ h1, gZ_n _ _ h3, gZ_n _ _ h2]
      · rw [gZ_setY, gZ_n _ _ h3, gZ_n _ _ h1, gZ_n _ _ h1, gZ_n _ _ h2]
      · rw [gZ_n _ _ (by decide), gZ_n _ _ (by decide), gZ_s]
      · rw [gZ_n _ _ (by decide), gZ_s]
      · rw [gZ_setY, gZ_n _ _ (by decide), gZ_n _ _ (by decide), gZ_n _ _ (by decide), gZ_s]
      · rw [gZ_s]; intro y; exact absurd y hneq.2
      · rw [gZ_s]
        have g28 : gZ (setY (setZ (setZ (setZ (setZ u 29 (nI s)) 28 4) 28 1) 31 (nI e)) 30 (wvL b s (e - s))) 28 = 1 := by
          rw [gZ_setY, gZ_n _ _ (by decide), gZ_s]
        rcases htt with ⟨i, hi, hti, hsp⟩ | ⟨ht1, hno⟩
        · have hw := (sp_wv hi e3 (by omega)).mp hsp
          refine Or.inr (Or.inr (Or.inr (Or.inl ⟨i, hi, hti, g28, ?_⟩)))
          rw [gY_s]
          unfold wvL
          rw [if_pos hw.1, hw.2]
        · refine Or.inr (Or.inr (Or.inr (Or.inr ⟨ht1, Or.inr ⟨g28, fun i hi y => ?_⟩⟩)))
          rw [gY_s] at y
          unfold wvL at y
          have hww : ∀ i, i < 11 → wwN i < 2 ^ 31 := by decide
          by_cases q : e - s ≤ 8
          · rw [if_pos q] at y
            have hwb : ∀ n, n ≤ e - s → wvN b s n < 27 ^ n := by
              intro n
              induction n with
              | zero => intro _; exact Nat.one_pos
              | succ n ih =>
                intro hn
                show 27 * wvN b s n + (b (s + n) - 96) < 27 ^ (n + 1)
                have h1 := ih (by omega)
                have h2 : 97 ≤ b (s + n) ∧ b (s + n) ≤ 122 := of_decide_eq_true (e3 (s + n) (by omega) (by omega))
                rw [Nat.pow_succ]
                omega
            have h1 := hwb (e - s) (Nat.le_refl _)
            have h2 : 27 ^ (e - s) ≤ 27 ^ 8 := Nat.pow_le_pow_right (by decide) q
            have h3 : (27 : Nat) ^ 8 < 2 ^ 63 := by decide
            have h4 := (pk_lEQ (by omega) (by have := hww i hi; omega)).mp y
            exact hno i hi ((sp_wv hi e3 (by omega)).mpr ⟨q, h4⟩)
          · rw [if_neg q] at y
            have := congrArg Int64.toInt y
            rw [pk_lT (by have := hww i hi; omega)] at this
            have e1 : (-1 : Int64).toInt = -1 := rfl
            omega
      · intro _ _
        exact ⟨hse, by rw [gZ_setY, gZ_s]⟩
      · rw [gZ_s]
        exact ⟨fun y => absurd y hneq.1, fun y => absurd y hsK⟩
