theorem cnt_congr {P Q : Nat → Prop} [DecidablePred P] [DecidablePred Q] : ∀ n, (∀ i, i < n → (P i ↔ Q i)) → cnt P n = cnt Q n := by
  intro n
  induction n with
  | zero => intro _; rfl
  | succ n ih =>
    intro h
    show cnt P n + (if P n then 1 else 0) = cnt Q n + (if Q n then 1 else 0)
    rw [ih (fun i hi => h i (by omega))]
    congr 1
    by_cases q : P n
    · rw [if_pos q, if_pos ((h n (by omega)).mp q)]
    · rw [if_neg q, if_neg (fun z => q ((h n (by omega)).mpr z))]
theorem opn_upd (A4 A5 A6 A7 : Nat → Int32) (W : Nat) (a b f t x y p : Int32) : opn (upd A4 W a) (upd A5 W b) (upd A6 W f) (upd A7 W t) x y p (W + 1) = opn A4 A5 A6 A7 x y p W + if a = x ∧ b = y ∧ f ≤ p ∧ p ≤ t then 1 else 0 := by
  unfold opn
  show cnt _ W + (if upd A4 W a W = x ∧ upd A5 W b W = y ∧ upd A6 W f W ≤ p ∧ p ≤ upd A7 W t W then 1 else 0) = _
  simp only [upd_s]
  congr 1
  apply cnt_congr
  intro i hi
  simp only [upd_n _ _ (show i ≠ W by omega)]
/-- the ways' cells, one more for each period from f up to p -/
def adF (F : Nat → Int32) (a b f p : Nat) : Nat → Int32 := fun x => if x % 25 = a * 5 + b ∧ f ≤ x / 25 ∧ x / 25 < p then F x + 1 else F x
theorem adF_0 (F : Nat → Int32) (a b f : Nat) : adF F a b f f = F := by
  funext x
  unfold adF
  rw [if_neg (by omega)]
theorem adF_1 (F : Nat → Int32) {a b f p : Nat} (ha : a < 5) (hb : b < 5) (h : f ≤ p) : upd (adF F a b f p) ((p * 5 + a) * 5 + b) (adF F a b f p ((p * 5 + a) * 5 + b) + 1) = adF F a b f (p + 1) := by
  funext x
  unfold adF upd
  by_cases e : x = (p * 5 + a) * 5 + b
  · subst e
    rw [if_pos rfl, if_neg (by omega), if_pos (by omega)]
  · rw [if_neg e]
    dsimp only
    by_cases e2 : x % 25 = a * 5 + b ∧ f ≤ x / 25 ∧ x / 25 < p
    · rw [if_pos e2, if_pos (by omega)]
    · rw [if_neg e2, if_neg (by omega)]
theorem add_loop {a b f t W : Nat} (ha : a < 5) (hb : b < 5) (ht : t < 12) (u : St) (hz : gZ u 200 = nI W) : ∀ (m p : Nat), f ≤ p → p ≤ t + 1 → t + 1 < m + p → fX10_add_l3 (nI a) (nI b) (nI t) m (setA u 201 (adF (gA u 201) a b f p)) (nI p) = some (nI W, setZ (setA u 201 (adF (gA u 201) a b f (t + 1))) 200 (nI (W + 1))) := by
  intro m
  induction m with
  | zero => intro p h0 h1 h2; omega
  | succ m ih =>
    intro p h0 h1 h2
    show fX10_add_l3b (fX10_add_l3 (nI a) (nI b) (nI t) m) _ (nI a) (nI b) (nI t) (nI p) = _
    unfold fX10_add_l3b
    by_cases hp : p = t + 1
    · subst hp
      rw [if_pos (nI_lt (by omega) (by omega)), nmI_s, nmS_s, gZ_setA, hz, nI_1]
    · rw [if_neg (nI_nlt (by omega) (by omega)), show (5 : Int32) = nI 5 from rfl, pk_mul, nI_add, pk_mul, nI_add, nmI_s, gA_s, ldI_s (by omega) (by decide), stI_s (by omega) (by decide), setA_setA, gA_s, adF_1 _ ha hb h0, nI_1]
      exact ih (p + 1) (by omega) (by omega) (by omega)
theorem T_way {ts : List Tx} {uC uM : St} (h : Rel ts uC uM) (a0 : Int32) (a1 : Int32) (a2 : Int32) (a3 : Int32) : ∃ (r : Int32) (uC' : St) (uM' : St), fX11_way uC a0 a1 a2 a3 = some (r, uC') ∧ fX12_way uM a0 a1 a2 a3 = some (r, uM') ∧ Rel ts uC' uM' := by
  obtain ⟨T, h1, ⟨W, hW, hc, hm, hk⟩, h3, h4, h5, h6, h7, h8, h9, h10, h11⟩ := id h
  obtain ⟨t1, t2, t3, t4, t5, t6, t7, t8⟩ := id h1
  unfold fX11_way fX12_way
  by_cases ha : InR a0 5
  · rw [landC_t ha, landM_t ha]
    by_cases hb : InR a1 5
    · rw [landC_t hb, landM_t hb]
      simp only [cl1_s, i10, ↓reduceIte]
      by_cases e0 : a0 = a1
      · rw [if_pos e0, if_pos e0]
        exact ⟨_, _, _, rfl, rfl, h⟩
      · rw [if_neg e0, if_neg e0]
        have hT1 : nI T - 1 = nI (T - 1) := pk_sub (a := T) (b := 1) (by omega)
        have hT2 : nI T - 2 = nI (T - 1) - 1 := by
          rw [show (2 : Int32) = nI 2 from rfl, pk_sub (by omega), show (1 : Int32) = nI 1 from rfl, pk_sub (a := T - 1) (b := 1) (by omega)]
          rfl
        unfold fX11_isMovePeriod
        rw [t3, t4, hT1, hT2]
        by_cases hf : InR a2 (T - 1)
        · rw [ge_t (by omega) hf, in_t (by omega) hf]
          simp only [cl1_s, i10, ↓reduceIte]
          by_cases ht : InR a3 (T - 1)
          · rw [ge_t (by omega) ht]
            obtain ⟨f, hf', rfl⟩ := hf
            obtain ⟨t, ht', rfl⟩ := ht
            unfold fX12_in
            simp only [cl1_s, i10, ↓reduceIte]
            have hT3 : nI (T - 1) - 1 = nI (T - 2) := pk_sub (a := T - 1) (b := 1) (by omega)
            rw [hT3]
            by_cases e1 : f ≤ t
            · rw [if_pos (nI_le e1 (by omega)), if_neg (nI_nlt e1 (by omega)), if_neg (nI_nlt (by omega) (by omega))]
              simp only [cl1_s, i10, ↓reduceIte, hc, hm]
              by_cases h8' : W = 20
              · subst h8'
                have e8 : nI 20 = 20 := rfl
                rw [if_pos e8, if_pos e8]
                exact ⟨_, _, _, rfl, rfl, h⟩
              · have hlt : W < 20 := by omega
                have e8 : ¬ nI W = 20 := nI_ne (b := 20) (by omega) (by decide) h8'
                rw [if_neg e8, if_neg e8]
                obtain ⟨a, ha', rfl⟩ := ha
                obtain ⟨b, hb', rfl⟩ := hb
                have e := add_loop (f := f) ha' hb' (show t < 12 by omega) uC hc NF f (Nat.le_refl f) (by omega) (by unfold NF; omega)
                rw [adF_0, setA_self] at e
                unfold fX10_add
                rw [e]
                simp only [gZ_setA, hm, stI_s hlt (show 20 < 2 ^ 31 by decide), nmI_s, nmS_s, gZ_s, cl2_s, nI_1, nI_pred]
                refine ⟨nI W, _, _, rfl, rfl, T, h1, ⟨W + 1, by omega, rfl, rfl, fun p x y hp hx hy => ?_⟩, h3, h4, h5, h6, h7, h8, h9, h10, h11⟩
                show adF (gA uC 201) a b f (t + 1) ((p * 5 + x) * 5 + y) = nI (opn (upd (gA uM 4) W (nI a)) (upd (gA uM 5) W (nI b)) (upd (gA uM 6) W (nI f)) (upd (gA uM 7) W (nI t)) (nI x) (nI y) (nI p) (W + 1))
                rw [opn_upd]
                unfold adF
                by_cases e2 : a = x ∧ b = y ∧ f ≤ p ∧ p ≤ t
                · obtain ⟨rfl, rfl, q1, q2⟩ := e2
                  rw [if_pos (by omega), if_pos ⟨rfl, rfl, nI_le q1 (by omega), nI_le q2 (by omega)⟩, hk p a b hp hx hy, nI_1]
                · rw [if_neg (by omega), if_neg, hk p x y hp hx hy, Nat.add_zero]
                  rintro ⟨q1, q2, q3, q4⟩
                  rw [nI_eq (by omega) (by omega)] at q1 q2
                  rw [nI_leI (by omega) (by omega)] at q3 q4
                  exact e2 ⟨q1, q2, q3, q4⟩
            · rw [if_neg (nI_ge (by omega) (by omega)), if_pos (nI_lt (by omega) (by omega))]
              exact ⟨_, _, _, rfl, rfl, h⟩
          · rw [ge_f (by omega) ht]
            have : fX12_in a3 a2 (nI (T - 1) - 1) = some 0 := by
              have e := in_f (by omega) ht
              unfold fX12_in at e ⊢
              by_cases z : a3 < a2
              · rw [if_pos z]
              · rw [if_neg z]
                by_cases z2 : nI (T - 1) - 1 < a3
                · rw [if_pos z2]
                · rw [if_neg z2] at e
                  by_cases z3 : a3 < 0
                  · exfalso
                    apply z
                    have := inr_0 (by omega) hf
                    rw [Int32.lt_iff_toInt_lt] at this z3 ⊢
                    omega
                  · rw [if_neg z3] at e
                    cases e
            rw [this]
            exact ⟨_, _, _, rfl, rfl, h⟩
        · rw [ge_f (by omega) hf, in_f (by omega) hf]
          exact ⟨_, _, _, rfl, rfl, h⟩
    · rw [landC_f hb, landM_f hb]
      exact ⟨_, _, _, rfl, rfl, h⟩
  · rw [landC_f ha, landM_f ha]
    exact ⟨_, _, _, rfl, rfl, h⟩
theorem under_eq (uC uM : St) {k v : Nat} (hk : k < 6) (hv : v < 6) : (fX4_isUnder uC (nI k) (nI v) = some 1 ∧ ∀ v1, fX12_taken_l30 uM v1 (nI v) NF (nI k) = ldI (gA uM 10) 16 v1 (fun x5 => some x5)) ∨ (fX4_isUnder uC (nI k) (nI v) = some 0 ∧ ∀ v1, fX12_taken_l30 uM v1 (nI v) NF (nI k) = some (-13)) := by
  rcases (show k = 0 ∨ k = 1 ∨ k = 2 ∨ k = 3 ∨ k = 4 ∨ k = 5 by omega) with rfl | rfl | rfl | rfl | rfl | rfl <;> rcases (show v = 0 ∨ v = 1 ∨ v = 2 ∨ v = 3 ∨ v = 4 ∨ v = 5 by omega) with rfl | rfl | rfl | rfl | rfl | rfl <;> first | exact Or.inl ⟨rfl, fun _ => rfl⟩ | exact Or.inr ⟨rfl, fun _ => rfl⟩
theorem papC_t {u : St} {P : Nat} (hP : P < 2 ^ 31) (h : gZ u 80 = nI P) {v : Int32} (hv : InR v P) : fX4_has u v = some 1 := by
  unfold fX4_has
  rw [h]
  exact ge_t hP hv
theorem papC_f {u : St} {P : Nat} (hP : P < 2 ^ 31) (h : gZ u 80 = nI P) {v : Int32} (hv : ¬ InR v P) : fX4_has u v = some 0 := by
  unfold fX4_has
  rw [h]
  exact ge_f hP hv
theorem papM_t {u : St} {P : Nat} (hP : P < 2 ^ 31) (h : gZ u 8 = nI P) {v : Int32} (hv : InR v P) : fX12_isPaper u v = some 1 := by
  unfold fX12_isPaper
  rw [h, in_t hP hv]
  rfl
theorem papM_f {u : St} {P : Nat} (hP : P < 2 ^ 31) (h : gZ u 8 = nI P) {v : Int32} (hv : ¬ InR v P) : fX12_isPaper u v = some 0 := by
  unfold fX12_isPaper
  rw [h, in_f hP hv]
  rfl
theorem T_taken {ts : List Tx} {uC uM : St} (h : Rel ts uC uM) (a0 : Int32) (a1 : Int32) : ∃ (r : Int32), fX11_taken uC a0 a1 = some r ∧ fX12_taken uM a0 a1 = some r ∧ Rel ts uC uM := by
  obtain ⟨T, h1, h2, h3, ⟨P, hP, hc, hm, hk, hf, hg, hs⟩, h5, h6, h7, h8, h9, h10, h11⟩ := id h
  unfold fX11_taken fX12_taken
  rw [show (5 : Int32) = nI 6 - 1 by decide, show (6 : Int32) = nI 6 from rfl]
  by_cases hv : InR a1 6
  · rw [in_t (by decide) hv, if_neg (inr_0 (by decide) hv), if_pos (i32_lt.mpr (inr_n (by decide) hv))]
    by_cases hp : InR a0 P
    · rw [papC_t (by omega) hc hp, papM_t (by omega) hm hp]
      obtain ⟨i, hi, rfl⟩ := hp
      obtain ⟨v, hv, rfl⟩ := hv
      obtain ⟨k1, k2, k3, k4, k5, ⟨k, hk', e⟩, k7⟩ := hk i hi
      simp only [cl1_s, i10, ↓reduceIte, ldI_s (show i < 16 by omega) (show 16 < 2 ^ 31 by decide), k1, k2, e]
      rcases under_eq uC uM hk' hv with ⟨q1, q2⟩ | ⟨q1, q2⟩
      · rw [q1, q2, ldI_s (by omega) (by decide)]
        exact ⟨_, rfl, rfl, h⟩
      · rw [q1, q2]
        exact ⟨_, rfl, rfl, h⟩
    · rw [papC_f (by omega) hc hp, papM_f (by omega) hm hp]
      exact ⟨_, rfl, rfl, h⟩
  · rw [in_f (by decide) hv]
    simp only [cl1_s, ↓reduceIte]
    by_cases z : a1 < 0
    · rw [if_pos z]
      exact ⟨_, rfl, rfl, h⟩
    · rw [if_neg z, if_neg (fun y => i32_lt.mp y (ninr_n (by decide) hv z))]
      exact ⟨_, rfl, rfl, h⟩
