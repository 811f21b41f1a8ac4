def fwdF (f : Nat → Int32) (sp dp k : Nat) : Nat → Int32 := fun x => if dp ≤ x ∧ x < dp + k then f (sp + (x - dp)) else f x
def bwdF (f : Nat → Int32) (sp dp k n : Nat) : Nat → Int32 := fun x => if dp + k ≤ x ∧ x < dp + n then f (sp + (x - dp)) else f x
theorem fwdF_0 (f : Nat → Int32) (sp dp : Nat) : fwdF f sp dp 0 = f := by
  funext x
  unfold fwdF
  rw [if_neg (by omega)]
theorem bwdF_n (f : Nat → Int32) (sp dp n : Nat) : bwdF f sp dp n n = f := by
  funext x
  unfold bwdF
  rw [if_neg (by omega)]
theorem bwdF_0 (f : Nat → Int32) (sp dp n : Nat) : bwdF f sp dp 0 n = fwdF f sp dp n := by
  funext x
  unfold bwdF fwdF
  rw [Nat.add_zero]
theorem fwdF_cpy (f : Nat → Int32) (sp dp n : Nat) : va_cpy f f sp dp n = fwdF f sp dp n := by
  funext x
  unfold fwdF
  by_cases h : dp ≤ x ∧ x < dp + n
  · rw [if_pos h, pk_cpy_in h.1 h.2]
  · rw [if_neg h, pk_cpy_out (by omega)]
theorem cp_fwd {s i o j n : Nat} {f : Nat → Int32} (hs : s < 4) (ho : o < 4) (hi : i + n ≤ 40) (hj : j + n ≤ 40) (hc : s ≠ o ∨ j ≤ i) (u : St) : ∀ (m k : Nat), k ≤ n → n < m + k → fX12_copy_l103 (nI s) (nI i) (nI o) (nI j) (nI n) m (setA u 60 (fwdF f (40 * s + i) (40 * o + j) k)) (nI k) = some (nI n, setA u 60 (fwdF f (40 * s + i) (40 * o + j) n)) := by
  intro m
  induction m with
  | zero => intro k h1 h2; omega
  | succ m ih =>
    intro k h1 h2
    show fX12_copy_l103b (fX12_copy_l103 (nI s) (nI i) (nI o) (nI j) (nI n) m) _ (nI s) (nI i) (nI o) (nI j) (nI n) (nI k) = _
    have hend : ∀ u : St, fX12_copy_b156 u (nI s) (nI i) (nI o) (nI j) (nI n) = some (nI n, u) := by
      intro u
      unfold fX12_copy_b156
      rw [nmI_s, show NF = 4999 + 1 from rfl]
      show fX12_copy_l162b (fX12_copy_l162 (nI s) (nI i) (nI o) (nI j) (nI n) 4999) u (nI s) (nI i) (nI o) (nI j) (nI n) (nI n - 1) = _
      unfold fX12_copy_l162b
      by_cases z : nI n - 1 < 0
      · rw [if_pos z]
      · rw [if_neg z]
        by_cases e : s = o
        · subst e
          rw [if_pos rfl, if_pos (nI_le (by omega) (by omega))]
        · rw [if_neg (nI_ne (by omega) (by omega) e)]
    unfold fX12_copy_l103b
    by_cases hk : k = n
    · subst hk
      rw [if_pos (nI_le (Nat.le_refl k) (by omega)), hend]
    · have hstep : fX12_copy_b121 (fX12_copy_l103 (nI s) (nI i) (nI o) (nI j) (nI n) m) (setA u 60 (fwdF f (40 * s + i) (40 * o + j) k)) (nI s) (nI i) (nI o) (nI j) (nI n) (nI k) = some (nI n, setA u 60 (fwdF f (40 * s + i) (40 * o + j) n)) := by
        unfold fX12_copy_b121
        rw [show (40 : Int32) = nI 40 from rfl, pk_mul, pk_mul, nI_add, nI_add, nI_add, nI_add, gA_s, ldI_s (by omega) (by decide), stI_s (by omega) (by decide), setA_setA, gA_s, nI_1]
        rw [show upd (fwdF f (40 * s + i) (40 * o + j) k) (40 * o + j + k) (fwdF f (40 * s + i) (40 * o + j) k (40 * s + i + k)) = fwdF f (40 * s + i) (40 * o + j) (k + 1) from ?_]
        · exact ih (k + 1) (by omega) (by omega)
        · funext x
          unfold fwdF upd
          rw [if_neg (show ¬ (40 * o + j ≤ 40 * s + i + k ∧ 40 * s + i + k < 40 * o + j + k) by omega)]
          by_cases e : x = 40 * o + j + k
          · subst e
            rw [if_pos rfl, if_pos (by omega), show 40 * o + j + k - (40 * o + j) = k by omega]
          · rw [if_neg e]
            dsimp only
            by_cases e2 : 40 * o + j ≤ x ∧ x < 40 * o + j + k
            · rw [if_pos e2, if_pos (by omega)]
            · rw [if_neg e2, if_neg (by omega)]
      rw [if_neg (nI_ge (by omega) (by omega))]
      by_cases e : s = o
      · subst e
        rw [if_pos rfl, if_neg (nI_nlt (by omega) (by omega))]
        exact hstep
      · rw [if_neg (nI_ne (by omega) (by omega) e)]
        exact hstep
theorem cp_bwd {s i j n : Nat} {f : Nat → Int32} (hs : s < 4) (hi : i + n ≤ 40) (hj : j + n ≤ 40) (hc : i < j) (u : St) : ∀ (k m : Nat), k ≤ n → k < m → fX12_copy_l162 (nI s) (nI i) (nI s) (nI j) (nI n) m (setA u 60 (bwdF f (40 * s + i) (40 * s + j) k n)) (nI k + (-1)) = some (nI n, setA u 60 (bwdF f (40 * s + i) (40 * s + j) 0 n)) := by
  intro k
  induction k with
  | zero =>
    intro m h1 h2
    cases m with
    | zero => omega
    | succ m =>
      show fX12_copy_l162b _ _ (nI s) (nI i) (nI s) (nI j) (nI n) (nI 0 + (-1)) = _
      unfold fX12_copy_l162b
      rw [if_pos (by decide)]
  | succ k ih =>
    intro m h1 h2
    cases m with
    | zero => omega
    | succ m =>
      show fX12_copy_l162b (fX12_copy_l162 (nI s) (nI i) (nI s) (nI j) (nI n) m) _ (nI s) (nI i) (nI s) (nI j) (nI n) (nI (k + 1) + (-1)) = _
      unfold fX12_copy_l162b
      rw [pk_m1, if_neg (nI_pos (by omega)), if_pos rfl, if_neg (nI_ge (by omega) (by omega)), show (40 : Int32) = nI 40 from rfl, pk_mul, nI_add, nI_add, nI_add, nI_add, gA_s, ldI_s (by omega) (by decide), stI_s (by omega) (by decide), setA_setA, gA_s]
      rw [show upd (bwdF f (40 * s + i) (40 * s + j) (k + 1) n) (40 * s + j + k) (bwdF f (40 * s + i) (40 * s + j) (k + 1) n (40 * s + i + k)) = bwdF f (40 * s + i) (40 * s + j) k n from ?_]
      · exact ih m (by omega) (by omega)
      · funext x
        unfold bwdF upd
        rw [if_neg (show ¬ (40 * s + j + (k + 1) ≤ 40 * s + i + k ∧ 40 * s + i + k < 40 * s + j + n) by omega)]
        by_cases e : x = 40 * s + j + k
        · subst e
          rw [if_pos rfl, if_pos (by omega), show 40 * s + j + k - (40 * s + j) = k by omega]
        · rw [if_neg e]
          dsimp only
          by_cases e2 : 40 * s + j + (k + 1) ≤ x ∧ x < 40 * s + j + n
          · rw [if_pos e2, if_pos (by omega)]
          · rw [if_neg e2, if_neg (by omega)]
theorem cp_all {s i o j n : Nat} (hs : s < 4) (ho : o < 4) (hi : i + n ≤ 40) (hj : j + n ≤ 40) (u : St) : fX12_copy_l103 (nI s) (nI i) (nI o) (nI j) (nI n) NF u 0 = some (nI n, setA u 60 (fwdF (gA u 60) (40 * s + i) (40 * o + j) n)) := by
  by_cases hc : s ≠ o ∨ j ≤ i
  · have := cp_fwd (f := gA u 60) hs ho hi hj hc u NF 0 (by omega) (by unfold NF; omega)
    rw [fwdF_0, setA_self] at this
    exact this
  · have e : s = o := by
      rcases Nat.decEq s o with q | q
      · exact absurd (Or.inl q) hc
      · exact q
    subst e
    have hij : i < j := by omega
    have hb := cp_bwd (f := gA u 60) hs hi hj hij u n NF (by omega) (by unfold NF; omega)
    rw [bwdF_n, setA_self, bwdF_0, show nI n + (-1) = nI n - 1 from (Int32.sub_eq_add_neg _ _).symm] at hb
    rw [show NF = 4999 + 1 from rfl] at *
    show fX12_copy_l103b (fX12_copy_l103 (nI s) (nI i) (nI s) (nI j) (nI n) 4999) u (nI s) (nI i) (nI s) (nI j) (nI n) 0 = _
    unfold fX12_copy_l103b fX12_copy_b156
    rw [nmI_s]
    by_cases z : nI n ≤ 0
    · rw [if_pos z]
      exact hb
    · rw [if_neg z, if_pos rfl, if_pos (nI_lt hij (by omega))]
      exact hb
theorem sub_lt {n m k : Nat} (hn : n ≤ 40) (hm : m < 2 ^ 30) (hk : k < 2 ^ 31) : nI n - nI m < nI k ↔ n < m + k := by
  rw [Int32.lt_iff_toInt_lt, pk_sub_toInt (by omega) hm, nI_toInt hk]
  omega
theorem T_copy {ts : List Tx} {uC uM : St} (h : Rel ts uC uM) (a0 : Int32) (a1 : Int32) (a2 : Int32) (a3 : Int32) (a4 : Int32) : ∃ (r : Int32) (uC' : St) (uM' : St), fX11_copy uC a0 a1 a2 a3 a4 = some (r, uC') ∧ fX12_copy uM a0 a1 a2 a3 a4 = some (r, uM') ∧ Rel ts uC' uM' := by
  obtain ⟨T, h1, h2, h3, h4, h5, h6, h7, h8, h9, h10, h11⟩ := id h
  unfold fX11_copy fX12_copy
  by_cases ha : InR a0 4
  · rw [sheetC_t ha, sheetM_t ha]
    by_cases hb : InR a2 4
    · rw [sheetC_t hb, sheetM_t hb]
      obtain ⟨s, hs, rfl⟩ := ha
      obtain ⟨o, ho, rfl⟩ := hb
      simp only [cl1_s, i10, ↓reduceIte]
      unfold fX7_isMissing
      simp only [ldI_s hs (show 4 < 2 ^ 31 by decide), ldI_s ho (show 4 < 2 ^ 31 by decide)]
      rcases h11 s hs with ⟨q1, q2⟩ | ⟨q1, q2, ⟨k, hk, q3⟩, q4, n, hn, q5, q6⟩
      · rw [if_pos q1, if_pos q2]
        exact ⟨_, _, _, rfl, rfl, h⟩
      · rw [q2, q3, if_neg (nI_nm1 (by omega)), q1]
        simp only [cl1_s, i10, ↓reduceIte]
        rcases h11 o ho with ⟨r1, r2⟩ | ⟨r1, r2, ⟨l, hl, r3⟩, r4, m, hm, r5, r6⟩
        · rw [if_pos r1, if_pos r2]
          exact ⟨_, _, _, rfl, rfl, h⟩
        · rw [r2, r3, if_neg (nI_nm1 (by omega)), r1]
          simp only [cl1_s, i10, ↓reduceIte]
          by_cases hkl : nI k = nI l
          · rw [if_pos hkl, if_pos hkl]
            unfold fX7_holds
            simp only [ldI_s hs (show 4 < 2 ^ 31 by decide), ldI_s ho (show 4 < 2 ^ 31 by decide), q4, q5, r4, r5]
            by_cases z1 : a1 < 0
            · simp only [z1, ↓reduceIte, cl1_s]
              by_cases z2 : a4 < 0
              · simp only [z2, ↓reduceIte]
                exact ⟨_, _, _, rfl, rfl, h⟩
              · simp only [z2, ↓reduceIte]
                exact ⟨_, _, _, rfl, rfl, h⟩
            · by_cases z2 : a4 < 0
              · simp only [z1, z2, ↓reduceIte, cl1_s]
                exact ⟨_, _, _, rfl, rfl, h⟩
              · simp only [z1, z2, ↓reduceIte, cl1_s]
                by_cases z3 : a3 < 0
                · simp only [z3, ↓reduceIte]
                  by_cases z4 : nI n - a4 < a1
                  · simp only [z4, ↓reduceIte, cl1_s]
                    exact ⟨_, _, _, rfl, rfl, h⟩
                  · simp only [z4, ↓reduceIte, cl1_s, i10]
                    exact ⟨_, _, _, rfl, rfl, h⟩
                · simp only [z3, ↓reduceIte]
                  by_cases z4 : nI n - a4 < a1
                  · simp only [z4, ↓reduceIte, cl1_s]
                    exact ⟨_, _, _, rfl, rfl, h⟩
                  · simp only [z4, ↓reduceIte, cl1_s, i10]
                    by_cases z5 : nI m - a4 < a3
                    · have z6 : ¬ a3 ≤ nI m - a4 := by
                        rw [Int32.le_iff_toInt_le]
                        rw [Int32.lt_iff_toInt_lt] at z5
                        omega
                      simp only [z5, z6, ↓reduceIte, cl1_s]
                      exact ⟨_, _, _, rfl, rfl, h⟩
                    · have z6 : a3 ≤ nI m - a4 := by
                        rw [Int32.le_iff_toInt_le]
                        rw [Int32.lt_iff_toInt_lt] at z5
                        omega
                      simp only [z5, z6, ↓reduceIte, cl1_s, i10]
                      obtain ⟨i, hi, rfl⟩ := nI_of z1
                      obtain ⟨j, hj, rfl⟩ := nI_of z3
                      obtain ⟨c, hc, rfl⟩ := nI_of z2
                      have hc40 : c < 2 ^ 30 := by
                        rcases Nat.lt_or_ge c (2 ^ 30) with q | q
                        · exact q
                        · exfalso
                          apply z4
                          rw [Int32.lt_iff_toInt_lt, nI_toInt hi, Int32.toInt_sub, nI_toInt (by omega), nI_toInt hc]
                          have : ((n : Int) - (c : Int)).bmod (2 ^ 32) = (n : Int) - c := by
                            apply Int.bmod_eq_of_le <;> omega
                          rw [this]
                          omega
                      rw [sub_lt hn hc40 hi] at z4
                      rw [sub_lt hm hc40 hj] at z5
                      unfold fX7_move cpA
                      rw [cp_all hs ho (by omega) (by omega), show (40 : Int32) = nI 40 from rfl, pk_mul, pk_mul, nI_add, nI_add, nI_clamp (by omega), nI_clamp (by omega), nI_clamp (by omega), if_neg (by
                        intro q
                        rcases q with q | q | q | q | q
                        · exact nI_pos (by omega) q
                        · exact nI_pos (by omega) q
                        · exact nI_pos (by omega) q
                        · omega
                        · omega), fwdF_cpy, Nat.mul_comm s 40, Nat.mul_comm o 40]
                      simp only [cl2_s]
                      refine ⟨nI c, _, _, rfl, rfl, T, h1, h2, h3, h4, h5, h6, h7, h8, h9, h10, fun x hx => ?_⟩
                      show (gA uC 140 x = -1 ∧ gA uM 57 x = 0) ∨ (gA uM 57 x = 1 ∧ gA uC 140 x = gA uM 58 x ∧ InR (gA uM 58 x) 3 ∧ gA uC 141 x = gA uM 59 x ∧ ∃ m : Nat, m ≤ 40 ∧ gA uM 59 x = nI m ∧ ∀ y, y < m → fwdF (gA uC 142) (40 * s + i) (40 * o + j) c (40 * x + y) = fwdF (gA uM 60) (40 * s + i) (40 * o + j) c (40 * x + y))
                      rcases h11 x hx with q | ⟨p1, p2, p3, p4, w, hw, p5, p6⟩
                      · exact Or.inl q
                      · refine Or.inr ⟨p1, p2, p3, p4, w, hw, p5, fun y hy => ?_⟩
                        unfold fwdF
                        by_cases e : 40 * o + j ≤ 40 * x + y ∧ 40 * x + y < 40 * o + j + c
                        · rw [if_pos e, if_pos e, show 40 * s + i + (40 * x + y - (40 * o + j)) = 40 * s + (i + (40 * x + y - (40 * o + j))) by omega]
                          exact q6 _ (by omega)
                        · rw [if_neg e, if_neg e]
                          exact p6 y hy
          · rw [if_neg hkl, if_neg hkl]
            exact ⟨_, _, _, rfl, rfl, h⟩
    · rw [sheetC_f hb, sheetM_f hb]
      simp only [cl1_s, i10, ↓reduceIte]
      exact ⟨_, _, _, rfl, rfl, h⟩
  · rw [sheetC_f ha, sheetM_f ha]
    exact ⟨_, _, _, rfl, rfl, h⟩
