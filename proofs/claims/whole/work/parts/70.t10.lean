theorem paper_core {ts : List Tx} {uC uM : St} (h : Rel ts uC uM) (a0 : Int32) (a1 : Int32) (a2 : Int32) (a3 : Int32) (a4 : Int32) : ∃ (r : Int32) (uC' : St) (uM' : St), fX11_paper uC a0 a1 a2 a3 a4 = some (r, uC') ∧ fX12_paper uM a0 a1 a2 a3 a4 = some (r, uM') ∧ Rel ts uC' uM' ∧ (∀ k, k ∈ ([140, 141, 142] : List Nat) → gA uC' k = gA uC k) ∧ ∀ k, k ∈ ([57, 58, 59, 60] : List Nat) → gA uM' k = gA uM k := by
  obtain ⟨T, h1, h2, h3, ⟨P, hP, hc, hm, hk, hf, hg, hs⟩, h5, h6, h7, h8, h9, h10, h11⟩ := id h
  obtain ⟨t1, t2, t3, t4, t5, t6, t7, t8⟩ := id h1
  unfold fX11_paper fX12_paper
  rw [show fX12_in a0 0 5 = fX12_in a0 0 (nI 6 - 1) from rfl]
  by_cases hv : InR a0 6
  · have e6 : a0 < 6 := i32_lt.mpr (inr_n (n := 6) (by decide) hv)
    rw [in_t (by decide) hv, if_neg (inr_0 (by decide) hv), if_pos e6]
    by_cases ha : InR a1 5
    · rw [landC_t ha, landM_t ha]
      by_cases hb : InR a2 5
      · rw [landC_t hb, landM_t hb]
        by_cases hp : InR a3 T
        · rw [perC_t (by omega) t4 hp, perM_t (by omega) t3 hp]
          unfold fX4_hasAll
          have hP2 : 2 ^ P ≤ 2 ^ 16 := Nat.pow_le_pow_right (by decide) hP
          rw [hc, hm, sh1 (by omega)]
          by_cases hl : InR a4 (2 ^ P)
          · rw [ge_t (by omega) hl]
            obtain ⟨v, hv', rfl⟩ := hl
            rw [pk_shrN (by omega) _ P (smod_i P (by omega)), Nat.div_eq_of_lt hv']
            simp only [cl1_s, i10, ↓reduceIte, nI_0, show (nI v < 0) = False from eq_false (nI_pos (by omega))]
            by_cases h8' : P = 16
            · subst h8'
              have e8 : nI 16 = 16 := rfl
              rw [if_pos e8, if_pos e8]
              exact ⟨_, _, _, rfl, rfl, h, fun _ _ => rfl, fun _ _ => rfl⟩
            · have hlt : P < 16 := by omega
              have e8 : ¬ nI P = 16 := nI_ne (b := 16) (by omega) (by decide) h8'
              rw [if_neg e8, if_neg e8]
              unfold fX4_add
              simp only [gZ_setA, hc, hm, stI_s hlt (show 16 < 2 ^ 31 by decide), stZ_s hlt (show 16 < 2 ^ 31 by decide), nmI_s, nmS_s, gZ_s, nI_1]
              have hfP : bB (gZ uC 81) P = false := (inr_bits (by omega)).mp hg P (Nat.le_refl P)
              have hM14 : ∀ i, i < P + 1 → upd (gA uM 14) P 0 i = gZ uC 81 >>> (nI i &&& 31) &&& 1 := by
                intro i hi
                by_cases e : i = P
                · subst e
                  rw [upd_s, sh_b _ (by omega), hfP]
                  rfl
                · rw [upd_n _ _ e]
                  exact hf i (by omega)
              have hst : stnd (upd (gA uC 87) P (nI v)) (fun j => bB (gZ uC 81) j = true) (P + 1) = stnd (upd (gA uM 13) P (nI v)) (fun j => ¬ upd (gA uM 14) P 0 j = 0) (P + 1) := by
                apply stnd_congr
                intro j hj
                refine ⟨?_, (fg_iff (by omega) (hM14 j hj)).symm⟩
                by_cases e : j = P
                · subst e
                  rw [upd_s, upd_s]
                · rw [upd_n _ _ e, upd_n _ _ e]
                  exact (hk j (by omega)).2.2.2.2.1
              rw [standC (P := P + 1) (by omega) (gZ_s _ 80 _)]
              simp only [cl1_s, cl2_s]
              refine ⟨nI (P + 1) - 1, _, _, rfl, rfl, ⟨T, h1, h2, h3, ⟨P + 1, by omega, rfl, rfl, fun i hi => ?_, hM14, ?_, hst⟩, h5, h6, h7, h8, h9, h10, h11⟩, fun k hk => ?_, fun k hk => ?_⟩
              · show upd (gA uC 83) P a0 i = upd (gA uM 9) P a0 i ∧ upd (gA uC 84) P a1 i = upd (gA uM 10) P a1 i ∧ upd (gA uC 85) P a2 i = upd (gA uM 11) P a2 i ∧ upd (gA uC 86) P a3 i = upd (gA uM 12) P a3 i ∧ upd (gA uC 87) P (nI v) i = upd (gA uM 13) P (nI v) i ∧ InR (upd (gA uM 9) P a0 i) 6 ∧ InR (upd (gA uM 10) P a1 i) 5 ∧ InR (upd (gA uM 11) P a2 i) 5 ∧ InR (upd (gA uM 12) P a3 i) T ∧ InR (upd (gA uM 13) P (nI v) i) (2 ^ i)
                by_cases e : i = P
                · subst e
                  simp only [upd_s]
                  exact ⟨trivial, trivial, trivial, trivial, trivial, hv, ha, hb, hp, v, hv', rfl⟩
                · simp only [upd_n _ _ e]
                  exact hk i (by omega)
              · show InR (gZ uC 81) (2 ^ (P + 1))
                obtain ⟨w, hw, e⟩ := hg
                refine ⟨w, ?_, e⟩
                rw [Nat.pow_succ]
                omega
              · simp only [List.mem_cons, List.not_mem_nil, or_false] at hk
                rcases hk with rfl | rfl | rfl <;> rfl
              · simp only [List.mem_cons, List.not_mem_nil, or_false] at hk
                rcases hk with rfl | rfl | rfl | rfl <;> rfl
          · rw [ge_f (by omega) hl]
            simp only [cl1_s, i10, ↓reduceIte]
            by_cases z : a4 < 0
            · rw [if_pos z]
              exact ⟨_, _, _, rfl, rfl, h, fun _ _ => rfl, fun _ _ => rfl⟩
            · obtain ⟨v, hv', rfl⟩ := nI_of z
              have hv2 : 2 ^ P ≤ v := by
                rcases Nat.lt_or_ge v (2 ^ P) with q | q
                · exact absurd ⟨v, q, rfl⟩ hl
                · exact q
              have hd : 0 < v / 2 ^ P := Nat.div_pos hv2 (Nat.two_pow_pos P)
              have hd2 : v / 2 ^ P ≤ v := Nat.div_le_self _ _
              rw [if_neg z, pk_shrN hv' _ P (smod_i P (by omega)), if_neg (nI_ne0 hd (by omega))]
              exact ⟨_, _, _, rfl, rfl, h, fun _ _ => rfl, fun _ _ => rfl⟩
        · rw [perC_f (by omega) t4 hp, perM_f (by omega) t3 hp]
          exact ⟨_, _, _, rfl, rfl, h, fun _ _ => rfl, fun _ _ => rfl⟩
      · rw [landC_f hb, landM_f hb]
        exact ⟨_, _, _, rfl, rfl, h, fun _ _ => rfl, fun _ _ => rfl⟩
    · rw [landC_f ha, landM_f ha]
      exact ⟨_, _, _, rfl, rfl, h, fun _ _ => rfl, fun _ _ => rfl⟩
  · rw [in_f (by decide) hv]
    simp only [cl1_s, ↓reduceIte]
    by_cases z : a0 < 0
    · rw [if_pos z]
      exact ⟨_, _, _, rfl, rfl, h, fun _ _ => rfl, fun _ _ => rfl⟩
    · have e6 : ¬ a0 < 6 := fun y => i32_lt.mp y (ninr_n (n := 6) (by decide) hv z)
      rw [if_neg z, if_neg e6]
      exact ⟨_, _, _, rfl, rfl, h, fun _ _ => rfl, fun _ _ => rfl⟩
theorem T_paper {ts : List Tx} {uC uM : St} (h : Rel ts uC uM) (a0 : Int32) (a1 : Int32) (a2 : Int32) (a3 : Int32) (a4 : Int32) : ∃ (r : Int32) (uC' : St) (uM' : St), fX11_paper uC a0 a1 a2 a3 a4 = some (r, uC') ∧ fX12_paper uM a0 a1 a2 a3 a4 = some (r, uM') ∧ Rel ts uC' uM' := by
  obtain ⟨r, c, m, h1, h2, h3, _⟩ := paper_core h a0 a1 a2 a3 a4
  exact ⟨r, c, m, h1, h2, h3⟩
theorem papers_loop {i n p c : Nat} (hi : i < 4) (hn : n ≤ 40) (hp : p < 2 ^ 30) (hc : c ≤ 8) {ts : List Tx} : ∀ (m k : Nat) (uC uM : St) (a : Int32), k ≤ c → c < m + k → Rel ts uC uM → gA uC 141 i = nI n → gA uM 59 i = nI n → (∀ j, j < n → gA uC 142 (40 * i + j) = gA uM 60 (40 * i + j)) → (0 < k → p + 5 * k ≤ n) → ∃ (r : Int32) (uC' : St) (uM' : St), fX11_papers_l71 (nI i) (nI c) m uC a (nI (p + 5 * k)) (nI k) = some (r, uC') ∧ fX12_papers_l82 (nI i) (nI p) (nI c) m uM a (nI k) = some (r, uM') ∧ Rel ts uC' uM' := by
  intro m
  induction m with
  | zero => intro k uC uM a h1 h2; omega
  | succ m ih =>
    intro k uC uM a h1 h2 h q1 q2 q3 hkp
    show ∃ (r : Int32) (uC' : St) (uM' : St), fX11_papers_l71b (fX11_papers_l71 (nI i) (nI c) m) uC (nI i) (nI c) a (nI (p + 5 * k)) (nI k) = some (r, uC') ∧ fX12_papers_l82b (fX12_papers_l82 (nI i) (nI p) (nI c) m) uM (nI i) (nI p) (nI c) a (nI k) = some (r, uM') ∧ Rel ts uC' uM'
    unfold fX11_papers_l71b fX12_papers_l82b
    by_cases hk : k = c
    · subst hk
      rw [if_pos (nI_le (Nat.le_refl k) (by omega)), if_pos (nI_le (Nat.le_refl k) (by omega))]
      exact ⟨_, _, _, rfl, rfl, h⟩
    · rw [if_neg (nI_ge (by omega) (by omega)), if_neg (nI_ge (by omega) (by omega))]
      unfold fX7_holds
      rw [ldI_s hi (by decide), ldI_s hi (by decide), q1, q2, if_neg (nI_pos (by omega)), if_neg (by decide)]
      have e1 : (nI n - 5 < nI (p + 5 * k)) ↔ n < 5 + (p + 5 * k) := sub_lt (m := 5) hn (by decide) (by omega)
      have e2 : (nI p ≤ nI n - 5 * nI k - 5) ↔ p + 5 * k + 5 ≤ n := by
        rw [show (5 : Int32) = nI 5 from rfl, pk_mul, Int32.le_iff_toInt_le, nI_toInt (by omega), Int32.toInt_sub, pk_sub_toInt (by omega) (by omega), nI_toInt (by omega)]
        have : ((n : Int) - ((5 * k : Nat) : Int) - ((5 : Nat) : Int)).bmod (2 ^ 32) = (n : Int) - ((5 * k : Nat) : Int) - ((5 : Nat) : Int) := by
          apply Int.bmod_eq_of_le <;> omega
        rw [this]
        omega
      by_cases hx : p + 5 * k + 5 ≤ n
      · rw [if_neg (fun z => by rw [e1] at z; omega), if_pos (e2.mpr hx)]
        simp only [cl1_s, i10, ↓reduceIte]
        unfold fX11_paperFrom fX7_read
        have f40 : ∀ t : Nat, t < 5 → nI i * 40 + (nI (p + 5 * k) + nI t) = nI (40 * i + (p + 5 * k + t)) := by
          intro t ht
          rw [show (40 : Int32) = nI 40 from rfl, pk_mul, nI_add, nI_add, Nat.mul_comm i 40]
        have g40 : ∀ t : Nat, t < 5 → 40 * nI i + nI p + 5 * nI k + nI t = nI (40 * i + (p + 5 * k + t)) := by
          intro t ht
          rw [show (40 : Int32) = nI 40 from rfl, show (5 : Int32) = nI 5 from rfl, pk_mul, pk_mul, nI_add, nI_add, nI_add]
          congr 1
          omega
        have f0 : nI i * 40 + nI (p + 5 * k) = nI (40 * i + (p + 5 * k + 0)) := by
          rw [← f40 0 (by decide), nI_add]
          rfl
        have g0 : 40 * nI i + nI p + 5 * nI k = nI (40 * i + (p + 5 * k + 0)) := by
          rw [show (40 : Int32) = nI 40 from rfl, show (5 : Int32) = nI 5 from rfl, pk_mul, pk_mul, nI_add, nI_add]
          congr 1
          omega
        have hl : ∀ t : Nat, t < 5 → 40 * i + (p + 5 * k + t) < 160 := fun t ht => by omega
        rw [nmI_s, f0, show (1 : Int32) = nI 1 from rfl, show (2 : Int32) = nI 2 from rfl, show (3 : Int32) = nI 3 from rfl, show (4 : Int32) = nI 4 from rfl, f40 1 (by decide), f40 2 (by decide), f40 3 (by decide), f40 4 (by decide), g40 1 (by decide), g40 2 (by decide), g40 3 (by decide), g40 4 (by decide), g0]
        simp only [ldI_s (hl 0 (by decide)) (show 160 < 2 ^ 31 by decide), ldI_s (hl 1 (by decide)) (show 160 < 2 ^ 31 by decide), ldI_s (hl 2 (by decide)) (show 160 < 2 ^ 31 by decide), ldI_s (hl 3 (by decide)) (show 160 < 2 ^ 31 by decide), ldI_s (hl 4 (by decide)) (show 160 < 2 ^ 31 by decide), cl1_s]
        rw [q3 _ (show p + 5 * k + 0 < n by omega), q3 _ (show p + 5 * k + 1 < n by omega), q3 _ (show p + 5 * k + 2 < n by omega), q3 _ (show p + 5 * k + 3 < n by omega), q3 _ (show p + 5 * k + 4 < n by omega)]
        obtain ⟨r, c', m', w1, w2, w3, w4, w5⟩ := paper_core h (gA uM 60 (40 * i + (p + 5 * k + 0))) (gA uM 60 (40 * i + (p + 5 * k + 1))) (gA uM 60 (40 * i + (p + 5 * k + 2))) (gA uM 60 (40 * i + (p + 5 * k + 3))) (gA uM 60 (40 * i + (p + 5 * k + 4)))
        rw [w1, w2]
        simp only [cl2_s]
        have key : ∀ b : Int32, ∃ (r : Int32) (uC' : St) (uM' : St), fX11_papers_l71 (nI i) (nI c) m c' b (nI (p + 5 * (k + 1))) (nI (k + 1)) = some (r, uC') ∧ fX12_papers_l82 (nI i) (nI p) (nI c) m m' b (nI (k + 1)) = some (r, uM') ∧ Rel ts uC' uM' := by
          intro b
          apply ih (k + 1) c' m' b (by omega) (by omega) w3
          · rw [w4 141 (by decide)]; exact q1
          · rw [w5 59 (by decide)]; exact q2
          · intro j hj
            rw [w4 142 (by decide), w5 60 (by decide)]; exact q3 j hj
          · intro _; omega
        unfold fX11_papers_b108 fX12_papers_b175
        rw [show nI (p + 5 * k) + 5 = nI (p + 5 * (k + 1)) from nI_add (p + 5 * k) 5, nI_1]
        by_cases z : r < 0
        · rw [if_pos z, if_pos z]
          exact key _
        · rw [if_neg z, if_neg z]
          exact key _
      · rw [if_pos (e1.mpr (by omega)), if_neg (fun z => hx (e2.mp z))]
        exact ⟨_, _, _, rfl, rfl, h⟩
theorem T_papers {ts : List Tx} {uC uM : St} (h : Rel ts uC uM) (a0 : Int32) (a1 : Int32) (a2 : Int32) (a3 : Int32) : ∃ (r : Int32) (uC' : St) (uM' : St), fX11_papers uC a0 a1 a2 a3 = some (r, uC') ∧ fX12_papers uM a0 a1 a2 a3 = some (r, uM') ∧ Rel ts uC' uM' := by
  obtain ⟨T, h1, h2, h3, h4, h5, h6, h7, h8, h9, h10, h11⟩ := id h
  unfold fX11_papers fX12_papers
  by_cases ha : InR a0 4
  · rw [sheetC_t ha, sheetM_t ha, show fX12_in a1 0 2 = fX12_in a1 0 (nI 3 - 1) from rfl, show fX12_in a3 0 8 = fX12_in a3 0 (nI 9 - 1) from rfl]
    by_cases hb : InR a1 3
    · rw [sortC_t hb, in_t (by decide) hb]
      by_cases hc : InR a3 9
      · have e8 : a3 ≤ 8 := inr_l (n := 8) (by decide) hc
        rw [in_t (by decide) hc, if_neg (inr_0 (by decide) hc), if_pos e8]
        simp only [cl1_s, i10, ↓reduceIte]
        obtain ⟨i, hi, rfl⟩ := ha
        obtain ⟨k, hk, rfl⟩ := hb
        obtain ⟨c, hc, rfl⟩ := hc
        unfold fX7_isMissing fX12_papers_b52 fX12_papers_b76
        simp only [ldI_s hi (show 4 < 2 ^ 31 by decide)]
        rcases h11 i hi with ⟨q1, q2⟩ | ⟨q1, q2, ⟨l, hl, q3⟩, q4, n, hn, q5, q6⟩
        · rw [if_pos q1, if_pos q2]
          simp only [cl1_s, i10, ↓reduceIte, q2]
          exact ⟨_, _, _, rfl, rfl, h⟩
        · rw [q2, q3, if_neg (nI_nm1 (by omega)), q1]
          simp only [cl1_s, i10, ↓reduceIte]
          by_cases hkl : nI l = nI k
          · rw [if_pos hkl, if_pos hkl]
            by_cases hc0 : c = 0
            · subst hc0
              have e0 : nI 0 ≤ 0 := by decide
              rw [if_pos e0, show NF = 4999 + 1 from rfl]
              show ∃ (r : Int32) (uC' : St) (uM' : St), fX11_papers_l71b (fX11_papers_l71 (nI i) (nI 0) 4999) uC (nI i) (nI 0) 0 a2 0 = some (r, uC') ∧ fX12_papers_l82b (fX12_papers_l82 (nI i) a2 (nI 0) 4999) uM (nI i) a2 (nI 0) 0 0 = some (r, uM') ∧ Rel ts uC' uM'
              unfold fX11_papers_l71b fX12_papers_l82b
              rw [if_pos e0, if_pos e0]
              exact ⟨_, _, _, rfl, rfl, h⟩
            · have e0 : ¬ nI c ≤ 0 := nI_nle (by omega) (by omega)
              rw [if_neg e0]
              by_cases z : a2 < 0
              · rw [if_neg (show ¬ (0 : Int32) ≤ a2 from fun y => i32_lt.mp z y), show NF = 4999 + 1 from rfl]
                refine ⟨-12, uC, uM, ?_, rfl, h⟩
                show fX11_papers_l71b (fX11_papers_l71 (nI i) (nI c) 4999) uC (nI i) (nI c) 0 a2 0 = _
                unfold fX11_papers_l71b fX7_holds
                rw [if_neg e0, if_pos z]
                rfl
              · rw [if_pos (i32_le.mpr z)]
                obtain ⟨p, hp, rfl⟩ := nI_of z
                rcases Nat.lt_or_ge p (2 ^ 30) with hp30 | hp30
                · have := papers_loop hi hn hp30 (show c ≤ 8 by omega) NF 0 uC uM 0 (by omega) (by unfold NF; omega) h (q4.trans q5) q5 q6 (by omega)
                  exact this
                · refine ⟨-12, uC, uM, ?_, ?_, h⟩
                  · rw [show NF = 4999 + 1 from rfl]
                    show fX11_papers_l71b (fX11_papers_l71 (nI i) (nI c) 4999) uC (nI i) (nI c) 0 (nI p) 0 = _
                    unfold fX11_papers_l71b fX7_holds
                    rw [if_neg e0, if_neg z, if_neg (by decide), ldI_s hi (by decide), q4, q5, if_pos]
                    · rfl
                    · rw [show (5 : Int32) = nI 5 from rfl, sub_lt hn (by decide) hp]
                      omega
                  · rw [show NF = 4999 + 1 from rfl]
                    show fX12_papers_l82b (fX12_papers_l82 (nI i) (nI p) (nI c) 4999) uM (nI i) (nI p) (nI c) 0 0 = _
                    unfold fX12_papers_l82b
                    rw [if_neg e0, ldI_s hi (by decide), q5, if_neg]
                    intro y
                    rw [show nI n - 5 * 0 - 5 = nI n - nI 5 from by
                      rw [show (5 * 0 : Int32) = 0 from rfl, Int32.sub_zero]; rfl] at y
                    exact i32_le.mp y ((sub_lt hn (by decide) hp).mpr (by omega))
          · rw [if_neg hkl, if_neg hkl]
            exact ⟨_, _, _, rfl, rfl, h⟩
      · rw [in_f (by decide) hc]
        simp only [cl1_s, i10, ↓reduceIte]
        by_cases z : a3 < 0
        · rw [if_pos z]
          exact ⟨_, _, _, rfl, rfl, h⟩
        · have e8 : ¬ a3 ≤ 8 := nle_of_ninr (n := 8) (by decide) hc z
          rw [if_neg z, if_neg e8]
          exact ⟨_, _, _, rfl, rfl, h⟩
    · rw [sortC_f hb, in_f (by decide) hb]
      exact ⟨_, _, _, rfl, rfl, h⟩
  · rw [sheetC_f ha, sheetM_f ha]
    exact ⟨_, _, _, rfl, rfl, h⟩
