/-! the start -/
theorem bm32 {z : Int} (h1 : -2147483648 ≤ z) (h2 : z < 2147483648) : z.bmod (2 ^ 32) = z := Int.bmod_eq_of_le (by omega) (by omega)
theorem rem_11 (v : Int32) : (0 ≤ v.toInt → 0 ≤ (v - v / 11 * 11).toInt ∧ (v - v / 11 * 11).toInt < 11) ∧ (v.toInt < 0 → -11 < (v - v / 11 * 11).toInt ∧ (v - v / 11 * 11).toInt ≤ 0) := by
  have e11 : (11 : Int32).toInt = 11 := by decide
  have hlo := Int32.le_toInt v
  have hhi := Int32.toInt_lt v
  have hd : (v / 11).toInt = v.toInt.tdiv 11 ∧ ((0 ≤ v.toInt → v.toInt.tdiv 11 = v.toInt / 11) ∧ (v.toInt < 0 → v.toInt.tdiv 11 = - ((-v.toInt) / 11))) := by
    have hp : 0 ≤ v.toInt → v.toInt.tdiv 11 = v.toInt / 11 := fun h => Int.tdiv_eq_ediv_of_nonneg h
    have hn : v.toInt < 0 → v.toInt.tdiv 11 = - ((-v.toInt) / 11) := fun h => by
      have : (-(-v.toInt)).tdiv 11 = - ((-v.toInt).tdiv 11) := Int.neg_tdiv _ _
      rw [Int.neg_neg] at this
      rw [this, Int.tdiv_eq_ediv_of_nonneg (by omega)]
    refine ⟨?_, hp, hn⟩
    rw [Int32.toInt_div, e11]
    apply bm32
    · rcases Int.lt_or_le v.toInt 0 with h | h
      · rw [hn h]; omega
      · rw [hp h]; omega
    · rcases Int.lt_or_le v.toInt 0 with h | h
      · rw [hn h]; omega
      · rw [hp h]; omega
  have hx : (v - v / 11 * 11).toInt = v.toInt - v.toInt.tdiv 11 * 11 := by
    obtain ⟨h1, h2, h3⟩ := hd
    rw [Int32.toInt_sub, Int32.toInt_mul, h1, e11]
    rcases Int.lt_or_le v.toInt 0 with h | h
    · rw [h3 h, bm32 (z := -(-v.toInt / 11) * 11) (by omega) (by omega), bm32 (by omega) (by omega)]
    · rw [h2 h, bm32 (z := v.toInt / 11 * 11) (by omega) (by omega), bm32 (by omega) (by omega)]
  obtain ⟨h1, h2, h3⟩ := hd
  rw [hx]
  refine ⟨fun h => ?_, fun h => ?_⟩
  · rw [h2 h]; omega
  · rw [h3 h]; omega
theorem xor_sign (v : Int32) : 0 ≤ v ^^^ 11 ↔ 0 ≤ v.toInt := by
  have e : (v ^^^ 11).toBitVec.msb = v.toBitVec.msb := by
    rw [Int32.toBitVec_xor, BitVec.msb_xor, show (11 : Int32).toBitVec.msb = false by decide, Bool.xor_false]
  rw [BitVec.msb_eq_toInt, BitVec.msb_eq_toInt] at e
  have e' : (v ^^^ 11).toInt < 0 ↔ v.toInt < 0 := decide_eq_decide.mp e
  have z : (0 : Int32).toInt = 0 := by decide
  rw [Int32.le_iff_toInt_le, z]
  omega
theorem nI_ofI {x : Int32} (h : 0 ≤ x.toInt) : x = nI x.toInt.toNat := by
  have hhi := Int32.toInt_lt x
  apply Int32.toInt_inj.mp
  rw [nI_toInt (by omega)]
  omega
theorem init_r (v : Int32) : ∃ r : Nat, r < 11 ∧ fJ9_floorMod_7cf53 v 11 = some (nI r) ∧ fX12_init u0M v = fX12_init_b314 u0M (nI r) 2 := by
  obtain ⟨h1, h2⟩ := rem_11 v
  unfold fJ9_floorMod_7cf53 fX12_init
  rw [if_neg (show ¬ (11 : Int32) = 0 by decide), nmI_s, nmI_s]
  have z : (0 : Int32).toInt = 0 := by decide
  have z11 : (11 : Int32).toInt = 11 := by decide
  rcases Int.lt_or_le v.toInt 0 with h | h
  · obtain ⟨k1, k2⟩ := h2 h
    rw [if_neg (fun w => by have := (xor_sign v).mp w; omega)]
    by_cases q : v - v / 11 * 11 = 0
    · rw [q, if_pos rfl, if_pos (by decide)]
      exact ⟨0, by decide, rfl, rfl⟩
    · have q' : ¬ (v - v / 11 * 11).toInt = 0 := fun w => q (Int32.toInt_inj.mp (by rw [w, z]))
      have e : (v - v / 11 * 11 + 11).toInt = (v - v / 11 * 11).toInt + 11 := by
        rw [Int32.toInt_add, z11]
        exact bm32 (by omega) (by omega)
      rw [if_neg q, if_neg (by rw [Int32.le_iff_toInt_le, z]; omega), nI_ofI (x := v - v / 11 * 11 + 11) (by omega)]
      exact ⟨(v - v / 11 * 11 + 11).toInt.toNat, by omega, rfl, rfl⟩
  · obtain ⟨k1, k2⟩ := h1 h
    rw [if_pos ((xor_sign v).mpr h), if_pos (by rw [Int32.le_iff_toInt_le, z]; exact k1), nI_ofI k1]
    exact ⟨(v - v / 11 * 11).toInt.toNat, by omega, rfl, rfl⟩
def spB (x : Int64) (j : Nat) : Int32 := Int64.toInt32 ((x >>> (Int32.toInt64 (56 - (8 * nI j)) &&& 63)) &&& 255)
def spT (f : Nat → Int32) (x : Int64) (w k : Nat) : Nat → Int32 := fun y => if w ≤ y ∧ y < w + k then spB x (y - w) else f y
theorem spell_go {u : St} {w : Nat} {x : Int64} (hw : w + 8 ≤ 960) : ∀ (d k m : Nat), k + d = 8 → d < m → fX12_spell_l3 (nI w) x m (setA u 21 (spT (gA u 21) x w k)) (nI k) = some (setA u 21 (spT (gA u 21) x w 8)) := by
  intro d
  induction d with
  | zero =>
    intro k m h1 h2
    obtain ⟨m, rfl⟩ : ∃ q, m = q + 1 := ⟨m - 1, by omega⟩
    obtain rfl : k = 8 := by omega
    show fX12_spell_l3b (fX12_spell_l3 (nI w) x m) _ (nI w) x (nI 8) = _
    unfold fX12_spell_l3b
    rw [if_pos (by decide)]
  | succ d ih =>
    intro k m h1 h2
    obtain ⟨m, rfl⟩ : ∃ q, m = q + 1 := ⟨m - 1, by omega⟩
    show fX12_spell_l3b (fX12_spell_l3 (nI w) x m) _ (nI w) x (nI k) = _
    unfold fX12_spell_l3b
    rw [if_neg (show ¬ (8 : Int32) ≤ nI k from nI_ge (b := 8) (by omega) (by decide)), nI_add, stI_s (by omega) (by decide), setA_setA, gA_s, nI_1]
    rw [show upd (spT (gA u 21) x w k) (w + k) (Int64.toInt32 ((x >>> (Int32.toInt64 (56 - 8 * nI k) &&& 63)) &&& 255)) = spT (gA u 21) x w (k + 1) from ?_]
    · exact ih (k + 1) m (by omega) (by omega)
    · funext y
      unfold spT upd
      by_cases e : y = w + k
      · subst e
        rw [if_pos rfl, if_pos (by omega), show w + k - w = k by omega]
        rfl
      · rw [if_neg e]
        dsimp only
        by_cases e2 : w ≤ y ∧ y < w + k
        · rw [if_pos e2, if_pos (by omega)]
        · rw [if_neg e2, if_neg (by omega)]
theorem spell_eq {u : St} {w : Nat} {x : Int64} (hw : w + 8 ≤ 960) : fX12_spell u (nI w) x = some (setA u 21 (spT (gA u 21) x w 8)) := by
  have e0 : setA u 21 (spT (gA u 21) x w 0) = u := by
    have : spT (gA u 21) x w 0 = gA u 21 := by
      funext y
      unfold spT
      rw [if_neg (by omega)]
    rw [this]
    exact setA_self u 21
  have := spell_go (u := u) (x := x) hw 8 0 NF (by omega) (by unfold NF; omega)
  rw [e0] at this
  exact this
def bt0 (j : Nat) : Nat := [104, 111, 108, 100, 32, 111, 112, 101, 110, 32, 59, 32, 108, 105, 109, 105, 116, 32, 53, 32, 59, 32, 32, 32].getD j 0
def G0 : Nat → Int32 := spT (spT (spT (fun _ => 0) 7525352679656091749 0 8) 7935407553870654825 8 8) 8367746520201568288 16 8
theorem G0_ok : ∀ j, j < 24 → bt0 j < 256 ∧ G0 j = nI (bt0 j) := by decide +kernel
def r0M (r : Nat) : St := setZ (setZ (setZ (setA (setA (setZ u0M 1 (2 + nI r)) 21 G0) 22 (upd (fun _ => 0) 0 24)) 23 1) 2 31) 51 3
theorem init_st (r : Nat) : fX12_init_b314 u0M (nI r) 2 = some (r0M r) := by
  unfold fX12_init_b314
  have s0 : ∀ u x, fX12_spell u 0 x = some (setA u 21 (spT (gA u 21) x 0 8)) := fun u x => spell_eq (w := 0) (by decide)
  have s8 : ∀ u x, fX12_spell u 8 x = some (setA u 21 (spT (gA u 21) x 8 8)) := fun u x => spell_eq (w := 8) (by decide)
  have s16 : ∀ u x, fX12_spell u 16 x = some (setA u 21 (spT (gA u 21) x 16 8)) := fun u x => spell_eq (w := 16) (by decide)
  rw [nmS_s, s0, cl1_s, s8, cl1_s, s16, cl1_s, setA_setA, setA_setA, gA_s, gA_s, show (0 : Int32) = nI 0 from rfl, stI_s (by decide) (by decide), nmS_s, nmS_s, nmS_s]
  rfl
def c0T : St := (asg 0 [(100, 24)], (fun _ => 0), asg (fun _ => 0) [(102, fun i => clI (nI (bt0 i)))], fun _ _ => 0)
def chk0 : Bool := match fX5_readText c0T with
  | some (f, c) => decide (f = -1) && decide (gZ c 101 = 1) && decide (gZ c 104 = 2) && decide (gA c 103 0 = -6) && decide (gA c 103 1 = 5)
  | none => false
theorem chk0_ok : chk0 = true := by decide +kernel
theorem T_init (v : Int32) : ∃ (r0 : Int32) (res : St), fJ9_floorMod_7cf53 v 11 = some r0 ∧ fX12_init u0M v = some res ∧ Rel ts0 (u0C (2 + r0)) res := by
  obtain ⟨r, hr, e1, e2⟩ := init_r v
  refine ⟨nI r, r0M r, e1, e2.trans (init_st r), ?_⟩
  have et : (2 : Int32) + nI r = nI (2 + r) := by rw [show (2 : Int32) = nI 2 from rfl, nI_add]
  have hT : TxOK (gA (r0M r) 21) (gA (r0M r) 22 0) 0 (1, 2, upd (upd (fun _ => 0) 0 (-6)) 1 5) := by
    refine ⟨1, 2, rfl, rfl, by decide, by decide, fun u a b p env h1 h2 h3 => ?_⟩
    have hc : TXc c0T bt0 24 := ⟨by decide, rfl, fun i hi => ⟨(G0_ok i hi).1, rfl⟩⟩
    have h2' : gA u 22 0 = nI 24 := h2
    obtain ⟨f, c1, r1, r2, r3⟩ := read_ok (u := u) (i := 0) hc (by decide) h2' (fun j hj => ⟨(G0_ok j hj).1, (h1 j (by omega)).trans ((congrArg G0 (show 160 * 0 + j = j by omega)).trans (G0_ok j hj).2)⟩) h3
    have hk := chk0_ok
    unfold chk0 at hk
    rw [r1] at hk
    simp only [Bool.and_eq_true, decide_eq_true_eq] at hk
    obtain ⟨⟨⟨⟨k1, k2⟩, k3⟩, k4⟩, k5⟩ := hk
    rcases r3 with ⟨_, sp, N, z0, z1, zle, z2, ⟨v1, v2, v3, _⟩, ⟨v4, v5, v6, _⟩⟩ | ⟨s', s1, s2, _⟩
    · obtain rfl : sp = 1 := nI_inj (by omega) (by decide) (z0.symm.trans k2)
      obtain rfl : N = 2 := nI_inj (by omega) (by decide) (z1.symm.trans k3)
      have hg : ∀ j, j < 2 → upd (upd (fun _ => 0) 0 (-6)) 1 5 j = gA c1 103 j := by
        intro j hj
        rcases (show j = 0 ∨ j = 1 by omega) with rfl | rfl
        · rw [k4]; rfl
        · rw [k5]; rfl
      refine ⟨⟨v1, ?_, v3⟩, ⟨v4, ?_, v6⟩⟩
      · show _ = some (top0 (evN env (upd (upd (fun _ => 0) 0 (-6)) 1 5) 0 1 []), v1)
        rw [evN_congr (f := upd (upd (fun _ => 0) 0 (-6)) 1 5) (g := gA c1 103) 1 0 [] (fun j _ hj => hg j (by omega))]
        exact v2
      · show _ = some (top0 (evN env (upd (upd (fun _ => 0) 0 (-6)) 1 5) 1 1 []), v4)
        rw [evN_congr (f := upd (upd (fun _ => 0) 0 (-6)) 1 5) (g := gA c1 103) 1 1 [] (fun j _ hj => hg j (by omega))]
        exact v5
    · rw [s1] at k1
      exact absurd k1 (by
        intro z
        have := congrArg Int32.toInt z
        rw [nI_toInt (by omega)] at this
        have e : (-1 : Int32).toInt = -1 := by decide
        rw [e] at this
        omega)
  have h1 : gZ (r0M r) 1 = nI (2 + r) := et
  refine ⟨2 + r, ⟨by omega, by omega, h1, et, et, ?_, et, et⟩, ⟨0, by decide, rfl, rfl, fun p a b _ _ _ => rfl⟩, ⟨rfl, ⟨31, by decide, rfl⟩, rfl⟩, ⟨0, by decide, rfl, rfl, fun i hi => by omega, fun i hi => by omega, ⟨0, by decide, rfl⟩, rfl⟩, ⟨0, by decide, rfl, rfl, fun i hi => by omega⟩, ⟨by decide, by decide, rfl, rfl, fun i tx hi => ?_⟩, ⟨0, by decide, rfl, rfl, fun i hi => by omega⟩, ⟨0, by decide, rfl, rfl, fun i hi => by omega⟩, ⟨rfl, ⟨0, by decide, rfl⟩, 0, by decide, rfl, rfl, fun i hi => by omega⟩, ⟨rfl, ⟨3, by decide, rfl⟩, 0, by decide, rfl, rfl, fun i hi => by omega⟩, fun i hi => Or.inl ⟨?_, rfl⟩⟩
  · show (2 : Int32) + nI r - 1 = _
    rw [et, show (1 : Int32) = nI 1 from rfl, pk_sub (by omega)]
  · have hi0 : i = 0 := by
      rcases Nat.lt_or_ge i 1 with q | q
      · omega
      · rw [List.getElem?_eq_none (show ts0.length ≤ i from q)] at hi; exact absurd hi (by simp)
    subst hi0
    obtain rfl : (1, 2, upd (upd (fun _ => 0) 0 (-6)) 1 5) = tx := Option.some.inj hi
    exact hT
  · rcases (show i = 0 ∨ i = 1 ∨ i = 2 ∨ i = 3 by omega) with rfl | rfl | rfl | rfl <;> rfl
