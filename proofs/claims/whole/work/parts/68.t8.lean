def pcn : Nat → Nat → Nat
  | 0, _ => 0
  | k + 1, n => n % 2 + pcn k (n / 2)
def sw5 (y : Nat) : Nat := (y + y / 65536) &&& 63
def sw4 (y : Nat) : Nat := sw5 (y + y / 256)
def sw3 (y : Nat) : Nat := sw4 ((y + y / 16) &&& 252645135)
def sw2 (y : Nat) : Nat := sw3 ((y &&& 858993459) + (y / 4 &&& 858993459))
def sw1 (n : Nat) : Nat := sw2 (n - (n / 2 &&& 1431655765))
def z1 (x : Nat) : Nat := x - (x / 2 &&& 85)
def z2 (x : Nat) : Nat := (z1 x &&& 51) + (z1 x / 4 &&& 51)
theorem zf1 : ∀ x, x < 256 → z1 x < 256 ∧ (x / 2 &&& 85) ≤ x ∧ ((128 + x / 2) &&& 85) = (x / 2 &&& 85) ∧ (x / 2 &&& 5592405) = (x / 2 &&& 85) := by decide +kernel
theorem zf2 : ∀ x, x < 256 → (z1 x &&& 3355443) = (z1 x &&& 51) ∧ (z1 x / 4 &&& 3355443) = (z1 x / 4 &&& 51) ∧ ∀ r, r < 4 → ((64 * r + z1 x / 4) &&& 51) = (z1 x / 4 &&& 51) := by decide +kernel
theorem zf3 : ∀ x, x < 256 → z2 x % 16 < 5 ∧ z2 x < 80 ∧ ((z2 x + z2 x / 16) &&& 986895) = pcn 8 x ∧ ∀ r, r < 5 → ((z2 x + 16 * r + z2 x / 16) &&& 15) = pcn 8 x := by decide +kernel
theorem zf5 : ∀ p, p < 9 → ∀ q, q < 17 → ((256 * p + q) &&& 63) = q := by decide +kernel
theorem and_split (a m : Nat) {x y : Nat} (hx : x < 256) (hy : y < 256) : (256 * a + x) &&& (256 * m + y) = 256 * (a &&& m) + (x &&& y) := by
  have hxy := Nat.and_le_left (n := x) (m := y)
  apply Nat.eq_of_testBit_eq
  intro i
  have e := fun (c d : Nat) (hd : d < 256) => Nat.testBit_two_pow_mul_add (i := 8) c hd i
  rw [Nat.testBit_and]
  rw [show (256 : Nat) = 2 ^ 8 from rfl, e a x hx, e m y hy, e (a &&& m) (x &&& y) (by omega)]
  by_cases q : i < 8
  · rw [if_pos q, if_pos q, if_pos q, Nat.testBit_and]
  · rw [if_neg q, if_neg q, if_neg q, Nat.testBit_and]
theorem pcn_le : ∀ k n, pcn k n ≤ k := by
  intro k
  induction k with
  | zero => intro n; exact Nat.le_refl 0
  | succ k ih =>
    intro n
    show n % 2 + pcn k (n / 2) ≤ k + 1
    have := ih (n / 2)
    omega
theorem pcn_split (k : Nat) : ∀ (j a b : Nat), b < 2 ^ j → pcn (j + k) (2 ^ j * a + b) = pcn j b + pcn k a := by
  intro j
  induction j with
  | zero =>
    intro a b h
    rw [show b = 0 by omega, Nat.zero_add, show 2 ^ 0 * a + 0 = a by omega]
    show pcn k a = 0 + pcn k a
    omega
  | succ j ih =>
    intro a b h
    have hp : 2 ^ (j + 1) = 2 * 2 ^ j := by rw [Nat.pow_succ]; omega
    rw [show j + 1 + k = (j + k) + 1 by omega]
    show (2 ^ (j + 1) * a + b) % 2 + pcn (j + k) ((2 ^ (j + 1) * a + b) / 2) = (b % 2 + pcn j (b / 2)) + pcn k a
    rw [hp, Nat.mul_assoc, show (2 * (2 ^ j * a) + b) / 2 = 2 ^ j * a + b / 2 by omega, ih a (b / 2) (by omega)]
    omega
theorem sw_all : ∀ a, a < 256 → ∀ b, b < 256 → sw1 (256 * a + b) = pcn 16 (256 * a + b) := by
  intro a ha b hb
  obtain ⟨a1, a2, a3, a4⟩ := zf1 a ha
  obtain ⟨b1, b2, b3, b4⟩ := zf1 b hb
  obtain ⟨a5, a6, a7⟩ := zf2 a ha
  obtain ⟨b5, b6, b7⟩ := zf2 b hb
  obtain ⟨a8, a9, a10, a11⟩ := zf3 a ha
  obtain ⟨b8, b9, b10, b11⟩ := zf3 b hb
  have e1 : (256 * a + b) - ((256 * a + b) / 2 &&& 1431655765) = 256 * z1 a + z1 b := by
    rw [show (256 * a + b) / 2 = 256 * (a / 2) + (128 * (a % 2) + b / 2) by omega, show (1431655765 : Nat) = 256 * 5592405 + 85 from rfl, and_split _ _ (by omega) (by decide), a4]
    have : ((128 * (a % 2) + b / 2) &&& 85) = (b / 2 &&& 85) := by
      rcases (show a % 2 = 0 ∨ a % 2 = 1 by omega) with e | e
      · rw [e, Nat.mul_zero, Nat.zero_add]
      · rw [e, Nat.mul_one, b3]
    rw [this]
    unfold z1
    omega
  have e2 : ((256 * z1 a + z1 b) &&& 858993459) + ((256 * z1 a + z1 b) / 4 &&& 858993459) = 256 * z2 a + z2 b := by
    rw [show (256 * z1 a + z1 b) / 4 = 256 * (z1 a / 4) + (64 * (z1 a % 4) + z1 b / 4) by omega, show (858993459 : Nat) = 256 * 3355443 + 51 from rfl, and_split _ _ b1 (by decide), and_split _ _ (by omega) (by decide), a5, a6, b7 _ (by omega)]
    unfold z2
    omega
  have e3 : (((256 * z2 a + z2 b) + (256 * z2 a + z2 b) / 16) &&& 252645135) = 256 * pcn 8 a + pcn 8 b := by
    rw [show (256 * z2 a + z2 b) + (256 * z2 a + z2 b) / 16 = 256 * (z2 a + z2 a / 16) + (z2 b + 16 * (z2 a % 16) + z2 b / 16) by omega, show (252645135 : Nat) = 256 * 986895 + 15 from rfl, and_split _ _ (by omega) (by decide), a10, b11 _ a8]
  have pa := pcn_le 8 a
  have pb := pcn_le 8 b
  unfold sw1 sw2 sw3 sw4 sw5
  rw [e1, e2, e3, show 256 * pcn 8 a + pcn 8 b + (256 * pcn 8 a + pcn 8 b) / 256 = 256 * pcn 8 a + (pcn 8 a + pcn 8 b) by omega, show (256 * pcn 8 a + (pcn 8 a + pcn 8 b)) / 65536 = 0 by omega, Nat.add_zero, zf5 _ (by omega) _ (by omega)]
  have := pcn_split 8 8 a b hb
  rw [show (16 : Nat) = 8 + 8 from rfl, show (256 : Nat) = 2 ^ 8 from rfl, this]
  omega
theorem sw_eq {n : Nat} (h : n < 65536) : sw1 n = pcn 16 n := by
  have := sw_all (n / 256) (by omega) (n % 256) (by omega)
  rw [show 256 * (n / 256) + n % 256 = n by omega] at this
  exact this
theorem ush_n {n : Nat} (h : n < 2 ^ 32) (s : Int32) (k : Nat) (hs : ((s.toUInt32 &&& Int32.toUInt32 31).toBitVec % 32).toNat = k) : jushr (nI n) s = nI (n / 2 ^ k) := pk_ushrN h s k hs
theorem bitCount_n {n : Nat} (h : n < 65536) : fJ6_bitCount_0f7a4 (nI n) = some (nI (pcn 16 n)) := by
  have l1 := Nat.and_le_left (n := n / 2) (m := 1431655765)
  have l2 := Nat.and_le_left (n := (n - (n / 2 &&& 1431655765))) (m := 858993459)
  have l3 := Nat.and_le_left (n := (n - (n / 2 &&& 1431655765)) / 4) (m := 858993459)
  generalize e1 : n - (n / 2 &&& 1431655765) = y1 at l2 l3
  have l4 := Nat.and_le_left (n := (y1 &&& 858993459) + (y1 / 4 &&& 858993459) + ((y1 &&& 858993459) + (y1 / 4 &&& 858993459)) / 16) (m := 252645135)
  unfold fJ6_bitCount_0f7a4
  rw [ush_n (by omega) 1 1 (by decide), show n / 2 ^ 1 = n / 2 from rfl, show (1431655765 : Int32) = nI 1431655765 from rfl, nI_and _ _ (by omega) (by decide), pk_sub (by omega), nmI_s]
  rw [e1]
  rw [ush_n (by omega) 2 2 (by decide), show (858993459 : Int32) = nI 858993459 from rfl, nI_and _ _ (by omega) (by decide), nI_and _ _ (by omega) (by decide), nI_add, nmI_s]
  rw [show y1 / 2 ^ 2 = y1 / 4 from rfl]
  generalize e2 : (y1 &&& 858993459) + (y1 / 4 &&& 858993459) = y2 at l4
  rw [ush_n (by omega) 4 4 (by decide), nI_add, show (252645135 : Int32) = nI 252645135 from rfl, nI_and _ _ (by omega) (by decide), nmI_s]
  rw [show y2 / 2 ^ 4 = y2 / 16 from rfl]
  generalize e3 : (y2 + y2 / 16) &&& 252645135 = y3 at l4
  rw [ush_n (by omega) 8 8 (by decide), nI_add, nmI_s, ush_n (by omega) 16 16 (by decide), nI_add, nmI_s, show (63 : Int32) = nI 63 from rfl, nI_and _ _ (by omega) (by decide)]
  rw [← sw_eq h]
  unfold sw1 sw2 sw3 sw4 sw5
  rw [e1, e2, e3]
theorem pcn_step : ∀ (k n : Nat), 0 < n → n < 2 ^ k → pcn k (n &&& (n - 1)) + 1 = pcn k n := by
  intro k
  induction k with
  | zero => intro n h1 h2; omega
  | succ k ih =>
    intro n h1 h2
    have hp : 2 ^ (k + 1) = 2 * 2 ^ k := by rw [Nat.pow_succ]; omega
    show ((n &&& (n - 1)) % 2 + pcn k ((n &&& (n - 1)) / 2)) + 1 = n % 2 + pcn k (n / 2)
    have hd : (n &&& (n - 1)) / 2 = n / 2 &&& (n - 1) / 2 := Nat.and_div_two
    have hm : (n &&& (n - 1)) % 2 = 0 := by
      have := Nat.and_mod_two_pow (a := n) (b := n - 1) (n := 1)
      rw [show 2 ^ 1 = 2 from rfl] at this
      rw [this]
      rcases (show (n % 2 = 0 ∧ (n - 1) % 2 = 1) ∨ (n % 2 = 1 ∧ (n - 1) % 2 = 0) by omega) with ⟨e1, e2⟩ | ⟨e1, e2⟩
      · rw [e1, e2]; rfl
      · rw [e1, e2]; rfl
    rw [hd, hm]
    rcases (show n % 2 = 0 ∨ n % 2 = 1 by omega) with e | e
    · rw [show (n - 1) / 2 = n / 2 - 1 by omega, e]
      have := ih (n / 2) (by omega) (by omega)
      omega
    · rw [show (n - 1) / 2 = n / 2 by omega, e, Nat.and_self]
      omega
theorem pcn_0 : ∀ k, pcn k 0 = 0 := by
  intro k
  induction k with
  | zero => rfl
  | succ k ih => show 0 % 2 + pcn k (0 / 2) = 0; rw [show 0 / 2 = 0 from rfl, ih]
theorem bitsOf_loop : ∀ (m n c : Nat), n < 65536 → pcn 16 n < m → fX12_bitsOf_l4 m (nI c) (nI n) = some (nI (c + pcn 16 n)) := by
  intro m
  induction m with
  | zero => intro n c h1 h2; omega
  | succ m ih =>
    intro n c h1 h2
    show fX12_bitsOf_l4b (fX12_bitsOf_l4 m) (nI c) (nI n) = _
    unfold fX12_bitsOf_l4b
    by_cases e : n = 0
    · subst e
      have e0 : nI 0 = 0 := rfl
      rw [if_pos e0, pcn_0, Nat.add_zero]
    · have hs := pcn_step 16 n (by omega) h1
      have hl := Nat.and_le_left (n := n) (m := n - 1)
      rw [if_neg (nI_ne0 (by omega) (by omega)), nmI_s, show nI n - 1 = nI (n - 1) from pk_sub (a := n) (b := 1) (by omega), nI_and _ _ (by omega) (by omega), nI_1, ih _ _ (by omega) (by omega)]
      congr 2
      omega
theorem bitsOf_n {n : Nat} (h : n < 65536) : fX12_bitsOf (nI n) = some (nI (pcn 16 n)) := by
  have := bitsOf_loop NF n 0 h (by have := pcn_le 16 n; unfold NF; omega)
  rw [Nat.zero_add] at this
  exact this
theorem bits_eq {x : Int32} (h : InR x (2 ^ 16)) : ∃ n : Nat, n ≤ 16 ∧ fX12_bitsOf x = some (nI n) ∧ fJ6_bitCount_0f7a4 x = some (nI n) := by
  obtain ⟨k, hk, rfl⟩ := h
  exact ⟨_, pcn_le 16 k, bitsOf_n hk, bitCount_n hk⟩
