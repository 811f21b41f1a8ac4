/-! giving back, as numbers -/
def ruN (c1 : Nat → Nat → Nat → Bool) (s0 : Nat → Nat) : Nat → Nat → Nat
  | 0, l => s0 l
  | p + 1, b => sm (fun a => if c1 p a b then ruN c1 s0 p a else 0) 5
def trN (c2 : Nat → Nat → Nat → Bool) (bw ru : Nat → Nat → Nat) (p a b : Nat) : Nat := if c2 p a b then ru p a * bw (p + 1) b else 0
def bkN (c2 : Nat → Nat → Nat → Bool) (bw ru : Nat → Nat → Nat) (p a : Nat) : Nat := sm (fun q => sm (fun b => trN c2 bw ru q a b) 5) p
def puN (c1 : Nat → Nat → Nat → Bool) (ru : Nat → Nat → Nat) (p a0 b0 b : Nat) : Nat := sm (fun a => if c1 p a b then ru p a else 0) a0 + (if b < b0 then (if c1 p a0 b then ru p a0 else 0) else 0)
def pbN (c2 : Nat → Nat → Nat → Bool) (bw ru : Nat → Nat → Nat) (p a0 b0 a : Nat) : Nat := bkN c2 bw ru p a + (if a < a0 then sm (fun b => trN c2 bw ru p a b) 5 else if a = a0 then sm (fun b => trN c2 bw ru p a b) b0 else 0)
def IV (c1 c2 : Nat → Nat → Nat → Bool) (bw ru : Nat → Nat → Nat) (bk un : Nat → Int64) (p a0 b0 : Nat) : Prop := (∀ a, a < 5 → bk a = lN (pbN c2 bw ru p a0 b0 a)) ∧ (∀ q c, c < 5 → q ≤ p → un (5 * q + c) = lN (ru q c)) ∧ ∀ c, c < 5 → un (5 * (p + 1) + c) = lN (puN c1 ru p a0 b0 c)
def IO (c2 : Nat → Nat → Nat → Bool) (bw ru : Nat → Nat → Nat) (bk un : Nat → Int64) (p : Nat) : Prop := (∀ a, a < 5 → bk a = lN (bkN c2 bw ru p a)) ∧ ∀ q c, c < 5 → q ≤ p → un (5 * q + c) = lN (ru q c)
section Give
variable {c1 c2 : Nat → Nat → Nat → Bool} {bw ru : Nat → Nat → Nat} {bk un : Nat → Int64} {p a0 b0 : Nat}
theorem pu_s (c1 : Nat → Nat → Nat → Bool) (ru : Nat → Nat → Nat) (p a0 b0 b : Nat) : puN c1 ru p a0 (b0 + 1) b = puN c1 ru p a0 b0 b + (if b = b0 then (if c1 p a0 b0 then ru p a0 else 0) else 0) := by
  unfold puN
  by_cases h : b = b0
  · subst h
    rw [if_pos (show b < b + 1 by omega), if_neg (show ¬ b < b by omega), if_pos rfl, Nat.add_zero]
  · rw [if_neg h]
    by_cases h2 : b < b0
    · rw [if_pos (show b < b0 + 1 by omega), if_pos h2, Nat.add_zero]
    · rw [if_neg (show ¬ b < b0 + 1 by omega), if_neg h2, Nat.add_zero]
theorem pb_s (c2 : Nat → Nat → Nat → Bool) (bw ru : Nat → Nat → Nat) (p a0 b0 a : Nat) : pbN c2 bw ru p a0 (b0 + 1) a = pbN c2 bw ru p a0 b0 a + (if a = a0 then trN c2 bw ru p a0 b0 else 0) := by
  unfold pbN
  by_cases h : a = a0
  · subst h
    rw [if_neg (show ¬ a < a by omega), if_neg (show ¬ a < a by omega), if_pos rfl, if_pos rfl, if_pos rfl]
    show _ + (sm (fun b => trN c2 bw ru p a b) b0 + trN c2 bw ru p a b0) = _
    omega
  · rw [if_neg h, if_neg h, if_neg h]
    rfl
theorem iv_sk (h : IV c1 c2 bw ru bk un p a0 b0) (h1 : c1 p a0 b0 = false) (h2 : c2 p a0 b0 = false) : IV c1 c2 bw ru bk un p a0 (b0 + 1) := by
  refine ⟨fun a ha => ?_, h.2.1, fun c hc => ?_⟩
  · rw [h.1 a ha, pb_s]
    unfold trN
    rw [h2]
    simp
  · rw [h.2.2 c hc, pu_s, h1]
    simp
theorem iv_un (h : IV c1 c2 bw ru bk un p a0 b0) (hb : b0 < 5) (h1 : c1 p a0 b0 = true) (h2 : c2 p a0 b0 = false) {x : Int64} (hx : x = lN (puN c1 ru p a0 b0 b0 + ru p a0)) : IV c1 c2 bw ru bk (vp_updL un (5 * (p + 1) + b0) x) p a0 (b0 + 1) := by
  refine ⟨fun a ha => ?_, fun q c hc hq => ?_, fun c hc => ?_⟩
  · rw [h.1 a ha, pb_s]
    unfold trN
    rw [h2]
    simp
  · rw [updL_n _ _ (by omega)]
    exact h.2.1 q c hc hq
  · rw [pu_s]
    by_cases e : c = b0
    · subst e
      rw [updL_s, hx, if_pos rfl, h1]
      rfl
    · rw [updL_n _ _ (by omega), h.2.2 c hc, if_neg e, Nat.add_zero]
theorem iv_bk (h : IV c1 c2 bw ru bk un p a0 b0) (h1 : c1 p a0 b0 = false) (h2 : c2 p a0 b0 = true) {x : Int64} (hx : x = lN (pbN c2 bw ru p a0 b0 a0 + ru p a0 * bw (p + 1) b0)) : IV c1 c2 bw ru (vp_updL bk a0 x) un p a0 (b0 + 1) := by
  refine ⟨fun a ha => ?_, h.2.1, fun c hc => ?_⟩
  · rw [pb_s]
    by_cases e : a = a0
    · subst e
      rw [updL_s, hx, if_pos rfl]
      unfold trN
      rw [h2]
      rfl
    · rw [updL_n _ _ e, h.1 a ha, if_neg e, Nat.add_zero]
  · rw [h.2.2 c hc, pu_s, h1]
    simp
theorem iv_n (h : IV c1 c2 bw ru bk un p a0 5) : IV c1 c2 bw ru bk un p (a0 + 1) 0 := by
  refine ⟨fun a ha => ?_, h.2.1, fun c hc => ?_⟩
  · rw [h.1 a ha]
    unfold pbN
    by_cases e : a = a0
    · subst e
      rw [if_neg (show ¬ a < a by omega), if_pos rfl, if_pos (show a < a + 1 by omega)]
    · rw [if_neg e]
      by_cases e2 : a < a0
      · rw [if_pos e2, if_pos (show a < a0 + 1 by omega)]
      · rw [if_neg e2, if_neg (show ¬ a < a0 + 1 by omega)]
        by_cases e3 : a = a0 + 1
        · rw [if_pos e3]; rfl
        · rw [if_neg e3]
  · rw [h.2.2 c hc]
    unfold puN
    rw [if_pos hc, if_neg (show ¬ c < 0 by omega), Nat.add_zero]
    rfl
theorem iv_z (h : IV c1 c2 bw ru bk un p a0 0) (hz : ru p a0 = 0) : IV c1 c2 bw ru bk un p (a0 + 1) 0 := by
  have h5 : ∀ b0, IV c1 c2 bw ru bk un p a0 b0 → IV c1 c2 bw ru bk un p a0 (b0 + 1) := by
    intro b0 h
    refine ⟨fun a ha => ?_, h.2.1, fun c hc => ?_⟩
    · rw [h.1 a ha, pb_s]
      unfold trN
      rw [hz, Nat.zero_mul]
      simp
    · rw [h.2.2 c hc, pu_s, hz]
      simp
  exact iv_n (h5 4 (h5 3 (h5 2 (h5 1 (h5 0 h)))))
theorem iv_i (h : IO c2 bw ru bk un p) (hz : ∀ c, c < 5 → un (5 * (p + 1) + c) = 0) : IV c1 c2 bw ru bk un p 0 0 := by
  refine ⟨fun a ha => ?_, h.2, fun c hc => ?_⟩
  · rw [h.1 a ha]
    unfold pbN
    rw [if_neg (show ¬ a < 0 by omega)]
    by_cases e : a = 0
    · rw [if_pos e]; rfl
    · rw [if_neg e]; rfl
  · rw [hz c hc]
    unfold puN
    rw [if_neg (show ¬ c < 0 by omega)]
    rfl
theorem iv_o {s0 : Nat → Nat} (h : IV c1 c2 bw (ruN c1 s0) bk un p 5 0) : IO c2 bw (ruN c1 s0) bk un (p + 1) := by
  refine ⟨fun a ha => ?_, fun q c hc hq => ?_⟩
  · rw [h.1 a ha]
    unfold pbN
    rw [if_pos ha]
    rfl
  · by_cases e : q = p + 1
    · subst e
      rw [h.2.2 c hc]
      unfold puN
      rw [if_neg (show ¬ c < 0 by omega), Nat.add_zero]
      rfl
    · exact h.2.1 q c hc (by omega)
end Give
/-- the conditions of the class, of the reference -/
def c1C (al : Nat → Nat → Bool) (go W : Nat → Nat → Nat → Bool) (T : Nat) : Nat → Nat → Nat → Bool := fun p a b => decide (¬ bwN al go T (p + 1) b = 0) && (go p a b && !(W p a b))
def c2C (al : Nat → Nat → Bool) (go W : Nat → Nat → Nat → Bool) (T : Nat) : Nat → Nat → Nat → Bool := fun p a b => decide (¬ bwN al go T (p + 1) b = 0) && (go p a b && W p a b)
def c1M (A : Nat → Nat → Bool) (go W : Nat → Nat → Nat → Bool) : Nat → Nat → Nat → Bool := fun p a b => A (p + 1) b && (go p a b && !(W p a b))
def c2M (A : Nat → Nat → Bool) (go W : Nat → Nat → Nat → Bool) : Nat → Nat → Nat → Bool := fun p a b => A (p + 1) b && (go p a b && W p a b)
theorem ru_pre {al : Nat → Nat → Bool} {so : Nat → Bool} {go W : Nat → Nat → Nat → Bool} {T : Nat} {s0 : Nat → Nat} : ∀ p, p < T → (∀ a, a < 5 → ¬ bwN al go T p a = 0 → ruN (c1C al go W T) s0 p a = ruN (c1M (alS al so) go W) s0 p a) ∧ (p + 1 < T → ∀ a b, a < 5 → b < 5 → go p a b = true → ¬ bwN al go T (p + 1) b = 0 → ruN (c1C al go W T) s0 p a = ruN (c1M (alS al so) go W) s0 p a) := by
  intro p
  induction p with
  | zero => exact fun _ => ⟨fun _ _ _ => rfl, fun _ _ _ _ _ _ _ => rfl⟩
  | succ p ih =>
    intro hp
    obtain ⟨ih1, ih2⟩ := ih (by omega)
    have k1 : ∀ b, b < 5 → ¬ bwN al go T (p + 1) b = 0 → ruN (c1C al go W T) s0 (p + 1) b = ruN (c1M (alS al so) go W) s0 (p + 1) b := by
      intro b hb hne
      show sm _ 5 = sm _ 5
      apply sm_congr 5
      intro a ha
      have e1 : c1C al go W T p a b = (go p a b && !(W p a b)) := by
        unfold c1C
        rw [decide_eq_true hne]; simp
      have e2 : c1M (alS al so) go W p a b = (go p a b && !(W p a b)) := by
        unfold c1M
        rw [alS_p (by omega), bw_al hp hne]; simp
      rw [e1, e2]
      cases hg : go p a b
      · rfl
      · rw [ih2 hp a b ha hb hg hne]
    refine ⟨k1, fun hp2 a b ha hb hg hne => ?_⟩
    by_cases z : bwN al go T (p + 1) a = 0
    · have ha2 : al (p + 1) a = false := by
        cases hh : al (p + 1) a
        · rfl
        · rw [bwN_S _ _ hp2, hh] at z
          have z3 : sm (fun b => if go (p + 1) a b then bwN al go T (p + 1 + 1) b else 0) 5 = 0 := z
          have := (sm_0 5).mp z3 b hb
          rw [hg] at this
          exact absurd this hne
      have f1 : ruN (c1C al go W T) s0 (p + 1) a = 0 := (sm_0 5).mpr (fun i _ => by
        unfold c1C
        rw [decide_eq_false (fun y => y z)]
        rfl)
      have f2 : ruN (c1M (alS al so) go W) s0 (p + 1) a = 0 := (sm_0 5).mpr (fun i _ => by
        unfold c1M
        rw [alS_p (by omega), ha2]
        rfl)
      rw [f1, f2]
    · exact k1 a ha z
theorem ru_end {al : Nat → Nat → Bool} {so : Nat → Bool} {go W : Nat → Nat → Nat → Bool} {T : Nat} {s0 : Nat → Nat} (h2 : 2 ≤ T) {l : Nat} (hl : l < 5) : ruN (c1C al go W T) s0 (T - 1) l = ruN (c1M (alS al so) go W) s0 (T - 1) l := by
  by_cases z : bwN al go T (T - 1) l = 0
  · obtain ⟨k, hk⟩ : ∃ k, T - 1 = k + 1 := ⟨T - 2, by omega⟩
    have ha2 : al (T - 1) l = false := by
      cases hh : al (T - 1) l
      · rfl
      · rw [bwN_T _ _ (by omega), hh] at z
        exact absurd z (by decide)
    rw [hk] at z ha2 ⊢
    have f1 : ruN (c1C al go W T) s0 (k + 1) l = 0 := (sm_0 5).mpr (fun i _ => by
      unfold c1C
      rw [decide_eq_false (fun y => y z)]
      rfl)
    have f2 : ruN (c1M (alS al so) go W) s0 (k + 1) l = 0 := (sm_0 5).mpr (fun i _ => by
      unfold c1M
      rw [alS_p (by omega), ha2]
      rfl)
    rw [f1, f2]
  · exact (ru_pre (T - 1) (by omega)).1 l hl z
theorem bk_eq {al : Nat → Nat → Bool} {so : Nat → Bool} {go W : Nat → Nat → Nat → Bool} {T : Nat} {s0 : Nat → Nat} {a : Nat} (ha : a < 5) : ∀ p, p < T → bkN (c2C al go W T) (bwN al go T) (ruN (c1C al go W T) s0) p a = bkN (c2M (alS al so) go W) (bwN al go T) (ruN (c1M (alS al so) go W) s0) p a := by
  intro p hp
  unfold bkN
  apply sm_congr p
  intro q hq
  apply sm_congr 5
  intro b hb
  unfold trN
  by_cases z : bwN al go T (q + 1) b = 0
  · rw [z, Nat.mul_zero, Nat.mul_zero]
    cases c2C al go W T q a b <;> cases c2M (alS al so) go W q a b <;> rfl
  · have e1 : c2C al go W T q a b = (go q a b && W q a b) := by
      unfold c2C
      rw [decide_eq_true z]; simp
    have e2 : c2M (alS al so) go W q a b = (go q a b && W q a b) := by
      unfold c2M
      rw [alS_p (by omega), bw_al (by omega) z]; simp
    rw [e1, e2]
    cases hg : go q a b
    · rfl
    · rw [(ru_pre q (by omega)).2 (by omega) a b ha hb hg z]
/-- what goes in comes out -/
theorem flow {A al : Nat → Nat → Bool} {go W : Nat → Nat → Nat → Bool} {T : Nat} (hA : ∀ p l, A p l = true → al p l = true) (hB : ∀ p l, l < 5 → al (p + 1) l = true → A (p + 1) l = true) : ∀ p, p < T → sm (fun l => fwN A (fun p a b => go p a b && !(W p a b)) p l * bwN al go T p l) 5 + sm (fun a => bkN (c2M A go W) (bwN al go T) (fwN A (fun p a b => go p a b && !(W p a b))) p a) 5 = sm (fun l => fwN A (fun p a b => go p a b && !(W p a b)) 0 l * bwN al go T 0 l) 5 := by
  intro p
  induction p with
  | zero =>
    intro _
    have : sm (fun a => bkN (c2M A go W) (bwN al go T) (fwN A (fun p a b => go p a b && !(W p a b))) 0 a) 5 = 0 := (sm_0 5).mpr (fun _ _ => rfl)
    omega
  | succ p ih =>
    intro hp
    rw [← ih (by omega)]
    generalize hF : fwN A (fun p a b => go p a b && !(W p a b)) = F
    have hFs : ∀ b, F (p + 1) b = if A (p + 1) b then sm (fun a => if go p a b && !(W p a b) then F p a else 0) 5 else 0 := by
      intro b; rw [← hF]; rfl
    have hbk : ∀ a, bkN (c2M A go W) (bwN al go T) F (p + 1) a = bkN (c2M A go W) (bwN al go T) F p a + sm (fun b => trN (c2M A go W) (bwN al go T) F p a b) 5 := fun _ => rfl
    have hs1 : sm (fun a => bkN (c2M A go W) (bwN al go T) F (p + 1) a) 5 = sm (fun a => bkN (c2M A go W) (bwN al go T) F p a) 5 + sm (fun a => sm (fun b => trN (c2M A go W) (bwN al go T) F p a b) 5) 5 := by
      rw [← sm_add]
      exact sm_congr 5 (fun a _ => hbk a)
    have hs2 : sm (fun b => F (p + 1) b * bwN al go T (p + 1) b) 5 = sm (fun a => sm (fun b => if A (p + 1) b && (go p a b && !(W p a b)) then F p a * bwN al go T (p + 1) b else 0) 5) 5 := by
      rw [sm_comm]
      apply sm_congr 5
      intro b hb
      rw [hFs]
      cases hh : A (p + 1) b
      · rw [if_neg (show ¬ (false = true) by decide), Nat.zero_mul]
        exact ((sm_0 5).mpr (fun i _ => rfl)).symm
      · rw [if_pos rfl, ← sm_mul]
        apply sm_congr 5
        intro a ha
        rw [ite_mul]
        rfl
    have hs3 : sm (fun a => F p a * bwN al go T p a) 5 = sm (fun a => sm (fun b => trN (c2M A go W) (bwN al go T) F p a b) 5) 5 + sm (fun a => sm (fun b => if A (p + 1) b && (go p a b && !(W p a b)) then F p a * bwN al go T (p + 1) b else 0) 5) 5 := by
      rw [← sm_add]
      apply sm_congr 5
      intro a ha
      rw [← sm_add]
      by_cases z : F p a = 0
      · rw [z, Nat.zero_mul, (sm_0 5).mpr]
        intro b _
        unfold trN
        rw [z, Nat.zero_mul]
        cases c2M A go W p a b <;> cases (A (p + 1) b && (go p a b && !(W p a b))) <;> rfl
      · have hAp : A p a = true := by
          rw [← hF] at z
          exact fw_A z
        rw [bwN_S _ _ hp, hA p a hAp, if_pos rfl, ← sm_mull]
        apply sm_congr 5
        intro b hb
        unfold trN c2M
        rw [mul_ite]
        cases hg : go p a b
        · cases A (p + 1) b <;> rfl
        · cases hh : A (p + 1) b
          · have : bwN al go T (p + 1) b = 0 := by
              by_cases y : bwN al go T (p + 1) b = 0
              · exact y
              · have := hB p b hb (bw_al hp y)
                rw [hh] at this
                exact absurd this (by decide)
            rw [this, Nat.mul_zero]
            rfl
          · cases hw : W p a b
            · show F p a * bwN al go T (p + 1) b = 0 + F p a * bwN al go T (p + 1) b
              omega
            · rfl
    omega
