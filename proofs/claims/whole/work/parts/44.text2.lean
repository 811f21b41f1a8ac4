def TextR (ts : List Tx) (u : St) (r : Int32) (ts' : List Tx) (u' : St) : Prop := (gZ u 61 = 6 ∧ r = -4 ∧ ts' = ts ∧ u' = u) ∨ (¬ gZ u 61 = 6 ∧ ∃ (f : Int32) (u1 : St), fX5_readText u = some (f, u1) ∧ ((¬ f = -1 ∧ r = -100 - f ∧ ts' = ts ∧ u' = setZ u1 100 0) ∨ (f = -1 ∧ ∃ (N : Nat) (g : Nat → Int32), gZ u1 104 = nI N ∧ N < 160 ∧ (∀ j, j < N → g j = gA u1 103 j) ∧ r = nI ts.length ∧ ts' = ts ++ [(gZ u1 101, N, g)] ∧ u' = setZ (setZ u1 100 0) 61 (nI ts.length + 1))))
theorem ctX11_text {V : Vx} {q g : Nat → Nat} {ts : List Tx} {u : St} (hE : EnvC V g) (hc : gZ u 61 = nI ts.length) (hl : ts.length ≤ 6) (hr : ¬ gZ u 61 = 6 → ∃ (f : Int32) (u1 : St), fX5_readText u = some (f, u1) ∧ gZ u1 61 = gZ u 61 ∧ (f = -1 → ∃ N : Nat, gZ u1 104 = nI N ∧ N < 160)) : Ct V yX11_text (.code yX11_text cX11_text 2 (some .int)) rmText 2 162 [.ref (q 11)] (wC V q ts u) (fun rv w' => ∃ (r : Int32) (q' : Nat → Nat) (ts' : List Tx) (u' : St), rv = some (.int r) ∧ (∀ i, i < 1000 → q' i = q i) ∧ w' = wC V q' ts' u' ∧ TextR ts u r ts' u') := by
  refine Ct_of (by decide) (Nat.le_of_ble_eq_true rfl) rfl (fun X hX hT hN hF => ?_)
  refine a_aload_n hX dX11_text_0 rfl 0 rfl rfl ?_
  refine gX11_5 hX F_X11_52 dX11_text_1 rfl ?_
  refine gX3_1 hX F_X11_201 dX11_text_4 rfl ?_
  refine a_bipush (v := 6) hX dX11_text_7 (by decide) rfl ?_
  by_cases h6 : gZ u 61 = 6
  · refine a_icmp_ne (tgt := 15) (ft := none) (ff := some ()) (r := some ()) hX dX11_text_9 rfl rfl (if_pos h6) (fun h => by cases h) (fun _ => ?_)
    refine a_bipush (v := -4) hX dX11_text_12 (by decide) rfl ?_
    refine a_wid (k2 := 2) (n2 := 162) (by decide) (by decide) ?_
    exact a_iret hX hT hF ⟨-4, q, ts, u, rfl, fun _ _ => rfl, rfl, Or.inl ⟨h6, rfl, rfl, rfl⟩⟩ dX11_text_14
  · obtain ⟨f, u1, hrd, h61, hok⟩ := hr h6
    refine a_icmp_ne (tgt := 15) (ft := some ()) (ff := none) (r := some ()) hX dX11_text_9 rfl rfl (if_neg h6) (fun _ => ?_) (fun h => by cases h)
    refine a_aload_n hX dX11_text_15 rfl 0 rfl rfl ?_
    refine gX11_4 hX F_X11_45 dX11_text_16 rfl ?_
    refine a_cVsi (q0 := 4) (rest := []) hX hE.1 (ctX5_readText (q := q) hE hrd) K_X11_204 ⟨rfl, rfl⟩ ⟨rfl, rfl, by decide, by decide⟩ ⟨Nat.zero_le _, Nat.zero_le _⟩ (Nat.le_of_ble_eq_true rfl) dX11_text_19 rfl rfl ?_
    refine a_istore_n (lv' := [(1, .int f), (0, .ref (q 11))]) hX dX11_text_22 rfl (by decide) rfl rfl ?_
    refine a_aload_n hX dX11_text_23 rfl 1 rfl rfl ?_
    refine gX11_4 hX F_X11_45 dX11_text_24 rfl ?_
    refine a_iconst (v := 0) hX dX11_text_27 (by decide) rfl ?_
    refine pX5_0 (kf := fun u2 => some u2) (r := some (setZ u1 100 0)) hX F_X11_196 dX11_text_28 rfl rfl (fun u2 hu2 => ?_)
    have hu2 : u2 = setZ u1 100 0 := Option.some.inj hu2
    refine a_iload_n hX dX11_text_31 rfl 0 rfl rfl ?_
    refine a_iconst (v := -1) hX dX11_text_32 (by decide) rfl ?_
    by_cases hf1 : f = -1
    · refine a_icmp_eq (tgt := 41) (ft := some ()) (ff := none) (r := some ()) hX dX11_text_33 rfl rfl (if_pos hf1) (fun _ => ?_) (fun h => by cases h)
      obtain ⟨N, hN, hN2⟩ := hok hf1
      have e104 : gZ u2 104 = nI N := by rw [hu2]; exact hN
      have e61 : gZ u2 61 = nI ts.length := by rw [hu2, ← hc, ← h61]; rfl
      have hts : ts.length < 6 := by
        rcases Nat.lt_or_eq_of_le hl with h | h
        · exact h
        · exact absurd (by rw [hc, h]; rfl) h6
      refine a_aload_n hX dX11_text_41 rfl 1 rfl rfl ?_
      refine gX11_5 hX F_X11_52 dX11_text_42 rfl ?_
      refine a_aload_n hX dX11_text_45 rfl 1 rfl rfl ?_
      refine gX11_4 hX F_X11_45 dX11_text_46 rfl ?_
      refine a_callV (q0 := 4) (As := []) (rest := [.ref (q 3)]) hX hE.1 Sub.same (ctCodeRead (N := N) hE (by rw [e104]; exact nI_pos (by omega)) (by rw [e104]; exact nI_clamp (by omega)) hN2) K_X11_207 ⟨rfl, rfl⟩ ⟨rfl, rfl, by decide, by decide⟩ ⟨by decide, by decide⟩ (Nat.le_of_ble_eq_true rfl) dX11_text_49 rfl rfl (fun rv w' hR => ?_)
      obtain ⟨a, fn, rfl, rfl, hfn⟩ := hR
      refine a_ws (w2 := wC V q ts u2 ++ [(a, .inl (vc V 0, N, .inl fn))]) (st2 := [.ref a, .ref (q 3)]) rfl rfl ?_
      refine a_aload_n hX dX11_text_52 rfl 1 rfl rfl ?_
      refine a_get (v := .ref (q 5)) hX inG11 0 rfl rfl 4 (by decide) F_X11_45 rfl rfl dX11_text_53 rfl ?_
      refine a_get (v := .int (gZ u2 101)) hX inG5 4 rfl rfl 1 (by decide) F_X11_211 rfl rfl dX11_text_56 rfl ?_
      refine a_callV (q0 := 5) (As := [.ref a, .int (gZ u2 101)]) (rest := []) hX hE.1 Sub.same (ctAddText hE e61 hts) K_X11_214 ⟨rfl, rfl⟩ ⟨rfl, rfl, by decide, by decide⟩ ⟨by decide, by decide⟩ (Nat.le_of_ble_eq_true rfl) dX11_text_59 rfl rfl (fun rv w' hR => ?_)
      obtain ⟨rfl, q', hq', rfl⟩ := hR
      refine a_ws (w2 := wC V q' (ts ++ [(gZ u2 101, N, fn)]) (setZ u2 61 (nI ts.length + 1))) (st2 := [.int (nI ts.length)]) rfl rfl ?_
      refine a_iret hX hT hF ⟨nI ts.length, q', _, _, rfl, hq', rfl, Or.inr ⟨h6, f, u1, hrd, Or.inr ⟨hf1, N, fn, hN, hN2, ?_, rfl, ?_, ?_⟩⟩⟩ dX11_text_62
      · intro j hj
        rw [hfn j hj, hu2]
        rfl
      · rw [hu2]
        rfl
      · rw [hu2]
    · refine a_icmp_eq (tgt := 41) (ft := none) (ff := some ()) (r := some ()) hX dX11_text_33 rfl rfl (if_neg hf1) (fun h => by cases h) (fun _ => ?_)
      refine a_bipush (v := -100) hX dX11_text_36 (by decide) rfl ?_
      refine a_iload_n hX dX11_text_38 rfl 0 rfl rfl ?_
      refine a_isub hX dX11_text_39 rfl ?_
      refine a_wid (k2 := 2) (n2 := 162) (by decide) (by decide) ?_
      exact a_iret hX hT hF ⟨-100 - f, q, ts, u2, rfl, fun _ _ => rfl, rfl, Or.inr ⟨h6, f, u1, hrd, Or.inl ⟨hf1, rfl, rfl, hu2⟩⟩⟩ dX11_text_40
