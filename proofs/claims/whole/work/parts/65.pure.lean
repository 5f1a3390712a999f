/-! THE LAW'S FUNCTION ANSWERS 1 -/
section
variable {h : Hp} {R : Hp → Option Int32}
theorem clB {f g : Hp → Option (Int32 × Hp)} {P : Hp → Prop} (b : Both f g h P) (hP : ∀ h2, P h2 → Sim h2) : ∃ h', Sim h' ∧ ((f h).bind fun p => (g p.2).bind fun q => if p.1 = q.1 then R q.2 else some (nI 0)) = R h' := by
  obtain ⟨r, h1, h2, q1, q2, q3⟩ := b
  refine ⟨h2, hP h2 q3, ?_⟩
  rw [q1, Option.bind_some, q2, Option.bind_some, if_pos rfl]
theorem clR {f g : Hp → Option Int32} (b : BothR f g h) (hs : Sim h) : ∃ h', Sim h' ∧ ((f h).bind fun x => (g h).bind fun y => if x = y then R h else some (nI 0)) = R h' := by
  obtain ⟨r, q1, q2⟩ := b
  refine ⟨h, hs, ?_⟩
  rw [q1, Option.bind_some, q2, Option.bind_some, if_pos rfl]
theorem clC {f : Hp → Option (Int32 × Hp)} {g : Hp → Option Int32} {P : Hp → Prop} (b : Both f (fun h => (g h).bind fun y => some (y, h)) h P) (hP : ∀ h2, P h2 → Sim h2) : ∃ h', Sim h' ∧ ((f h).bind fun p => (g p.2).bind fun y => if p.1 = y then R p.2 else some (nI 0)) = R h' := by
  obtain ⟨r, h1, h2, q1, q2, q3⟩ := b
  have q2' : (g h1).bind (fun y => some (y, h1)) = some (r, h2) := q2
  cases e : g h1 with
  | none => rw [e] at q2'; cases q2'
  | some y =>
    rw [e, Option.bind_some] at q2'
    have e2 := Option.some.inj q2'
    have e3 : y = r := congrArg Prod.fst e2
    have e4 : h1 = h2 := congrArg Prod.snd e2
    subst e3
    subst e4
    refine ⟨h1, hP h1 q3, ?_⟩
    rw [q1, Option.bind_some, e, Option.bind_some, if_pos rfl]
theorem clD {f g : Hp → Option (Int64 × Hp)} {P : Hp → Prop} (b : ∃ r h1 h2, f h = some (r, h1) ∧ g h1 = some (r, h2) ∧ P h2) (hP : ∀ h2, P h2 → Sim h2) : ∃ h', Sim h' ∧ ((f h).bind fun p => (g p.2).bind fun q => if p.1 = q.1 then R q.2 else some (nI 0)) = R h' := by
  obtain ⟨r, h1, h2, q1, q2, q3⟩ := b
  refine ⟨h2, hP h2 q3, ?_⟩
  rw [q1, Option.bind_some, q2, Option.bind_some, if_pos rfl]
end
theorem sld_of {L : Nat} {xs : Nat → Int32} {i : Nat} (hi : i < L) (hL : L ≤ 1536) : sld L xs (nI i) = some (xs i) := by
  unfold sld
  rw [if_pos (inA_nI hi (by omega)), toN_nI (by omega)]
theorem law_step {b L : Nat} {xs : Nat → Int32} (hL : L ≤ 1536) (K : Hp → Option Int32) (n i : Nat) (h : Hp) (hi : i + 3 ≤ L) (hs : Sim h) : ∃ h', Sim h' ∧ f_L_law_L18 L xs b 0 77 K (n + 1) (nI i) h = f_L_law_L18 L xs b 0 77 K n (nI (i + 3)) h' := by
  have s0 : sld L xs (nI i) = some (xs i) := sld_of (by omega) hL
  have s1 : sld L xs (nI (i + 1)) = some (xs (i + 1)) := sld_of (by omega) hL
  have s2 : sld L xs (nI (i + 2)) = some (xs (i + 2)) := sld_of (by omega) hL
  generalize hR : f_L_law_L18 L xs b 0 77 K n = R0
  unfold f_L_law_L18
  rw [if_neg (show ¬ (Int32.ofNat L) - nI 3 < nI i from by
    rw [show Int32.ofNat L = nI L from rfl, pk_sub (by omega)]
    exact nI_nlt (by omega) (by omega)), s0, Option.bind_some]
  simp only [nI_add, s1, s2, Option.bind_some, hR]
  generalize (xs i &&& nI 31) = y
  generalize xs (i + 1) = a1
  generalize xs (i + 2) = a2
  generalize R0 (nI (i + 3)) = R
  obtain ⟨pm, v, t, p, m, c, vo, ht, hp, mo, sc, sm⟩ := id hs
  have ssc : ∀ h2, (SC pm v t p m c h2 ∧ SM v t p m c h2) → Sim h2 := fun h2 q => ⟨pm, v, t, p, m, c, vo, ht, hp, mo, q.1, q.2⟩
  by_cases c0 : y = nI 0
  · rw [if_pos c0]; exact clB (op_letter sc sm ht a1) (fun h2 ⟨t', w1, w2, w3⟩ => ⟨pm, v, t', p, m, c, vo, w1, hp, mo, w2, w3⟩)
  rw [if_neg c0]
  by_cases c1 : y = nI 1
  · rw [if_pos c1]; exact clB (op_blank sc sm ht) (fun h2 ⟨t', w1, w2, w3⟩ => ⟨pm, v, t', p, m, c, vo, w1, hp, mo, w2, w3⟩)
  rw [if_neg c1]
  by_cases c2 : y = nI 2
  · rw [if_pos c2]; exact clB (op_fault sc sm ht) ssc
  rw [if_neg c2]
  by_cases c3 : y = nI 3
  · rw [if_pos c3]; exact clB (op_names sc sm vo ht mo) (fun h2 ⟨v', t', m', c', w1, w2, w3, w4, w5⟩ => ⟨pm, v', t', p, m', c', w1, w2, hp, w3, w4, w5⟩)
  rw [if_neg c3]
  by_cases c4 : y = nI 4
  · rw [if_pos c4]; exact clB (op_dial sc sm vo ht) (fun h2 ⟨v', t', c', w1, w2, w3, w4, w5⟩ => ⟨pm, v', t', p, m, c', w1, w2, hp, by rw [w3]; exact mo, w4, w5⟩)
  rw [if_neg c4]
  by_cases c5 : y = nI 5
  · rw [if_pos c5]; exact clB (op_drop sc sm vo mo a1) (fun h2 ⟨v', m', c', w1, w2, w3, w4⟩ => ⟨pm, v', t, p, m', c', w1, ht, hp, w2, w3, w4⟩)
  rw [if_neg c5]
  by_cases c6 : y = nI 6
  · rw [if_pos c6]; exact clB (op_use sc sm vo a1 a2) (fun h2 ⟨v', w1, w2, w3, w4⟩ => ⟨pm, v', t, p, m, c, w1, ht, hp, by rw [w2]; exact mo, w3, w4⟩)
  rw [if_neg c6]
  by_cases c7 : y = nI 7
  · rw [if_pos c7]; exact clB (op_name sc sm vo mo a1 a2) ssc
  rw [if_neg c7]
  by_cases c8 : y = nI 8
  · rw [if_pos c8]; exact clR (op_sign sc sm vo a1 a2) hs
  rw [if_neg c8]
  by_cases c9 : y = nI 9
  · rw [if_pos c9]; exact clR (op_digit sc sm vo a1 a2) hs
  rw [if_neg c9]
  by_cases c10 : y = nI 10
  · rw [if_pos c10]; exact clR (op_laid sc sm a1) hs
  rw [if_neg c10]
  by_cases c11 : y = nI 11
  · rw [if_pos c11]; exact clR (op_about sc sm vo a1) hs
  rw [if_neg c11]
  by_cases c12 : y = nI 12
  · rw [if_pos c12]; exact clB (op_press sc sm hp a1) (fun h2 ⟨p', w1, w2, w3⟩ => ⟨pm, v, t, p', m, c, vo, ht, w1, mo, w2, w3⟩)
  rw [if_neg c12]
  by_cases c13 : y = nI 13
  · rw [if_pos c13]; exact clB (op_back sc sm hp) (fun h2 ⟨p', w1, w2, w3⟩ => ⟨pm, v, t, p', m, c, vo, ht, w1, mo, w2, w3⟩)
  rw [if_neg c13]
  by_cases c14 : y = nI 14
  · rw [if_pos c14]; exact clB (op_wipe sc sm hp) (fun h2 ⟨p', w1, w2, w3⟩ => ⟨pm, v, t, p', m, c, vo, ht, w1, mo, w2, w3⟩)
  rw [if_neg c14]
  by_cases c15 : y = nI 15
  · rw [if_pos c15]; exact clR (op_typed sc sm hp a1) hs
  rw [if_neg c15]
  by_cases c16 : y = nI 16
  · rw [if_pos c16]; exact clC (op_choice sc sm vo hp a1) ssc
  rw [if_neg c16]
  by_cases c17 : y = nI 17
  · rw [if_pos c17]; exact clB (op_spelling sc sm vo hp a1) ssc
  rw [if_neg c17]
  by_cases c18 : y = nI 18
  · rw [if_pos c18]; exact clB (op_piece sc sm vo hp a1) ssc
  rw [if_neg c18]
  by_cases c19 : y = nI 19
  · rw [if_pos c19]; exact clB (op_build sc sm vo mo a1) (fun h2 ⟨pm', m', c', w1, w2, w3⟩ => ⟨pm', v, t, p, m', c', vo, ht, hp, w1, w2, w3⟩)
  rw [if_neg c19]
  by_cases c20 : y = nI 20
  · rw [if_pos c20]; exact clB (op_tend sc sm vo mo a1) (fun h2 ⟨pm', m', c', w1, w2, w3⟩ => ⟨pm', v, t, p, m', c', vo, ht, hp, w1, w2, w3⟩)
  rw [if_neg c20]
  by_cases c21 : y = nI 21
  · rw [if_pos c21]; exact clR (op_path sc sm vo mo a1 a2) hs
  rw [if_neg c21]
  by_cases c22 : y = nI 22
  · rw [if_pos c22]; exact clB (op_leads sc sm vo mo a1) ssc
  rw [if_neg c22]
  by_cases c23 : y = nI 23
  · rw [if_pos c23]; exact clB (op_menu sc sm vo mo a1) ssc
  rw [if_neg c23]
  by_cases c24 : y = nI 24
  · rw [if_pos c24]; exact clR (op_count sc sm ht hp a1) hs
  rw [if_neg c24]
  by_cases c25 : y = nI 25
  · rw [if_pos c25]; exact clD (op_digest sc sm vo ht hp mo) ssc
  rw [if_neg c25]
  exact ⟨h, hs, rfl⟩
theorem law_end {b L : Nat} {xs : Nat → Int32} (hL : L ≤ 1536) (K : Hp → Option Int32) (n i : Nat) (h : Hp) (h1 : i ≤ L) (hi : L < i + 3) : f_L_law_L18 L xs b 0 77 K (n + 1) (nI i) h = K h := by
  unfold f_L_law_L18
  rw [if_pos (show (Int32.ofNat L) - nI 3 < nI i from by
    rw [show Int32.ofNat L = nI L from rfl, lt_toInt, pk_sub_toInt (by omega) (by omega), nI_toInt (by omega)]
    omega)]
theorem pure_law (b L : Nat) (xs : Nat → Int32) (hL : L ≤ 1536) : f_L_law b L xs h00 = some (nI 1) := by
  have key : ∀ n i h, i ≤ L → L - i < 3 * n → Sim h → f_L_law_L18 L xs b 0 77 (fun _ => some (nI 1)) n (nI i) h = some (nI 1) := by
    intro n
    induction n with
    | zero => intro i h h1 h2; omega
    | succ n ih =>
      intro i h h1 h2 hs
      by_cases c : i + 3 ≤ L
      · obtain ⟨h', q1, q2⟩ := law_step (b := b) (xs := xs) hL (fun _ => some (nI 1)) n i h c hs
        rw [q2]
        exact ih (i + 3) h' c (by omega) q1
      · exact law_end hL _ n i h h1 (by omega)
  have eA : f_X9_init (hN h00) (newC h00 9 0 (fun _ => 0)) = some hA := getD_of oA_some
  have eB : f_X10_init 77 (newC hA 10 0 (fun _ => 0)) = some hB := getD_of oB_some
  unfold f_L_law
  rw [Option.bind_some, eA, Option.bind_some, Option.bind_some, hA_N, eB, Option.bind_some]
  exact key 513 0 hB (Nat.zero_le _) (by omega) Sim_B
