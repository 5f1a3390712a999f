theorem hI_setA (h : Hp) (a : Nat) (f : Nat → Int32) (b j : Nat) : hI (setA h a f) b j = if b = a then f j else hI h b j := rfl
section
variable {h : Hp} {t : Sq}
theorem C_read (hL : Lay h) (ht : TOK t) (hc : CT t h) : ∃ g y, f_X2_read 5 1 h = some (y, g) ∧ OnlyI (fun q => q = 6 ∨ q = 7) h g ∧ (((¬ ∃ s, dfin t s) ∧ y = nI 0 ∧ hI g 6 = hI h 6) ∨ ∃ s, dfin t s ∧ y = nI s.2.2.2.1 ∧ ∀ j, j < 26 → hI g 6 j = nI (s.2.2.2.2 j)) := by
  have key := C_readL hL ht hc (fun y14 y15 y16 y17 h18 => if y14 < (nI 26) then (some ((nI 0), h18)) else (if y15 < (nI 9) then (some ((nI 0), h18)) else (if y16 = nI 0 then (some ((nI 0), h18)) else ((getR h18 2 5 1).bind fun x19 => (getR h18 2 5 0).bind fun x20 => (acpy h18 x19 (nI 0) x20 (nI 0) (nI 26)).bind fun h21 => some (y17, h21))))) FU 0 (0, 2, 0, 0, fun _ => 0) h (Nat.zero_le _) (FU_gt (by have := ht.1; omega)) rfl OnlyI.rf (fun j hj => absurd hj (Nat.not_lt_zero j))
  have pre : f_X2_read 5 1 h = f_X2_read_L13 5 1 (fun y14 y15 y16 y17 h18 => if y14 < (nI 26) then (some ((nI 0), h18)) else (if y15 < (nI 9) then (some ((nI 0), h18)) else (if y16 = nI 0 then (some ((nI 0), h18)) else ((getR h18 2 5 1).bind fun x19 => (getR h18 2 5 0).bind fun x20 => (acpy h18 x19 (nI 0) x20 (nI 0) (nI 26)).bind fun h21 => some (y17, h21))))) FU (nI 0) (nI 2) (nI 0) (nI 0) (nI 0) h := by
    unfold f_X2_read
    rw [gd_5 hL]
  rcases key with ⟨g, q1, q2, q3⟩ | ⟨s, g, q0, q1, q2, q3⟩
  · refine ⟨g, nI 0, by rw [pre]; exact q1, q2.mono (fun q z => Or.inr z), Or.inl ⟨fun ⟨s, z⟩ => ?_, rfl, q2.2 6 (by omega)⟩⟩
    have z1 := z.1
    rw [q3] at z1
    cases z1
  · have d := drn_DI t t.1 s q0
    have dg := d.ig
    obtain ⟨d1, d2, d3, d4, d5⟩ := id d
    have hLg : Lay g := hL.ss q2.1
    have q1' : f_X2_read 5 1 h = _ := pre.trans q1
    have bad : f_X2_read 5 1 h = some (nI 0, g) → (¬ (s.1 = 26 ∧ s.2.1 = 9 ∧ 0 < s.2.2.1)) → ∃ g y, f_X2_read 5 1 h = some (y, g) ∧ OnlyI (fun q => q = 6 ∨ q = 7) h g ∧ (((¬ ∃ s, dfin t s) ∧ y = nI 0 ∧ hI g 6 = hI h 6) ∨ ∃ s, dfin t s ∧ y = nI s.2.2.2.1 ∧ ∀ j, j < 26 → hI g 6 j = nI (s.2.2.2.2 j)) := by
      intro e ne
      refine ⟨g, nI 0, e, q2.mono (fun q z => Or.inr z), Or.inl ⟨fun ⟨s', z⟩ => ne ?_, rfl, q2.2 6 (by omega)⟩⟩
      have es : s' = s := Option.some.inj (z.1.symm.trans q0)
      rw [← es]
      exact z.2
    by_cases c1 : s.1 < 26
    · rw [if_pos (nI_lt c1 (by decide))] at q1'
      exact bad q1' (fun z => by omega)
    · rw [if_neg (nI_nlt (by omega) (by omega))] at q1'
      by_cases c2 : s.2.1 < 9
      · rw [if_pos (nI_lt c2 (by decide))] at q1'
        exact bad q1' (fun z => by omega)
      · rw [if_neg (nI_nlt (by omega) (by omega))] at q1'
        by_cases c3 : s.2.2.1 = 0
        · rw [if_pos (by rw [c3])] at q1'
          exact bad q1' (fun z => by omega)
        · rw [if_neg (by rw [nI_eq (by omega) (by omega)]; exact c3)] at q1'
          have o7 : 7 < hN g ∧ hK g 7 = (11, 26) := hLg.a (by decide) rfl
          have o6 : 6 < hN g ∧ hK g 6 = (11, 26) := hLg.a (by decide) rfl
          have ac : acpy g 7 (nI 0) 6 (nI 0) (nI 26) = some (setA g 6 (va_cpy (hI g 7) (hI g 6) 0 0 26)) := by
            unfold acpy
            rw [if_pos]
            · rw [nI_toInt (by decide), nI_toInt (by decide)]
              rfl
            · rw [o7.2, o6.2, nI_toInt (by decide), nI_toInt (by decide)]
              exact ⟨⟨o7.1, rfl⟩, ⟨o6.1, rfl⟩, by decide, by decide, by decide, by decide, by decide⟩
          simp only [CG hLg, Option.bind_some, ac] at q1'
          have e6 : hI (setA g 6 (va_cpy (hI g 7) (hI g 6) 0 0 26)) 6 = va_cpy (hI g 7) (hI g 6) 0 0 26 := by
            funext j
            rw [hI_setA, if_pos rfl]
          have en : ∀ q, q ≠ 6 → hI (setA g 6 (va_cpy (hI g 7) (hI g 6) 0 0 26)) q = hI g q := by
            intro q hq
            funext j
            rw [hI_setA, if_neg hq]
          refine ⟨_, _, q1', ⟨⟨q2.1.1, q2.1.2.1, q2.1.2.2⟩, fun q hq => ?_⟩, Or.inr ⟨s, ⟨q0, by omega, by omega, by omega⟩, rfl, fun j hj => ?_⟩⟩
          · rw [en q (by omega)]; exact q2.2 q (by omega)
          · rw [e6, pk_cpy_in (by omega) (by omega), Nat.zero_add, Nat.sub_zero]
            exact q3 j (by omega)
theorem M_dialL (hL : Lay h) (ht : TOK t) (hm : MT t h) (K : Int32 → Int32 → Int32 → Int32 → Hp → Option (Int32 × Hp)) : ∀ f k s g, k ≤ t.1 → t.1 - k + 1 < f → drn t k = some s → OnlyI (fun q => q = 89) h g → (∀ j, j < s.1 → hI g 89 j = nI (s.2.2.2.2 j)) →
    (∃ y1 y2 y3 g', f_X10_isDial_L12 77 K f (nI s.1) (nI s.2.1) (b2 (0 < s.2.2.1)) (nI 1) (nI k) g = K y1 y2 y3 (nI 0) g' ∧ OnlyI (fun q => q = 89) h g' ∧ drn t t.1 = none) ∨
    (∃ s' g', drn t t.1 = some s' ∧ f_X10_isDial_L12 77 K f (nI s.1) (nI s.2.1) (b2 (0 < s.2.2.1)) (nI 1) (nI k) g = K (nI s'.1) (nI s'.2.1) (b2 (0 < s'.2.2.1)) (nI 1) g' ∧ OnlyI (fun q => q = 89) h g' ∧ ∀ j, j < s'.1 → hI g' 89 j = nI (s'.2.2.2.2 j)) := by
  have ht1 := ht.1
  intro f
  induction f with
  | zero => intro k s g h1 h2; omega
  | succ f ih =>
    intro k s g h1 h2 h3 h4 h5
    have hLg : Lay g := hL.ss h4.1
    have hmg : MT t g := by unfold MT at *; rw [h4.2 77 (by omega), h4.2 78 (by omega)]; exact hm
    have d := drn_DI t k s h3
    have dg := d.ig
    obtain ⟨d1, d2, d3, d4, d5⟩ := id d
    unfold f_X10_isDial_L12
    simp only [MG hLg, hmg.1, Option.bind_some]
    by_cases c : k = t.1
    · subst c
      rw [if_pos (nI_le (Nat.le_refl _) (by omega))]
      exact Or.inr ⟨s, g, h3, rfl, h4, h5⟩
    · have hk : k < t.1 := by omega
      have tk := ht.2 k hk
      have nx : drn t (k + 1) = dst (t.2 k) s := by show (drn t k).bind _ = _; rw [h3]; rfl
      have k0 : ∀ y1 y2 y3 x, ∃ y1' y2' y3' g', f_X10_isDial_L12 77 K f y1 y2 y3 (nI 0) x g = K y1' y2' y3' (nI 0) g' ∧ OnlyI (fun q => q = 89) h g' := by
        intro y1 y2 y3 x
        obtain ⟨f', rfl⟩ : ∃ z, f = z + 1 := ⟨f - 1, by omega⟩
        refine ⟨y1, y2, y3, g, ?_, h4⟩
        unfold f_X10_isDial_L12
        simp only [MG hLg, Option.bind_some]
        by_cases c : hI g 77 0 ≤ x
        · rw [if_pos c]
        · rw [if_neg c, if_pos trivial]
      have fail : ∀ y1 y2 y3 x, dst (t.2 k) s = none → (∃ y1' y2' y3' g', f_X10_isDial_L12 77 K f y1 y2 y3 (nI 0) x g = K y1' y2' y3' (nI 0) g' ∧ OnlyI (fun q => q = 89) h g' ∧ drn t t.1 = none) := by
        intro y1 y2 y3 x z
        obtain ⟨a1, a2, a3, g', b1, b2⟩ := k0 y1 y2 y3 x
        exact ⟨a1, a2, a3, g', b1, b2, drn_none (by rw [nx]; exact z) t.1 (by omega)⟩
      rw [if_neg (nI_ge hk (by omega)), if_neg nI01]
      simp (disch := omega) only [MG hLg, hmg.2 k hk, Option.bind_some, nI_add]
      by_cases c1 : t.2 k = 44
      · have nl : ¬ (s.1 < 26 ∧ t.2 k = 97 + s.1) := fun z => by omega
        rw [if_pos (by rw [c1])]
        simp (disch := omega) only [Option.bind_some, b2_eq0, nI_leI]
        by_cases c2 : 0 < s.2.2.1
        · rw [if_neg (fun z => z c2)]
          by_cases c3 : 9 ≤ s.2.1
          · rw [if_pos c3]
            exact Or.inl (fail _ _ _ _ (by unfold dst; rw [if_neg nl, if_neg (fun z => by omega)]))
          · rw [if_neg c3]
            have e : dst (t.2 k) s = some (s.1, s.2.1 + 1, 0, s.2.2.2.1, s.2.2.2.2) := by unfold dst; rw [if_neg nl, if_pos ⟨c1, c2, by omega⟩]
            have q := ih (k + 1) (s.1, s.2.1 + 1, 0, s.2.2.2.1, s.2.2.2.2) g (by omega) (by omega) (by rw [nx, e]) h4 h5
            have z0 : b2 (0 < 0) = nI 0 := b2_f (by decide)
            dsimp only at q
            rw [z0] at q
            exact q
        · rw [if_pos c2]
          exact Or.inl (fail _ _ _ _ (by unfold dst; rw [if_neg nl, if_neg (fun z => by omega)]))
      · rw [if_neg (by rw [nI_eq (by omega) (by omega)]; exact c1)]
        by_cases c26 : 26 ≤ s.1
        · rw [if_pos (nI_le c26 (by omega))]
          simp only [Option.bind_some, if_true]
          exact Or.inl (fail _ _ _ _ (by unfold dst; rw [if_neg (fun z => by omega), if_neg (fun z => c1 z.1)]))
        · rw [if_neg (nI_ge (by omega) (by omega))]
          by_cases cl : t.2 k = 97 + s.1
          · rw [if_pos (by rw [cl])]
            simp (disch := omega) only [Option.bind_some, if_neg nI01, MG hLg, MP hLg]
            have e : dst (t.2 k) s = some (s.1 + 1, s.2.1, s.2.2.1 + 1, max s.2.2.2.1 (s.2.2.1 + 1), fun j => if j = s.1 then s.2.1 else s.2.2.2.2 j) := by unfold dst; rw [if_pos ⟨by omega, cl⟩]
            have q := ih (k + 1) (s.1 + 1, s.2.1, s.2.2.1 + 1, max s.2.2.2.1 (s.2.2.1 + 1), fun j => if j = s.1 then s.2.1 else s.2.2.2.2 j) (setI g 89 s.1 (nI s.2.1)) (by omega) (by omega) (by rw [nx, e]) (h4.put rfl) (fun j hj => by
              have hj' : j < s.1 + 1 := hj
              rw [hI_setI_eq]
              show _ = nI (if j = s.1 then s.2.1 else s.2.2.2.2 j)
              by_cases ej : j = s.1
              · rw [if_pos ej, ej, upd_same]
              · rw [if_neg ej, upd_ne _ _ ej]; exact h5 j (by omega))
            have z1 : b2 (0 < s.2.2.1 + 1) = nI 1 := b2_t (by omega)
            dsimp only at q
            rw [z1] at q
            exact q
          · rw [if_neg (by rw [nI_eq (by omega) (by omega)]; exact cl)]
            simp only [Option.bind_some, if_true]
            exact Or.inl (fail _ _ _ _ (by unfold dst; rw [if_neg (fun z => cl z.2), if_neg (fun z => c1 z.1)]))
theorem M_isDial (hL : Lay h) (ht : TOK t) (hm : MT t h) : ∃ g, OnlyI (fun q => q = 89) h g ∧ (((¬ ∃ s, dfin t s) ∧ f_X10_isDial 77 h = some (nI 0, g)) ∨ ∃ s, dfin t s ∧ f_X10_isDial 77 h = some (nI 1, g) ∧ ∀ j, j < 26 → hI g 89 j = nI (s.2.2.2.2 j)) := by
  have key := M_dialL hL ht hm (fun y19 y20 y21 y22 h23 => (if y22 = nI 0 then (some (nI 0)) else (if y19 = (nI 26) then (if y20 = (nI 9) then (if y21 = nI 0 then (some (nI 0)) else (some (nI 1))) else (some (nI 0))) else (some (nI 0)))).bind fun (v24 : Int32) => (rz v24).bind fun r => some (r, h23)) FU 0 (0, 2, 0, 0, fun _ => 0) h (Nat.zero_le _) (FU_gt (by have := ht.1; omega)) rfl OnlyI.rf (fun j hj => absurd hj (Nat.not_lt_zero j))
  have z0 : b2 (0 < 0) = nI 0 := b2_f (by decide)
  dsimp only at key
  rw [z0] at key
  have pre : f_X10_isDial 77 h = f_X10_isDial_L12 77 (fun y19 y20 y21 y22 h23 => (if y22 = nI 0 then (some (nI 0)) else (if y19 = (nI 26) then (if y20 = (nI 9) then (if y21 = nI 0 then (some (nI 0)) else (some (nI 1))) else (some (nI 0))) else (some (nI 0)))).bind fun (v24 : Int32) => (rz v24).bind fun r => some (r, h23)) FU (nI 0) (nI 2) (nI 0) (nI 1) (nI 0) h := by
    unfold f_X10_isDial
    rw [gd_77 hL]
  rcases key with ⟨y1, y2, y3, g, q1, q2, q3⟩ | ⟨s, g, q0, q1, q2, q3⟩
  · refine ⟨g, q2, Or.inl ⟨fun ⟨s, z⟩ => ?_, ?_⟩⟩
    · have z1 := z.1
      rw [q3] at z1
      cases z1
    · rw [pre, q1, if_pos rfl, Option.bind_some, rz_0]
      rfl
  · have d := drn_DI t t.1 s q0
    obtain ⟨d1, d2, d3, d4, d5⟩ := id d
    have val : f_X10_isDial 77 h = some (b2 (s.1 = 26 ∧ s.2.1 = 9 ∧ 0 < s.2.2.1), g) := by
      rw [pre, q1, if_neg nI01]
      simp (disch := omega) only [nI_eq, b2_eq0, ite_some, b2_def', b2_and, Classical.not_not, Option.bind_some, rz_b2]
    by_cases c : s.1 = 26 ∧ s.2.1 = 9 ∧ 0 < s.2.2.1
    · refine ⟨g, q2, Or.inr ⟨s, ⟨q0, c⟩, by rw [val, b2_t c], fun j hj => q3 j (by omega)⟩⟩
    · refine ⟨g, q2, Or.inl ⟨fun ⟨s', z⟩ => c ?_, by rw [val, b2_f c]⟩⟩
      have es : s' = s := Option.some.inj (z.1.symm.trans q0)
      rw [← es]
      exact z.2
end
