/-! dial: reading a keypad -/
/-- letters read, digit, letters in the group, the largest group, the digits of letters -/
abbrev DS : Type := Nat × Nat × Nat × Nat × (Nat → Nat)
def dst (cc : Nat) (s : DS) : Option DS := if s.1 < 26 ∧ cc = 97 + s.1 then some (s.1 + 1, s.2.1, s.2.2.1 + 1, max s.2.2.2.1 (s.2.2.1 + 1), fun j => if j = s.1 then s.2.1 else s.2.2.2.2 j) else if cc = 44 ∧ 0 < s.2.2.1 ∧ s.2.1 < 9 then some (s.1, s.2.1 + 1, 0, s.2.2.2.1, s.2.2.2.2) else none
/-- the state before the k-th character, if all before it fit -/
def drn (t : Sq) : Nat → Option DS
  | 0 => some (0, 2, 0, 0, fun _ => 0)
  | k + 1 => (drn t k).bind (dst (t.2 k))
def DI (s : DS) : Prop := s.1 ≤ 26 ∧ (2 ≤ s.2.1 ∧ s.2.1 ≤ 9) ∧ (∀ j, j < s.1 → 2 ≤ s.2.2.2.2 j ∧ s.2.2.2.2 j ≤ s.2.1) ∧ s.2.2.1 = cnt (fun j => s.2.2.2.2 j = s.2.1) s.1 ∧ s.2.2.2.1 = fmax (fun i => cnt (fun j => s.2.2.2.2 j = i + 2) s.1) (s.2.1 - 1)
theorem fmax_congr {f g : Nat → Nat} {n : Nat} (h : ∀ k, k < n → f k = g k) : fmax f n = fmax g n := by
  induction n with
  | zero => rfl
  | succ n ih => rw [fmax_succ, fmax_succ, ih (fun k hk => h k (by omega)), h n (by omega)]
theorem DI.step {cc : Nat} {s s' : DS} (d : DI s) (h : dst cc s = some s') : DI s' := by
  obtain ⟨d1, d2, d3, d4, d5⟩ := d
  unfold dst at h
  split at h
  · next c =>
    have e := Option.some.inj h
    subst e
    have cn : ∀ x, cnt (fun j => (if j = s.1 then s.2.1 else s.2.2.2.2 j) = x) (s.1 + 1) = cnt (fun j => s.2.2.2.2 j = x) s.1 + if s.2.1 = x then 1 else 0 := by
      intro x
      rw [cnt_succ, cnt_congr (P := fun j => (if j = s.1 then s.2.1 else s.2.2.2.2 j) = x) (Q := fun j => s.2.2.2.2 j = x) (fun j hj => by rw [if_neg (by omega)])]
      simp only [if_true]
    refine ⟨by show s.1 + 1 ≤ 26; omega, d2, fun j hj => ?_, ?_, ?_⟩
    · show 2 ≤ (if j = s.1 then s.2.1 else s.2.2.2.2 j) ∧ (if j = s.1 then s.2.1 else s.2.2.2.2 j) ≤ s.2.1
      have hj' : j < s.1 + 1 := hj
      split
      · omega
      · exact d3 j (by omega)
    · show s.2.2.1 + 1 = cnt (fun j => (if j = s.1 then s.2.1 else s.2.2.2.2 j) = s.2.1) (s.1 + 1)
      rw [cn, if_pos rfl, d4]
    · show max s.2.2.2.1 (s.2.2.1 + 1) = fmax (fun i => cnt (fun j => (if j = s.1 then s.2.1 else s.2.2.2.2 j) = i + 2) (s.1 + 1)) (s.2.1 - 1)
      obtain ⟨z, hz⟩ : ∃ z, s.2.1 = z + 2 := ⟨s.2.1 - 2, by omega⟩
      rw [hz] at d4 d5 ⊢
      rw [show z + 2 - 1 = z + 1 by omega, fmax_succ] at d5 ⊢
      have e1 : fmax (fun i => cnt (fun j => (if j = s.1 then z + 2 else s.2.2.2.2 j) = i + 2) (s.1 + 1)) z = fmax (fun i => cnt (fun j => s.2.2.2.2 j = i + 2) s.1) z := by
        apply fmax_congr
        intro i hi
        have := cn (i + 2)
        rw [hz] at this
        rw [this, if_neg (by omega), Nat.add_zero]
      have e2 : cnt (fun j => (if j = s.1 then z + 2 else s.2.2.2.2 j) = z + 2) (s.1 + 1) = cnt (fun j => s.2.2.2.2 j = z + 2) s.1 + 1 := by
        have := cn (z + 2)
        rw [hz] at this
        rw [this, if_pos rfl]
      rw [e1, e2, d5, d4]
      omega
  · split at h
    · next c =>
      have e := Option.some.inj h
      subst e
      have z0 : cnt (fun j => s.2.2.2.2 j = s.2.1 + 1) s.1 = 0 := by
        by_cases w : 0 < cnt (fun j => s.2.2.2.2 j = s.2.1 + 1) s.1
        · obtain ⟨j, a, b⟩ := cnt_pos.mp w
          have := (d3 j a).2
          omega
        · omega
      refine ⟨d1, ⟨by show 2 ≤ s.2.1 + 1; omega, by show s.2.1 + 1 ≤ 9; omega⟩, fun j hj => ⟨(d3 j hj).1, by have := (d3 j hj).2; show s.2.2.2.2 j ≤ s.2.1 + 1; omega⟩, ?_, ?_⟩
      · show 0 = cnt (fun j => s.2.2.2.2 j = s.2.1 + 1) s.1
        exact z0.symm
      · show s.2.2.2.1 = fmax (fun i => cnt (fun j => s.2.2.2.2 j = i + 2) s.1) (s.2.1 + 1 - 1)
        obtain ⟨z, hz⟩ : ∃ z, s.2.1 = z + 2 := ⟨s.2.1 - 2, by omega⟩
        rw [hz] at z0 d5 ⊢
        rw [show z + 2 + 1 - 1 = z + 1 + 1 by omega, fmax_succ, show z + 1 + 2 = z + 2 + 1 by omega, z0, d5, show z + 2 - 1 = z + 1 by omega, Nat.max_zero]
    · cases h
theorem drn_DI (t : Sq) : ∀ k s, drn t k = some s → DI s := by
  intro k
  induction k with
  | zero =>
    intro s h
    have e := Option.some.inj h
    subst e
    exact ⟨by decide, ⟨by decide, by decide⟩, fun j hj => absurd hj (Nat.not_lt_zero j), rfl, rfl⟩
  | succ k ih =>
    intro s h
    have h' : (drn t k).bind (dst (t.2 k)) = some s := h
    cases e : drn t k with
    | none => rw [e] at h'; cases h'
    | some s0 => rw [e] at h'; exact (ih s0 e).step h'
theorem DI.ig {s : DS} (d : DI s) : s.2.2.1 ≤ 26 ∧ s.2.2.2.1 ≤ 26 ∧ s.2.2.1 ≤ s.2.2.2.1 := by
  obtain ⟨d1, d2, d3, d4, d5⟩ := d
  have a := cnt_le (fun j => s.2.2.2.2 j = s.2.1) s.1
  have b : fmax (fun i => cnt (fun j => s.2.2.2.2 j = i + 2) s.1) (s.2.1 - 1) ≤ 26 := (fmax_le _ _ _).mpr (fun k hk => Nat.le_trans (cnt_le _ _) d1)
  have e := (fmax_le (fun i => cnt (fun j => s.2.2.2.2 j = i + 2) s.1) (s.2.1 - 1) _).mp (Nat.le_refl _) (s.2.1 - 2) (by omega)
  rw [show s.2.1 - 2 + 2 = s.2.1 by omega, ← d4, ← d5] at e
  omega
/-- the keypad that a text is -/
def dfin (t : Sq) (s : DS) : Prop := drn t t.1 = some s ∧ s.1 = 26 ∧ s.2.1 = 9 ∧ 0 < s.2.2.1
theorem drn_none {t : Sq} {k : Nat} (h : drn t k = none) : ∀ j, k ≤ j → drn t j = none := by
  intro j
  induction j with
  | zero => intro hj; rw [show k = 0 by omega] at h; cases h
  | succ j ih =>
    intro hj
    by_cases e : k = j + 1
    · rw [← e]; exact h
    · show (drn t j).bind _ = none
      rw [ih (by omega)]
      rfl
section
variable {h : Hp} {t : Sq}
theorem C_readL (hL : Lay h) (ht : TOK t) (hc : CT t h) (K : Int32 → Int32 → Int32 → Int32 → Hp → Option (Int32 × Hp)) : ∀ f k s g, k ≤ t.1 → t.1 - k < f → drn t k = some s → OnlyI (fun q => q = 7) h g → (∀ j, j < s.1 → hI g 7 j = nI (s.2.2.2.2 j)) →
    (∃ g', f_X2_read_L13 5 1 K f (nI s.1) (nI s.2.1) (nI s.2.2.1) (nI s.2.2.2.1) (nI k) g = some (nI 0, g') ∧ OnlyI (fun q => q = 7) h g' ∧ drn t t.1 = none) ∨
    (∃ s' g', drn t t.1 = some s' ∧ f_X2_read_L13 5 1 K f (nI s.1) (nI s.2.1) (nI s.2.2.1) (nI s.2.2.2.1) (nI k) g = K (nI s'.1) (nI s'.2.1) (nI s'.2.2.1) (nI s'.2.2.2.1) g' ∧ OnlyI (fun q => q = 7) h g' ∧ ∀ j, j < s'.1 → hI g' 7 j = nI (s'.2.2.2.2 j)) := by
  have ht1 := ht.1
  intro f
  induction f with
  | zero => intro k s g h1 h2; omega
  | succ f ih =>
    intro k s g h1 h2 h3 h4 h5
    have hLg : Lay g := hL.ss h4.1
    have hcg : CT t g := by unfold CT at *; rw [h4.2 1 (by omega), h4.2 2 (by omega)]; exact hc
    have r := row_text hLg ht hcg
    have d := drn_DI t k s h3
    have dg := d.ig
    obtain ⟨d1, d2, d3, d4, d5⟩ := id d
    unfold f_X2_read_L13
    rw [r.size]
    simp only [Option.bind_some]
    by_cases c : k = t.1
    · subst c
      rw [if_pos (nI_le (Nat.le_refl _) (by omega))]
      exact Or.inr ⟨s, g, h3, rfl, h4, h5⟩
    · have hk : k < t.1 := by omega
      have tk := ht.2 k hk
      have nx : drn t (k + 1) = dst (t.2 k) s := by show (drn t k).bind _ = _; rw [h3]; rfl
      rw [if_neg (nI_ge hk (by omega)), r.get hk, hcg.2 k hk]
      simp only [Option.bind_some, nI_add]
      have fail : dst (t.2 k) s = none → (∃ g', some (nI 0, g) = some (nI 0, g') ∧ OnlyI (fun q => q = 7) h g' ∧ drn t t.1 = none) := fun z => ⟨g, rfl, h4, drn_none (by rw [nx]; exact z) t.1 (by omega)⟩
      have comma : ¬ (s.1 < 26 ∧ t.2 k = 97 + s.1) → (∃ g', (if nI (t.2 k) = (nI 44) then (if nI s.2.2.1 ≤ nI 0 then (some ((nI 0), g)) else (if (nI 9) ≤ nI s.2.1 then (some ((nI 0), g)) else (f_X2_read_L13 5 1 K f (nI s.1) (nI (s.2.1 + 1)) (nI 0) (nI s.2.2.2.1) (nI (k + 1)) g))) else (some ((nI 0), g))) = some (nI 0, g') ∧ OnlyI (fun q => q = 7) h g' ∧ drn t t.1 = none) ∨
          (∃ s' g', drn t t.1 = some s' ∧ (if nI (t.2 k) = (nI 44) then (if nI s.2.2.1 ≤ nI 0 then (some ((nI 0), g)) else (if (nI 9) ≤ nI s.2.1 then (some ((nI 0), g)) else (f_X2_read_L13 5 1 K f (nI s.1) (nI (s.2.1 + 1)) (nI 0) (nI s.2.2.2.1) (nI (k + 1)) g))) else (some ((nI 0), g))) = K (nI s'.1) (nI s'.2.1) (nI s'.2.2.1) (nI s'.2.2.2.1) g' ∧ OnlyI (fun q => q = 7) h g' ∧ ∀ j, j < s'.1 → hI g' 7 j = nI (s'.2.2.2.2 j)) := by
        intro nl
        simp (disch := omega) only [nI_eq, nI_leI]
        by_cases c1 : t.2 k = 44
        · rw [if_pos c1]
          by_cases c2 : s.2.2.1 ≤ 0
          · rw [if_pos c2]
            exact Or.inl (fail (by unfold dst; rw [if_neg nl, if_neg (fun z => by omega)]))
          · rw [if_neg c2]
            by_cases c3 : 9 ≤ s.2.1
            · rw [if_pos c3]
              exact Or.inl (fail (by unfold dst; rw [if_neg nl, if_neg (fun z => by omega)]))
            · rw [if_neg c3]
              have e : dst (t.2 k) s = some (s.1, s.2.1 + 1, 0, s.2.2.2.1, s.2.2.2.2) := by unfold dst; rw [if_neg nl, if_pos ⟨c1, by omega, by omega⟩]
              exact ih (k + 1) (s.1, s.2.1 + 1, 0, s.2.2.2.1, s.2.2.2.2) g (by omega) (by omega) (by rw [nx, e]) h4 h5
        · rw [if_neg c1]
          exact Or.inl (fail (by unfold dst; rw [if_neg nl, if_neg (fun z => c1 z.1)]))
      by_cases c26 : 26 ≤ s.1
      · rw [if_pos (nI_le c26 (by omega))]
        exact comma (fun z => by omega)
      · rw [if_neg (nI_ge (by omega) (by omega))]
        by_cases cl : t.2 k = 97 + s.1
        · rw [if_pos (by rw [cl])]
          simp (disch := omega) only [CG hLg, CP hLg, Option.bind_some, imx_nI]
          have e : dst (t.2 k) s = some (s.1 + 1, s.2.1, s.2.2.1 + 1, max s.2.2.2.1 (s.2.2.1 + 1), fun j => if j = s.1 then s.2.1 else s.2.2.2.2 j) := by unfold dst; rw [if_pos ⟨by omega, cl⟩]
          refine ih (k + 1) (s.1 + 1, s.2.1, s.2.2.1 + 1, max s.2.2.2.1 (s.2.2.1 + 1), fun j => if j = s.1 then s.2.1 else s.2.2.2.2 j) _ (by omega) (by omega) (by rw [nx, e]) (h4.put rfl) (fun j hj => ?_)
          have hj' : j < s.1 + 1 := hj
          rw [hI_setI_eq]
          show _ = nI (if j = s.1 then s.2.1 else s.2.2.2.2 j)
          by_cases ej : j = s.1
          · rw [if_pos ej, ej, upd_same]
          · rw [if_neg ej, upd_ne _ _ ej]; exact h5 j (by omega)
        · rw [if_neg (by rw [nI_eq (by omega) (by omega)]; exact cl)]
          exact comma (fun z => cl z.2)
end
