/-! what the model's menu answers -/
def ML (m : Mn) (N : Nat) (h : Hp) : Prop := ∀ k, k < N → hI h 84 k = nI (m.2.1 k) ∧ ∀ i, i < m.2.1 k → hI h 85 (14 * k + i) = nI (m.2.2.1 k i)
/-- the menu that was laid last -/
def MLn (m : Mn) (N : Nat) (h : Hp) : Prop := ∀ k, k < N → hI h 96 k = nI (m.2.1 k) ∧ ∀ i, i < m.2.1 k → hI h 97 (14 * k + i) = nI (m.2.2.1 k i)
section
variable {v : Vw} {h : Hp} {m m' : Mn} {N : Nat}
theorem M_costNow (hL : Lay h) (mn : MN v h) (vo : VOK v) (ml : ML m (vN v) h) : f_X10_costNow 77 h = some (nI (fsum (fun k => vu v k * m.2.1 k) (vN v))) := by
  have h14 := vo.1
  unfold f_X10_costNow
  rw [gd_77 hL]
  refine lp_up (W := fun n i => f_X10_costNow_L4 77 h (fun y8 => some y8) n (nI (fsum (fun k => vu v k * m.2.1 k) i)) (nI i)) (N := vN v) (fun n => ?_) (fun n i hi => ?_) FU 0 (Nat.zero_le _) (FU_gt (by omega))
  · show f_X10_costNow_L4 _ _ _ _ _ _ = _
    unfold f_X10_costNow_L4
    simp only [MG hL, mn.1, Option.bind_some, if_pos (nI_le (Nat.le_refl (vN v)) (show vN v < 2 ^ 31 by omega))]
  · show f_X10_costNow_L4 _ _ _ _ _ _ = f_X10_costNow_L4 _ _ _ _ _ _
    conv => lhs; unfold f_X10_costNow_L4
    simp (disch := omega) only [MG hL, mn.1, Option.bind_some, if_neg (nI_ge hi (show vN v < 2 ^ 31 by omega)), MV mn, (ml i hi).1, pk_mul, nI_add]
    rfl
theorem M_longest (hL : Lay h) (mn : MN v h) (vo : VOK v) (ml : ML m (vN v) h) (bd : MBd m (vN v)) : f_X10_longest 77 h = some (nI (fmax m.2.1 (vN v))) := by
  have h14 := vo.1
  unfold f_X10_longest
  rw [gd_77 hL]
  refine lp_up (W := fun n i => f_X10_longest_L4 77 h (fun y8 => some y8) n (nI (fmax m.2.1 i)) (nI i)) (N := vN v) (fun n => ?_) (fun n i hi => ?_) FU 0 (Nat.zero_le _) (FU_gt (by omega))
  · show f_X10_longest_L4 _ _ _ _ _ _ = _
    unfold f_X10_longest_L4
    simp only [MG hL, mn.1, Option.bind_some, if_pos (nI_le (Nat.le_refl (vN v)) (show vN v < 2 ^ 31 by omega))]
  · show f_X10_longest_L4 _ _ _ _ _ _ = f_X10_longest_L4 _ _ _ _ _ _
    have b1 := (bd i hi).1
    have b2 : fmax m.2.1 i ≤ 13 := (fmax_le _ _ _).mpr (fun k hk => (bd k (by omega)).1)
    conv => lhs; unfold f_X10_longest_L4
    simp (disch := omega) only [MG hL, mn.1, Option.bind_some, if_neg (show ¬ vN v ≤ i by omega), (ml i hi).1, ite_some, nI_add, nI_leI]
    congr 1
    rw [fmax_succ]
    split
    · rw [Nat.max_eq_left (by omega)]
    · rw [Nat.max_eq_right (by omega)]
theorem M_same (hL : Lay h) (ml : ML m N h) (bd : MBd m N) (hN : N ≤ 14) {j k i : Nat} (hj : j < N) (hk : k < N) (hi14 : i ≤ 14) : f_X10_isSamePath 77 (nI j) (nI k) (nI i) h = some (b2 (agr m.2.1 m.2.2.1 j k i)) := by
  have bj := bd j hj
  have bk := bd k hk
  unfold f_X10_isSamePath
  simp (disch := omega) only [gd_77 hL, MG hL, (ml j hj).1, (ml k hk).1, Option.bind_some, nI_ltI, ite_some]
  have k0 : ∀ n x, f_X10_isSamePath_L30 77 (nI j) (nI k) (nI i) h (fun y16 => (rz y16).bind fun r => some r) (n + 1) (nI 0) x = some (nI 0) := by
    intro n x
    unfold f_X10_isSamePath_L30
    by_cases c : nI i ≤ x
    · rw [if_pos c]; rfl
    · rw [if_neg c, if_pos rfl]; rfl
  by_cases c1 : m.2.1 j < i
  · rw [if_pos c1, b2_f (fun z => by have := z.1.1; omega)]
    exact k0 255 _
  · rw [if_neg c1]
    by_cases c2 : m.2.1 k < i
    · rw [if_pos c2, b2_f (fun z => by have := z.1.2; omega)]
      exact k0 255 _
    · rw [if_neg c2]
      have q := lp_all0 (W := fun n x => f_X10_isSamePath_L30 77 (nI j) (nI k) (nI i) h (fun y16 => (rz y16).bind fun r => some r) n (nI 1) (nI x)) (N := i) (P := fun x => m.2.2.1 j x = m.2.2.1 k x) (r1 := some (nI 1)) (r0 := some (nI 0)) (fun n => ?_) (fun n x hx hn => ?_) (n := FU) (FU_gt (by omega))
      · refine q.trans ?_
        rw [ite_some, b2_def]
        exact congrArg some (b2_of ⟨fun z => ⟨⟨by omega, by omega⟩, z⟩, fun z => z.2⟩)
      · show f_X10_isSamePath_L30 _ _ _ _ _ _ _ _ _ = _
        unfold f_X10_isSamePath_L30
        rw [if_pos (nI_le (Nat.le_refl i) (by omega))]
        rfl
      · have e1 : ¬ nI i ≤ nI x := nI_ge hx (by omega)
        have r1 := bj.2 x (by omega)
        have r2 := bk.2 x (by omega)
        constructor
        · intro b
          show f_X10_isSamePath_L30 _ _ _ _ _ _ _ _ _ = f_X10_isSamePath_L30 _ _ _ _ _ _ _ _ _
          conv => lhs; unfold f_X10_isSamePath_L30
          simp (disch := omega) only [MG hL, if_neg e1, if_neg nI01, pk_mul, nI_add, (ml j hj).2 x (by omega), (ml k hk).2 x (by omega), Option.bind_some, b, if_true]
        · intro b
          show f_X10_isSamePath_L30 _ _ _ _ _ _ _ _ _ = _
          obtain ⟨z, rfl⟩ : ∃ z, n = z + 1 := ⟨n - 1, by omega⟩
          unfold f_X10_isSamePath_L30
          simp (disch := omega) only [MG hL, if_neg e1, if_neg nI01, pk_mul, nI_add, (ml j hj).2 x (by omega), (ml k hk).2 x (by omega), Option.bind_some, nI_eq, if_neg b]
          exact k0 z _
theorem M_many (hL : Lay h) (mn : MN v h) (vo : VOK v) (ml : ML m (vN v) h) (bd : MBd m (vN v)) : f_X10_menusMany 77 h = some (nI (fsum (fun k => cnt (fun i => k = 0 ∨ ¬ agr m.2.1 m.2.2.1 (k - 1) k i) (m.2.1 k)) (vN v))) := by
  have h14 := vo.1
  unfold f_X10_menusMany
  rw [gd_77 hL]
  have inner : ∀ (k S : Nat) (K : Int32 → Option Int32), k < vN v → f_X10_menusMany_L14 77 (nI k) h K FU (nI S) (nI 0) = K (nI (S + cnt (fun i => k = 0 ∨ ¬ agr m.2.1 m.2.2.1 (k - 1) k i) (m.2.1 k))) := by
    intro k S K hk
    have bk := bd k hk
    refine lp_up (W := fun n i => f_X10_menusMany_L14 77 (nI k) h K n (nI (S + cnt (fun i => k = 0 ∨ ¬ agr m.2.1 m.2.2.1 (k - 1) k i) i)) (nI i)) (N := m.2.1 k) (fun n => ?_) (fun n i hi => ?_) FU 0 (Nat.zero_le _) (FU_gt (by omega))
    · show f_X10_menusMany_L14 _ _ _ _ _ _ _ = _
      unfold f_X10_menusMany_L14
      simp (disch := omega) only [MG hL, (ml k hk).1, Option.bind_some, if_pos (nI_le (Nat.le_refl (m.2.1 k)) (show m.2.1 k < 2 ^ 31 by omega))]
    · show f_X10_menusMany_L14 _ _ _ _ _ _ _ = f_X10_menusMany_L14 _ _ _ _ _ _ _
      conv => lhs; unfold f_X10_menusMany_L14
      simp (disch := omega) only [MG hL, (ml k hk).1, Option.bind_some, if_neg (nI_ge hi (show m.2.1 k < 2 ^ 31 by omega)), nI_eq]
      rw [cnt_succ]
      by_cases c : k = 0
      · rw [if_pos c, if_pos (Or.inl c)]
        simp only [Option.bind_some, nI_add]
        rfl
      · rw [if_neg c, pk_sub (by omega), M_same hL ml bd h14 (show k - 1 < vN v by omega) hk (by omega)]
        simp only [Option.bind_some, ite_some, b2_bnd', nI_b2, nI_add]
        congr 2
        by_cases z : agr m.2.1 m.2.2.1 (k - 1) k i
        · rw [if_neg (fun w => w z), if_neg (fun w => w.elim c (fun y => y z))]; rfl
        · rw [if_pos z, if_pos (Or.inr z)]; rfl
  refine lp_up (W := fun n i => f_X10_menusMany_L4 77 h (fun y8 => some y8) n (nI (fsum (fun k => cnt (fun i => k = 0 ∨ ¬ agr m.2.1 m.2.2.1 (k - 1) k i) (m.2.1 k)) i)) (nI i)) (N := vN v) (fun n => ?_) (fun n i hi => ?_) FU 0 (Nat.zero_le _) (FU_gt (by omega))
  · show f_X10_menusMany_L4 _ _ _ _ _ _ = _
    unfold f_X10_menusMany_L4
    simp only [MG hL, mn.1, Option.bind_some, if_pos (nI_le (Nat.le_refl (vN v)) (show vN v < 2 ^ 31 by omega))]
  · show f_X10_menusMany_L4 _ _ _ _ _ _ = f_X10_menusMany_L4 _ _ _ _ _ _
    conv => lhs; unfold f_X10_menusMany_L4
    simp only [MG hL, mn.1, Option.bind_some, if_neg (nI_ge hi (show vN v < 2 ^ 31 by omega)), inner i _ _ hi, nI_add]
    rfl
theorem M_whole (hL : Lay h) (mn : MN v h) (vo : VOK v) (ml : ML m (vN v) h) (bd : MBd m (vN v)) : f_X10_wholeParts 77 h = some (nI (fmax (fun k => if 0 < m.2.1 k then m.2.2.1 k 0 else 0) (vN v))) := by
  have h14 := vo.1
  unfold f_X10_wholeParts
  rw [gd_77 hL]
  refine lp_up (W := fun n i => f_X10_wholeParts_L4 77 h (fun y8 => some y8) n (nI (fmax (fun k => if 0 < m.2.1 k then m.2.2.1 k 0 else 0) i)) (nI i)) (N := vN v) (fun n => ?_) (fun n i hi => ?_) FU 0 (Nat.zero_le _) (FU_gt (by omega))
  · show f_X10_wholeParts_L4 _ _ _ _ _ _ = _
    unfold f_X10_wholeParts_L4
    simp only [MG hL, mn.1, Option.bind_some, if_pos (nI_le (Nat.le_refl (vN v)) (show vN v < 2 ^ 31 by omega))]
  · show f_X10_wholeParts_L4 _ _ _ _ _ _ = f_X10_wholeParts_L4 _ _ _ _ _ _
    have b1 := bd i hi
    have bm : fmax (fun k => if 0 < m.2.1 k then m.2.2.1 k 0 else 0) i ≤ 4 := (fmax_le _ _ _).mpr (fun k hk => by
      show (if 0 < m.2.1 k then m.2.2.1 k 0 else 0) ≤ 4
      split
      · next c => exact ((bd k (by omega)).2 0 c).2
      · omega)
    conv => lhs; unfold f_X10_wholeParts_L4
    rw [fmax_succ]
    generalize hS : fmax (fun k => if 0 < m.2.1 k then m.2.2.1 k 0 else 0) i = S at *
    simp (disch := omega) only [MG hL, mn.1, Option.bind_some, if_neg (show ¬ vN v ≤ i by omega), (ml i hi).1, nI_leI]
    by_cases c : 0 < m.2.1 i
    · have b2 := b1.2 0 c
      have e0 := (ml i hi).2 0 c
      rw [Nat.add_zero] at e0
      rw [if_neg (by omega), if_pos c]
      simp (disch := omega) only [MG hL, pk_mul, nI_add, Option.bind_some, e0, nI_leI, ite_some]
      congr 1
      split
      · rw [Nat.max_eq_left (by omega)]
      · rw [Nat.max_eq_right (by omega)]
    · rw [if_pos (by omega), if_neg c, Nat.max_zero]
      simp only [Option.bind_some, nI_add]
theorem M_changed (hL : Lay h) (ml : ML m N h) (ml' : MLn m' N h) (bd : MBd m N) (bd' : MBd m' N) (hN : N ≤ 14) {k : Nat} (hk : k < N) : f_X10_isPathChanged 77 (nI k) h = some (b2 (¬ smp m m' k)) := by
  have bk := bd k hk
  have bk' := bd' k hk
  unfold f_X10_isPathChanged
  simp (disch := omega) only [gd_77 hL, MG hL, (ml k hk).1, (ml' k hk).1, Option.bind_some, nI_eq, ite_some]
  have k0 : ∀ n x, f_X10_isPathChanged_L23 77 (nI k) h (fun y17 => (rz y17).bind fun r => some r) (n + 1) (nI 1) x = some (nI 1) := by
    intro n x
    unfold f_X10_isPathChanged_L23
    simp (disch := omega) only [MG hL, (ml k hk).1, Option.bind_some]
    by_cases c : nI (m.2.1 k) ≤ x
    · rw [if_pos c]; rfl
    · rw [if_neg c, if_neg nI01]; rfl
  by_cases c1 : m.2.1 k = m'.2.1 k
  · rw [if_pos c1]
    have q := lp_all0 (W := fun n x => f_X10_isPathChanged_L23 77 (nI k) h (fun y17 => (rz y17).bind fun r => some r) n (nI 0) (nI x)) (N := m.2.1 k) (P := fun x => m.2.2.1 k x = m'.2.2.1 k x) (r1 := some (nI 0)) (r0 := some (nI 1)) (fun n => ?_) (fun n x hx hn => ?_) (n := FU) (FU_gt (by omega))
    · refine q.trans ?_
      rw [ite_some, b2_def']
      exact congrArg some (b2_of ⟨fun z w => z w.2, fun z w => z ⟨c1, w⟩⟩)
    · show f_X10_isPathChanged_L23 _ _ _ _ _ _ _ = _
      unfold f_X10_isPathChanged_L23
      simp (disch := omega) only [MG hL, (ml k hk).1, Option.bind_some, if_pos (nI_le (Nat.le_refl (m.2.1 k)) (show m.2.1 k < 2 ^ 31 by omega))]
      rfl
    · have e1 : ¬ nI (m.2.1 k) ≤ nI x := nI_ge hx (by omega)
      have r1 := bk.2 x hx
      have r2 := bk'.2 x (by omega)
      constructor
      · intro b
        show f_X10_isPathChanged_L23 _ _ _ _ _ _ _ = f_X10_isPathChanged_L23 _ _ _ _ _ _ _
        conv => lhs; unfold f_X10_isPathChanged_L23
        simp (disch := omega) only [MG hL, (ml k hk).1, Option.bind_some, if_neg e1, if_true, pk_mul, nI_add, (ml k hk).2 x hx, (ml' k hk).2 x (by omega), b]
      · intro b
        show f_X10_isPathChanged_L23 _ _ _ _ _ _ _ = _
        obtain ⟨z, rfl⟩ : ∃ z, n = z + 1 := ⟨n - 1, by omega⟩
        unfold f_X10_isPathChanged_L23
        simp (disch := omega) only [MG hL, (ml k hk).1, Option.bind_some, if_neg e1, if_true, pk_mul, nI_add, (ml k hk).2 x hx, (ml' k hk).2 x (by omega), nI_eq, if_neg b]
        exact k0 z _
  · rw [if_neg c1, b2_t (show ¬ smp m m' k from fun w => c1 w.1)]
    exact k0 255 _
theorem M_changed_any (hL : Lay h) {k l : Nat} (hk : k < 14) (hl : l ≤ 13) (e : hI h 84 k = nI l) : ∃ y, f_X10_isPathChanged 77 (nI k) h = some y := by
  have key : ∀ n i y, (y = nI 0 ∨ y = nI 1) → i ≤ l → l - i < n → ∃ z, f_X10_isPathChanged_L23 77 (nI k) h (fun y17 => (rz y17).bind fun r => some r) n y (nI i) = some z := by
    intro n
    induction n with
    | zero => intro i y _ h1 h2; omega
    | succ n ih =>
      intro i y hy h1 h2
      unfold f_X10_isPathChanged_L23
      simp (disch := omega) only [MG hL, e, Option.bind_some]
      by_cases c : i = l
      · rw [if_pos (nI_le (by omega) (by omega))]
        rcases hy with rfl | rfl
        · exact ⟨nI 0, rfl⟩
        · exact ⟨nI 1, rfl⟩
      · rw [if_neg (nI_ge (by omega) (by omega))]
        rcases hy with rfl | rfl
        · rw [if_pos rfl]
          simp (disch := omega) only [MG hL, pk_mul, nI_add, Option.bind_some, ite_some]
          refine ih (i + 1) _ ?_ (by omega) (by omega)
          split
          · exact Or.inl rfl
          · exact Or.inr rfl
        · rw [if_neg nI01]
          exact ⟨nI 1, rfl⟩
  unfold f_X10_isPathChanged
  simp (disch := omega) only [gd_77 hL, MG hL, e, Option.bind_some, ite_some]
  refine key FU 0 _ ?_ (Nat.zero_le _) (FU_gt (by omega))
  split
  · exact Or.inl rfl
  · exact Or.inr rfl
theorem M_take_any (hL : Lay h) (mn : MN v h) (vo : VOK v) (ms : ∀ k, k < 14 → ∃ l, l ≤ 13 ∧ hI h 84 k = nI l) (x : Int32) (K : Int32 → Option (Int32 × Hp)) : ∃ r, f_X10_takeMenu_L4 77 x h K FU (nI 0) (nI 0) = K r := by
  have h14 := vo.1
  have key : ∀ n k y, k ≤ vN v → vN v - k < n → ∃ r, f_X10_takeMenu_L4 77 x h K n y (nI k) = K r := by
    intro n
    induction n with
    | zero => intro k y h1 h2; omega
    | succ n ih =>
      intro k y h1 h2
      unfold f_X10_takeMenu_L4
      simp only [MG hL, mn.1, Option.bind_some]
      by_cases c : k = vN v
      · rw [if_pos (nI_le (by omega) (by omega))]
        exact ⟨y, rfl⟩
      · rw [if_neg (nI_ge (by omega) (by omega))]
        obtain ⟨l, hl, el⟩ := ms k (by omega)
        obtain ⟨z, hz⟩ := M_changed_any hL (show k < 14 by omega) hl el
        simp only [hz, Option.bind_some, ite_some, nI_add]
        exact ih (k + 1) _ (by omega) (by omega)
  exact key FU 0 _ (Nat.zero_le _) (FU_gt (by omega))
theorem M_take_eq (hL : Lay h) (mn : MN v h) (vo : VOK v) (ml : ML m (vN v) h) (ml' : MLn m' (vN v) h) (bd : MBd m (vN v)) (bd' : MBd m' (vN v)) (x : Int32) (K : Int32 → Option (Int32 × Hp)) : f_X10_takeMenu_L4 77 x h K FU (nI 0) (nI 0) = K (nI (cnt (fun k => ¬ smp m m' k) (vN v))) := by
  have h14 := vo.1
  refine lp_up (W := fun n i => f_X10_takeMenu_L4 77 x h K n (nI (cnt (fun k => ¬ smp m m' k) i)) (nI i)) (N := vN v) (fun n => ?_) (fun n i hi => ?_) FU 0 (Nat.zero_le _) (FU_gt (by omega))
  · show f_X10_takeMenu_L4 _ _ _ _ _ _ _ = _
    unfold f_X10_takeMenu_L4
    simp only [MG hL, mn.1, Option.bind_some, if_pos (nI_le (Nat.le_refl (vN v)) (show vN v < 2 ^ 31 by omega))]
  · show f_X10_takeMenu_L4 _ _ _ _ _ _ _ = f_X10_takeMenu_L4 _ _ _ _ _ _ _
    conv => lhs; unfold f_X10_takeMenu_L4
    simp only [MG hL, mn.1, Option.bind_some, if_neg (nI_ge hi (show vN v < 2 ^ 31 by omega)), M_changed hL ml ml' bd bd' h14 hi, ite_some, b2_bnd, nI_b2, nI_add]
    rfl
/-- the menu that was laid becomes the menu -/
theorem M_copy (hL : Lay h) (mn : MN v h) (vo : VOK v) (ml' : MLn m' (vN v) h) (bd' : MBd m' (vN v)) (x r : Int32) : ∃ g, f_X10_takeMenu_L36 77 x r (fun h13 => f_X10_takeMenu_L64 77 x r (fun h19 => (putI h19 10 77 12 x).bind fun h20 => (getI h20 10 77 15).bind fun x21 => (putI h20 10 77 15 (x21 + (nI 1))).bind fun h22 => some (r, h22)) FU (nI 0) h13) FU (nI 0) h = some (r, g) ∧ OnlyI (fun q => q = 77 ∨ q = 84 ∨ q = 85) h g ∧ (∀ j, j ≠ 12 → j ≠ 15 → hI g 77 j = hI h 77 j) ∧ hI g 77 12 = x ∧ hI g 77 15 = hI h 77 15 + nI 1 ∧ ML m' (vN v) g ∧ ∀ k, vN v ≤ k → hI g 84 k = hI h 84 k := by
  have h14 := vo.1
  have k1 : ∀ (K : Hp → Option (Int32 × Hp)) n k g, k ≤ vN v → vN v - k < n → OnlyI (fun q => q = 84) h g → (∀ j, j < k → hI g 84 j = hI h 96 j) → (∀ j, vN v ≤ j → hI g 84 j = hI h 84 j) → ∃ g', f_X10_takeMenu_L36 77 x r K n (nI k) g = K g' ∧ OnlyI (fun q => q = 84) h g' ∧ (∀ j, j < vN v → hI g' 84 j = hI h 96 j) ∧ ∀ j, vN v ≤ j → hI g' 84 j = hI h 84 j := by
    intro K n
    induction n with
    | zero => intro k g h1 h2; omega
    | succ n ih =>
      intro k g h1 h2 h3 h4 h5
      have hLg : Lay g := hL.ss h3.1
      have mng : MN v g := mn.fr (fun q a b => h3.2 q (by omega))
      unfold f_X10_takeMenu_L36
      simp only [MG hLg, mng.1, Option.bind_some]
      by_cases c : k = vN v
      · rw [if_pos (nI_le (by omega) (by omega))]
        exact ⟨g, rfl, h3, fun j hj => h4 j (by omega), h5⟩
      · rw [if_neg (nI_ge (by omega) (by omega))]
        simp (disch := omega) only [MG hLg, MP hLg, Option.bind_some, nI_add]
        refine ih (k + 1) _ (by omega) (by omega) (h3.put rfl) (fun j hj => ?_) (fun j hj => ?_)
        · rw [hI_setI_eq]
          by_cases e : j = k
          · rw [e, upd_same, h3.2 96 (by omega)]
          · rw [upd_ne _ _ e]; exact h4 j (by omega)
        · rw [hI_setI_eq, upd_ne _ _ (by omega)]; exact h5 j hj
  have k2 : ∀ (g0 : Hp) (K : Hp → Option (Int32 × Hp)), Lay g0 → ∀ n k g, k ≤ 196 → 196 - k < n → OnlyI (fun q => q = 85) g0 g → (∀ j, j < k → hI g 85 j = hI g0 97 j) → ∃ g', f_X10_takeMenu_L64 77 x r K n (nI k) g = K g' ∧ OnlyI (fun q => q = 85) g0 g' ∧ ∀ j, j < 196 → hI g' 85 j = hI g0 97 j := by
    intro g0 K hL0 n
    induction n with
    | zero => intro k g h1 h2; omega
    | succ n ih =>
      intro k g h1 h2 h3 h4
      have hLg : Lay g := hL0.ss h3.1
      unfold f_X10_takeMenu_L64
      by_cases c : k = 196
      · rw [if_pos (nI_le (by omega) (by omega))]
        subst c
        exact ⟨g, rfl, h3, h4⟩
      · rw [if_neg (nI_ge (by omega) (by omega))]
        simp (disch := omega) only [MG hLg, MP hLg, Option.bind_some, nI_add]
        refine ih (k + 1) _ (by omega) (by omega) (h3.put rfl) (fun j hj => ?_)
        rw [hI_setI_eq]
        by_cases e : j = k
        · rw [e, upd_same, h3.2 97 (by omega)]
        · rw [upd_ne _ _ e]; exact h4 j (by omega)
  obtain ⟨g1, q1, q2, q3, q4⟩ := k1 (fun h13 => f_X10_takeMenu_L64 77 x r (fun h19 => (putI h19 10 77 12 x).bind fun h20 => (getI h20 10 77 15).bind fun x21 => (putI h20 10 77 15 (x21 + (nI 1))).bind fun h22 => some (r, h22)) FU (nI 0) h13) FU 0 h (Nat.zero_le _) (FU_gt (by omega)) OnlyI.rf (fun j hj => by omega) (fun _ _ => rfl)
  have hL1 : Lay g1 := hL.ss q2.1
  obtain ⟨g2, r1, r2, r3⟩ := k2 g1 (fun h19 => (putI h19 10 77 12 x).bind fun h20 => (getI h20 10 77 15).bind fun x21 => (putI h20 10 77 15 (x21 + (nI 1))).bind fun h22 => some (r, h22)) hL1 FU 0 g1 (Nat.zero_le _) (FU_gt (by decide)) OnlyI.rf (fun j hj => by omega)
  have hL2 : Lay g2 := hL1.ss r2.1
  have hL3 : Lay (setI g2 77 12 x) := hL2.setI _ _ _
  have e77 : ∀ j, hI g2 77 j = hI h 77 j := fun j => by rw [r2.2 77 (by omega), q2.2 77 (by omega)]
  refine ⟨setI (setI g2 77 12 x) 77 15 (hI h 77 15 + nI 1), ?_, ?_, fun j h1 h2 => ?_, ?_, ?_, fun k hk => ?_, fun k hk => ?_⟩
  · rw [q1, r1]
    have e15 : hI (setI g2 77 12 x) 77 15 = hI h 77 15 := by rw [hI_setI_eq, upd_ne _ _ (by decide), e77]
    simp only [MG hL2, MP hL2, MG hL3, MP hL3, Option.bind_some, e15]
  · have o2 : OnlyI (fun q => q = 77 ∨ q = 84 ∨ q = 85) h g2 := (q2.mono (fun q z => Or.inr (Or.inl z))).tr (r2.mono (fun q z => Or.inr (Or.inr z)))
    exact (o2.put (Or.inl rfl)).put (Or.inl rfl)
  · rw [hI_setI_eq, upd_ne _ _ h2, hI_setI_eq, upd_ne _ _ h1, e77]
  · rw [hI_setI_eq, upd_ne _ _ (by decide), hI_setI_eq, upd_same]
  · rw [hI_setI_eq, upd_same]
  · obtain ⟨a1, a2⟩ := ml' k hk
    have bk := bd' k hk
    rw [hI_setI_ne _ _ _ (by decide), hI_setI_ne _ _ _ (by decide), hI_setI_ne _ _ _ (by decide), hI_setI_ne _ _ _ (by decide)]
    refine ⟨by rw [r2.2 84 (by omega), q3 k hk]; exact a1, fun i hi => ?_⟩
    rw [r3 _ (by omega), q2.2 97 (by omega)]
    exact a2 i hi
  · rw [hI_setI_ne _ _ _ (by decide), hI_setI_ne _ _ _ (by decide), r2.2 84 (by omega)]
    exact q4 k hk
end
