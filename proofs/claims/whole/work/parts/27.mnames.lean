/-! WHAT THE MODEL SAYS OF THE NAMES -/
section
variable {v : Vw} {h : Hp} {p : Sq}
theorem MV (mn : MN v h) : (∀ k, k < vN v → hI h 79 k = nI (vl v k)) ∧ (∀ k, k < vN v → hI h 81 k = nI (vu v k)) ∧ (∀ k i, k < vN v → i < vl v k → hI h 80 (8 * k + i) = nI (vt v k i)) := ⟨fun k hk => (mn.2 k hk).1, fun k hk => (mn.2 k hk).2.2, fun k i hk hi => (mn.2 k hk).2.1 i hi⟩
theorem M_code (hL : Lay h) (mn : MN v h) (mk : MK v h) (vo : VOK v) {k i : Nat} (hk : k < vN v) (hi : i < vl v k) : f_X10_codeAt 77 (nI k) (nI i) h = some (nI (vd v k i)) := by
  have hN := vo.1
  have hl := vo.2.1 k hk
  have ht := vo.2.2.1 k hk i hi
  unfold f_X10_codeAt
  simp (disch := omega) only [gd_77 hL, MG hL, pk_mul, nI_add, Option.bind_some, MV mn, pk_sub, mk (vt v k i - 97) (by omega)]
  rfl
theorem M_isName (hL : Lay h) (mn : MN v h) (vo : VOK v) {k : Nat} (hk : k < vN v) : f_X10_isName 77 (nI k) h = some (nI 1) := by
  have hN := vo.1
  unfold f_X10_isName
  simp only [gd_77 hL, MG hL, mn.1, p_within, Option.bind_some, rz_b2]
  rw [b2_t (w0_in hk (by omega))]
theorem M_isNameN (hL : Lay h) (mn : MN v h) (vo : VOK v) {x : Int32} (hx : x < nI 0 ∨ nI (vN v) ≤ x) : f_X10_isName 77 x h = some (nI 0) := by
  have hN := vo.1
  unfold f_X10_isName
  simp only [gd_77 hL, MG hL, mn.1, p_within, Option.bind_some, rz_b2]
  rw [b2_f (w0_out (by omega) hx)]
theorem M_begins (hL : Lay h) (mn : MN v h) (mk : MK v h) (vo : VOK v) {j d k : Nat} (hj : j < vN v) (hk : k < vN v) (hd : d ≤ vl v j) : f_X10_begins 77 (nI j) (nI d) (nI k) h = some (b2 (bg v j d k)) := by
  have hN := vo.1
  have hl := vo.2.1 k hk
  have hl2 := vo.2.1 j hj
  unfold f_X10_begins
  simp (disch := omega) only [gd_77 hL, MG hL, MV mn, Option.bind_some, nI_ltI, ite_some]
  have k0 : ∀ n x, f_X10_begins_L20 77 (nI j) (nI d) (nI k) h (fun y11 => (rz y11).bind fun r => some r) (n + 1) (nI 0) x = some (nI 0) := by
    intro n x
    unfold f_X10_begins_L20
    by_cases c : nI d ≤ x
    · rw [if_pos c]; rfl
    · rw [if_neg c, if_pos rfl]; rfl
  by_cases c : vl v k < d
  · rw [if_pos c, b2_f (fun z => by have := z.1; omega)]
    exact k0 255 _
  · rw [if_neg c]
    have q := lp_all0 (W := fun n i => f_X10_begins_L20 77 (nI j) (nI d) (nI k) h (fun y11 => (rz y11).bind fun r => some r) n (nI 1) (nI i)) (N := d) (P := fun i => vd v j i = vd v k i) (r1 := some (nI 1)) (r0 := some (nI 0)) (fun n => ?_) (fun n i hi hn => ?_) (n := FU) (FU_gt (by omega))
    · refine q.trans ?_
      rw [ite_some, b2_def]
      exact congrArg some (b2_of ⟨fun z => ⟨by omega, z⟩, fun z => z.2⟩)
    · show f_X10_begins_L20 _ _ _ _ _ _ _ _ _ = _
      unfold f_X10_begins_L20
      rw [if_pos (nI_le (Nat.le_refl d) (by omega))]
      rfl
    · have e1 : ¬ nI d ≤ nI i := nI_ge hi (by omega)
      have r1 := vd_rng vo hj (show i < vl v j by omega)
      have r2 := vd_rng vo hk (show i < vl v k by omega)
      constructor
      · intro a
        show f_X10_begins_L20 _ _ _ _ _ _ _ _ _ = f_X10_begins_L20 _ _ _ _ _ _ _ _ _
        conv => lhs; unfold f_X10_begins_L20
        simp only [if_neg e1, if_neg nI01, M_code hL mn mk vo hj (show i < vl v j by omega), M_code hL mn mk vo hk (show i < vl v k by omega), Option.bind_some, a, if_true, nI_add]
      · intro a
        show f_X10_begins_L20 _ _ _ _ _ _ _ _ _ = _
        obtain ⟨m, rfl⟩ : ∃ m, n = m + 1 := ⟨n - 1, by omega⟩
        unfold f_X10_begins_L20
        simp only [if_neg e1, if_neg nI01, M_code hL mn mk vo hj (show i < vl v j by omega), M_code hL mn mk vo hk (show i < vl v k by omega), Option.bind_some, nI_eq (show vd v j i < 2 ^ 31 by omega) (show vd v k i < 2 ^ 31 by omega), if_neg a, nI_add]
        exact k0 m _
theorem M_twin (hL : Lay h) (mn : MN v h) (mk : MK v h) (vo : VOK v) {j k : Nat} (hj : j < vN v) (hk : k < vN v) : f_X10_isTwin 77 (nI j) (nI k) h = some (b2 (tw v j k)) := by
  have hN := vo.1
  have hl := vo.2.1 k hk
  have hl2 := vo.2.1 j hj
  unfold f_X10_isTwin
  simp (disch := omega) only [gd_77 hL, MG hL, MV mn, Option.bind_some, M_begins hL mn mk vo hj hk (Nat.le_refl _), ite_some, b2_bnd, nI_eq, b2_and, b2_nor, rz_b2]
  exact congrArg some (b2_of ⟨fun z => ⟨z.1, z.2.1, z.2.2.2⟩, fun z => ⟨z.1, z.2.1, by have := z.2.1; omega, z.2.2⟩⟩)
theorem M_twins (hL : Lay h) (mn : MN v h) (mk : MK v h) (vo : VOK v) {k : Nat} (hk : k < vN v) : f_X10_twins 77 (nI k) h = some (nI (cnt (tw v k) (vN v))) := by
  have hN := vo.1
  unfold f_X10_twins
  rw [gd_77 hL]
  refine lp_up (W := fun n i => f_X10_twins_L4 77 (nI k) h (fun y8 => some y8) n (nI (cnt (tw v k) i)) (nI i)) (N := vN v) (fun n => ?_) (fun n i hi => ?_) FU 0 (Nat.zero_le _) (FU_gt (by omega))
  · show f_X10_twins_L4 _ _ _ _ _ _ _ = _
    unfold f_X10_twins_L4
    simp only [MG hL, mn.1, Option.bind_some, if_pos (nI_le (Nat.le_refl (vN v)) (show vN v < 2 ^ 31 by omega))]
  · show f_X10_twins_L4 _ _ _ _ _ _ _ = f_X10_twins_L4 _ _ _ _ _ _ _
    conv => lhs; unfold f_X10_twins_L4
    simp only [MG hL, mn.1, Option.bind_some, if_neg (nI_ge hi (show vN v < 2 ^ 31 by omega)), M_twin hL mn mk vo hk hi, ite_some, b2_bnd, nI_b2, nI_add]
    rfl
theorem M_tel (hL : Lay h) (mn : MN v h) (mk : MK v h) (vo : VOK v) {k : Nat} (hk : k < vN v) : f_X10_telling 77 (nI k) h = some (tel v k) := by
  have hN := vo.1
  have hl := vo.2.1 k hk
  have h1 := dl_le v vo k (vN v) (Nat.le_refl _)
  have hd : ∀ d, d ≤ vl v k → ((∀ j, j < vN v → j = k ∨ ¬ bg v k d j) ↔ dl v k ≤ d) := by
    intro d hd
    unfold dl
    rw [fmax_le]
    refine ⟨fun z j hj => ?_, fun z j hj => ?_⟩
    · show (if j = k then 0 else sd v j k + 1) ≤ d
      split
      · omega
      · next c =>
        by_cases c2 : d ≤ sd v j k
        · have c3 := (sd_iff v j k d).mp c2
          exact absurd ⟨c3.1, fun x hx => (c3.2.2 x hx).symm⟩ ((z j hj).resolve_left c)
        · omega
    · have q : (if j = k then 0 else sd v j k + 1) ≤ d := z j hj
      by_cases c : j = k
      · exact Or.inl c
      · rw [if_neg c] at q
        refine Or.inr (fun w => ?_)
        have := (sd_iff v j k d).mpr ⟨w.1, hd, fun x hx => (w.2 x hx).symm⟩
        omega
  have inner : ∀ (d : Nat) (K : Int32 → Option Int32), d ≤ vl v k → f_X10_telling_L17 77 (nI k) (nI d) h K FU (nI 1) (nI 0) = K (b2 (dl v k ≤ d)) := by
    intro d K hdl
    have q := lp_up (W := fun n i => f_X10_telling_L17 77 (nI k) (nI d) h K n (b2 (∀ j, j < i → j = k ∨ ¬ bg v k d j)) (nI i)) (N := vN v) (r := K (b2 (dl v k ≤ d))) (fun n => ?_) (fun n i hi => ?_) FU 0 (Nat.zero_le _) (FU_gt (by omega))
    · refine Eq.trans ?_ q
      show f_X10_telling_L17 _ _ _ _ _ _ _ _ = f_X10_telling_L17 _ _ _ _ _ _ _ _
      rw [b2_t]
      intro j hj
      omega
    · show f_X10_telling_L17 _ _ _ _ _ _ _ _ = _
      unfold f_X10_telling_L17
      simp only [MG hL, mn.1, Option.bind_some, if_pos (nI_le (Nat.le_refl (vN v)) (show vN v < 2 ^ 31 by omega))]
      exact congrArg K (b2_of (hd d hdl))
    · show f_X10_telling_L17 _ _ _ _ _ _ _ _ = f_X10_telling_L17 _ _ _ _ _ _ _ _
      conv => lhs; unfold f_X10_telling_L17
      simp only [MG hL, mn.1, Option.bind_some, if_neg (nI_ge hi (show vN v < 2 ^ 31 by omega)), M_begins hL mn mk vo hk hi hdl, ite_some, b2_bnd', nI_add, nI_eq (show i < 2 ^ 31 by omega) (show k < 2 ^ 31 by omega), b2_or, b2_ball]
  unfold f_X10_telling
  rw [gd_77 hL]
  have key : ∀ n d, d ≤ vl v k + 1 → d ≤ dl v k → vl v k + 1 - d < n → f_X10_telling_L2 77 (nI k) h (some m1) n (nI d) = some (tel v k) := by
    intro n
    induction n with
    | zero => intro d a b c; omega
    | succ n ih =>
      intro d a b c
      unfold f_X10_telling_L2
      simp (disch := omega) only [MG hL, MV mn, Option.bind_some, nI_ltI]
      by_cases c1 : vl v k < d
      · rw [if_pos c1]
        unfold tel
        rw [if_neg (by omega)]
      · rw [if_neg c1, inner d _ (by omega)]
        simp only [b2_eq0]
        by_cases c2 : dl v k ≤ d
        · rw [if_neg (fun z => z c2)]
          unfold tel
          rw [if_pos (by omega), show dl v k = d by omega]
        · rw [if_pos c2, nI_add]
          exact ih (d + 1) (by omega) (by omega) (by omega)
  exact key FU 0 (by omega) (by omega) (FU_gt (by omega))
theorem M_ahead (hL : Lay h) (mn : MN v h) (vo : VOK v) {j k : Nat} (hj : j < vN v) (hk : k < vN v) : f_X10_isAhead 77 (nI j) (nI k) h = some (b2 (ah v j k)) := by
  have hN := vo.1
  have u1 := vo.2.2.2.1 k hk
  have u2 := vo.2.2.2.1 j hj
  unfold f_X10_isAhead
  simp (disch := omega) only [gd_77 hL, MG hL, MV mn, Option.bind_some, ite_some, b2_def', b2_and, b2_or, rz_b2]
  rw [b2_of (d := ah v j k)]
  rw [nI_ltI (by omega) (by omega), nI_eq (by omega) (by omega), nI_leI (by omega) (by omega)]
  unfold ah
  omega
theorem M_placeIn (hL : Lay h) (mn : MN v h) (mk : MK v h) (vo : VOK v) {k d : Nat} (hk : k < vN v) (hd : d ≤ vl v k) : f_X10_placeIn 77 (nI k) (nI d) h = some (nI (pl v k d)) := by
  have hN := vo.1
  unfold f_X10_placeIn
  rw [gd_77 hL]
  refine lp_up (W := fun n i => f_X10_placeIn_L5 77 (nI k) (nI d) h (fun y8 => some y8) n (nI (cnt (fun j => bg v k d j ∧ ah v j k) i)) (nI i)) (N := vN v) (fun n => ?_) (fun n i hi => ?_) FU 0 (Nat.zero_le _) (FU_gt (by omega))
  · show f_X10_placeIn_L5 _ _ _ _ _ _ _ _ = _
    unfold f_X10_placeIn_L5
    simp only [MG hL, mn.1, Option.bind_some, if_pos (nI_le (Nat.le_refl (vN v)) (show vN v < 2 ^ 31 by omega))]
    rfl
  · show f_X10_placeIn_L5 _ _ _ _ _ _ _ _ = f_X10_placeIn_L5 _ _ _ _ _ _ _ _
    conv => lhs; unfold f_X10_placeIn_L5
    simp only [MG hL, mn.1, Option.bind_some, if_neg (nI_ge hi (show vN v < 2 ^ 31 by omega)), M_begins hL mn mk vo hk hi hd, M_ahead hL mn vo hi hk, ite_some, b2_bnd, nI_add]
    rw [show (if b2 (bg v k d i) = nI 0 then nI 0 else b2 (ah v i k)) = b2 (bg v k d i ∧ ah v i k) from by simp only [b2_eq0, b2_nor, Classical.not_not], nI_b2]
    rfl
theorem M_presses (hL : Lay h) (mn : MN v h) (mk : MK v h) (vo : VOK v) {k : Nat} (hk : k < vN v) : f_X10_presses 77 (nI k) h = some (nI (prs v k (vl v k))) := by
  have hN := vo.1
  have hl := vo.2.1 k hk
  unfold f_X10_presses
  rw [gd_77 hL]
  refine lp_up (W := fun n i => f_X10_presses_L5 77 (nI k) h (fun y8 => some y8) n (if i = 0 then nI 268435456 else nI (prs v k (i - 1))) (nI i)) (N := vl v k + 1) (fun n => ?_) (fun n i hi => ?_) FU 0 (Nat.zero_le _) (FU_gt (by omega))
  · show f_X10_presses_L5 _ _ _ _ _ _ _ = _
    unfold f_X10_presses_L5
    simp (disch := omega) only [MG hL, MV mn, Option.bind_some, if_pos (nI_lt (show vl v k < vl v k + 1 by omega) (by omega))]
    rw [if_neg (by omega)]
    rfl
  · show f_X10_presses_L5 _ _ _ _ _ _ _ = f_X10_presses_L5 _ _ _ _ _ _ _
    have h1 := prs_le v k (i - 1)
    have h2 := pl_le v k i
    conv => lhs; unfold f_X10_presses_L5
    simp (disch := omega) only [MG hL, MV mn, Option.bind_some, if_neg (nI_nlt (show i ≤ vl v k by omega) (by omega)), M_placeIn hL mn mk vo hk (show i ≤ vl v k by omega), nI_add, ite_some]
    congr 1
    rw [if_neg (show ¬ i + 1 = 0 by omega), show i + 1 - 1 = i by omega]
    cases i with
    | zero =>
      simp (disch := omega) only [if_true, nI_leI]
      rw [if_neg (by omega), Nat.zero_add]
      rfl
    | succ i =>
      have h3 := prs_le v k i
      simp (disch := omega) only [if_neg (show ¬ i + 1 = 0 by omega), show i + 1 - 1 = i by omega, nI_leI]
      show _ = nI (min (prs v k i) (i + 1 + pl v k (i + 1) + 1))
      split
      · rw [Nat.min_eq_left (by omega)]
      · rw [Nat.min_eq_right (by omega)]
theorem M_withTwins (hL : Lay h) (mn : MN v h) (mk : MK v h) (vo : VOK v) : f_X10_withTwins 77 h = some (nI (cnt (fun k => 0 < cnt (tw v k) (vN v)) (vN v))) := by
  have hN := vo.1
  unfold f_X10_withTwins
  rw [gd_77 hL]
  refine lp_up (W := fun n i => f_X10_withTwins_L4 77 h (fun y8 => some y8) n (nI (cnt (fun k => 0 < cnt (tw v k) (vN v)) i)) (nI i)) (N := vN v) (fun n => ?_) (fun n i hi => ?_) FU 0 (Nat.zero_le _) (FU_gt (by omega))
  · show f_X10_withTwins_L4 _ _ _ _ _ _ = _
    unfold f_X10_withTwins_L4
    simp only [MG hL, mn.1, Option.bind_some, if_pos (nI_le (Nat.le_refl (vN v)) (show vN v < 2 ^ 31 by omega))]
  · show f_X10_withTwins_L4 _ _ _ _ _ _ = f_X10_withTwins_L4 _ _ _ _ _ _
    have hc := cnt_le (tw v i) (vN v)
    conv => lhs; unfold f_X10_withTwins_L4
    simp only [MG hL, mn.1, Option.bind_some, if_neg (nI_ge hi (show vN v < 2 ^ 31 by omega)), M_twins hL mn mk vo hi, nI_leI (show cnt (tw v i) (vN v) < 2 ^ 31 by omega) (show 0 < 2 ^ 31 by omega), nI_add, ite_some]
    congr 1
    rw [cnt_succ]
    by_cases c : 0 < cnt (tw v i) (vN v)
    · rw [if_neg (by omega), if_pos c, nI_add]
    · rw [if_pos (by omega), if_neg c, nI_add]
theorem M_codes (hL : Lay h) (mn : MN v h) (mk : MK v h) (vo : VOK v) : f_X10_codesMany 77 h = some (nI (cnt (fun k => cnt (tw v k) k = 0) (vN v))) := by
  have hN := vo.1
  unfold f_X10_codesMany
  rw [gd_77 hL]
  have inner : ∀ (x : Int32) (k : Nat) (K : Int32 → Option Int32), k < vN v → f_X10_codesMany_L17 77 x (nI k) h K FU (nI 1) (nI 0) = K (b2 (cnt (tw v k) k = 0)) := by
    intro x k K hk
    have q := lp_up (W := fun n i => f_X10_codesMany_L17 77 x (nI k) h K n (b2 (∀ j, j < i → ¬ tw v k j)) (nI i)) (N := k) (r := K (b2 (cnt (tw v k) k = 0))) (fun n => ?_) (fun n i hi => ?_) FU 0 (Nat.zero_le _) (FU_gt (by omega))
    · refine Eq.trans ?_ q
      show f_X10_codesMany_L17 _ _ _ _ _ _ _ _ = f_X10_codesMany_L17 _ _ _ _ _ _ _ _
      rw [b2_t]
      intro j hj
      omega
    · show f_X10_codesMany_L17 _ _ _ _ _ _ _ _ = _
      unfold f_X10_codesMany_L17
      simp only [if_pos (nI_le (Nat.le_refl k) (show k < 2 ^ 31 by omega))]
      refine congrArg K (b2_of ⟨fun z => ?_, fun z j hj w => ?_⟩)
      · by_cases c : 0 < cnt (tw v k) k
        · obtain ⟨j, a, b⟩ := cnt_pos.mp c
          exact absurd b (z j a)
        · omega
      · have := cnt_pos.mpr ⟨j, hj, w⟩
        omega
    · show f_X10_codesMany_L17 _ _ _ _ _ _ _ _ = f_X10_codesMany_L17 _ _ _ _ _ _ _ _
      conv => lhs; unfold f_X10_codesMany_L17
      simp only [Option.bind_some, if_neg (nI_ge hi (show k < 2 ^ 31 by omega)), M_twin hL mn mk vo hk (show i < vN v by omega), ite_some, b2_bnd', nI_add, b2_ball]
  refine lp_up (W := fun n i => f_X10_codesMany_L4 77 h (fun y8 => some y8) n (nI (cnt (fun k => cnt (tw v k) k = 0) i)) (nI i)) (N := vN v) (fun n => ?_) (fun n i hi => ?_) FU 0 (Nat.zero_le _) (FU_gt (by omega))
  · show f_X10_codesMany_L4 _ _ _ _ _ _ = _
    unfold f_X10_codesMany_L4
    simp only [MG hL, mn.1, Option.bind_some, if_pos (nI_le (Nat.le_refl (vN v)) (show vN v < 2 ^ 31 by omega))]
  · show f_X10_codesMany_L4 _ _ _ _ _ _ = f_X10_codesMany_L4 _ _ _ _ _ _
    conv => lhs; unfold f_X10_codesMany_L4
    simp only [MG hL, mn.1, Option.bind_some, if_neg (nI_ge hi (show vN v < 2 ^ 31 by omega)), inner _ i _ hi, ite_some, b2_bnd, nI_b2, nI_add]
    rfl
theorem M_most (hL : Lay h) (mn : MN v h) (mk : MK v h) (vo : VOK v) : f_X10_mostTelling 77 h = some (ftel v (vN v)) := by
  have hN := vo.1
  unfold f_X10_mostTelling
  rw [gd_77 hL]
  refine lp_up (W := fun n i => f_X10_mostTelling_L4 77 h (fun y8 => some y8) n (ftel v i) (nI i)) (N := vN v) (fun n => ?_) (fun n i hi => ?_) FU 0 (Nat.zero_le _) (FU_gt (by omega))
  · show f_X10_mostTelling_L4 _ _ _ _ _ _ = _
    unfold f_X10_mostTelling_L4
    simp only [MG hL, mn.1, Option.bind_some, if_pos (nI_le (Nat.le_refl (vN v)) (show vN v < 2 ^ 31 by omega))]
  · show f_X10_mostTelling_L4 _ _ _ _ _ _ = f_X10_mostTelling_L4 _ _ _ _ _ _
    conv => lhs; unfold f_X10_mostTelling_L4
    simp only [MG hL, mn.1, Option.bind_some, if_neg (nI_ge hi (show vN v < 2 ^ 31 by omega)), M_tel hL mn mk vo hi, ite_some, nI_add]
    congr 1
    show _ = imx (ftel v i) (tel v i)
    unfold imx
    by_cases c : tel v i ≤ ftel v i
    · rw [if_pos c, if_neg (by rw [← Int32.not_le]; exact fun z => z c)]
    · rw [if_neg c, if_pos (Int32.not_le.mp c)]
theorem M_sumP (hL : Lay h) (mn : MN v h) (mk : MK v h) (vo : VOK v) : f_X10_pressesAll 77 h = some (nI (fsum (fun k => vu v k * prs v k (vl v k)) (vN v))) := by
  have hN := vo.1
  unfold f_X10_pressesAll
  rw [gd_77 hL]
  refine lp_up (W := fun n i => f_X10_pressesAll_L4 77 h (fun y8 => some y8) n (nI (fsum (fun k => vu v k * prs v k (vl v k)) i)) (nI i)) (N := vN v) (fun n => ?_) (fun n i hi => ?_) FU 0 (Nat.zero_le _) (FU_gt (by omega))
  · show f_X10_pressesAll_L4 _ _ _ _ _ _ = _
    unfold f_X10_pressesAll_L4
    simp only [MG hL, mn.1, Option.bind_some, if_pos (nI_le (Nat.le_refl (vN v)) (show vN v < 2 ^ 31 by omega))]
  · show f_X10_pressesAll_L4 _ _ _ _ _ _ = f_X10_pressesAll_L4 _ _ _ _ _ _
    conv => lhs; unfold f_X10_pressesAll_L4
    simp (disch := omega) only [MG hL, mn.1, Option.bind_some, if_neg (nI_ge hi (show vN v < 2 ^ 31 by omega)), MV mn, M_presses hL mn mk vo hi, pk_mul, nI_add]
    rfl
theorem M_sumF (hL : Lay h) (mn : MN v h) (vo : VOK v) : f_X10_usesAll 77 h = some (nI (fsum (vu v) (vN v))) := by
  have hN := vo.1
  unfold f_X10_usesAll
  rw [gd_77 hL]
  refine lp_up (W := fun n i => f_X10_usesAll_L4 77 h (fun y8 => some y8) n (nI (fsum (vu v) i)) (nI i)) (N := vN v) (fun n => ?_) (fun n i hi => ?_) FU 0 (Nat.zero_le _) (FU_gt (by omega))
  · show f_X10_usesAll_L4 _ _ _ _ _ _ = _
    unfold f_X10_usesAll_L4
    simp only [MG hL, mn.1, Option.bind_some, if_pos (nI_le (Nat.le_refl (vN v)) (show vN v < 2 ^ 31 by omega))]
  · show f_X10_usesAll_L4 _ _ _ _ _ _ = f_X10_usesAll_L4 _ _ _ _ _ _
    conv => lhs; unfold f_X10_usesAll_L4
    simp (disch := omega) only [MG hL, mn.1, Option.bind_some, if_neg (nI_ge hi (show vN v < 2 ^ 31 by omega)), MV mn, nI_add]
    rfl
theorem M_sumL (hL : Lay h) (mn : MN v h) (vo : VOK v) : f_X10_digitsAll 77 h = some (nI (fsum (fun k => vu v k * vl v k) (vN v))) := by
  have hN := vo.1
  unfold f_X10_digitsAll
  rw [gd_77 hL]
  refine lp_up (W := fun n i => f_X10_digitsAll_L4 77 h (fun y8 => some y8) n (nI (fsum (fun k => vu v k * vl v k) i)) (nI i)) (N := vN v) (fun n => ?_) (fun n i hi => ?_) FU 0 (Nat.zero_le _) (FU_gt (by omega))
  · show f_X10_digitsAll_L4 _ _ _ _ _ _ = _
    unfold f_X10_digitsAll_L4
    simp only [MG hL, mn.1, Option.bind_some, if_pos (nI_le (Nat.le_refl (vN v)) (show vN v < 2 ^ 31 by omega))]
  · show f_X10_digitsAll_L4 _ _ _ _ _ _ = f_X10_digitsAll_L4 _ _ _ _ _ _
    conv => lhs; unfold f_X10_digitsAll_L4
    simp (disch := omega) only [MG hL, mn.1, Option.bind_some, if_neg (nI_ge hi (show vN v < 2 ^ 31 by omega)), MV mn, pk_mul, nI_add]
    rfl
end
