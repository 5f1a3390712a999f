theorem MN.fr {v : Vw} {h g : Hp} (mn : MN v h) (e : ∀ q, 77 ≤ q → q ≤ 81 → hI g q = hI h q) : MN v g := by unfold MN at *; rw [e 77 (by omega) (by omega), e 79 (by omega) (by omega), e 80 (by omega) (by omega), e 81 (by omega) (by omega)]; exact mn
def lsF (u : Nat → Nat) (b f s i : Nat) : Nat := if i = 0 then 268435456 else vlF u b (amF (fun m => vlF u b m f s) 2 (i - 1)) f s
section
variable {v : Vw} {b : Nat} {h : Hp}
theorem vlF_le {u : Nat → Nat} {N m f s : Nat} (hu : ∀ k, k < N → u k ≤ 99) (hb : 2 ≤ b) (hN : N ≤ 14) (h1 : 1 ≤ m) (hfs : f + s ≤ N) : vlF u b m f s ≤ 268435456 := by
  unfold vlF
  split
  · next c => have := TT_far hu hb (m := m) (f := f) (s := s) (by omega) h1 c hfs; omega
  · exact Nat.le_refl _
theorem M_stretch (hL : Lay h) (mn : MN v h) (vo : VOK v) (hb : 2 ≤ b) (hb4 : b ≤ 4) {f s : Nat} (hs1 : 1 ≤ s) (hfs : f + s ≤ vN v) {D : Nat → Nat → Prop} (hD : ∀ f' s', s' < s → D f' s') (hD2 : ∀ f' s', D f' s' → ¬ (f' = f ∧ s' = s)) (pc : MPC (vu v) b (vN v) D h) :
    ∃ g, f_X10_layStretch 77 (nI b) (nI f) (nI (f + s)) h = some g ∧ KM f s h g ∧ hI g 94 (15 * f + (f + s)) = nI (TT (vu v) b 1 f s) ∧ ∀ m, 1 ≤ m → m ≤ b → hI g 95 (225 * m + 15 * f + (f + s)) = nI (vlF (vu v) b m f s) := by
  have h14 := vo.1
  have hu : ∀ k, k < vN v → vu v k ≤ 99 := fun k hk => (vo.2.2.2.1 k hk).2
  have key : ∀ (K : Int32 → Hp → Option Hp) (fu i : Nat) (g : Hp), i ≤ b - 1 → b - 1 - i < fu → KM f s h g → (∀ m, 2 ≤ m → m ≤ i + 1 → hI g 95 (225 * m + 15 * f + (f + s)) = nI (vlF (vu v) b m f s)) →
      ∃ g', f_X10_layStretch_L7 77 (nI b) (nI f) (nI (f + s)) K fu (nI (lsF (vu v) b f s i)) (nI (i + 2)) g = K (nI (lsF (vu v) b f s (b - 1))) g' ∧ KM f s h g' ∧ (∀ m, 2 ≤ m → m ≤ b → hI g' 95 (225 * m + 15 * f + (f + s)) = nI (vlF (vu v) b m f s)) := by
    intro K fu
    induction fu with
    | zero => intro i g p1 p2; omega
    | succ fu ih =>
      intro i g p1 p2 p3 p4
      have hLg : Lay g := hL.ss p3.1.1
      unfold f_X10_layStretch_L7
      by_cases c0 : i = b - 1
      · subst c0
        rw [if_pos (nI_lt (by omega) (by omega))]
        exact ⟨g, rfl, p3, fun m h1 h2 => p4 m h1 (by omega)⟩
      · have v1 := vlF_le hu hb h14 (show 1 ≤ i + 2 by omega) hfs
        rw [if_neg (nI_nlt (by omega) (by omega)), M_bestParts hLg hu hb hb4 h14 (m := i + 2) (by omega) (by omega) hs1 hfs hD (pc.fr hb4 h14 hfs p3 hD2)]
        simp (disch := omega) only [MG hLg, MP hLg, pk_mul, nI_add, Option.bind_some, ite_some]
        have el : (if nI (lsF (vu v) b f s i) ≤ nI (vlF (vu v) b (i + 2) f s) then nI (lsF (vu v) b f s i) else nI (vlF (vu v) b (i + 2) f s)) = nI (lsF (vu v) b f s (i + 1)) := by
          have e1 : lsF (vu v) b f s (i + 1) = vlF (vu v) b (amF (fun m => vlF (vu v) b m f s) 2 i) f s := by unfold lsF; rw [if_neg (by omega), Nat.add_sub_cancel]
          rw [e1]
          by_cases ci : i = 0
          · subst ci
            have e0 : lsF (vu v) b f s 0 = 268435456 := by unfold lsF; rw [if_pos rfl]
            rw [e0]
            by_cases z : vlF (vu v) b (0 + 2) f s = 268435456
            · rw [z, if_pos (nI_le (Nat.le_refl _) (by decide))]
              exact congrArg nI (Eq.symm z)
            · rw [if_neg (nI_ge (by omega) (by decide))]
              rfl
          · have e0 : lsF (vu v) b f s i = vlF (vu v) b (amF (fun m => vlF (vu v) b m f s) 2 (i - 1)) f s := by unfold lsF; rw [if_neg ci]
            have r := amF_rng (fun m => vlF (vu v) b m f s) 2 (i - 1)
            have v2 := vlF_le hu hb h14 (m := amF (fun m => vlF (vu v) b m f s) 2 (i - 1)) (by omega) hfs
            have e : amF (fun m => vlF (vu v) b m f s) 2 i = if vlF (vu v) b (i + 2) f s < vlF (vu v) b (amF (fun m => vlF (vu v) b m f s) 2 (i - 1)) f s then i + 2 else amF (fun m => vlF (vu v) b m f s) 2 (i - 1) := by
              obtain ⟨j, rfl⟩ : ∃ j, i = j + 1 := ⟨i - 1, by omega⟩
              rw [amF_succ, Nat.add_sub_cancel, show 2 + (j + 1) = j + 1 + 2 by omega]
            rw [e0, e]
            simp (disch := omega) only [nI_leI]
            by_cases c2 : vlF (vu v) b (i + 2) f s < vlF (vu v) b (amF (fun m => vlF (vu v) b m f s) 2 (i - 1)) f s
            · rw [if_pos c2, if_neg (by omega)]
            · rw [if_neg c2, if_pos (by omega)]
        rw [el]
        refine ih (i + 1) _ (by omega) (by omega) (p3.tr (KM.set5 (by omega))) (fun m h1 h2 => ?_)
        rw [hI_setI_eq]
        by_cases e : m = i + 2
        · rw [e, upd_same]
        · rw [upd_ne _ _ (by omega)]; exact p4 m h1 (by omega)
  unfold f_X10_layStretch
  rw [gd_77 hL]
  have kk := fun K => key K FU 0 h (Nat.zero_le _) (FU_gt (by omega)) KM.rf (fun m h1 h2 => by omega)
  have el0 : lsF (vu v) b f s 0 = 268435456 := by unfold lsF; rw [if_pos rfl]
  simp only [el0] at kk
  obtain ⟨g, q1, q2, q3⟩ := kk (fun y7 h8 => (getR h8 10 77 26).bind fun x9 => (if (nI (f + s) - nI f) = (nI 1) then (some (nI 0)) else ((f_X10_usesOf 77 (nI f) (nI (f + s)) h8).bind fun x11 => some (y7 + x11))).bind fun (v10 : Int32) => (ast h8 x9 (((nI 15) * nI f) + nI (f + s)) v10).bind fun h13 => (getR h13 10 77 27).bind fun x14 => (f_X10_costAt 77 (nI f) (nI (f + s)) h13).bind fun x15 => (ast h13 x14 (((nI 225) + ((nI 15) * nI f)) + nI (f + s)) x15).bind fun h16 => some h16)
  rw [q1]
  clear q1 kk key
  have hLg : Lay g := hL.ss q2.1.1
  have mng : MN v g := mn.fr (fun q x y => q2.1.2 q (by omega))
  have hval : (if (nI (f + s) - nI f) = (nI 1) then (some (nI 0)) else ((f_X10_usesOf 77 (nI f) (nI (f + s)) g).bind fun x11 => some (nI (lsF (vu v) b f s (b - 1)) + x11))) = some (nI (TT (vu v) b 1 f s)) := by
    rw [pk_sub (by omega), show f + s - f = s by omega]
    by_cases c : s = 1
    · subst c
      rw [if_pos rfl, TT_one]
    · rw [if_neg (by rw [nI_eq (by omega) (by omega)]; exact c), M_usesOf hLg mng vo hfs]
      simp only [Option.bind_some, nI_add]
      have e1 : lsF (vu v) b f s (b - 1) = TT (vu v) b (BB (vu v) b f s) f s := by
        unfold lsF
        rw [if_neg (by omega), show b - 1 - 1 = b - 2 by omega, amF_far hu hb h14 (by omega) hfs]
        have rB := BB_rng (u := vu v) (b := b) (f := f) hb (show 2 ≤ s by omega)
        unfold vlF
        rw [if_pos rB.2.2]
      rw [e1, TT_w hb (by omega) (by omega)]
  have hL1 : Lay (setI g 94 (15 * f + (f + s)) (nI (TT (vu v) b 1 f s))) := hLg.setI _ _ _
  have c1 := M_costAt hL1 (f := f) (s := s) (by omega) hs1
  rw [hI_setI_eq, upd_same] at c1
  refine ⟨setI (setI g 94 (15 * f + (f + s)) (nI (TT (vu v) b 1 f s))) 95 (225 * 1 + 15 * f + (f + s)) (nI (TT (vu v) b 1 f s)), ?_, (q2.tr KM.set4).tr (KM.set5 (by omega)), ?_, fun m h1 h2 => ?_⟩
  · simp only [MG hLg, Option.bind_some, hval]
    simp (disch := omega) only [MG hLg, MP hLg, MG hL1, MP hL1, pk_mul, nI_add, Option.bind_some, c1]
  · rw [hI_setI_ne _ _ _ (by decide), hI_setI_eq, upd_same]
  · rw [hI_setI_eq]
    by_cases e : m = 1
    · subst e
      rw [upd_same]
      unfold vlF
      rw [if_pos hs1]
    · rw [upd_ne _ _ (by omega), hI_setI_ne _ _ _ (by decide)]
      exact q3 m (by omega) h2
theorem M_costs (hL : Lay h) (mn : MN v h) (vo : VOK v) (hb : 2 ≤ b) (hb4 : b ≤ 4) : ∃ g, f_X10_layCosts 77 (nI b) h = some g ∧ OnlyI (fun q => q = 94 ∨ q = 95) h g ∧ MPC (vu v) b (vN v) (fun _ _ => True) g := by
  have h14 := vo.1
  have inner : ∀ (K : Hp → Option Hp) s, 1 ≤ s → s ≤ vN v → ∀ fu f g, f + s ≤ vN v + 1 → vN v + 1 - s - f < fu → OnlyI (fun q => q = 94 ∨ q = 95) h g → MPC (vu v) b (vN v) (dn_ s f) g → ∃ g', f_X10_layCosts_L12 77 (nI b) (nI s) K fu (nI f) g = K g' ∧ OnlyI (fun q => q = 94 ∨ q = 95) h g' ∧ MPC (vu v) b (vN v) (dn_ (s + 1) 0) g' := by
    intro K s hs1 hs2 fu
    induction fu with
    | zero => intro f g p1 p2; omega
    | succ fu ih =>
      intro f g p1 p2 p3 p4
      have hLg : Lay g := hL.ss p3.1
      have mng : MN v g := mn.fr (fun q x y => p3.2 q (by omega))
      unfold f_X10_layCosts_L12
      simp only [MG hLg, mng.1, Option.bind_some, nI_add]
      by_cases c : f + s = vN v + 1
      · rw [if_pos (nI_lt (by omega) (by omega))]
        refine ⟨g, rfl, p3, fun f' s' d h1 h2 => p4 f' s' ?_ h1 h2⟩
        unfold dn_ at *
        omega
      · rw [if_neg (nI_nlt (by omega) (by omega))]
        obtain ⟨g1, q1, q2, q3, q4⟩ := M_stretch hLg mng vo hb hb4 hs1 (show f + s ≤ vN v by omega) (D := dn_ s f) (fun f' s' z => by unfold dn_; omega) (fun f' s' d z => by unfold dn_ at d; omega) p4
        simp only [q1, Option.bind_some]
        have p4' := p4.fr hb4 h14 (show f + s ≤ vN v by omega) q2 (fun f' s' d z => by unfold dn_ at d; omega)
        refine ih (f + 1) g1 (by omega) (by omega) (p3.tr q2.1) (fun f' s' d h1 h2 => ?_)
        by_cases e : f' = f ∧ s' = s
        · obtain ⟨rfl, rfl⟩ := e
          exact ⟨q3, q4⟩
        · exact p4' f' s' (by unfold dn_ at *; omega) h1 h2
  have outer : ∀ fu s g, 1 ≤ s → s ≤ vN v + 1 → vN v + 1 - s < fu → OnlyI (fun q => q = 94 ∨ q = 95) h g → MPC (vu v) b (vN v) (dn_ s 0) g → ∃ g', f_X10_layCosts_L2 77 (nI b) (fun h7 => some h7) fu (nI s) g = some g' ∧ OnlyI (fun q => q = 94 ∨ q = 95) h g' ∧ MPC (vu v) b (vN v) (fun _ _ => True) g' := by
    intro fu
    induction fu with
    | zero => intro s g p0 p1 p2; omega
    | succ fu ih =>
      intro s g p0 p1 p2 p3 p4
      have hLg : Lay g := hL.ss p3.1
      have mng : MN v g := mn.fr (fun q x y => p3.2 q (by omega))
      unfold f_X10_layCosts_L2
      simp only [MG hLg, mng.1, Option.bind_some]
      by_cases c : s = vN v + 1
      · rw [if_pos (nI_lt (by omega) (by omega))]
        exact ⟨g, rfl, p3, fun f' s' _ h1 h2 => p4 f' s' (by unfold dn_; omega) h1 h2⟩
      · rw [if_neg (nI_nlt (by omega) (by omega))]
        obtain ⟨g1, q1, q2, q3⟩ := inner (fun h11 => f_X10_layCosts_L2 77 (nI b) (fun h7 => some h7) fu (nI s + (nI 1)) h11) s p0 (by omega) FU 0 g (by omega) (FU_gt (by omega)) p3 p4
        rw [q1, nI_add]
        exact ih (s + 1) g1 (by omega) (by omega) (by omega) q2 q3
  unfold f_X10_layCosts
  rw [gd_77 hL]
  exact outer FU 1 h (Nat.le_refl _) (by omega) (FU_gt (by omega)) OnlyI.rf (fun f' s' d h1 h2 => by unfold dn_ at d; omega)
theorem M_partsOf (hL : Lay h) (vo : VOK v) (hb : 2 ≤ b) (hb4 : b ≤ 4) (pc : MPC (vu v) b (vN v) (fun _ _ => True) h) {f s : Nat} (hs : 2 ≤ s) (hfs : f + s ≤ vN v) : f_X10_partsOf 77 (nI b) (nI f) (nI (f + s)) h = some (nI (BB (vu v) b f s)) := by
  have h14 := vo.1
  have hu : ∀ k, k < vN v → vu v k ≤ 99 := fun k hk => (vo.2.2.2.1 k hk).2
  obtain ⟨-, a2⟩ := pc f s True.intro (by omega) hfs
  unfold f_X10_partsOf
  rw [gd_77 hL, ← amF_far hu hb h14 hs hfs]
  refine lp_up (W := fun n i => f_X10_partsOf_L6 77 (nI b) (nI f) (nI (f + s)) h (fun y6 => some y6) n (nI (amF (fun m => vlF (vu v) b m f s) 2 i)) (nI (i + 3))) (N := b - 2) (fun n => ?_) (fun n i hi => ?_) FU 0 (Nat.zero_le _) (FU_gt (by omega))
  · show f_X10_partsOf_L6 _ _ _ _ _ _ _ _ _ = _
    unfold f_X10_partsOf_L6
    rw [if_pos (nI_lt (by omega) (by omega))]
  · show f_X10_partsOf_L6 _ _ _ _ _ _ _ _ _ = f_X10_partsOf_L6 _ _ _ _ _ _ _ _ _
    have r := amF_rng (fun m => vlF (vu v) b m f s) 2 i
    have v1 := vlF_le hu hb h14 (show 1 ≤ i + 3 by omega) hfs
    have v2 := vlF_le hu hb h14 (m := amF (fun m => vlF (vu v) b m f s) 2 i) (by omega) hfs
    conv => lhs; unfold f_X10_partsOf_L6
    rw [if_neg (nI_nlt (by omega) (by omega)), M_partsAt hL (m := i + 3) (f := f) (s := s) (by omega) (by omega) (by omega), M_partsAt hL (m := amF (fun m => vlF (vu v) b m f s) 2 i) (f := f) (s := s) (by omega) (by omega) (by omega), a2 _ (by omega) (by omega), a2 _ (by omega) (by omega)]
    simp (disch := omega) only [Option.bind_some, nI_leI, ite_some, nI_add]
    congr 1
    rw [amF_succ, show 2 + (i + 1) = i + 3 by omega]
    by_cases c2 : vlF (vu v) b (i + 3) f s < vlF (vu v) b (amF (fun m => vlF (vu v) b m f s) 2 i) f s
    · rw [if_pos c2, if_neg (by omega)]
    · rw [if_neg c2, if_pos (by omega)]
theorem M_firstCut (hL : Lay h) (vo : VOK v) (hb : 2 ≤ b) (hb4 : b ≤ 4) (pc : MPC (vu v) b (vN v) (fun _ _ => True) h) {m f s : Nat} (hm : 1 ≤ m) (hmb : m ≤ b) (hms : m ≤ s) (hfs : f + s ≤ vN v) : f_X10_firstCut 77 (nI m) (nI f) (nI (f + s)) h = some (nI (f + FF (vu v) b m f s)) := by
  have h14 := vo.1
  have hu : ∀ k, k < vN v → vu v k ≤ 99 := fun k hk => (vo.2.2.2.1 k hk).2
  unfold f_X10_firstCut
  rw [gd_77 hL]
  by_cases c1 : m = 1
  · subst c1
    rw [if_pos rfl]
    unfold FF
    rw [if_pos rfl]
  · rw [if_neg (by rw [nI_eq (by omega) (by omega)]; exact c1), nI_add]
    have eF : FF (vu v) b m f s = amF (gT (TT (vu v) b) m f s) 1 (s - m) := by unfold FF; rw [if_neg c1]
    have r := amF_rng (gT (TT (vu v) b) m f s) 1 (s - m)
    have em : TT (vu v) b m f s = gT (TT (vu v) b) m f s (amF (gT (TT (vu v) b) m f s) 1 (s - m)) := by rw [TT_m (by omega) hms (by omega), eF]
    have tm := TT_far hu hb (m := m) (f := f) (s := s) (by omega) (by omega) (by omega) hfs
    have vm := (pc f s True.intro (by omega) hfs).2 m hm hmb
    have evm : vlF (vu v) b m f s = TT (vu v) b m f s := by unfold vlF; rw [if_pos hms]
    rw [eF]
    refine lp_up (W := fun n i => f_X10_firstCut_L12 77 (nI m) (nI f) (nI (f + s)) h (fun y7 => some y7) n (nI (f + 1 + i))) (N := amF (gT (TT (vu v) b) m f s) 1 (s - m) - 1) (fun n => ?_) (fun n i hi => ?_) FU 0 (Nat.zero_le _) (FU_gt (by omega))
    · show f_X10_firstCut_L12 _ _ _ _ _ _ _ _ = _
      unfold f_X10_firstCut_L12
      generalize hc : amF (gT (TT (vu v) b) m f s) 1 (s - m) = cc at *
      rw [show f + 1 + (cc - 1) = f + cc by omega]
      obtain ⟨a1, -⟩ := pc f cc True.intro (by omega) (by omega)
      obtain ⟨-, a2⟩ := pc (f + cc) (s - cc) True.intro (by omega) (by omega)
      have b2 := a2 (m - 1) (by omega) (by omega)
      have et : f + cc + (s - cc) = f + s := by omega
      have pa := M_partsAt hL (m := m - 1) (f := f + cc) (s := s - cc) (by omega) (by omega) (by omega)
      rw [et] at pa b2
      have ca := M_costAt hL (f := f) (s := cc) (by omega) (by omega)
      have pm := M_partsAt hL (m := m) (f := f) (s := s) (by omega) (by omega) (by omega)
      have ev : vlF (vu v) b (m - 1) (f + cc) (s - cc) = TT (vu v) b (m - 1) (f + cc) (s - cc) := by unfold vlF; rw [if_pos (by omega)]
      have tf := TT_far hu hb (m := m - 1) (f := f + cc) (s := s - cc) (by omega) (by omega) (by omega) (by omega)
      simp (disch := omega) only [pk_sub, pa, b2, ev, Option.bind_some, ca, a1, pm, vm, evm, nI_add]
      rw [if_neg (by rw [nI_eq (by omega) (by decide)]; omega), if_pos]
      rw [em]
      rfl
    · show f_X10_firstCut_L12 _ _ _ _ _ _ _ _ = f_X10_firstCut_L12 _ _ _ _ _ _ _ _
      conv => lhs; unfold f_X10_firstCut_L12
      have lt := amF_fst (gT (TT (vu v) b) m f s) 1 (s - m) (i + 1) (by omega) (by omega)
      rw [← em] at lt
      obtain ⟨a1, -⟩ := pc f (i + 1) True.intro (by omega) (by omega)
      obtain ⟨-, a2⟩ := pc (f + (i + 1)) (s - (i + 1)) True.intro (by omega) (by omega)
      have b2 := a2 (m - 1) (by omega) (by omega)
      have et : f + (i + 1) + (s - (i + 1)) = f + s := by omega
      have pa := M_partsAt hL (m := m - 1) (f := f + (i + 1)) (s := s - (i + 1)) (by omega) (by omega) (by omega)
      rw [et] at pa b2
      have ca := M_costAt hL (f := f) (s := i + 1) (by omega) (by omega)
      have pm := M_partsAt hL (m := m) (f := f) (s := s) (by omega) (by omega) (by omega)
      have ev : vlF (vu v) b (m - 1) (f + (i + 1)) (s - (i + 1)) = TT (vu v) b (m - 1) (f + (i + 1)) (s - (i + 1)) := by unfold vlF; rw [if_pos (by omega)]
      have tf := TT_far hu hb (m := m - 1) (f := f + (i + 1)) (s := s - (i + 1)) (by omega) (by omega) (by omega) (by omega)
      have tf1 := TT_far hu hb (m := 1) (f := f) (s := i + 1) (by omega) (by omega) (by omega) (by omega)
      have eg : TT (vu v) b 1 f (i + 1) + TT (vu v) b (m - 1) (f + (i + 1)) (s - (i + 1)) = gT (TT (vu v) b) m f s (i + 1) := rfl
      rw [show f + 1 + i = f + (i + 1) by omega]
      simp (disch := omega) only [pk_sub, pa, b2, ev, Option.bind_some, ca, a1, pm, vm, evm, nI_add, eg]
      rw [if_neg (by rw [nI_eq (by omega) (by decide)]; omega), if_neg (by rw [nI_eq (by omega) (by omega)]; omega), show f + (i + 1) + 1 = f + 1 + (i + 1) by omega]
end
