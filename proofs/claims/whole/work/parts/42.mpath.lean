theorem MPC.fr2 {u : Nat → Nat} {b N : Nat} {D : Nat → Nat → Prop} {h g : Hp} (p : MPC u b N D h) (e4 : hI g 94 = hI h 94) (e5 : hI g 95 = hI h 95) : MPC u b N D g := by
  intro f s d h1 h2
  rw [e4, e5]
  exact p f s d h1 h2
section
variable {v : Vw} {b : Nat} {h : Hp}
theorem M_dsc (hL : Lay h) (vo : VOK v) (hb : 2 ≤ b) (hb4 : b ≤ 4) (pc : MPC (vu v) b (vN v) (fun _ _ => True) h) {k : Nat} (x : Int32) (K : Int32 → Int32 → Int32 → Option Hp) :
    ∀ m f s q fu, m < fu → m + 1 ≤ s → m + 1 ≤ b → f ≤ k → k < f + s → f + s ≤ vN v → f_X10_layPath_L47 77 x (nI k) (nI (f + s)) h K fu (nI f) (nI (m + 1)) (nI q) (nI (f + FF (vu v) b (m + 1) f s)) = K (nI (dsc (vu v) b k (m + 1) f s q).1) (nI (dsc (vu v) b k (m + 1) f s q).2.2) (nI ((dsc (vu v) b k (m + 1) f s q).1 + (dsc (vu v) b k (m + 1) f s q).2.1)) := by
  have h14 := vo.1
  intro m
  induction m with
  | zero =>
    intro f s q fu p1 p2 p3 p4 p5 p6
    obtain ⟨fu, rfl⟩ : ∃ z, fu = z + 1 := ⟨fu - 1, by omega⟩
    have e : FF (vu v) b (0 + 1) f s = s := by unfold FF; rw [if_pos rfl]
    have ed : dsc (vu v) b k (0 + 1) f s q = (f, s, q) := by
      unfold dsc
      rw [e, if_pos p5]
    unfold f_X10_layPath_L47
    rw [e, if_pos (nI_lt p5 (by omega)), ed]
  | succ m ih =>
    intro f s q fu p1 p2 p3 p4 p5 p6
    obtain ⟨fu, rfl⟩ : ∃ z, fu = z + 1 := ⟨fu - 1, by omega⟩
    have r := FF_rng (u := vu v) (b := b) (f := f) (show 1 ≤ m + 1 + 1 by omega) p2
    have ed : dsc (vu v) b k (m + 1 + 1) f s q = if k < f + FF (vu v) b (m + 1 + 1) f s then (f, FF (vu v) b (m + 1 + 1) f s, q) else dsc (vu v) b k (m + 1) (f + FF (vu v) b (m + 1 + 1) f s) (s - FF (vu v) b (m + 1 + 1) f s) (q + 1) := rfl
    unfold f_X10_layPath_L47
    by_cases c : k < f + FF (vu v) b (m + 1 + 1) f s
    · rw [if_pos c] at ed
      rw [if_pos (nI_lt c (by omega)), ed]
    · rw [if_neg c] at ed
      rw [if_neg (nI_nlt (by omega) (by omega)), ed]
      have et : f + FF (vu v) b (m + 1 + 1) f s + (s - FF (vu v) b (m + 1 + 1) f s) = f + s := by omega
      have fc := M_firstCut hL vo hb hb4 pc (m := m + 1) (f := f + FF (vu v) b (m + 1 + 1) f s) (s := s - FF (vu v) b (m + 1 + 1) f s) (by omega) (by omega) (by omega) (by omega)
      have nx := ih (f + FF (vu v) b (m + 1 + 1) f s) (s - FF (vu v) b (m + 1 + 1) f s) (q + 1) fu (by omega) (by omega) (by omega) (by omega) (by omega) (by omega)
      rw [et] at fc nx
      simp only [nI_m1, fc, Option.bind_some, nI_add]
      exact nx
abbrev R67 (q : Nat) : Prop := q = 96 ∨ q = 97
theorem M_path (hL : Lay h) (mn : MN v h) (vo : VOK v) (hb : 2 ≤ b) (hb4 : b ≤ 4) (pc : MPC (vu v) b (vN v) (fun _ _ => True) h) {k : Nat} (hk : k < vN v) :
    ∃ g, f_X10_layPath 77 (nI b) (nI k) h = some g ∧ OnlyI R67 h g ∧ (∀ j, j ≠ k → hI g 96 j = hI h 96 j) ∧ hI g 96 k = nI (plen (vu v) b (vN v) k) ∧ (∀ j, j < 14 * k ∨ 14 * k + 14 ≤ j → hI g 97 j = hI h 97 j) ∧ ∀ x, x < plen (vu v) b (vN v) k → hI g 97 (14 * k + x) = nI (pstep (vu v) b (vN v) k x) := by
  have h14 := vo.1
  have hpl := plen_lt (u := vu v) hb hk
  have key : ∀ fu i g, i ≤ plen (vu v) b (vN v) k → plen (vu v) b (vN v) k - i < fu → OnlyI R67 h g → (∀ j, j ≠ k → hI g 96 j = hI h 96 j) → hI g 96 k = nI i → (∀ j, j < 14 * k ∨ 14 * k + 14 ≤ j → hI g 97 j = hI h 97 j) → (∀ x, x < i → hI g 97 (14 * k + x) = nI (pstep (vu v) b (vN v) k x)) →
      ∃ g', f_X10_layPath_L15 77 (nI b) (nI k) (fun h19 => some h19) fu (nI (nd (vu v) b k 0 (vN v) i).1) (nI ((nd (vu v) b k 0 (vN v) i).1 + (nd (vu v) b k 0 (vN v) i).2.1)) g = some g' ∧ OnlyI R67 h g' ∧ (∀ j, j ≠ k → hI g' 96 j = hI h 96 j) ∧ hI g' 96 k = nI (plen (vu v) b (vN v) k) ∧ (∀ j, j < 14 * k ∨ 14 * k + 14 ≤ j → hI g' 97 j = hI h 97 j) ∧ ∀ x, x < plen (vu v) b (vN v) k → hI g' 97 (14 * k + x) = nI (pstep (vu v) b (vN v) k x) := by
    intro fu
    induction fu with
    | zero => intro i g p1 p2; omega
    | succ fu ih =>
      intro i g p1 p2 p3 p4 p5 p6 p7
      have hLg : Lay g := hL.ss p3.1
      have pcg := pc.fr2 (p3.2 94 (by unfold R67; omega)) (p3.2 95 (by unfold R67; omega))
      have r := nd_in (u := vu v) hb hk i
      unfold f_X10_layPath_L15
      rw [pk_sub (by omega), Nat.add_sub_cancel_left]
      by_cases c0 : i = plen (vu v) b (vN v) k
      · subst c0
        have e := nd_end (u := vu v) hb hk h14
        rw [if_pos (nI_le (by omega) (by omega))]
        exact ⟨g, rfl, p3, p4, p5, p6, p7⟩
      · have m := nd_more (u := vu v) hb hk h14 (show i < plen (vu v) b (vN v) k by omega)
        have rB := BB_rng (u := vu v) (b := b) (f := (nd (vu v) b k 0 (vN v) i).1) hb m
        rw [if_neg (nI_ge (by omega) (by omega)), M_partsOf hLg vo hb hb4 pcg m (by omega)]
        simp only [Option.bind_some, M_firstCut hLg vo hb hb4 pcg (m := BB (vu v) b (nd (vu v) b k 0 (vN v) i).1 (nd (vu v) b k 0 (vN v) i).2.1) (f := (nd (vu v) b k 0 (vN v) i).1) (s := (nd (vu v) b k 0 (vN v) i).2.1) (by omega) (by omega) (by omega) (by omega)]
        have dd := M_dsc hLg vo hb hb4 pcg (k := k) (nI b) (fun y8 y9 y10 => (getR g 10 77 29).bind fun x11 => (getR g 10 77 28).bind fun x12 => (ald g x12 (nI k)).bind fun x13 => (ast g x11 (((nI 14) * (nI k)) + x13) y9).bind fun h14 => (getR h14 10 77 28).bind fun x15 => (ald h14 x15 (nI k)).bind fun x16 => (ast h14 x15 (nI k) (x16 + (nI 1))).bind fun h17 => f_X10_layPath_L15 77 (nI b) (nI k) (fun h19 => some h19) fu y8 y10 h17) (BB (vu v) b (nd (vu v) b k 0 (vN v) i).1 (nd (vu v) b k 0 (vN v) i).2.1 - 1) (nd (vu v) b k 0 (vN v) i).1 (nd (vu v) b k 0 (vN v) i).2.1 1 FU (FU_gt (by omega)) (by omega) (by omega) (by omega) (by omega) (by omega)
        rw [show BB (vu v) b (nd (vu v) b k 0 (vN v) i).1 (nd (vu v) b k 0 (vN v) i).2.1 - 1 + 1 = BB (vu v) b (nd (vu v) b k 0 (vN v) i).1 (nd (vu v) b k 0 (vN v) i).2.1 by omega] at dd
        have en : dsc (vu v) b k (BB (vu v) b (nd (vu v) b k 0 (vN v) i).1 (nd (vu v) b k 0 (vN v) i).2.1) (nd (vu v) b k 0 (vN v) i).1 (nd (vu v) b k 0 (vN v) i).2.1 1 = nd (vu v) b k 0 (vN v) (i + 1) := (nd_succ (by omega)).symm
        rw [dd, en]
        have ps : (nd (vu v) b k 0 (vN v) (i + 1)).2.2 = pstep (vu v) b (vN v) k i := rfl
        rw [ps]
        have hLg2 : Lay (setI g 97 (14 * k + i) (nI (pstep (vu v) b (vN v) k i))) := hLg.setI _ _ _
        have l2 : hI (setI g 97 (14 * k + i) (nI (pstep (vu v) b (vN v) k i))) 96 k = nI i := by rw [hI_setI_ne _ _ _ (by decide)]; exact p5
        simp (disch := omega) only [MG hLg, MP hLg, Option.bind_some, p5, pk_mul, nI_add, MG hLg2, MP hLg2, l2]
        refine ih (i + 1) _ (by omega) (by omega) ((p3.put (Or.inr rfl)).put (Or.inl rfl)) (fun j hj => ?_) ?_ (fun j hj => ?_) (fun x hx => ?_)
        · rw [hI_setI_eq, upd_ne _ _ hj, hI_setI_ne _ _ _ (by decide)]; exact p4 j hj
        · rw [hI_setI_eq, upd_same]
        · rw [hI_setI_ne _ _ _ (by decide), hI_setI_eq, upd_ne _ _ (by omega)]; exact p6 j hj
        · rw [hI_setI_ne _ _ _ (by decide), hI_setI_eq]
          by_cases e : x = i
          · rw [e, upd_same]
          · rw [upd_ne _ _ (by omega)]; exact p7 x (by omega)
  have hL1 : Lay (setI h 96 k (nI 0)) := hL.setI _ _ _
  obtain ⟨g, q1, q2, q3, q4, q5, q6⟩ := key FU 0 (setI h 96 k (nI 0)) (Nat.zero_le _) (FU_gt (by omega)) (OnlyI.set (Or.inl rfl)) (fun j hj => by rw [hI_setI_eq, upd_ne _ _ hj]) (by rw [hI_setI_eq, upd_same]) (fun j _ => by rw [hI_setI_ne _ _ _ (by decide)]) (fun x hx => by omega)
  have e0 : (nd (vu v) b k 0 (vN v) 0).1 + (nd (vu v) b k 0 (vN v) 0).2.1 = vN v := by show 0 + vN v = vN v; omega
  rw [e0] at q1
  refine ⟨g, ?_, q2, q3, q4, q5, q6⟩
  unfold f_X10_layPath
  simp (disch := omega) only [gd_77 hL, MG hL, MP hL, mn.1, Option.bind_some]
  exact q1
abbrev R47 (q : Nat) : Prop := 94 ≤ q ∧ q ≤ 97
theorem M_menu (hL : Lay h) (mn : MN v h) (vo : VOK v) (hb : 2 ≤ b) (hb4 : b ≤ 4) : ∃ g, f_X10_layMenu 77 (nI b) h = some g ∧ OnlyI R47 h g ∧ (∀ k, k < vN v → hI g 96 k = nI (plen (vu v) b (vN v) k) ∧ ∀ x, x < plen (vu v) b (vN v) k → hI g 97 (14 * k + x) = nI (pstep (vu v) b (vN v) k x)) := by
  have h14 := vo.1
  obtain ⟨g1, q1, q2, q3⟩ := M_costs hL mn vo hb hb4
  have hL1 : Lay g1 := hL.ss q2.1
  have mn1 : MN v g1 := mn.fr (fun q x y => q2.2 q (by omega))
  have key : ∀ fu k g, k ≤ vN v → vN v - k < fu → OnlyI R67 g1 g → (∀ j, j < k → hI g 96 j = nI (plen (vu v) b (vN v) j) ∧ ∀ x, x < plen (vu v) b (vN v) j → hI g 97 (14 * j + x) = nI (pstep (vu v) b (vN v) j x)) →
      ∃ g', f_X10_layMenu_L7 77 (nI b) (fun h5 => some h5) fu (nI k) g = some g' ∧ OnlyI R67 g1 g' ∧ (∀ j, j < vN v → hI g' 96 j = nI (plen (vu v) b (vN v) j) ∧ ∀ x, x < plen (vu v) b (vN v) j → hI g' 97 (14 * j + x) = nI (pstep (vu v) b (vN v) j x)) := by
    intro fu
    induction fu with
    | zero => intro k g p1 p2; omega
    | succ fu ih =>
      intro k g p1 p2 p3 p4
      have hLg : Lay g := hL1.ss p3.1
      have mng : MN v g := mn1.fr (fun q x y => p3.2 q (by unfold R67; omega))
      unfold f_X10_layMenu_L7
      simp only [MG hLg, mng.1, Option.bind_some]
      by_cases c : k = vN v
      · rw [if_pos (nI_le (by omega) (by omega))]
        subst c
        exact ⟨g, rfl, p3, p4⟩
      · rw [if_neg (nI_ge (by omega) (by omega))]
        obtain ⟨g', t1, t2, t3, t4, t5, t6⟩ := M_path hLg mng vo hb hb4 (q3.fr2 (p3.2 94 (by unfold R67; omega)) (p3.2 95 (by unfold R67; omega))) (show k < vN v by omega)
        simp only [t1, Option.bind_some, nI_add]
        refine ih (k + 1) g' (by omega) (by omega) (p3.tr t2) (fun j hj => ?_)
        by_cases e : j = k
        · subst e; exact ⟨t4, t6⟩
        · obtain ⟨w1, w2⟩ := p4 j (by omega)
          refine ⟨by rw [t3 j e]; exact w1, fun x hx => ?_⟩
          have := plen_lt (u := vu v) (b := b) (N := vN v) (k := j) hb (by omega)
          rw [t5 _ (by omega)]
          exact w2 x hx
  obtain ⟨g2, r1, r2, r3⟩ := key FU 0 g1 (Nat.zero_le _) (FU_gt (by omega)) OnlyI.rf (fun j hj => by omega)
  refine ⟨g2, ?_, (q2.mono (fun q z => by unfold R47; omega)).tr (r2.mono (fun q z => by unfold R67 at z; unfold R47; omega)), r3⟩
  unfold f_X10_layMenu
  simp only [gd_77 hL, q1, Option.bind_some]
  exact r1
end
