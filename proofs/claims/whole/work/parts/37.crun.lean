section
variable {u : Nat → Nat} {b N : Nat} {h : Hp}
theorem C_run (hL : Lay h) (hu : ∀ k, k < N → u k ≤ 99) (hb : 2 ≤ b) (hb4 : b ≤ 4) (hN : N ≤ 14) {f s : Nat} (hs1 : 1 ≤ s) (hfs : f + s ≤ N) {D : Nat → Nat → Prop} (hD : ∀ f' s', s' < s → D f' s') (hD2 : ∀ f' s', D f' s' → 1 ≤ s' → f' + s' ≤ N → f' * 14 + s' - 1 ≠ f * 14 + s - 1) (pc : PC u b N D h) (hsum : ∀ j, j ≤ N → hI h 25 j = nI (fsum u j)) :
    ∃ g, f_X5_planRun 24 (nI f) (nI s) (nI b) h = some g ∧ KC (f * 14 + s - 1) h g ∧ (∀ m, 1 ≤ m → m ≤ b → m ≤ s → hI g (27 + m) (f * 14 + s - 1) = nI (TT u b m f s) ∧ hI g (33 + m) (f * 14 + s - 1) = nI (FF u b m f s)) ∧ hI g 38 (f * 14 + s - 1) = nI (BB u b f s) := by
  have key : ∀ (K : Int32 → Hp → Option Hp) (fu i : Nat) (g : Hp), i ≤ min b s - 1 → min b s - 1 - i < fu → KC (f * 14 + s - 1) h g → hI g (27 + 1) (f * 14 + s - 1) = nI 0 → hI g (33 + 1) (f * 14 + s - 1) = nI s → (∀ m, 2 ≤ m → m ≤ i + 1 → hI g (27 + m) (f * 14 + s - 1) = nI (TT u b m f s) ∧ hI g (33 + m) (f * 14 + s - 1) = nI (FF u b m f s)) →
      ∃ g', f_X5_planRun_L33 24 (nI f) (nI s) (nI b) (nI (f * 14 + s - 1)) K fu (if i = 0 then nI 1 else nI (amF (fun m => TT u b m f s) 2 (i - 1))) (nI (i + 2)) g = K (if min b s - 1 = 0 then nI 1 else nI (amF (fun m => TT u b m f s) 2 (min b s - 1 - 1))) g' ∧ KC (f * 14 + s - 1) h g' ∧ hI g' (27 + 1) (f * 14 + s - 1) = nI 0 ∧ hI g' (33 + 1) (f * 14 + s - 1) = nI s ∧ (∀ m, 2 ≤ m → m ≤ min b s → hI g' (27 + m) (f * 14 + s - 1) = nI (TT u b m f s) ∧ hI g' (33 + m) (f * 14 + s - 1) = nI (FF u b m f s)) := by
    intro K fu
    induction fu with
    | zero => intro i g p1 p2; omega
    | succ fu ih =>
      intro i g p1 p2 p3 p4 p5 p6
      have hLg : Lay g := hL.ss p3.1.1
      unfold f_X5_planRun_L33
      by_cases c0 : i = min b s - 1
      · subst c0
        refine ⟨g, ?_, p3, p4, p5, fun m h1 h2 => p6 m h1 (by omega)⟩
        by_cases c4 : 4 < min b s - 1 + 2
        · rw [if_pos (nI_lt c4 (by omega))]
        · rw [if_neg (nI_nlt (show min b s - 1 + 2 ≤ 4 by omega) (by decide))]
          by_cases c1 : b < min b s - 1 + 2
          · rw [if_pos (nI_lt c1 (by omega))]
          · rw [if_neg (nI_nlt (by omega) (by omega)), if_pos (nI_lt (by omega) (by omega))]
      · have hi2 : i + 2 ≤ b := by omega
        have hi3 : i + 2 ≤ s := by omega
        rw [if_neg (nI_nlt (show i + 2 ≤ 4 by omega) (by decide)), if_neg (nI_nlt hi2 (by omega)), if_neg (nI_nlt hi3 (by omega)), C_parts hLg hu hb hb4 hN (m := i + 2) (by omega) hi2 hi3 hfs hD (pc.fr p3 hD2)]
        simp only [Option.bind_some]
        have hLg2 : Lay (setI (setI g (27 + (i + 2)) (f * 14 + s - 1) (nI (TT u b (i + 2) f s))) (33 + (i + 2)) (f * 14 + s - 1) (nI (FF u b (i + 2) f s))) := (hLg.setI _ _ _).setI _ _ _
        have k2 : KC (f * 14 + s - 1) h (setI (setI g (27 + (i + 2)) (f * 14 + s - 1) (nI (TT u b (i + 2) f s))) (33 + (i + 2)) (f * 14 + s - 1) (nI (FF u b (i + 2) f s))) := (p3.put (by unfold PR; omega)).put (by unfold PR; omega)
        have v1 : ∀ q, q ≠ 27 + (i + 2) → q ≠ 33 + (i + 2) → hI (setI (setI g (27 + (i + 2)) (f * 14 + s - 1) (nI (TT u b (i + 2) f s))) (33 + (i + 2)) (f * 14 + s - 1) (nI (FF u b (i + 2) f s))) q = hI g q := fun q h1 h2 => by rw [hI_setI_ne _ _ _ h2, hI_setI_ne _ _ _ h1]
        have v2 : hI (setI (setI g (27 + (i + 2)) (f * 14 + s - 1) (nI (TT u b (i + 2) f s))) (33 + (i + 2)) (f * 14 + s - 1) (nI (FF u b (i + 2) f s))) (27 + (i + 2)) (f * 14 + s - 1) = nI (TT u b (i + 2) f s) := by rw [hI_setI_ne _ _ _ (by omega), hI_setI_eq, upd_same]
        have v3 : hI (setI (setI g (27 + (i + 2)) (f * 14 + s - 1) (nI (TT u b (i + 2) f s))) (33 + (i + 2)) (f * 14 + s - 1) (nI (FF u b (i + 2) f s))) (33 + (i + 2)) (f * 14 + s - 1) = nI (FF u b (i + 2) f s) := by rw [hI_setI_eq, upd_same]
        generalize setI (setI g (27 + (i + 2)) (f * 14 + s - 1) (nI (TT u b (i + 2) f s))) (33 + (i + 2)) (f * 14 + s - 1) (nI (FF u b (i + 2) f s)) = g2 at *
        have nx := ih (i + 1) g2 (by omega) (by omega) k2 (by rw [v1 _ (by omega) (by omega)]; exact p4) (by rw [v1 _ (by omega) (by omega)]; exact p5) (fun m h1 h2 => by
          by_cases e : m = i + 2
          · subst e; exact ⟨v2, v3⟩
          · rw [v1 (27 + m) (by omega) (by omega), v1 (33 + m) (by omega) (by omega)]; exact p6 m h1 (by omega))
        rw [nI_add]
        by_cases c1 : i = 0
        · subst c1
          rw [if_pos rfl, if_pos rfl]
          exact nx
        · have r := amF_rng (fun m => TT u b m f s) 2 (i - 1)
          have bA := TT_far hu hb (m := amF (fun m => TT u b m f s) 2 (i - 1)) (f := f) (s := s) (by omega) (by omega) (by omega) hfs
          have bB := TT_far hu hb (m := i + 2) (f := f) (s := s) (by omega) (by omega) (by omega) hfs
          have va := (p6 _ r.1 (by omega)).1
          rw [← v1 _ (by omega) (by omega)] at va
          rw [if_neg c1, if_neg (by rw [nI_eq (by omega) (by omega)]; omega)]
          simp (disch := omega) only [CG hLg2, PG hLg2, Option.bind_some, v2, va, nI_leI, ite_some]
          have e : amF (fun m => TT u b m f s) 2 i = if TT u b (i + 2) f s < TT u b (amF (fun m => TT u b m f s) 2 (i - 1)) f s then i + 2 else amF (fun m => TT u b m f s) 2 (i - 1) := by
            obtain ⟨j, rfl⟩ : ∃ j, i = j + 1 := ⟨i - 1, by omega⟩
            rw [amF_succ, Nat.add_sub_cancel, show 2 + (j + 1) = j + 1 + 2 by omega]
          rw [if_neg (show ¬ i + 1 = 0 by omega), Nat.add_sub_cancel, e] at nx
          by_cases c2 : TT u b (i + 2) f s < TT u b (amF (fun m => TT u b m f s) 2 (i - 1)) f s
          · rw [if_neg (by omega)]
            rw [if_pos c2] at nx
            exact nx
          · rw [if_pos (by omega)]
            rw [if_neg c2] at nx
            exact nx
  have hL1 : Lay (setI h (27 + 1) (f * 14 + s - 1) (nI 0)) := hL.setI _ _ _
  have k1 : KC (f * 14 + s - 1) h (setI (setI h (27 + 1) (f * 14 + s - 1) (nI 0)) (33 + 1) (f * 14 + s - 1) (nI s)) := (KC.set (by unfold PR; omega)).put (by unfold PR; omega)
  have kk := fun K => key K FU 0 (setI (setI h (27 + 1) (f * 14 + s - 1) (nI 0)) (33 + 1) (f * 14 + s - 1) (nI s)) (Nat.zero_le _) (FU_gt (by omega)) k1 (by rw [hI_setI_ne _ _ _ (by omega), hI_setI_eq, upd_same]) (by rw [hI_setI_eq, upd_same]) (fun m h1 h2 => by omega)
  unfold f_X5_planRun
  simp (disch := omega) only [gd_24 hL, CG hL, PG hL, p_run, Option.bind_some, CG hL1, PG hL1]
  obtain ⟨g, q1, q2, q3, q4, q5⟩ := kk (fun y20 h21 => (getR h21 5 24 3).bind fun x22 => (ast h21 x22 (nI (f * 14 + s - 1)) y20).bind fun h23 => (if y20 ≤ (nI 1) then (some h23) else ((getR h23 5 24 1).bind fun x25 => (aldA h23 x25 (nI 1)).bind fun x26 => (getR h23 5 24 1).bind fun x27 => (aldA h23 x27 y20).bind fun x28 => (ald h23 x28 (nI (f * 14 + s - 1))).bind fun x29 => (f_X5_sumOf 24 (nI f) (nI s) h23).bind fun x31 => (ast h23 x26 (nI (f * 14 + s - 1)) (x29 + x31)).bind fun h34 => some h34)).bind fun (v24 : Hp) => some v24)
  rw [if_pos rfl] at q1
  have hLg : Lay g := hL.ss q2.1.1
  have eB : (if min b s - 1 = 0 then nI 1 else nI (amF (fun m => TT u b m f s) 2 (min b s - 1 - 1))) = nI (BB u b f s) := by
    unfold BB
    by_cases c : s ≤ 1
    · rw [if_pos (by omega), if_pos c]
    · rw [if_neg (by omega), if_neg c, show min b s - 1 - 1 = min b s - 2 by omega]
  rw [eB] at q1
  have hLg2 : Lay (setI g 38 (f * 14 + s - 1) (nI (BB u b f s))) := hLg.setI _ _ _
  have kg2 : KC (f * 14 + s - 1) h (setI g 38 (f * 14 + s - 1) (nI (BB u b f s))) := q2.put (by unfold PR; omega)
  have w1 : ∀ q, q ≠ 38 → hI (setI g 38 (f * 14 + s - 1) (nI (BB u b f s))) q = hI g q := fun q hq => hI_setI_ne _ _ _ hq
  have w2 : hI (setI g 38 (f * 14 + s - 1) (nI (BB u b f s))) 38 (f * 14 + s - 1) = nI (BB u b f s) := by rw [hI_setI_eq, upd_same]
  have w3 : ∀ j, j ≤ N → hI (setI g 38 (f * 14 + s - 1) (nI (BB u b f s))) 25 j = nI (fsum u j) := fun j hj => by rw [w1 25 (by decide), q2.1.2 25 (by unfold PR; omega)]; exact hsum j hj
  rw [q1]
  clear q1 kk key
  simp (disch := omega) only [CG hLg, CP hLg, Option.bind_some]
  generalize setI g 38 (f * 14 + s - 1) (nI (BB u b f s)) = g2 at *
  by_cases c : s = 1
  · have e1 : BB u b f s = 1 := by unfold BB; rw [if_pos (by omega)]
    rw [if_pos (by rw [e1]; exact nI_le (Nat.le_refl 1) (by decide))]
    refine ⟨g2, rfl, kg2, fun m h1 h2 h3 => ?_, w2⟩
    rw [show m = 1 by omega, w1 _ (by decide), w1 _ (by decide), q3, q4, c, TT_one]
    exact ⟨rfl, by unfold FF; rw [if_pos rfl]⟩
  · have rB := BB_rng (u := u) (b := b) (f := f) hb (show 2 ≤ s by omega)
    have vB := (q5 _ rB.1 (by omega)).1
    rw [← w1 _ (by omega)] at vB
    have fl := fsum_le hu (f := f) s hfs
    rw [if_neg (nI_ge (by omega) (by omega))]
    simp (disch := omega) only [CG hLg2, PG hLg2, p_sum hLg2 hs1 (show f + s ≤ 14 by omega), Option.bind_some, nI_add, vB, w3, pk_sub]
    refine ⟨setI g2 (27 + 1) (f * 14 + s - 1) (nI (TT u b 1 f s)), ?_, kg2.put (by unfold PR; omega), fun m h1 h2 h3 => ?_, by rw [hI_setI_ne _ _ _ (by decide)]; exact w2⟩
    · rw [TT_w hb (by omega) (by omega)]
    · by_cases e : m = 1
      · subst e
        rw [hI_setI_eq, upd_same, hI_setI_ne _ _ _ (by decide), w1 _ (by decide), q4]
        exact ⟨rfl, by unfold FF; rw [if_pos rfl]⟩
      · rw [hI_setI_ne _ _ _ (by omega), hI_setI_ne _ _ _ (by omega), w1 _ (by omega), w1 _ (by omega)]
        exact q5 m (by omega) (by omega)
end
