theorem PC.fr2 {u : Nat → Nat} {b N : Nat} {D : Nat → Nat → Prop} {h g : Hp} (p : PC u b N D h) (hb4 : b ≤ 4) (e : ∀ q, 27 ≤ q → q ≤ 38 → hI g q = hI h q) : PC u b N D g := by
  intro f s d h1 h2
  obtain ⟨a, c⟩ := p f s d h1 h2
  refine ⟨fun m x y z => ?_, by rw [e 38 (by omega) (by omega)]; exact c⟩
  rw [e (27 + m) (by omega) (by omega), e (33 + m) (by omega) (by omega)]
  exact a m x y z
section
variable {h : Hp} {a : Nat}
/-- a menu's fields -/
theorem MA (hL : Lay h) (ha : a = 39 ∨ a = 58) : (∀ (α : Type) (o : Option α), gd h 4 a o = o) ∧ (∀ j, getI h 4 a j = some (hI h a j)) ∧ (∀ j x, putI h 4 a j x = some (setI h a j x)) ∧ getR h 4 a 0 = some (a + 1) ∧ getR h 4 a 1 = some (a + 16) ∧ getR h 4 a 2 = some (a + 17) ∧ (∀ k, k < 14 → aldA h (a + 1) (nI k) = some (a + 2 + k)) ∧
    (∀ k, k < 14 → ald h (a + 16) (nI k) = some (hI h (a + 16) k)) ∧ (∀ k x, k < 14 → ast h (a + 16) (nI k) x = some (setI h (a + 16) k x)) ∧ (∀ k i, k < 14 → i < 13 → ald h (a + 2 + k) (nI i) = some (hI h (a + 2 + k) i)) ∧ (∀ k i x, k < 14 → i < 13 → ast h (a + 2 + k) (nI i) x = some (setI h (a + 2 + k) i x)) ∧ aln h 11 (a + 16) = some (nI 14) := by
  have o : a < hN h ∧ (hK h a).1 = 4 := by rcases ha with rfl | rfl <;> exact hL.o (by decide) rfl
  have o16 : a + 16 < hN h ∧ hK h (a + 16) = (11, 14) := by rcases ha with rfl | rfl <;> exact hL.a (by decide) rfl
  have o1 : a + 1 < hN h ∧ hK h (a + 1) = (13, 14) := by rcases ha with rfl | rfl <;> exact hL.a (by decide) rfl
  have ok : ∀ k, k < 14 → a + 2 + k < hN h ∧ hK h (a + 2 + k) = (11, 13) := by
    intro k hk
    rcases ha with rfl | rfl
    · exact hL.a (kd_steps k hk).1.1 (kd_steps k hk).1.2
    · exact hL.a (kd_steps k hk).2.1 (kd_steps k hk).2.2
  have r0 : hR h a 0 = some (a + 1) := by
    rcases ha with rfl | rfl
    · exact hL.2.2 (39, 0, 40) (by decide)
    · exact hL.2.2 (58, 0, 59) (by decide)
  have r1 : hR h a 1 = some (a + 16) := by
    rcases ha with rfl | rfl
    · exact hL.2.2 (39, 1, 55) (by decide)
    · exact hL.2.2 (58, 1, 74) (by decide)
  have r2 : hR h a 2 = some (a + 17) := by
    rcases ha with rfl | rfl
    · exact hL.2.2 (39, 2, 56) (by decide)
    · exact hL.2.2 (58, 2, 75) (by decide)
  refine ⟨fun _ x => gd_of o x, fun j => getI_of o j, fun j x => putI_of o j x, getR_of o r0, getR_of o r1, getR_of o r2, fun k hk => ?_, fun k hk => ald_of o16 (by decide) hk, fun k x hk => ast_of o16 (by decide) hk x, fun k i hk hi => ald_of (ok k hk) (by decide) hi, fun k i x hk hi => ast_of (ok k hk) (by decide) hi x, aln_of o16⟩
  refine aldA_of o1 (by decide) hk ?_
  rcases ha with rfl | rfl
  · exact rf_steps39 hL hk
  · exact rf_steps58 hL hk
theorem C_start (hL : Lay h) (ha : a = 39 ∨ a = 58) {N : Nat} (hN : N ≤ 14) (x : Int32) : ∃ g, f_X4_start a x (nI N) h = some g ∧ OnlyI (fun q => q = a ∨ q = a + 16) h g ∧ hI g a 3 = x ∧ hI g a 4 = nI N ∧ hI g a 5 = nI 0 ∧ ∀ k, k < 14 → hI g (a + 16) k = nI 0 := by
  have hL1 : Lay (setI h a 3 x) := hL.setI _ _ _
  have hL2 : Lay (setI (setI h a 3 x) a 4 (nI N)) := hL1.setI _ _ _
  have hL3 : Lay (setI (setI (setI h a 3 x) a 4 (nI N)) a 5 (nI 0)) := hL2.setI _ _ _
  unfold f_X4_start
  simp only [MA hL ha, MA hL1 ha, Option.bind_some, imn_nI (show N < 2 ^ 31 by omega) (show 14 < 2 ^ 31 by decide), Nat.min_eq_left hN, imx_nI (show 0 < 2 ^ 31 by decide) (show N < 2 ^ 31 by omega), Nat.zero_max, MA hL2 ha, MA hL3 ha]
  have o3 : OnlyI (fun q => q = a ∨ q = a + 16) h (setI (setI (setI h a 3 x) a 4 (nI N)) a 5 (nI 0)) := ((OnlyI.set (Or.inl rfl)).put (Or.inl rfl)).put (Or.inl rfl)
  have e3 : hI (setI (setI (setI h a 3 x) a 4 (nI N)) a 5 (nI 0)) a 3 = x := by simp [hI_setI, upd_same, upd]
  have e4 : hI (setI (setI (setI h a 3 x) a 4 (nI N)) a 5 (nI 0)) a 4 = nI N := by simp [hI_setI, upd_same, upd]
  have e5 : hI (setI (setI (setI h a 3 x) a 4 (nI N)) a 5 (nI 0)) a 5 = nI 0 := by simp [hI_setI, upd_same]
  generalize setI (setI (setI h a 3 x) a 4 (nI N)) a 5 (nI 0) = g3 at *
  unfold f_J7_fill_53178
  have key : ∀ fu k g, k ≤ 14 → 14 - k < fu → OnlyI (fun q => q = a + 16) g3 g → (∀ j, j < k → hI g (a + 16) j = nI 0) → ∃ g', f_J7_fill_53178_L5 (a + 16) (nI 0) (nI 14) (fun h4 => some h4) fu (nI k) g = some g' ∧ OnlyI (fun q => q = a + 16) g3 g' ∧ ∀ j, j < 14 → hI g' (a + 16) j = nI 0 := by
    intro fu
    induction fu with
    | zero => intro k g p1 p2; omega
    | succ fu ih =>
      intro k g p1 p2 p3 p4
      have hLg : Lay g := hL3.ss p3.1
      unfold f_J7_fill_53178_L5
      by_cases c : k = 14
      · subst c
        rw [if_pos (nI_le (Nat.le_refl 14) (by decide))]
        exact ⟨g, rfl, p3, p4⟩
      · rw [if_neg (nI_ge (by omega) (by decide))]
        simp (disch := omega) only [MA hLg ha, Option.bind_some, nI_add]
        refine ih (k + 1) _ (by omega) (by omega) (p3.put rfl) (fun j hj => ?_)
        rw [hI_setI_eq]
        by_cases e : j = k
        · rw [e, upd_same]
        · rw [upd_ne _ _ e]; exact p4 j (by omega)
  obtain ⟨g, q1, q2, q3⟩ := key FU 0 g3 (by omega) (FU_gt (by decide)) OnlyI.rf (fun j hj => by omega)
  refine ⟨g, ?_, o3.tr (q2.mono (fun q z => Or.inr z)), ?_, ?_, ?_, q3⟩
  · simp only [MA hL3 ha, Option.bind_some, q1]
  · rw [q2.2 a (by omega)]; exact e3
  · rw [q2.2 a (by omega)]; exact e4
  · rw [q2.2 a (by omega)]; exact e5
end
section
variable {u : Nat → Nat} {b N : Nat} {h : Hp} {a : Nat}
theorem C_dsc (hL : Lay h) (hb4 : b ≤ 4) (hN : N ≤ 14) {D : Nat → Nat → Prop} (hD : ∀ f s, D f s) (pc : PC u b N D h) {k : Nat} (x : Int32) (K : Int32 → Int32 → Int32 → Option Hp) :
    ∀ m f s q fu, m < fu → m + 1 ≤ s → m + 1 ≤ b → f ≤ k → k < f + s → f + s ≤ N → f_X5_layPath_L67 24 a (nI k) x h K fu (nI f) (nI s) (nI q) (nI (FF u b (m + 1) f s)) (nI m) = K (nI (dsc u b k (m + 1) f s q).1) (nI (dsc u b k (m + 1) f s q).2.2) (nI (dsc u b k (m + 1) f s q).2.1) := by
  intro m
  induction m with
  | zero =>
    intro f s q fu p1 p2 p3 p4 p5 p6
    obtain ⟨fu, rfl⟩ : ∃ z, fu = z + 1 := ⟨fu - 1, by omega⟩
    have e : FF u b (0 + 1) f s = s := by unfold FF; rw [if_pos rfl]
    have ed : dsc u b k (0 + 1) f s q = (f, s, q) := by
      unfold dsc
      rw [e, if_pos p5]
    unfold f_X5_layPath_L67
    rw [if_pos (nI_lt (by decide) (by decide)), ed, e]
  | succ m ih =>
    intro f s q fu p1 p2 p3 p4 p5 p6
    obtain ⟨fu, rfl⟩ : ∃ z, fu = z + 1 := ⟨fu - 1, by omega⟩
    have r := FF_rng (u := u) (b := b) (f := f) (show 1 ≤ m + 1 + 1 by omega) p2
    have ed : dsc u b k (m + 1 + 1) f s q = if k < f + FF u b (m + 1 + 1) f s then (f, FF u b (m + 1 + 1) f s, q) else dsc u b k (m + 1) (f + FF u b (m + 1 + 1) f s) (s - FF u b (m + 1 + 1) f s) (q + 1) := rfl
    unfold f_X5_layPath_L67
    rw [if_neg (nI_nlt (by omega) (by omega)), nI_add]
    by_cases c : k < f + FF u b (m + 1 + 1) f s
    · rw [if_pos c] at ed
      rw [if_pos (nI_lt c (by omega)), ed]
    · rw [if_neg c] at ed
      rw [if_neg (nI_nlt (by omega) (by omega)), ed]
      have v := ((pc (f + FF u b (m + 1 + 1) f s) (s - FF u b (m + 1 + 1) f s) (hD _ _) (by omega) (by omega)).1 (m + 1) (by omega) (by omega) (by omega)).2
      simp (disch := omega) only [pk_sub, p_first hL, nI_add, Option.bind_some, v, nI_m1]
      exact ih _ _ _ _ (by omega) (by omega) (by omega) (by omega) (by omega) (by omega)
theorem C_path (hL : Lay h) (hb : 2 ≤ b) (hb4 : b ≤ 4) (hN : N ≤ 14) (ha : a = 39 ∨ a = 58) {D : Nat → Nat → Prop} (hD : ∀ f s, D f s) (pc : PC u b N D h) {k B0 : Nat} (hk : k < N) (h4 : hI h a 4 = nI N) (h5 : hI h a 5 = nI B0) (h6 : hI h (a + 16) k = nI 0) :
    ∃ g, f_X5_layPath 24 a (nI k) (nI N) h = some g ∧ OnlyI (fun q => q = a ∨ q = a + 16 ∨ q = a + 2 + k) h g ∧ (∀ j, j ≠ 5 → hI g a j = hI h a j) ∧ hI g a 5 = nI (B0 + cnt (fun i => (nd u b k 0 N i).1 = k) (plen u b N k)) ∧ (∀ j, j ≠ k → hI g (a + 16) j = hI h (a + 16) j) ∧ hI g (a + 16) k = nI (plen u b N k) ∧ ∀ x, x < plen u b N k → hI g (a + 2 + k) x = nI (pstep u b N k x) := by
  have hpl := plen_lt (u := u) hb hk
  have key : ∀ fu i g, i ≤ plen u b N k → plen u b N k - i < fu → OnlyI (fun q => q = a ∨ q = a + 16 ∨ q = a + 2 + k) h g → (∀ j, j ≠ 5 → hI g a j = hI h a j) → hI g a 5 = nI (B0 + cnt (fun i => (nd u b k 0 N i).1 = k) i) → (∀ j, j ≠ k → hI g (a + 16) j = hI h (a + 16) j) → hI g (a + 16) k = nI i → (∀ x, x < i → hI g (a + 2 + k) x = nI (pstep u b N k x)) →
      ∃ g', f_X5_layPath_L9 24 a (nI k) (fun h23 => some h23) fu (nI (nd u b k 0 N i).1) (nI (nd u b k 0 N i).2.1) (nI i) g = some g' ∧ OnlyI (fun q => q = a ∨ q = a + 16 ∨ q = a + 2 + k) h g' ∧ (∀ j, j ≠ 5 → hI g' a j = hI h a j) ∧ hI g' a 5 = nI (B0 + cnt (fun i => (nd u b k 0 N i).1 = k) (plen u b N k)) ∧ (∀ j, j ≠ k → hI g' (a + 16) j = hI h (a + 16) j) ∧ hI g' (a + 16) k = nI (plen u b N k) ∧ ∀ x, x < plen u b N k → hI g' (a + 2 + k) x = nI (pstep u b N k x) := by
    intro fu
    induction fu with
    | zero => intro i g p1 p2; omega
    | succ fu ih =>
      intro i g p1 p2 p3 p4 p5 p6 p7 p8
      have hLg : Lay g := hL.ss p3.1
      have r := nd_in (u := u) hb hk i
      unfold f_X5_layPath_L9
      by_cases c0 : i = plen u b N k
      · subst c0
        have e := nd_end (u := u) hb hk hN
        refine ⟨g, ?_, p3, p4, p5, p6, p7, p8⟩
        by_cases c1 : 13 ≤ plen u b N k
        · rw [if_pos (nI_le c1 (by omega))]
        · rw [if_neg (nI_ge (by omega) (by omega)), if_pos (nI_le (by omega) (by omega))]
      · have m := nd_more (u := u) hb hk hN (show i < plen u b N k by omega)
        have rB := BB_rng (u := u) (b := b) (f := (nd u b k 0 N i).1) hb m
        rw [if_neg (nI_ge (by omega) (by omega)), if_neg (nI_ge (by omega) (by omega))]
        have stp : ∀ g1, OnlyI (fun q => q = a ∨ q = a + 16 ∨ q = a + 2 + k) h g1 → (∀ j, j ≠ 5 → hI g1 a j = hI h a j) → hI g1 a 5 = nI (B0 + cnt (fun i => (nd u b k 0 N i).1 = k) (i + 1)) → (∀ q, q ≠ a → hI g1 q = hI g q) → 
            ∃ g', (((getR g1 5 24 3).bind fun x4 => (f_X5_run (nI (nd u b k 0 N i).1) (nI (nd u b k 0 N i).2.1) g1).bind fun x5 => (ald g1 x4 x5).bind fun x6 => (f_X5_firstSizeOf 24 x6 (nI (nd u b k 0 N i).1) (nI (nd u b k 0 N i).2.1) g1).bind fun x10 => f_X5_layPath_L67 24 a (nI k) (nI i) g1 (fun y17 y18 y19 => (f_X4_addStep a (nI k) y18 g1).bind fun h20 => f_X5_layPath_L9 24 a (nI k) (fun h23 => some h23) fu y17 y19 (nI i + (nI 1)) h20) FU (nI (nd u b k 0 N i).1) (nI (nd u b k 0 N i).2.1) (nI 1) x10 (x6 - (nI 1)))) = some g' ∧ OnlyI (fun q => q = a ∨ q = a + 16 ∨ q = a + 2 + k) h g' ∧ (∀ j, j ≠ 5 → hI g' a j = hI h a j) ∧ hI g' a 5 = nI (B0 + cnt (fun i => (nd u b k 0 N i).1 = k) (plen u b N k)) ∧ (∀ j, j ≠ k → hI g' (a + 16) j = hI h (a + 16) j) ∧ hI g' (a + 16) k = nI (plen u b N k) ∧ ∀ x, x < plen u b N k → hI g' (a + 2 + k) x = nI (pstep u b N k x) := by
          intro g1 s1 s2 s3 s4
          have hLg1 : Lay g1 := hL.ss s1.1
          have pc1 : PC u b N D g1 := pc.fr2 hb4 (fun q x y => s1.2 q (by omega))
          obtain ⟨v1, v2⟩ := pc1 (nd u b k 0 N i).1 (nd u b k 0 N i).2.1 (hD _ _) (by omega) (by omega)
          have v3 := (v1 _ (show 1 ≤ BB u b (nd u b k 0 N i).1 (nd u b k 0 N i).2.1 by omega) (by omega) (by omega)).2
          simp (disch := omega) only [CG hLg1, p_run, p_first hLg1, Option.bind_some, v2, v3, pk_sub]
          have dd := C_dsc (a := a) hLg1 hb4 hN hD pc1 (k := k) (nI i) (fun y17 y18 y19 => (f_X4_addStep a (nI k) y18 g1).bind fun h20 => f_X5_layPath_L9 24 a (nI k) (fun h23 => some h23) fu y17 y19 (nI i + (nI 1)) h20) (BB u b (nd u b k 0 N i).1 (nd u b k 0 N i).2.1 - 1) (nd u b k 0 N i).1 (nd u b k 0 N i).2.1 1 FU (FU_gt (by omega)) (by omega) (by omega) (by omega) (by omega) (by omega)
          rw [show BB u b (nd u b k 0 N i).1 (nd u b k 0 N i).2.1 - 1 + 1 = BB u b (nd u b k 0 N i).1 (nd u b k 0 N i).2.1 by omega] at dd
          have en : dsc u b k (BB u b (nd u b k 0 N i).1 (nd u b k 0 N i).2.1) (nd u b k 0 N i).1 (nd u b k 0 N i).2.1 1 = nd u b k 0 N (i + 1) := (nd_succ (by omega)).symm
          rw [dd, en]
          have ps : (nd u b k 0 N (i + 1)).2.2 = pstep u b N k i := rfl
          rw [ps]
          have l1 : hI g1 (a + 16) k = nI i := by rw [s4 _ (by omega)]; exact p7
          have hLg2 : Lay (setI g1 (a + 2 + k) i (nI (pstep u b N k i))) := hLg1.setI _ _ _
          have l2 : hI (setI g1 (a + 2 + k) i (nI (pstep u b N k i))) (a + 16) k = nI i := by rw [hI_setI_ne _ _ _ (by omega)]; exact l1
          have as : f_X4_addStep a (nI k) (nI (pstep u b N k i)) g1 = some (setI (setI g1 (a + 2 + k) i (nI (pstep u b N k i))) (a + 16) k (nI (i + 1))) := by
            unfold f_X4_addStep f_X4_has
            simp (disch := omega) only [MA hLg1 ha, Option.bind_some, if_neg (nI_lt0 k (by omega)), s2 4 (by decide), h4, if_neg (nI_ge hk (show N < 2 ^ 31 by omega)), rz_1, if_neg nI01, l1, if_neg (nI_ge (show i < 13 by omega) (by decide)), MA hLg2 ha, l2, nI_add]
          simp only [as, Option.bind_some, nI_add]
          refine ih (i + 1) _ (by omega) (by omega) ((s1.put (Or.inr (Or.inr rfl))).put (Or.inr (Or.inl rfl))) (fun j hj => ?_) ?_ (fun j hj => ?_) ?_ (fun x hx => ?_)
          · rw [hI_setI_ne _ _ _ (by omega), hI_setI_ne _ _ _ (by omega)]; exact s2 j hj
          · rw [hI_setI_ne _ _ _ (by omega), hI_setI_ne _ _ _ (by omega)]; exact s3
          · rw [hI_setI_eq, upd_ne _ _ hj, hI_setI_ne _ _ _ (by omega), s4 _ (by omega)]; exact p6 j hj
          · rw [hI_setI_eq, upd_same]
          · rw [hI_setI_ne _ _ _ (by omega), hI_setI_eq]
            by_cases e : x = i
            · rw [e, upd_same]
            · rw [upd_ne _ _ e, s4 _ (by omega)]; exact p8 x (by omega)
        by_cases cb : (nd u b k 0 N i).1 = k
        · rw [if_pos (by rw [cb])]
          unfold f_X4_addBranching
          simp only [MA hLg ha, Option.bind_some, p5, nI_add]
          have st2 := stp (setI g a 5 (nI (B0 + cnt (fun i => (nd u b k 0 N i).1 = k) i + 1))) (p3.put (Or.inl rfl)) (fun j hj => by rw [hI_setI_eq, upd_ne _ _ hj]; exact p4 j hj) (by rw [hI_setI_eq, upd_same, cnt_succ, if_pos cb]; rfl) (fun q hq => hI_setI_ne _ _ _ hq)
          simp only [nI_add] at st2
          exact st2
        · rw [if_neg (by rw [nI_eq (by omega) (by omega)]; exact cb)]
          simp only [Option.bind_some]
          exact stp g p3 p4 (by rw [cnt_succ, if_neg cb]; exact p5) (fun q hq => rfl)
  unfold f_X5_layPath
  rw [gd_24 hL]
  exact key FU 0 h (Nat.zero_le _) (FU_gt (by omega)) OnlyI.rf (fun _ _ => rfl) h5 (fun _ _ => rfl) h6 (fun x hx => by omega)
end
