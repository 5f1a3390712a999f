/-! THE CLASS'S PLANNER -/
section
variable {h g : Hp}
/-- the planner's rows -/
theorem PG (hL : Lay h) : (∀ m, m < 5 → aldA h 26 (nI m) = some (27 + m)) ∧ (∀ m, m < 5 → aldA h 32 (nI m) = some (33 + m)) ∧ (∀ m i, m < 5 → i < 196 → ald h (27 + m) (nI i) = some (hI h (27 + m) i)) ∧ (∀ m i, m < 5 → i < 196 → ald h (33 + m) (nI i) = some (hI h (33 + m) i)) ∧
    (∀ m i x, m < 5 → i < 196 → ast h (27 + m) (nI i) x = some (setI h (27 + m) i x)) ∧ (∀ m i x, m < 5 → i < 196 → ast h (33 + m) (nI i) x = some (setI h (33 + m) i x)) := by
  refine ⟨fun m hm => aldA_of (hL.a (a := 26) (x := (13, 5)) (by decide) rfl) (by decide) hm (rf_costs hL hm), fun m hm => aldA_of (hL.a (a := 32) (x := (13, 5)) (by decide) rfl) (by decide) hm (rf_sizes hL hm), fun m i hm hi => ?_, fun m i hm hi => ?_, fun m i x hm hi => ?_, fun m i x hm hi => ?_⟩
  · exact ald_of (hL.a (kd_costs m hm).1 (kd_costs m hm).2) (by decide) hi
  · exact ald_of (hL.a (kd_sizes m hm).1 (kd_sizes m hm).2) (by decide) hi
  · exact ast_of (hL.a (kd_costs m hm).1 (kd_costs m hm).2) (by decide) hi x
  · exact ast_of (hL.a (kd_sizes m hm).1 (kd_sizes m hm).2) (by decide) hi x
abbrev PR (q : Nat) : Prop := (27 ≤ q ∧ q ≤ 31) ∨ (33 ≤ q ∧ q ≤ 38)
/-- only one place of the planner's rows has changed -/
def KC (i : Nat) (h g : Hp) : Prop := OnlyI PR h g ∧ ∀ q j, j ≠ i → hI g q j = hI h q j
theorem KC.rf {i : Nat} : KC i h h := ⟨OnlyI.rf, fun _ _ _ => rfl⟩
theorem KC.tr {i : Nat} {h g k : Hp} (a : KC i h g) (c : KC i g k) : KC i h k := ⟨a.1.tr c.1, fun q j hj => (c.2 q j hj).trans (a.2 q j hj)⟩
theorem KC.set {i q : Nat} {x : Int32} (hq : PR q) : KC i h (setI h q i x) := ⟨OnlyI.set hq, fun r j hj => by
  rw [hI_setI]
  split
  · next e => rw [upd_ne _ _ hj, e]
  · rfl⟩
theorem KC.put {i q : Nat} {x : Int32} (a : KC i h g) (hq : PR q) : KC i h (setI g q i x) := a.tr (KC.set hq)
end
/-- the runs that are planned -/
def PC (u : Nat → Nat) (b N : Nat) (D : Nat → Nat → Prop) (h : Hp) : Prop := ∀ f s, D f s → 1 ≤ s → f + s ≤ N → (∀ m, 1 ≤ m → m ≤ b → m ≤ s → hI h (27 + m) (f * 14 + s - 1) = nI (TT u b m f s) ∧ hI h (33 + m) (f * 14 + s - 1) = nI (FF u b m f s)) ∧ hI h 38 (f * 14 + s - 1) = nI (BB u b f s)
theorem PC.fr {u : Nat → Nat} {b N i : Nat} {D : Nat → Nat → Prop} {h g : Hp} (p : PC u b N D h) (k : KC i h g) (hD : ∀ f s, D f s → 1 ≤ s → f + s ≤ N → f * 14 + s - 1 ≠ i) : PC u b N D g := by
  intro f s d h1 h2
  obtain ⟨a, c⟩ := p f s d h1 h2
  have e := hD f s d h1 h2
  refine ⟨fun m x y z => ?_, by rw [k.2 _ _ e]; exact c⟩
  rw [k.2 _ _ e, k.2 _ _ e]
  exact a m x y z
theorem p_run (f s : Nat) (h1 : 1 ≤ s) (h2 : f + s ≤ 14) (h : Hp) : f_X5_run (nI f) (nI s) h = some (nI (f * 14 + s - 1)) := by
  unfold f_X5_run
  rw [if_neg (nI_lt0 f (by omega)), if_neg (nI_nlt h1 (by omega)), pk_sub (show f ≤ 14 by omega), if_neg (nI_nlt (show s ≤ 14 - f by omega) (by omega))]
  simp only [Option.bind_some, if_neg nI01]
  rw [pk_mul, nI_add, pk_sub (by omega)]
/-- the planner's guards: the sum of a run's frequencies, the size of its first part -/
theorem p_sum {f s : Nat} {h : Hp} (hL : Lay h) (h1 : 1 ≤ s) (h2 : f + s ≤ 14) : f_X5_sumOf 24 (nI f) (nI s) h = some (hI h 25 (f + s) - hI h 25 f) := by
  unfold f_X5_sumOf
  rw [gd_24 hL, if_neg (nI_lt0 f (by omega)), if_neg (nI_nlt h1 (by omega)), pk_sub (show f ≤ 14 by omega), if_neg (nI_nlt (show s ≤ 14 - f by omega) (by omega))]
  simp (disch := omega) only [Option.bind_some, if_neg nI01, CG hL, nI_add]
theorem p_first {m f s : Nat} {h : Hp} (hL : Lay h) (hm : 1 ≤ m) (hm4 : m ≤ 4) (h1 : 1 ≤ s) (h2 : f + s ≤ 14) : f_X5_firstSizeOf 24 (nI m) (nI f) (nI s) h = some (hI h (33 + m) (f * 14 + s - 1)) := by
  unfold f_X5_firstSizeOf
  rw [gd_24 hL, if_neg (nI_nlt hm (by omega)), if_neg (nI_nlt hm4 (by decide))]
  simp (disch := omega) only [CG hL, PG hL, p_run, Option.bind_some]
section
variable {u : Nat → Nat} {b N : Nat} {h : Hp}
theorem C_parts (hL : Lay h) (hu : ∀ k, k < N → u k ≤ 99) (hb : 2 ≤ b) (hb4 : b ≤ 4) (hN : N ≤ 14) {m f s : Nat} (hm : 2 ≤ m) (hmb : m ≤ b) (hms : m ≤ s) (hfs : f + s ≤ N) {D : Nat → Nat → Prop} (hD : ∀ f' s', s' < s → D f' s') (pc : PC u b N D h) :
    f_X5_planParts 24 (nI m) (nI f) (nI s) h = some (setI (setI h (27 + m) (f * 14 + s - 1) (nI (TT u b m f s))) (33 + m) (f * 14 + s - 1) (nI (FF u b m f s))) := by
  have eF : FF u b m f s = amF (gT (TT u b) m f s) 1 (s - m) := by unfold FF; rw [if_neg (by omega)]
  have eT : TT u b m f s = gT (TT u b) m f s (amF (gT (TT u b) m f s) 1 (s - m)) := by rw [TT_m hm hms (by omega), eF]
  have hL1 : Lay (setI h (27 + m) (f * 14 + s - 1) (nI (TT u b m f s))) := hL.setI _ _ _
  unfold f_X5_planParts
  rw [gd_24 hL, if_neg (nI_nlt hm (by omega)), if_pos (nI_le (show m ≤ 4 by omega) (by decide))]
  have gle : ∀ c, 1 ≤ c → c ≤ s - m + 1 → gT (TT u b) m f s c ≤ 40000 := by
    intro c c1 c2
    unfold gT
    have a1 := TT_far hu hb (m := 1) (f := f) (s := c) (by omega) (by omega) (by omega) (by omega)
    have a2 := TT_far hu hb (m := m - 1) (f := f + c) (s := s - c) (by omega) (by omega) (by omega) (by omega)
    omega
  have key : ∀ K : Int32 → Int32 → Option Hp, f_X5_planParts_L20 24 (nI m) (nI f) (nI s) h K FU (nI 0) (nI 0) (nI 1) = K (nI (TT u b m f s)) (nI (FF u b m f s)) := by
   intro K
   refine lp_up (W := fun n i => f_X5_planParts_L20 24 (nI m) (nI f) (nI s) h K n (if i = 0 then nI 0 else nI (gT (TT u b) m f s (amF (gT (TT u b) m f s) 1 (i - 1)))) (if i = 0 then nI 0 else nI (amF (gT (TT u b) m f s) 1 (i - 1))) (nI (i + 1))) (N := s - m + 1) (fun n => ?_) (fun n i hi => ?_) FU 0 (Nat.zero_le _) (FU_gt (by omega))
   · show f_X5_planParts_L20 _ _ _ _ _ _ _ _ _ _ = _
     unfold f_X5_planParts_L20
     rw [if_neg (show ¬ s - m + 1 = 0 by omega), if_neg (show ¬ s - m + 1 = 0 by omega), Nat.add_sub_cancel, pk_sub hms, nI_add, if_pos (nI_lt (by omega) (by omega)), eT, eF]
   · show f_X5_planParts_L20 _ _ _ _ _ _ _ _ _ _ = f_X5_planParts_L20 _ _ _ _ _ _ _ _ _ _
     conv => lhs; unfold f_X5_planParts_L20
     obtain ⟨a1, -⟩ := pc f (i + 1) (hD _ _ (by omega)) (by omega) (by omega)
     obtain ⟨a2, -⟩ := pc (f + (i + 1)) (s - (i + 1)) (hD _ _ (by omega)) (by omega) (by omega)
     have b1 := (a1 1 (by omega) (by omega) (by omega)).1
     have b2 := (a2 (m - 1) (by omega) (by omega) (by omega)).1
     have eg : TT u b 1 f (i + 1) + TT u b (m - 1) (f + (i + 1)) (s - (i + 1)) = gT (TT u b) m f s (i + 1) := rfl
     have gi := gle (i + 1) (by omega) (by omega)
     rw [pk_sub hms, nI_add, if_neg (nI_nlt (by omega) (by omega))]
     simp (disch := omega) only [CG hL, PG hL, pk_sub, p_run, nI_add, Option.bind_some, b1, b2, eg]
     by_cases c0 : i = 0
     · subst c0
       rw [if_pos rfl, if_pos rfl]
       rfl
     · have r := amF_rng (gT (TT u b) m f s) 1 (i - 1)
       have gr := gle _ r.1 (by omega)
       rw [if_neg c0, if_neg c0, if_neg (by rw [nI_eq (by omega) (by omega)]; omega)]
       simp only [if_neg (show ¬ i + 1 = 0 by omega), Nat.add_sub_cancel]
       have e : amF (gT (TT u b) m f s) 1 i = if gT (TT u b) m f s (i + 1) < gT (TT u b) m f s (amF (gT (TT u b) m f s) 1 (i - 1)) then i + 1 else amF (gT (TT u b) m f s) 1 (i - 1) := by
         obtain ⟨j, rfl⟩ : ∃ j, i = j + 1 := ⟨i - 1, by omega⟩
         rw [amF_succ, Nat.add_sub_cancel, show 1 + (j + 1) = j + 1 + 1 by omega]
       rw [e]
       simp (disch := omega) only [nI_leI]
       by_cases c : gT (TT u b) m f s (i + 1) < gT (TT u b) m f s (amF (gT (TT u b) m f s) 1 (i - 1))
       · rw [if_pos c, if_neg (by omega)]; rfl
       · rw [if_neg c, if_pos (by omega)]; rfl
  rw [key]
  simp (disch := omega) only [CG hL, PG hL, p_run, Option.bind_some, CG hL1, PG hL1]
end
