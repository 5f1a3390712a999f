/-! THE MODEL'S TABLES -/
/-- a cost, or: it can't be -/
def vlF (u : Nat → Nat) (b m f s : Nat) : Nat := if m ≤ s then TT u b m f s else 268435456
def MPC (u : Nat → Nat) (b N : Nat) (D : Nat → Nat → Prop) (h : Hp) : Prop := ∀ f s, D f s → 1 ≤ s → f + s ≤ N → hI h 94 (15 * f + (f + s)) = nI (TT u b 1 f s) ∧ ∀ m, 1 ≤ m → m ≤ b → hI h 95 (225 * m + 15 * f + (f + s)) = nI (vlF u b m f s)
/-- only the entries of one run have changed -/
def KM (f s : Nat) (h g : Hp) : Prop := OnlyI (fun q => q = 94 ∨ q = 95) h g ∧ (∀ j, j ≠ 15 * f + (f + s) → hI g 94 j = hI h 94 j) ∧ ∀ j, (∀ m, m ≤ 4 → j ≠ 225 * m + 15 * f + (f + s)) → hI g 95 j = hI h 95 j
section
variable {h g k : Hp} {f s : Nat}
theorem KM.rf : KM f s h h := ⟨OnlyI.rf, fun _ _ => rfl, fun _ _ => rfl⟩
theorem KM.tr (a : KM f s h g) (c : KM f s g k) : KM f s h k := ⟨a.1.tr c.1, fun j hj => (c.2.1 j hj).trans (a.2.1 j hj), fun j hj => (c.2.2 j hj).trans (a.2.2 j hj)⟩
theorem KM.set4 {x : Int32} : KM f s h (setI h 94 (15 * f + (f + s)) x) := ⟨OnlyI.set (Or.inl rfl), fun j hj => by rw [hI_setI_eq, upd_ne _ _ hj], fun j _ => by rw [hI_setI_ne _ _ _ (by decide)]⟩
theorem KM.set5 {x : Int32} {m : Nat} (hm : m ≤ 4) : KM f s h (setI h 95 (225 * m + 15 * f + (f + s)) x) := ⟨OnlyI.set (Or.inr rfl), fun j _ => by rw [hI_setI_ne _ _ _ (by decide)], fun j hj => by rw [hI_setI_eq, upd_ne _ _ (hj m hm)]⟩
end
theorem MPC.fr {u : Nat → Nat} {b N f s : Nat} {D : Nat → Nat → Prop} {h g : Hp} (p : MPC u b N D h) (hb4 : b ≤ 4) (hN : N ≤ 14) (hfs : f + s ≤ N) (k : KM f s h g) (hD : ∀ f' s', D f' s' → ¬ (f' = f ∧ s' = s)) : MPC u b N D g := by
  intro f' s' d h1 h2
  obtain ⟨a, c⟩ := p f' s' d h1 h2
  have ne := hD f' s' d
  refine ⟨?_, fun m x y => ?_⟩
  · rw [k.2.1 _ (by omega)]; exact a
  · have A : 15 * f + (f + s) < 225 := by omega
    have A' : 15 * f' + (f' + s') < 225 := by omega
    rw [k.2.2 _ (fun m' hm' e => by
      have em : m = m' := by omega
      subst em
      have ef : f = f' := by omega
      omega)]
    exact c m x y
section
variable {u : Nat → Nat} {b N : Nat} {h : Hp}
theorem M_costAt (hL : Lay h) {f s : Nat} (hfs : f + s ≤ 14) (h1 : 1 ≤ s) : f_X10_costAt 77 (nI f) (nI (f + s)) h = some (hI h 94 (15 * f + (f + s))) := by
  unfold f_X10_costAt
  simp (disch := omega) only [gd_77 hL, MG hL, pk_mul, nI_add, Option.bind_some]
theorem M_partsAt (hL : Lay h) {m f s : Nat} (hm : m ≤ 4) (hfs : f + s ≤ 14) (h1 : 1 ≤ s) : f_X10_partsAt 77 (nI m) (nI f) (nI (f + s)) h = some (hI h 95 (225 * m + 15 * f + (f + s))) := by
  unfold f_X10_partsAt
  simp (disch := omega) only [gd_77 hL, MG hL, pk_mul, nI_add, Option.bind_some]
def bpF (u : Nat → Nat) (b m f s i : Nat) : Nat := if m ≤ s ∧ 1 ≤ i then gT (TT u b) m f s (amF (gT (TT u b) m f s) 1 (min i (s + 1 - m) - 1)) else 268435456
theorem bpF_in {m f s i : Nat} (h1 : m ≤ s) (h2 : 1 ≤ i) : bpF u b m f s i = gT (TT u b) m f s (amF (gT (TT u b) m f s) 1 (min i (s + 1 - m) - 1)) := if_pos ⟨h1, h2⟩
theorem bpF_out {m f s i : Nat} (h1 : ¬ (m ≤ s ∧ 1 ≤ i)) : bpF u b m f s i = 268435456 := if_neg h1
theorem M_bestParts (hL : Lay h) (hu : ∀ k, k < N → u k ≤ 99) (hb : 2 ≤ b) (hb4 : b ≤ 4) (hN : N ≤ 14) {m f s : Nat} (hm : 2 ≤ m) (hmb : m ≤ b) (hs1 : 1 ≤ s) (hfs : f + s ≤ N) {D : Nat → Nat → Prop} (hD : ∀ f' s', s' < s → D f' s') (pc : MPC u b N D h) :
    f_X10_bestParts 77 (nI m) (nI f) (nI (f + s)) h = some (nI (vlF u b m f s)) := by
  unfold f_X10_bestParts
  rw [gd_77 hL, nI_add]
  have gle : ∀ c, 1 ≤ c → c + m ≤ s + 1 → gT (TT u b) m f s c ≤ 40000 := by
    intro c c1 c2
    unfold gT
    have a1 := TT_far hu hb (m := 1) (f := f) (s := c) (by omega) (by omega) (by omega) (by omega)
    have a2 := TT_far hu hb (m := m - 1) (f := f + c) (s := s - c) (by omega) (by omega) (by omega) (by omega)
    omega
  have fin : bpF u b m f s (s - 1) = vlF u b m f s := by
    unfold vlF
    by_cases c : m ≤ s
    · rw [bpF_in c (by omega), if_pos c, TT_m hm c (by omega), show min (s - 1) (s + 1 - m) - 1 = s - m by omega]
      unfold FF
      rw [if_neg (by omega)]
    · rw [bpF_out (fun z => c z.1), if_neg c]
  rw [← fin]
  refine Eq.trans ?_ (lp_up (W := fun n i => f_X10_bestParts_L9 77 (nI m) (nI f) (nI (f + s)) h (fun y8 => some y8) n (nI (bpF u b m f s i)) (nI (f + 1 + i))) (N := s - 1) (fun n => ?_) (fun n i hi => ?_) FU 0 (Nat.zero_le _) (FU_gt (by omega)))
  · show _ = f_X10_bestParts_L9 _ _ _ _ _ _ _ _ _
    rw [bpF_out (fun z => by omega), Nat.add_zero]
  · show f_X10_bestParts_L9 _ _ _ _ _ _ _ _ _ = _
    unfold f_X10_bestParts_L9
    rw [if_pos (nI_le (by omega) (by omega))]
  · show f_X10_bestParts_L9 _ _ _ _ _ _ _ _ _ = f_X10_bestParts_L9 _ _ _ _ _ _ _ _ _
    conv => lhs; unfold f_X10_bestParts_L9
    obtain ⟨a1, -⟩ := pc f (i + 1) (hD _ _ (by omega)) (by omega) (by omega)
    obtain ⟨-, a2⟩ := pc (f + (i + 1)) (s - (i + 1)) (hD _ _ (by omega)) (by omega) (by omega)
    have b2 := a2 (m - 1) (by omega) (by omega)
    have et : f + (i + 1) + (s - (i + 1)) = f + s := by omega
    have pa := M_partsAt hL (m := m - 1) (f := f + (i + 1)) (s := s - (i + 1)) (by omega) (by omega) (by omega)
    rw [et] at pa
    rw [et] at b2
    have ca := M_costAt hL (f := f) (s := i + 1) (by omega) (by omega)
    rw [if_neg (nI_ge (by omega) (by omega)), show f + 1 + i = f + (i + 1) by omega, pk_sub (by omega), pa, b2]
    simp only [Option.bind_some]
    have ei : nI (f + (i + 1)) + nI 1 = nI (f + 1 + (i + 1)) := by rw [nI_add, show f + (i + 1) + 1 = f + 1 + (i + 1) by omega]
    by_cases cf : i + 1 + m ≤ s + 1
    · -- the cut can be
      have ev : vlF u b (m - 1) (f + (i + 1)) (s - (i + 1)) = TT u b (m - 1) (f + (i + 1)) (s - (i + 1)) := by unfold vlF; rw [if_pos (by omega)]
      have tf := TT_far hu hb (m := m - 1) (f := f + (i + 1)) (s := s - (i + 1)) (by omega) (by omega) (by omega) (by omega)
      have eg : TT u b 1 f (i + 1) + TT u b (m - 1) (f + (i + 1)) (s - (i + 1)) = gT (TT u b) m f s (i + 1) := rfl
      have gi := gle (i + 1) (by omega) (by omega)
      rw [ev, if_neg (by rw [nI_eq (by omega) (by decide)]; omega)]
      simp only [ca, a1, Option.bind_some, nI_add, eg, ite_some]
      rw [show f + (i + 1) + 1 = f + 1 + (i + 1) by omega]
      congr 1
      by_cases c0 : i = 0
      · subst c0
        rw [bpF_out (fun z => by omega), bpF_in (by omega) (by omega), if_neg (nI_ge (by omega) (by omega)), show min (0 + 1) (s + 1 - m) - 1 = 0 by omega]
        rfl
      · have r := amF_rng (gT (TT u b) m f s) 1 (i - 1)
        have gr := gle _ r.1 (by omega)
        have e : amF (gT (TT u b) m f s) 1 i = if gT (TT u b) m f s (i + 1) < gT (TT u b) m f s (amF (gT (TT u b) m f s) 1 (i - 1)) then i + 1 else amF (gT (TT u b) m f s) 1 (i - 1) := by
          obtain ⟨j, rfl⟩ : ∃ j, i = j + 1 := ⟨i - 1, by omega⟩
          rw [amF_succ, Nat.add_sub_cancel, show 1 + (j + 1) = j + 1 + 1 by omega]
        rw [bpF_in (by omega) (by omega), bpF_in (by omega) (by omega), show min i (s + 1 - m) - 1 = i - 1 by omega, show min (i + 1) (s + 1 - m) - 1 = i by omega, e]
        simp (disch := omega) only [nI_leI]
        by_cases c : gT (TT u b) m f s (i + 1) < gT (TT u b) m f s (amF (gT (TT u b) m f s) 1 (i - 1))
        · rw [if_pos c, if_neg (by omega)]
        · rw [if_neg c, if_pos (by omega)]
    · have ev : vlF u b (m - 1) (f + (i + 1)) (s - (i + 1)) = 268435456 := by unfold vlF; rw [if_neg (by omega)]
      rw [ev, if_pos rfl, ei]
      simp only [Option.bind_some, ite_some]
      congr 1
      by_cases cm : m ≤ s
      · have i1 : 1 ≤ i := by omega
        have r := amF_rng (gT (TT u b) m f s) 1 (min i (s + 1 - m) - 1)
        have gr := gle _ r.1 (by omega)
        rw [bpF_in cm i1, bpF_in cm (by omega), if_pos (nI_le (by omega) (by omega)), show min (i + 1) (s + 1 - m) = min i (s + 1 - m) by omega]
      · rw [bpF_out (fun z => cm z.1), bpF_out (fun z => cm z.1), if_pos (nI_le (Nat.le_refl _) (by decide))]
theorem M_usesOf {v : Vw} (hL : Lay h) (mn : MN v h) (vo : VOK v) {f s : Nat} (hfs : f + s ≤ vN v) : f_X10_usesOf 77 (nI f) (nI (f + s)) h = some (nI (fsum (vu v) (f + s) - fsum (vu v) f)) := by
  have h14 := vo.1
  unfold f_X10_usesOf
  rw [gd_77 hL]
  rw [isum_fsum, Nat.add_sub_cancel_left]
  refine lp_up (W := fun n i => f_X10_usesOf_L5 77 (nI (f + s)) h (fun y8 => some y8) n (nI (isum (vu v) f i)) (nI (f + i))) (N := s) (fun n => ?_) (fun n i hi => ?_) FU 0 (Nat.zero_le _) (FU_gt (by omega))
  · show f_X10_usesOf_L5 _ _ _ _ _ _ _ = _
    unfold f_X10_usesOf_L5
    rw [if_pos (nI_le (Nat.le_refl _) (by omega))]
  · show f_X10_usesOf_L5 _ _ _ _ _ _ _ = f_X10_usesOf_L5 _ _ _ _ _ _ _
    conv => lhs; unfold f_X10_usesOf_L5
    rw [if_neg (nI_ge (by omega) (by omega))]
    simp (disch := omega) only [MG hL, MV mn, Option.bind_some, nI_add]
    rfl
theorem amF_far {u : Nat → Nat} {b N f s : Nat} (hu : ∀ k, k < N → u k ≤ 99) (hb : 2 ≤ b) (hN : N ≤ 14) (hs : 2 ≤ s) (hfs : f + s ≤ N) : amF (fun m => vlF u b m f s) 2 (b - 2) = BB u b f s := by
  unfold BB
  rw [if_neg (by omega)]
  have key : ∀ n, amF (fun m => vlF u b m f s) 2 n = amF (fun m => TT u b m f s) 2 (min (2 + n) s - 2) := by
    intro n
    induction n with
    | zero => rw [show min (2 + 0) s - 2 = 0 by omega]; rfl
    | succ n ih =>
      have r := amF_rng (fun m => TT u b m f s) 2 (min (2 + n) s - 2)
      have tf := TT_far hu hb (m := amF (fun m => TT u b m f s) 2 (min (2 + n) s - 2)) (f := f) (s := s) (by omega) (by omega) (by omega) hfs
      have e2 : vlF u b (amF (fun m => TT u b m f s) 2 (min (2 + n) s - 2)) f s = TT u b (amF (fun m => TT u b m f s) 2 (min (2 + n) s - 2)) f s := by unfold vlF; rw [if_pos (by omega)]
      rw [amF_succ, ih]
      rw [e2]
      by_cases c : 2 + (n + 1) ≤ s
      · have e1 : vlF u b (2 + (n + 1)) f s = TT u b (2 + (n + 1)) f s := by unfold vlF; rw [if_pos c]
        rw [e1, show min (2 + (n + 1)) s - 2 = n + 1 by omega, amF_succ, show min (2 + n) s - 2 = n by omega]
      · have e1 : vlF u b (2 + (n + 1)) f s = 268435456 := by unfold vlF; rw [if_neg c]
        rw [e1, if_neg (by omega), show min (2 + (n + 1)) s - 2 = min (2 + n) s - 2 by omega]
  rw [key, show min (2 + (b - 2)) s - 2 = min b s - 2 by omega]
end
