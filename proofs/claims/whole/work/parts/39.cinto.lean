/-! planInto, optimal -/
def dn_ (s f f' s' : Nat) : Prop := s' < s ∨ (s' = s ∧ f' < f)
section
variable {v : Vw} {b : Nat} {h : Hp} {ea : Nat → Nat} {a : Nat}
theorem C_sums (hL : Lay h) (cn : CN v ea h) (vo : VOK v) (h0 : hI h 25 0 = nI 0) (x : Int32) (K : Hp → Option (Nat × Hp)) : ∃ g, f_X5_planInto_L14 24 a 8 x (nI (vN v)) K FU (nI 0) h = K g ∧ OnlyI (fun q => q = 25) h g ∧ ∀ j, j ≤ vN v → hI g 25 j = nI (fsum (vu v) j) := by
  have h14 := vo.1
  have key : ∀ fu k g, k ≤ vN v → vN v - k < fu → OnlyI (fun q => q = 25) h g → (∀ j, j ≤ k → hI g 25 j = nI (fsum (vu v) j)) → ∃ g', f_X5_planInto_L14 24 a 8 x (nI (vN v)) K fu (nI k) g = K g' ∧ OnlyI (fun q => q = 25) h g' ∧ ∀ j, j ≤ vN v → hI g' 25 j = nI (fsum (vu v) j) := by
    intro fu
    induction fu with
    | zero => intro k g p1 p2; omega
    | succ fu ih =>
      intro k g p1 p2 p3 p4
      have hLg : Lay g := hL.ss p3.1
      have cng : CN v ea g := cn.fr p3.1 (p3.2 8 (by omega)) (fun q hq => p3.2 q (by omega))
      unfold f_X5_planInto_L14
      by_cases c : k = vN v
      · rw [if_pos (nI_le (by omega) (by omega))]
        exact ⟨g, rfl, p3, fun j hj => p4 j (by omega)⟩
      · rw [if_neg (nI_ge (by omega) (by omega))]
        simp (disch := omega) only [CG hLg, CP hLg, Option.bind_some, R_freq hLg cng vo (show k < vN v by omega), p4 k (Nat.le_refl _), nI_add]
        refine ih (k + 1) _ (by omega) (by omega) (p3.put rfl) (fun j hj => ?_)
        rw [hI_setI_eq]
        by_cases e : j = k + 1
        · rw [e, upd_same]; rfl
        · rw [upd_ne _ _ e]; exact p4 j (by omega)
  exact key FU 0 h (Nat.zero_le _) (FU_gt (by omega)) OnlyI.rf (fun j hj => by rw [show j = 0 by omega]; exact h0)
theorem C_runs {u : Nat → Nat} {N : Nat} (hL : Lay h) (hu : ∀ k, k < N → u k ≤ 99) (hb : 2 ≤ b) (hb4 : b ≤ 4) (hN : N ≤ 14) (hsum : ∀ j, j ≤ N → hI h 25 j = nI (fsum u j)) (K : Hp → Option (Nat × Hp)) :
    ∃ g, f_X5_planInto_L53 24 a (nI b) (nI N) K FU (nI 1) h = K g ∧ OnlyI PR h g ∧ PC u b N (fun _ _ => True) g := by
  have inner : ∀ (K : Hp → Option (Nat × Hp)) s, 1 ≤ s → s ≤ N → ∀ fu f g, f + s ≤ N + 1 → N + 1 - s - f < fu → OnlyI PR h g → PC u b N (dn_ s f) g → ∃ g', f_X5_planInto_L63 24 a (nI b) (nI N) (nI s) K fu (nI f) g = K g' ∧ OnlyI PR h g' ∧ PC u b N (dn_ (s + 1) 0) g' := by
    intro K s hs1 hs2 fu
    induction fu with
    | zero => intro f g p1 p2; omega
    | succ fu ih =>
      intro f g p1 p2 p3 p4
      have hLg : Lay g := hL.ss p3.1
      unfold f_X5_planInto_L63
      rw [nI_add]
      by_cases c : f + s = N + 1
      · rw [if_pos (nI_lt (by omega) (by omega))]
        refine ⟨g, rfl, p3, fun f' s' d h1 h2 => p4 f' s' ?_ h1 h2⟩
        unfold dn_ at *
        omega
      · rw [if_neg (nI_nlt (by omega) (by omega))]
        obtain ⟨g1, q1, q2, q3, q4⟩ := C_run hLg hu hb hb4 hN hs1 (show f + s ≤ N by omega) (fun f' s' z => by unfold dn_; omega) (fun f' s' d h1 h2 => by unfold dn_ at d; omega) p4 (fun j hj => by rw [p3.2 25 (by unfold PR; omega)]; exact hsum j hj)
        simp only [q1, Option.bind_some, nI_add]
        refine ih (f + 1) g1 (by omega) (by omega) (p3.tr q2.1) (fun f' s' d h1 h2 => ?_)
        by_cases e : f' = f ∧ s' = s
        · obtain ⟨rfl, rfl⟩ := e
          exact ⟨q3, q4⟩
        · have dd : dn_ s f f' s' := by unfold dn_ at *; omega
          obtain ⟨z1, z2⟩ := p4 f' s' dd h1 h2
          have ne : f' * 14 + s' - 1 ≠ f * 14 + s - 1 := by unfold dn_ at d; omega
          refine ⟨fun m x y z => ?_, by rw [q2.2 _ _ ne]; exact z2⟩
          rw [q2.2 _ _ ne, q2.2 _ _ ne]
          exact z1 m x y z
  have outer : ∀ fu s g, 1 ≤ s → s ≤ N + 1 → N + 1 - s < fu → OnlyI PR h g → PC u b N (dn_ s 0) g → ∃ g', f_X5_planInto_L53 24 a (nI b) (nI N) K fu (nI s) g = K g' ∧ OnlyI PR h g' ∧ PC u b N (fun _ _ => True) g' := by
    intro fu
    induction fu with
    | zero => intro s g p0 p1 p2; omega
    | succ fu ih =>
      intro s g p0 p1 p2 p3 p4
      unfold f_X5_planInto_L53
      by_cases c : s = N + 1
      · rw [if_pos (nI_lt (by omega) (by omega))]
        exact ⟨g, rfl, p3, fun f' s' _ h1 h2 => p4 f' s' (by unfold dn_; omega) h1 h2⟩
      · rw [if_neg (nI_nlt (by omega) (by omega))]
        obtain ⟨g1, q1, q2, q3⟩ := inner (fun h11 => f_X5_planInto_L53 24 a (nI b) (nI N) K fu (nI s + (nI 1)) h11) s p0 (by omega) FU 0 g (by omega) (FU_gt (by omega)) p3 p4
        rw [q1, nI_add]
        exact ih (s + 1) g1 (by omega) (by omega) (by omega) q2 q3
  exact outer FU 1 h (Nat.le_refl _) (by omega) (FU_gt (by omega)) OnlyI.rf (fun f' s' d h1 h2 => by unfold dn_ at d; omega)
theorem C_into (hL : Lay h) (cn : CN v ea h) (vo : VOK v) (h0 : hI h 25 0 = nI 0) (hb : 2 ≤ b) (hb4 : b ≤ 4) (ha : a = 39 ∨ a = 58) : ∃ g, f_X5_planInto 24 a 8 (nI b) h = some (a, g) ∧ OnlyI (fun q => q = 25 ∨ PR q ∨ (a ≤ q ∧ q ≤ a + 16)) h g ∧ hI g 25 0 = nI 0 ∧ CP_ (fmn (vu v) b (vN v)) (vN v) a g := by
  have h14 := vo.1
  have hu : ∀ k, k < vN v → vu v k ≤ 99 := fun k hk => (vo.2.2.2.1 k hk).2
  unfold f_X5_planInto
  simp only [gd_24 hL, R_size hL cn, Option.bind_some, imn_nI (show vN v < 2 ^ 31 by omega) (show 14 < 2 ^ 31 by decide), Nat.min_eq_left h14]
  obtain ⟨g1, q1, q2, q3⟩ := C_sums (a := a) hL cn vo h0 (nI b) (fun h8 => f_X5_planInto_L53 24 a (nI b) (nI (vN v)) (fun h13 => (f_X4_start a (nI b) (nI (vN v)) h13).bind fun h14 => f_X5_planInto_L104 24 a (nI (vN v)) (fun h17 => some (a, h17)) FU (nI 0) h14) FU (nI 1) h8)
  rw [q1]
  have hL1 : Lay g1 := hL.ss q2.1
  obtain ⟨g2, r1, r2, r3⟩ := C_runs (a := a) hL1 hu hb hb4 h14 q3 (fun h13 => (f_X4_start a (nI b) (nI (vN v)) h13).bind fun h14 => f_X5_planInto_L104 24 a (nI (vN v)) (fun h17 => some (a, h17)) FU (nI 0) h14)
  rw [r1]
  have hL2 : Lay g2 := hL1.ss r2.1
  obtain ⟨g3, s1, s2, s3, s4, s5, s6⟩ := C_start hL2 ha h14 (nI b)
  have hL3 : Lay g3 := hL2.ss s2.1
  have pc3 : PC (vu v) b (vN v) (fun _ _ => True) g3 := r3.fr2 hb4 (fun q x y => s2.2 q (by omega))
  simp only [s1, Option.bind_some]
  have key : ∀ fu k g, k ≤ vN v → vN v - k < fu → OnlyI (fun q => a ≤ q ∧ q ≤ a + 16) g3 g → hI g a 3 = nI b → hI g a 4 = nI (vN v) → hI g a 5 = nI (fsum (fun k => cnt (fun i => (nd (vu v) b k 0 (vN v) i).1 = k) (plen (vu v) b (vN v) k)) k) → (∀ j, j < k → hI g (a + 16) j = nI (plen (vu v) b (vN v) j) ∧ ∀ x, x < plen (vu v) b (vN v) j → hI g (a + 2 + j) x = nI (pstep (vu v) b (vN v) j x)) → (∀ j, k ≤ j → j < 14 → hI g (a + 16) j = nI 0) →
      ∃ g', f_X5_planInto_L104 24 a (nI (vN v)) (fun h17 => some (a, h17)) fu (nI k) g = some (a, g') ∧ OnlyI (fun q => a ≤ q ∧ q ≤ a + 16) g3 g' ∧ CP_ (fmn (vu v) b (vN v)) (vN v) a g' := by
    intro fu
    induction fu with
    | zero => intro k g p1 p2; omega
    | succ fu ih =>
      intro k g p1 p2 p3 p4 p5 p6 p7 p8
      have hLg : Lay g := hL3.ss p3.1
      unfold f_X5_planInto_L104
      by_cases c : k = vN v
      · rw [if_pos (nI_le (by omega) (by omega))]
        subst c
        exact ⟨g, rfl, p3, p4, p5, p6, fun j hj => (p7 j hj).1, fun j hj => (p7 j hj).2⟩
      · rw [if_neg (nI_ge (by omega) (by omega))]
        obtain ⟨g', t1, t2, t3, t4, t5, t6, t7⟩ := C_path hLg hb hb4 h14 ha (fun _ _ => True.intro) (pc3.fr2 hb4 (fun q x y => p3.2 q (by omega))) (show k < vN v by omega) p5 p6 (p8 k (Nat.le_refl _) (by omega))
        simp only [t1, Option.bind_some, nI_add]
        refine ih (k + 1) g' (by omega) (by omega) (p3.tr (t2.mono (fun q z => by omega))) (by rw [t3 3 (by decide)]; exact p4) (by rw [t3 4 (by decide)]; exact p5) (by rw [t4]; rfl) (fun j hj => ?_) (fun j x y => by rw [t5 j (by omega)]; exact p8 j (by omega) y)
        by_cases e : j = k
        · subst e; exact ⟨t6, t7⟩
        · obtain ⟨w1, w2⟩ := p7 j (by omega)
          refine ⟨by rw [t5 j e]; exact w1, fun x hx => ?_⟩
          rw [t2.2 (a + 2 + j) (by omega)]
          exact w2 x hx
  obtain ⟨g4, t1, t2, t3⟩ := key FU 0 g3 (Nat.zero_le _) (FU_gt (by omega)) OnlyI.rf s3 s4 s5 (fun j hj => by omega) (fun j _ hj => s6 j hj)
  refine ⟨g4, t1, ?_, ?_, t3⟩
  · exact ((q2.mono (fun q z => Or.inl z)).tr (r2.mono (fun q z => Or.inr (Or.inl z)))).tr ((s2.mono (fun q z => Or.inr (Or.inr (by omega)))).tr (t2.mono (fun q z => Or.inr (Or.inr z))))
  · rw [t2.2 25 (by omega), s2.2 25 (by omega), r2.2 25 (by unfold PR; omega)]
    exact q3 0 (Nat.zero_le _)
end
section
variable {pm : Nat} {v : Vw} {t p : Sq} {m : Mn} {c : Nat → Int32} {h : Hp} {b : Nat}
def oth (pm : Nat) : Nat := if pm = 39 then 58 else 39
theorem oth_two (pm : Nat) : oth pm = 39 ∨ oth pm = 58 := by unfold oth; split <;> omega
theorem C_opt (sc : SC pm v t p m c h) (vo : VOK v) (hb : 2 ≤ b) (hb4 : b ≤ 4) : ∃ g, (getR h 9 0 9 = some (oth pm) ∧ f_X5_planInto 24 (oth pm) 8 (nI b) h = some (oth pm, g)) ∧ OC pm h g ∧ CP_ (fmn (vu v) b (vN v)) (vN v) (oth pm) g := by
  have hL := sc.1
  obtain ⟨-, -, -, -, ⟨ea, cn⟩, cm, -⟩ := sc
  have hpm := cm.two
  have o := oth_two pm
  obtain ⟨g, q1, q2, q3, q4⟩ := C_into hL cn vo cm.2.2.2 hb hb4 o
  have r9 : hR h 0 9 = some (oth pm) := by
    unfold oth
    rcases cm.1 with z | z
    · rw [if_pos z.1]; exact z.2.2
    · rw [if_neg (by omega)]; exact z.2.2
  have g9 : getR h 9 0 9 = some (oth pm) := getR_of (hL.o (by decide) rfl) r9
  refine ⟨g, ⟨g9, q1⟩, ⟨q2.1, fun q hq => q2.2 q (fun z => hq ?_), ?_⟩, q4⟩
  · unfold scrC
    unfold PR oth at z
    rcases hpm with rfl | rfl
    · rw [if_pos rfl] at z; omega
    · rw [if_neg (by decide)] at z; omega
  · rw [q3]; exact cm.2.2.2.symm
end
