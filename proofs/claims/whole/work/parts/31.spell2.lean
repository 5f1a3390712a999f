/-! spelling: the tables on both sides -/
abbrev R4 (q : Nat) : Prop := q = 18 ∨ q = 19 ∨ q = 20 ∨ q = 21
abbrev R4m (q : Nat) : Prop := q = 90 ∨ q = 91 ∨ q = 93 ∨ q = 92
theorem sub1 (x : Int32) : x - nI 1 = x + m1 := by
  rw [Int32.sub_eq_add_neg]
  congr 1
theorem m1_lt0 : m1 < nI 0 := by decide
theorem nI0_m1 : nI 0 + m1 = m1 := by decide
section
variable {v : Vw} {p : Sq} {h : Hp} {ea : Nat → Nat}
theorem C_row (hL : Lay h) (cn : CN v ea h) (vo : VOK v) (hp : IOK p) (hc : CI p h) {a : Nat} (ha : a < p.1) (T : Nat → Qd) (hT : ∀ q, a < q → q ≤ p.1 → QB (p.1 - q) (T q)) (K : Hp → Option Hp) :
    ∀ f k g, k ≤ vN v → vN v - k < f → OnlyI R4 h g → V4 18 19 20 21 (rwD v p T a k) a g → (∀ q, a < q → q ≤ p.1 → V4 18 19 20 21 (T q) q g) →
      ∃ g', f_X6_study_L57 17 8 3 (nI a) K f (nI k) g = K g' ∧ OnlyI R4 h g' ∧ V4 18 19 20 21 (rwD v p T a (vN v)) a g' ∧ ∀ q, a < q → q ≤ p.1 → V4 18 19 20 21 (T q) q g' := by
  have h14 := vo.1
  have hp1 := hp.1
  intro f
  induction f with
  | zero => intro k g p1 p2; omega
  | succ f ih =>
    intro k g p1 p2 p3 p4 p5
    have hLg : Lay g := hL.ss p3.1
    have cng : CN v ea g := cn.fr p3.1 (p3.2 8 (by unfold R4; omega)) (fun q hq => p3.2 q (by unfold R4; omega))
    have hcg : CI p g := hc.fr (p3.2 3 (by unfold R4; omega)) (p3.2 4 (by unfold R4; omega))
    unfold f_X6_study_L57
    by_cases c0 : k = vN v
    · subst c0
      simp only [R_size hLg cng, Option.bind_some, if_pos (nI_le (Nat.le_refl (vN v)) (show vN v < 2 ^ 31 by omega))]
      exact ⟨g, rfl, p3, p4, p5⟩
    · have hk : k < vN v := by omega
      have hl := vo.2.1 k hk
      simp only [R_size hLg cng, Option.bind_some, if_neg (nI_ge hk (show vN v < 2 ^ 31 by omega)), R_typed hLg cng vo hp hcg hk (show a ≤ 10 by omega), b2_eq0, nI_add]
      have er : rwD v p T a (k + 1) = if ty v p k a then tk (rwD v p T a k) (T (a + vl v k)) else rwD v p T a k := rfl
      by_cases w : ty v p k a
      · have w1 := w.1
        rw [if_neg (fun x => x w)]
        rw [if_pos w] at er
        obtain ⟨g', q1, q2, q3⟩ := C_namePiece hLg (a := a) (b := a + vl v k) (by omega) (by omega) (by omega) p4 (p5 (a + vl v k) (by omega) w1) (rwD_QB vo ha hT k p1) (hT _ (by omega) w1) (by omega) (by omega)
        simp only [R_len hLg cng vo hk, Option.bind_some, nI_add, q1]
        refine ih (k + 1) g' (by omega) (by omega) (p3.tr q2.1) (by rw [er]; exact q3) (fun q x y => (p5 q x y).fr q2 (by omega))
      · rw [if_pos w]
        rw [if_neg w] at er
        exact ih (k + 1) g (by omega) (by omega) p3 (by rw [er]; exact p4) p5
theorem C_table (hL : Lay h) (cn : CN v ea h) (vo : VOK v) (hp : IOK p) (hc : CI p h) (K : Hp → Option Hp) :
    ∀ y f g, y ≤ p.1 → y < f → OnlyI R4 h g → (∀ q, y ≤ q → q ≤ p.1 → V4 18 19 20 21 (Dt v p (p.1 - y) q) q g) →
      ∃ g', f_X6_study_L43 17 8 3 K f (nI y + m1) g = K g' ∧ OnlyI R4 h g' ∧ ∀ q, q ≤ p.1 → V4 18 19 20 21 (Dt v p p.1 q) q g' := by
  have h14 := vo.1
  have hp1 := hp.1
  intro y
  induction y with
  | zero =>
    intro f g _ hf p3 p4
    obtain ⟨f, rfl⟩ : ∃ z, f = z + 1 := ⟨f - 1, by omega⟩
    unfold f_X6_study_L43
    rw [nI0_m1, if_pos m1_lt0]
    exact ⟨g, rfl, p3, fun q hq => p4 q (Nat.zero_le _) hq⟩
  | succ y ih =>
    intro f g hy hf p3 p4
    obtain ⟨f, rfl⟩ : ∃ z, f = z + 1 := ⟨f - 1, by omega⟩
    have hLg : Lay g := hL.ss p3.1
    unfold f_X6_study_L43
    rw [nI_m1, if_neg (nI_lt0 y (by omega))]
    obtain ⟨g1, q1, q2, q3⟩ := C_digitPiece hLg (a := y) (by omega) (p4 (y + 1) (Nat.le_refl _) hy)
    have hT : ∀ q, y < q → q ≤ p.1 → QB (p.1 - q) (Dt v p (p.1 - (y + 1)) q) := fun q a b => Dt_QB vo (p.1 - (y + 1)) (by omega) q (by omega) b
    obtain ⟨g2, r1, r2, r3, r4⟩ := C_row hL cn vo hp hc (a := y) (by omega) (Dt v p (p.1 - (y + 1))) hT (fun h18 => f_X6_study_L43 17 8 3 K f (nI y + m1) h18) FU 0 g1 (Nat.zero_le _) (FU_gt (by omega)) (p3.tr q2.1) q3 (fun q a b => (p4 q (by omega) b).fr q2 (by omega))
    obtain ⟨g3, s1, s2, s3⟩ := ih f g2 (by omega) (by omega) r2 (fun q a b => by
      have e : Dt v p (p.1 - y) q = if q = p.1 - (p.1 - (y + 1) + 1) then rwD v p (Dt v p (p.1 - (y + 1))) (p.1 - (p.1 - (y + 1) + 1)) (vN v) else Dt v p (p.1 - (y + 1)) q := by
        rw [show p.1 - y = p.1 - (y + 1) + 1 by omega]; rfl
      rw [show p.1 - (p.1 - (y + 1) + 1) = y by omega] at e
      rw [e]
      by_cases z : q = y
      · rw [if_pos z, z]; exact r3
      · rw [if_neg z]; exact r4 q (by omega) b)
    refine ⟨g3, ?_, s2, s3⟩
    simp only [q1, Option.bind_some]
    rw [r1, s1]
-- the model
theorem M_fits (hL : Lay h) (mn : MN v h) (mk : MK v h) (mi : MI p h) (vo : VOK v) (hp : IOK p) {k a : Nat} (hk : k < vN v) (ha : a ≤ 10) : f_X10_fitsAt 77 (nI k) (nI a) h = some (b2 (ty v p k a)) := by
  have h14 := vo.1
  have hl := vo.2.1 k hk
  have hp1 := hp.1
  unfold f_X10_fitsAt
  simp (disch := omega) only [gd_77 hL, MG hL, MV mn, mi.1, Option.bind_some, nI_add, nI_ltI, ite_some]
  have k0 : ∀ n x, f_X10_fitsAt_L24 77 (nI k) (nI a) h (fun y11 => (rz y11).bind fun r => some r) (n + 1) (nI 0) x = some (nI 0) := by
    intro n x
    unfold f_X10_fitsAt_L24
    simp (disch := omega) only [MG hL, MV mn, Option.bind_some]
    by_cases c : nI (vl v k) ≤ x
    · rw [if_pos c]; rfl
    · rw [if_neg c, if_pos trivial]; rfl
  by_cases c : p.1 < a + vl v k
  · rw [if_pos c, b2_f (fun z => by have := z.1; omega)]
    exact k0 255 _
  · rw [if_neg c]
    have q := lp_all0 (W := fun n i => f_X10_fitsAt_L24 77 (nI k) (nI a) h (fun y11 => (rz y11).bind fun r => some r) n (nI 1) (nI i)) (N := vl v k) (P := fun i => vd v k i = p.2 (a + i)) (r1 := some (nI 1)) (r0 := some (nI 0)) (fun n => ?_) (fun n i hi hn => ?_) (n := FU) (FU_gt (by omega))
    · refine q.trans ?_
      rw [ite_some, b2_def]
      exact congrArg some (b2_of ⟨fun z => ⟨by omega, z⟩, fun z => z.2⟩)
    · show f_X10_fitsAt_L24 _ _ _ _ _ _ _ _ = _
      unfold f_X10_fitsAt_L24
      simp (disch := omega) only [MG hL, MV mn, Option.bind_some, if_pos (nI_le (Nat.le_refl (vl v k)) (show vl v k < 2 ^ 31 by omega))]
      rfl
    · have e1 : ¬ nI (vl v k) ≤ nI i := nI_ge hi (by omega)
      have r1 := vd_rng vo hk hi
      have r2 := hp.2 (a + i) (by omega)
      constructor
      · intro b
        show f_X10_fitsAt_L24 _ _ _ _ _ _ _ _ = f_X10_fitsAt_L24 _ _ _ _ _ _ _ _
        conv => lhs; unfold f_X10_fitsAt_L24
        simp (disch := omega) only [MG hL, MV mn, if_neg e1, if_neg nI01, M_code hL mn mk vo hk hi, nI_add, mi.2 (a + i) (by omega), Option.bind_some, b, if_true]
      · intro b
        show f_X10_fitsAt_L24 _ _ _ _ _ _ _ _ = _
        obtain ⟨m, rfl⟩ : ∃ m, n = m + 1 := ⟨n - 1, by omega⟩
        unfold f_X10_fitsAt_L24
        simp (disch := omega) only [MG hL, MV mn, if_neg e1, if_neg nI01, M_code hL mn mk vo hk hi, nI_add, mi.2 (a + i) (by omega), Option.bind_some, nI_eq, if_neg b]
        exact k0 m _
theorem M_takes (hL : Lay h) {a b e m : Nat} (ha : a < 11) (hb : b < 11) (hab : b ≠ a) {x y : Qd} (hx : V4 90 91 93 92 x a h) (hy : V4 90 91 93 92 y b h) (q1 : x.1 < 1000000) (q2 : x.2.1 ≤ 268435456) (q3 : x.2.2.1 < 1000000) (q4 : x.2.2.2 ≤ 268435456) (qy : QB m y) (hm : m ≤ 10) (he : e ≤ 1) :
    ∃ h', f_X10_takesPiece 77 (nI a) (nI b) (nI e) h = some h' ∧ K4 90 91 93 92 a h h' ∧ V4 90 91 93 92 (tk x (y.1, y.2.1 + e, y.2.2.1, y.2.2.2)) a h' := by
  obtain ⟨y1, y2, y3, y4⟩ := hy
  obtain ⟨x1, x2, x3, x4⟩ := hx
  obtain ⟨r1, r2, r3, r4⟩ := qy
  have hr : ∀ u w : Nat, u < 1000000 → w < 1000000 → nI (u + w) - nI (u + w) / nI 1000000 * nI 1000000 = nI ((u + w) % 1000000) := fun u w hu hw => pk_rem (by omega) (by decide) (by decide)
  have hL1 : Lay (setI h 90 a (nI ((x.1 + y.1) % 1000000))) := hL.setI _ _ _
  have e1 : ∀ q, q ≠ 90 → hI (setI h 90 a (nI ((x.1 + y.1) % 1000000))) q = hI h q := fun q hq => hI_setI_ne _ _ _ hq
  unfold f_X10_takesPiece
  simp (disch := omega) only [gd_77 hL, MG hL, MP hL, MG hL1, MP hL1, Option.bind_some, x1, y1, nI_add, hr x.1 y.1 q1 r1]
  simp (disch := omega) only [e1, x2, y2, nI_leI, nI_add]
  by_cases c1 : y.2.1 + e < x.2.1
  · rw [if_neg (by omega)]
    have hL2 : Lay (setI (setI h 90 a (nI ((x.1 + y.1) % 1000000))) 91 a (nI (y.2.1 + e))) := hL1.setI _ _ _
    have hL3 : Lay (setI (setI (setI h 90 a (nI ((x.1 + y.1) % 1000000))) 91 a (nI (y.2.1 + e))) 92 a (nI 268435456)) := hL2.setI _ _ _
    have hL4 : Lay (setI (setI (setI (setI h 90 a (nI ((x.1 + y.1) % 1000000))) 91 a (nI (y.2.1 + e))) 92 a (nI 268435456)) 93 a (nI 0)) := hL3.setI _ _ _
    simp (disch := omega) only [MG hL2, MP hL2, MG hL3, MP hL3, Option.bind_some]
    generalize hg : setI (setI (setI (setI h 90 a (nI ((x.1 + y.1) % 1000000))) 91 a (nI (y.2.1 + e))) 92 a (nI 268435456)) 93 a (nI 0) = g at *
    have g0 : hI g 90 a = nI ((x.1 + y.1) % 1000000) := by rw [← hg]; simp [hI_setI, upd_same]
    have g1 : hI g 91 a = nI (y.2.1 + e) := by rw [← hg]; simp [hI_setI, upd_same]
    have g2 : hI g 92 a = nI 268435456 := by rw [← hg]; simp [hI_setI, upd_same]
    have g2b : hI g 92 b = nI y.2.2.2 := by rw [← hg]; simp [hI_setI, upd_ne _ _ hab, y4]
    have g3 : hI g 93 a = nI 0 := by rw [← hg]; simp [hI_setI, upd_same]
    have g3b : hI g 93 b = nI y.2.2.1 := by rw [← hg]; simp [hI_setI, upd_ne _ _ hab, y3]
    have kg : K4 90 91 93 92 a h g := by rw [← hg]; exact (((K4.set (Or.inl rfl)).put (Or.inr (Or.inl rfl))).put (Or.inr (Or.inr (Or.inr rfl)))).put (Or.inr (Or.inr (Or.inl rfl)))
    have hL5 : Lay (setI g 92 a (nI (y.2.2.2 + 1))) := hL4.setI _ _ _
    refine ⟨setI (setI g 92 a (nI (y.2.2.2 + 1))) 93 a (nI y.2.2.1), ?_, (kg.put (Or.inr (Or.inr (Or.inr rfl)))).put (Or.inr (Or.inr (Or.inl rfl))), ?_⟩
    · have e5 : ∀ q, hI (setI g 92 a (nI (y.2.2.2 + 1))) 93 q = hI g 93 q := fun q => by rw [hI_setI_ne _ _ _ (by decide)]
      simp (disch := omega) only [MG hL4, MP hL4, Option.bind_some, g1, g2, g2b, nI_add, if_true, nI_leI, if_neg (show ¬ 268435456 ≤ y.2.2.2 + 1 by omega), MG hL5, MP hL5, e5, g3, g3b]
      rw [hr 0 y.2.2.1 (by decide) r3, Nat.zero_add, Nat.mod_eq_of_lt r3]
    · unfold V4 tk
      simp [hI_setI, upd_same, g0, g1, c1]
  · rw [if_pos (by omega)]
    simp only [Option.bind_some, MG hL1]
    by_cases c2 : y.2.1 + e = x.2.1
    · have hL2 : Lay (setI (setI h 90 a (nI ((x.1 + y.1) % 1000000))) 92 a (nI (min x.2.2.2 (y.2.2.2 + 1)))) := hL1.setI _ _ _
      refine ⟨setI (setI (setI h 90 a (nI ((x.1 + y.1) % 1000000))) 92 a (nI (min x.2.2.2 (y.2.2.2 + 1)))) 93 a (nI ((x.2.2.1 + y.2.2.1) % 1000000)), ?_, ?_, ?_⟩
      · have e4 : ∀ q, hI (setI (setI h 90 a (nI ((x.1 + y.1) % 1000000))) 92 a (nI (min x.2.2.2 (y.2.2.2 + 1)))) 93 q = hI h 93 q := fun q => by rw [hI_setI_ne _ _ _ (by decide), hI_setI_ne _ _ _ (by decide)]
        have em : (if nI x.2.2.2 ≤ nI (y.2.2.2 + 1) then nI x.2.2.2 else nI (y.2.2.2 + 1)) = nI (min x.2.2.2 (y.2.2.2 + 1)) := by
          simp (disch := omega) only [nI_leI]
          split
          · rw [Nat.min_eq_left (by omega)]
          · rw [Nat.min_eq_right (by omega)]
        simp (disch := omega) only [MG hL1, MP hL1, Option.bind_some, e1, x2, x4, y4, nI_add, c2, if_true, ite_some, em, MG hL2, MP hL2, e4, x3, y3, hr x.2.2.1 y.2.2.1 q3 r3]
      · exact ((K4.set (Or.inl rfl)).put (Or.inr (Or.inr (Or.inr rfl)))).put (Or.inr (Or.inr (Or.inl rfl)))
      · unfold V4 tk
        simp [hI_setI, upd_same, c2, x2]
    · refine ⟨setI h 90 a (nI ((x.1 + y.1) % 1000000)), ?_, K4.set (Or.inl rfl), ?_⟩
      · simp (disch := omega) only [MG hL1, Option.bind_some, e1, x2, nI_eq, if_neg c2]
      · unfold V4 tk
        simp [hI_setI, upd_same, c1, c2, x2, x3, x4]
end
