/-! spelling and piece -/
section
variable {v : Vw} {p : Sq} {h : Hp} {ea : Nat → Nat}
theorem M_row (hL : Lay h) (mn : MN v h) (mk : MK v h) (mi : MI p h) (vo : VOK v) (hp : IOK p) {a : Nat} (ha : a < p.1) (T : Nat → Qd) (hT : ∀ q, a < q → q ≤ p.1 → QB (p.1 - q) (T q)) (K : Hp → Option Hp) :
    ∀ f k g, k ≤ vN v → vN v - k < f → OnlyI R4m h g → V4 90 91 93 92 (rwD v p T a k) a g → (∀ q, a < q → q ≤ p.1 → V4 90 91 93 92 (T q) q g) →
      ∃ g', f_X10_laySpellings_L92 77 (nI a) K f (nI k) g = K g' ∧ OnlyI R4m h g' ∧ V4 90 91 93 92 (rwD v p T a (vN v)) a g' ∧ ∀ q, a < q → q ≤ p.1 → V4 90 91 93 92 (T q) q g' := by
  have h14 := vo.1
  have hp1 := hp.1
  intro f
  induction f with
  | zero => intro k g p1 p2; omega
  | succ f ih =>
    intro k g p1 p2 p3 p4 p5
    have hLg : Lay g := hL.ss p3.1
    have e : ∀ q, q < 90 → hI g q = hI h q := fun q hq => p3.2 q (by unfold R4m; omega)
    have mng : MN v g := by unfold MN at *; rw [e 77 (by omega), e 79 (by omega), e 80 (by omega), e 81 (by omega)]; exact mn
    have mkg : MK v g := by unfold MK at *; rw [e 82 (by omega)]; exact mk
    have mig : MI p g := by unfold MI at *; rw [e 77 (by omega), e 83 (by omega)]; exact mi
    unfold f_X10_laySpellings_L92
    by_cases c0 : k = vN v
    · subst c0
      simp only [MG hLg, mng.1, Option.bind_some, if_pos (nI_le (Nat.le_refl (vN v)) (show vN v < 2 ^ 31 by omega))]
      exact ⟨g, rfl, p3, p4, p5⟩
    · have hk : k < vN v := by omega
      have hl := vo.2.1 k hk
      simp only [MG hLg, mng.1, Option.bind_some, if_neg (nI_ge hk (show vN v < 2 ^ 31 by omega)), M_fits hLg mng mkg mig vo hp hk (show a ≤ 10 by omega), b2_eq0, nI_add]
      have er : rwD v p T a (k + 1) = if ty v p k a then tk (rwD v p T a k) (T (a + vl v k)) else rwD v p T a k := rfl
      by_cases w : ty v p k a
      · have w1 := w.1
        rw [if_neg (fun x => x w)]
        rw [if_pos w] at er
        have qb := rwD_QB vo ha hT k p1
        obtain ⟨g', q1, q2, q3⟩ := M_takes hLg (a := a) (b := a + vl v k) (e := 0) (by omega) (by omega) (by omega) p4 (p5 (a + vl v k) (by omega) w1) qb.1 (by have := qb.2.1; omega) qb.2.2.1 (by have := qb.2.2.2; omega) (hT _ (by omega) w1) (by omega) (by omega)
        simp (disch := omega) only [MG hLg, MV mng, Option.bind_some, nI_add, q1]
        refine ih (k + 1) g' (by omega) (by omega) (p3.tr q2.1) (by rw [er]; exact q3) (fun q x y => (p5 q x y).fr q2 (by omega))
      · rw [if_pos w]
        rw [if_neg w] at er
        exact ih (k + 1) g (by omega) (by omega) p3 (by rw [er]; exact p4) p5
theorem tk_0 {y : Qd} {m : Nat} (qy : QB m y) (hm : m ≤ 10) : tk (0, 268435456, 0, 268435456) (y.1, y.2.1 + 1, y.2.2.1, y.2.2.2) = dgt y := by
  obtain ⟨r1, r2, r3, r4⟩ := qy
  unfold tk dgt
  simp only [Nat.zero_add, Nat.mod_eq_of_lt r1, if_pos (show y.2.1 + 1 < 268435456 by omega)]
theorem M_table (hL : Lay h) (mn : MN v h) (mk : MK v h) (mi : MI p h) (vo : VOK v) (hp : IOK p) (K : Hp → Option Hp) :
    ∀ y f g, y ≤ p.1 → y < f → OnlyI R4m h g → (∀ q, y ≤ q → q ≤ p.1 → V4 90 91 93 92 (Dt v p (p.1 - y) q) q g) →
      ∃ g', f_X10_laySpellings_L47 77 K f (nI y + m1) g = K g' ∧ OnlyI R4m h g' ∧ ∀ q, q ≤ p.1 → V4 90 91 93 92 (Dt v p p.1 q) q g' := by
  have h14 := vo.1
  have hp1 := hp.1
  intro y
  induction y with
  | zero =>
    intro f g _ hf p3 p4
    obtain ⟨f, rfl⟩ : ∃ z, f = z + 1 := ⟨f - 1, by omega⟩
    unfold f_X10_laySpellings_L47
    rw [nI0_m1, if_pos m1_lt0]
    exact ⟨g, rfl, p3, fun q hq => p4 q (Nat.zero_le _) hq⟩
  | succ y ih =>
    intro f g hy hf p3 p4
    obtain ⟨f, rfl⟩ : ∃ z, f = z + 1 := ⟨f - 1, by omega⟩
    have hLg : Lay g := hL.ss p3.1
    unfold f_X10_laySpellings_L47
    rw [nI_m1, if_neg (nI_lt0 y (by omega))]
    have hL1 : Lay (setI g 90 y (nI 0)) := hLg.setI _ _ _
    have hL2 : Lay (setI (setI g 90 y (nI 0)) 91 y (nI 268435456)) := hL1.setI _ _ _
    have hL3 : Lay (setI (setI (setI g 90 y (nI 0)) 91 y (nI 268435456)) 92 y (nI 268435456)) := hL2.setI _ _ _
    have hL4 : Lay (setI (setI (setI (setI g 90 y (nI 0)) 91 y (nI 268435456)) 92 y (nI 268435456)) 93 y (nI 0)) := hL3.setI _ _ _
    simp (disch := omega) only [MG hLg, MP hLg, MG hL1, MP hL1, MG hL2, MP hL2, MG hL3, MP hL3, Option.bind_some, nI_add]
    generalize hg0 : setI (setI (setI (setI g 90 y (nI 0)) 91 y (nI 268435456)) 92 y (nI 268435456)) 93 y (nI 0) = g0 at *
    have k0 : K4 90 91 93 92 y g g0 := by rw [← hg0]; exact (((K4.set (Or.inl rfl)).put (Or.inr (Or.inl rfl))).put (Or.inr (Or.inr (Or.inr rfl)))).put (Or.inr (Or.inr (Or.inl rfl)))
    have v0 : V4 90 91 93 92 (0, 268435456, 0, 268435456) y g0 := by rw [← hg0]; unfold V4; simp [hI_setI, upd_same]
    have hT : ∀ q, y < q → q ≤ p.1 → QB (p.1 - q) (Dt v p (p.1 - (y + 1)) q) := fun q a b => Dt_QB vo (p.1 - (y + 1)) (by omega) q (by omega) b
    obtain ⟨g1, q1, q2, q3⟩ := M_takes hL4 (a := y) (b := y + 1) (e := 1) (by omega) (by omega) (by omega) v0 ((p4 (y + 1) (Nat.le_refl _) hy).fr k0 (by omega)) (by decide) (by decide) (by decide) (by decide) (hT (y + 1) (by omega) hy) (by omega) (by omega)
    rw [tk_0 (hT (y + 1) (by omega) hy) (by omega)] at q3
    have k1 := k0.tr q2
    obtain ⟨g2, r1, r2, r3, r4⟩ := M_row hL mn mk mi vo hp (a := y) (by omega) (Dt v p (p.1 - (y + 1))) hT (fun h18 => f_X10_laySpellings_L47 77 K f (nI y + m1) h18) FU 0 g1 (Nat.zero_le _) (FU_gt (by omega)) (p3.tr k1.1) q3 (fun q a b => (p4 q (by omega) b).fr k1 (by omega))
    obtain ⟨g3, s1, s2, s3⟩ := ih f g2 (by omega) (by omega) r2 (fun q a b => by
      have e : Dt v p (p.1 - y) q = if q = p.1 - (p.1 - (y + 1) + 1) then rwD v p (Dt v p (p.1 - (y + 1))) (p.1 - (p.1 - (y + 1) + 1)) (vN v) else Dt v p (p.1 - (y + 1)) q := by
        rw [show p.1 - y = p.1 - (y + 1) + 1 by omega]; rfl
      rw [show p.1 - (p.1 - (y + 1) + 1) = y by omega] at e
      rw [e]
      by_cases z : q = y
      · rw [if_pos z, z]; exact r3
      · rw [if_neg z]; exact r4 q (by omega) b)
    refine ⟨g3, ?_, s2, s3⟩
    simp only [q1, Option.bind_some]
    rw [r1, s1]
/-- the model's tables -/
theorem M_lay (hL : Lay h) (mn : MN v h) (mk : MK v h) (mi : MI p h) (vo : VOK v) (hp : IOK p) : ∃ g, f_X10_laySpellings 77 h = some g ∧ OnlyI R4m h g ∧ ∀ q, q ≤ p.1 → V4 90 91 93 92 (Dt v p p.1 q) q g := by
  have hp1 := hp.1
  have hL1 : Lay (setI h 90 p.1 (nI 1)) := hL.setI _ _ _
  have hL2 : Lay (setI (setI h 90 p.1 (nI 1)) 91 p.1 (nI 0)) := hL1.setI _ _ _
  have hL3 : Lay (setI (setI (setI h 90 p.1 (nI 1)) 91 p.1 (nI 0)) 92 p.1 (nI 0)) := hL2.setI _ _ _
  have hL4 : Lay (setI (setI (setI (setI h 90 p.1 (nI 1)) 91 p.1 (nI 0)) 92 p.1 (nI 0)) 93 p.1 (nI 1)) := hL3.setI _ _ _
  unfold f_X10_laySpellings
  simp (disch := omega) only [gd_77 hL, MG hL, MP hL, mi.1, MG hL1, MP hL1, MG hL2, MP hL2, MG hL3, MP hL3, Option.bind_some, hI_setI_ne, MG hL4]
  have k0 : K4 90 91 93 92 p.1 h (setI (setI (setI (setI h 90 p.1 (nI 1)) 91 p.1 (nI 0)) 92 p.1 (nI 0)) 93 p.1 (nI 1)) := (((K4.set (Or.inl rfl)).put (Or.inr (Or.inl rfl))).put (Or.inr (Or.inr (Or.inr rfl)))).put (Or.inr (Or.inr (Or.inl rfl)))
  have v0 : V4 90 91 93 92 (1, 0, 1, 0) p.1 (setI (setI (setI (setI h 90 p.1 (nI 1)) 91 p.1 (nI 0)) 92 p.1 (nI 0)) 93 p.1 (nI 1)) := by unfold V4; simp [hI_setI, upd_same]
  have e77 : hI (setI (setI (setI (setI h 90 p.1 (nI 1)) 91 p.1 (nI 0)) 92 p.1 (nI 0)) 93 p.1 (nI 1)) 77 10 = nI p.1 := by rw [k0.1.2 77 (by omega)]; exact mi.1
  generalize setI (setI (setI (setI h 90 p.1 (nI 1)) 91 p.1 (nI 0)) 92 p.1 (nI 0)) 93 p.1 (nI 1) = g at *
  obtain ⟨g', q1, q2, q3⟩ := M_table hL mn mk mi vo hp (fun h33 => some h33) p.1 FU g (Nat.le_refl _) (FU_gt (by omega)) (k0.1) (fun q a b => by
    rw [show p.1 - p.1 = 0 by omega, show q = p.1 by omega]
    exact v0)
  refine ⟨g', ?_, q2, q3⟩
  try rw [e77]
  rw [sub1]
  exact q1
end
