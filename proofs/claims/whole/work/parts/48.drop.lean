/-! drop -/
section
variable {h g : Hp}
/-- only references of the roster's row have changed -/
def R9 (h g : Hp) : Prop := hN g = hN h ∧ hK g = hK h ∧ hI g = hI h ∧ ∀ q j, q ≠ 9 → hR g q j = hR h q j
theorem rf9 : ∀ e ∈ rfL, e.1 ≠ 9 := by decide
theorem Lay.r9 (hL : Lay h) (r : R9 h g) : Lay g := ⟨by rw [r.1]; exact hL.1, fun q hq => by rw [r.2.1]; exact hL.2.1 q hq, fun e he => by rw [r.2.2.2 _ _ (rf9 e he)]; exact hL.2.2 e he⟩
theorem R9.rf : R9 h h := ⟨rfl, rfl, rfl, fun _ _ _ => rfl⟩
theorem R9.set (r : R9 h g) (j : Nat) (x : Option Nat) : R9 h (setR g 9 j x) := ⟨r.1, r.2.1, r.2.2.1, fun q i hq => by rw [hR_setR, if_neg (fun z => hq z.1)]; exact r.2.2.2 q i hq⟩
theorem astN_of {a len k : Nat} (q : a < hN h ∧ hK h a = (12, len)) (hl : len < 2 ^ 31) (hk : k < len) (x : Option Nat) (hx : ∀ e ∈ x, e < hN h ∧ (hK h e).1 = 1) : astN h a (nI k) x = some (setR h a k x) := by
  unfold astN
  rw [q.2, if_pos ⟨⟨⟨q.1, rfl⟩, inA_nI hk hl⟩, hx⟩, toN_nI (by omega)]
theorem M_move (hL : Lay h) {a b : Nat} (ha : a < 14) (hb : b < 14) (hab : a ≠ b) : ∃ g, f_X10_moveName 77 (nI a) (nI b) h = some g ∧ OnlyI (fun q => q = 79 ∨ q = 80 ∨ q = 81) h g ∧ hI g 79 = upd (hI h 79) b (hI h 79 a) ∧ hI g 81 = upd (hI h 81) b (hI h 81 a) ∧ ∀ x, hI g 80 x = if 8 * b ≤ x ∧ x < 8 * b + 8 then hI h 80 (8 * a + (x - 8 * b)) else hI h 80 x := by
  have hL1 : Lay (setI h 79 b (hI h 79 a)) := hL.setI _ _ _
  have hL2 : Lay (setI (setI h 79 b (hI h 79 a)) 81 b (hI h 81 a)) := hL1.setI _ _ _
  have key : ∀ f i g, i ≤ 8 → 8 - i < f → OnlyI (fun q => q = 80) (setI (setI h 79 b (hI h 79 a)) 81 b (hI h 81 a)) g → (∀ x, hI g 80 x = if 8 * b ≤ x ∧ x < 8 * b + i then hI h 80 (8 * a + (x - 8 * b)) else hI h 80 x) →
      ∃ g', f_X10_moveName_L26 77 (nI a) (nI b) (fun h14 => some h14) f (nI i) g = some g' ∧ OnlyI (fun q => q = 80) (setI (setI h 79 b (hI h 79 a)) 81 b (hI h 81 a)) g' ∧ (∀ x, hI g' 80 x = if 8 * b ≤ x ∧ x < 8 * b + 8 then hI h 80 (8 * a + (x - 8 * b)) else hI h 80 x) := by
    intro f
    induction f with
    | zero => intro i g h1 h2; omega
    | succ f ih =>
      intro i g h1 h2 h3 h4
      have hLg : Lay g := hL2.ss h3.1
      unfold f_X10_moveName_L26
      by_cases c : i = 8
      · subst c
        rw [if_pos (nI_le (Nat.le_refl 8) (by decide))]
        exact ⟨g, rfl, h3, h4⟩
      · rw [if_neg (nI_ge (by omega) (by decide))]
        simp (disch := omega) only [MG hLg, MP hLg, pk_mul, nI_add, Option.bind_some]
        refine ih (i + 1) _ (by omega) (by omega) (h3.put rfl) (fun x => ?_)
        rw [hI_setI_eq]
        by_cases e : x = 8 * b + i
        · rw [e, upd_same, if_pos ⟨by omega, by omega⟩, h4, if_neg (by omega), show 8 * b + i - 8 * b = i by omega]
        · rw [upd_ne _ _ e, h4]
          by_cases z : 8 * b ≤ x ∧ x < 8 * b + i
          · rw [if_pos z, if_pos ⟨z.1, by omega⟩]
          · rw [if_neg z, if_neg (by omega)]
  have e80 : hI (setI (setI h 79 b (hI h 79 a)) 81 b (hI h 81 a)) 80 = hI h 80 := by rw [hI_setI_ne _ _ _ (by decide), hI_setI_ne _ _ _ (by decide)]
  obtain ⟨g, q1, q2, q3⟩ := key FU 0 _ (by omega) (FU_gt (by decide)) OnlyI.rf (fun x => by rw [if_neg (by omega), e80])
  refine ⟨g, ?_, ?_, ?_, ?_, q3⟩
  · unfold f_X10_moveName
    have e81 : hI (setI h 79 b (hI h 79 a)) 81 a = hI h 81 a := by rw [hI_setI_ne _ _ _ (by decide)]
    simp (disch := omega) only [gd_77 hL, MG hL, MP hL, Option.bind_some, MG hL1, MP hL1, e81]
    exact q1
  · have o : OnlyI (fun q => q = 79 ∨ q = 80 ∨ q = 81) h (setI (setI h 79 b (hI h 79 a)) 81 b (hI h 81 a)) := (OnlyI.set (Or.inl rfl)).put (Or.inr (Or.inr rfl))
    exact o.tr (q2.mono (fun q z => Or.inr (Or.inl z)))
  · rw [q2.2 79 (by omega), hI_setI_ne _ _ _ (by decide), hI_setI_eq]
  · rw [q2.2 81 (by omega), hI_setI_eq, hI_setI_ne _ _ _ (by decide)]
end
theorem CE.cp {v v' : Vw} {j j' e : Nat} {h g : Hp} (ce : CE v j e h) (eN : hN h ≤ hN g) (eK : ∀ q, q < hN h → hK g q = hK h q) (eR : ∀ q j, 99 ≤ q → q < hN h → hR g q j = hR h q j) (eI : ∀ q, 99 ≤ q → q < hN h → hI g q = hI h q) (hl : vl v' j' = vl v j) (ht : vt v' j' = vt v j) (hu : vu v' j' = vu v j) (hk : vk v' = vk v) : CE v' j' e g := by
  obtain ⟨⟨x2, x3⟩, x4, x5, x6, x7, x8, x9, x10, x11⟩ := ce
  unfold CE vd
  rw [hl, ht, hu, hk, eK e (by omega), eK (e + 1) (by omega), eK (e + 2) (by omega), eR e 0 x2 (by omega), eR e 1 x2 (by omega), eI e x2 (by omega), eI (e + 1) (by omega) (by omega), eI (e + 2) (by omega) (by omega)]
  exact ⟨⟨x2, by omega⟩, x4, x5, x6, x7, x8, x9, x10, x11⟩
def vdrop (v : Vw) (k : Nat) : Vw := (vN v - 1, fun j => vl v (if j < k then j else j + 1), fun j => vt v (if j < k then j else j + 1), fun j => vu v (if j < k then j else j + 1), vk v)
section
variable {pm : Nat} {v : Vw} {t p : Sq} {m : Mn} {c : Nat → Int32} {h : Hp} {ea : Nat → Nat}
theorem VOK.drop (vo : VOK v) {k : Nat} (hk : k < vN v) : VOK (vdrop v k) := by
  have sh : ∀ j, j < vN v - 1 → (if j < k then j else j + 1) < vN v := fun j hj => by split <;> omega
  refine ⟨by have := vo.1; show vN v - 1 ≤ 14; omega, fun j hj => vo.2.1 _ (sh j hj), fun j hj => vo.2.2.1 _ (sh j hj), fun j hj => vo.2.2.2.1 _ (sh j hj), vo.2.2.2.2.1, fun i j hij hj => vo.2.2.2.2.2 _ _ ?_ (sh j hj)⟩
  split <;> split <;> omega
theorem C_remove (hL : Lay h) (cn : CN v ea h) {k : Nat} (hk : k < vN v) : ∃ g, f_X7_remove 8 (nI k) h = some g ∧ Lay g ∧ (∀ q, q ≠ 8 → hI g q = hI h q) ∧ hN g = hN h ∧ hK g = hK h ∧ (∀ q j, q ≠ 9 → hR g q j = hR h q j) ∧ CN (vdrop v k) (fun j => ea (if j < k then j else j + 1)) g := by
  have h14 := cn.1
  have key : ∀ (K : Hp → Option Hp) f i g, k ≤ i → i + 1 ≤ vN v → vN v - i < f → R9 h g → (∀ j, j < 14 → hR g 9 j = if k ≤ j ∧ j < i then hR h 9 (j + 1) else hR h 9 j) → ∃ g', f_X7_remove_L11 8 K f (nI i) g = K g' ∧ R9 h g' ∧ (∀ j, j < 14 → hR g' 9 j = if k ≤ j ∧ j + 1 < vN v then hR h 9 (j + 1) else hR h 9 j) := by
    intro K f
    induction f with
    | zero => intro i g h1 h2 h3; omega
    | succ f ih =>
      intro i g h1 h2 h3 h4 h5
      have hLg : Lay g := hL.r9 h4
      have e8 : hI g 8 1 = nI (vN v) := by rw [h4.2.2.1]; exact cn.2.1
      unfold f_X7_remove_L11
      simp only [CG hLg, e8, Option.bind_some, nI_add]
      by_cases c : i + 1 = vN v
      · rw [if_pos (nI_le (by omega) (by omega))]
        exact ⟨g, rfl, h4, fun j hj => by
          rw [h5 j hj]
          by_cases z : k ≤ j ∧ j < i
          · rw [if_pos z, if_pos ⟨z.1, by omega⟩]
          · rw [if_neg z, if_neg (by omega)]⟩
      · rw [if_neg (nI_ge (by omega) (by omega))]
        have o9 : 9 < hN g ∧ hK g 9 = (12, 14) := hLg.a (by decide) rfl
        have er : hR g 9 (i + 1) = some (ea (i + 1)) := by rw [h5 _ (by omega), if_neg (by omega)]; exact (cn.2.2.1 (i + 1) (by omega)).1
        have ce := cn.ce (show i + 1 < vN v by omega)
        simp only [aldN_of o9 (by decide) (show i + 1 < 14 by omega), er, Option.bind_some, astN_of o9 (by decide) (show i < 14 by omega) (some (ea (i + 1))) (fun e he => by
          rw [Option.mem_some_iff] at he
          subst he
          rw [h4.1, h4.2.1, ce.2.1]
          exact ⟨by have := ce.1; omega, rfl⟩)]
        refine ih (i + 1) _ (by omega) (by omega) (by omega) (h4.set _ _) (fun j hj => ?_)
        rw [hR_setR]
        by_cases e : j = i
        · subst e
          rw [if_pos ⟨rfl, rfl⟩, if_pos ⟨h1, by omega⟩]
          exact (cn.2.2.1 (j + 1) (by omega)).1.symm
        · rw [if_neg (fun z => e z.2), h5 j hj]
          by_cases z : k ≤ j ∧ j < i
          · rw [if_pos z, if_pos ⟨z.1, by omega⟩]
          · rw [if_neg z, if_neg (by omega)]
  obtain ⟨g1, q1, q2, q3⟩ := key (fun h8 => (getI h8 7 8 1).bind fun x9 => (putI h8 7 8 1 (x9 - (nI 1))).bind fun h10 => (getR h10 7 8 0).bind fun x11 => (getI h10 7 8 1).bind fun x12 => (astN h10 x11 x12 (none : Option Nat)).bind fun h13 => some h13) FU k h (Nat.le_refl k) (by omega) (FU_gt (by omega)) R9.rf (fun j hj => by rw [if_neg (by omega)])
  have hL1 : Lay g1 := hL.r9 q2
  have e8 : hI g1 8 1 = nI (vN v) := by rw [q2.2.2.1]; exact cn.2.1
  have hL2 : Lay (setI g1 8 1 (nI (vN v - 1))) := hL1.setI _ _ _
  have r3 : R9 (setI g1 8 1 (nI (vN v - 1))) (setR (setI g1 8 1 (nI (vN v - 1))) 9 (vN v - 1) none) := R9.rf.set _ _
  have hL3 : Lay (setR (setI g1 8 1 (nI (vN v - 1))) 9 (vN v - 1) none) := hL2.r9 r3
  have eI : ∀ q, q ≠ 8 → hI (setR (setI g1 8 1 (nI (vN v - 1))) 9 (vN v - 1) none) q = hI h q := fun q hq => by rw [hI_setR, hI_setI_ne _ _ _ hq, q2.2.2.1]
  have eN : hN (setR (setI g1 8 1 (nI (vN v - 1))) 9 (vN v - 1) none) = hN h := q2.1
  have eK : hK (setR (setI g1 8 1 (nI (vN v - 1))) 9 (vN v - 1) none) = hK h := q2.2.1
  have eR : ∀ q j, q ≠ 9 → hR (setR (setI g1 8 1 (nI (vN v - 1))) 9 (vN v - 1) none) q j = hR h q j := fun q j hq => by rw [hR_setR, if_neg (fun z => hq z.1)]; exact q2.2.2.2 q j hq
  have e9 : ∀ j, j < 14 → hR (setR (setI g1 8 1 (nI (vN v - 1))) 9 (vN v - 1) none) 9 j = if j = vN v - 1 then none else if k ≤ j ∧ j + 1 < vN v then hR h 9 (j + 1) else hR h 9 j := by
    intro j hj
    rw [hR_setR]
    by_cases e : j = vN v - 1
    · rw [if_pos ⟨rfl, e⟩, if_pos e]
    · rw [if_neg (fun z => e z.2), if_neg e]; exact q3 j hj
  have e8' : hI (setR (setI g1 8 1 (nI (vN v - 1))) 9 (vN v - 1) none) 8 1 = nI (vN v - 1) := by rw [hI_setR, hI_setI_eq, upd_same]
  refine ⟨setR (setI g1 8 1 (nI (vN v - 1))) 9 (vN v - 1) none, ?_, hL3, eI, eN, eK, eR, ?_⟩
  · unfold f_X7_remove
    rw [gd_8 hL, R_has hL cn hk, Option.bind_some, if_neg nI01, q1]
    have o9 : 9 < hN (setI g1 8 1 (nI (vN v - 1))) ∧ hK (setI g1 8 1 (nI (vN v - 1))) 9 = (12, 14) := hL2.a (by decide) rfl
    simp only [CG hL1, CP hL1, e8, Option.bind_some, pk_sub (show 1 ≤ vN v by omega), CG hL2, hI_setI_eq, upd_same, astN_of o9 (by decide) (show vN v - 1 < 14 by omega) none (fun e he => by cases he)]
  · generalize setR (setI g1 8 1 (nI (vN v - 1))) 9 (vN v - 1) none = g at *
    obtain ⟨b1, b2, b3, b4, b5⟩ := cn
    have sh : ∀ j, j < vN v - 1 → (if j < k then j else j + 1) < vN v := fun j hj => by split <;> omega
    refine ⟨by show vN v - 1 ≤ 14; omega, e8', fun j hj => ?_, fun j h1 h2 => ?_, fun i j hij hj => ?_⟩
    · have hj' : j < vN v - 1 := hj
      obtain ⟨x1, ce⟩ := b3 _ (sh j hj')
      refine ⟨?_, ce.cp (by rw [eN]; exact Nat.le_refl _) (fun q _ => by rw [eK]) (fun q i h1 _ => eR q i (by omega)) (fun q h1 _ => eI q (by omega)) rfl rfl rfl rfl⟩
      show hR g 9 j = some (ea (if j < k then j else j + 1))
      rw [e9 j (by omega), if_neg (by omega)]
      by_cases z : j < k
      · rw [if_pos z] at x1 ⊢
        rw [if_neg (by omega)]
        exact x1
      · rw [if_neg z] at x1 ⊢
        rw [if_pos (by omega)]
        exact x1
    · have h1' : vN v - 1 ≤ j := h1
      rw [e9 j h2]
      by_cases z : j = vN v - 1
      · rw [if_pos z]
      · rw [if_neg z, if_neg (by omega)]
        exact b4 j (by omega) h2
    · have hj' : j < vN v - 1 := hj
      exact b5 _ _ (by split <;> split <;> omega) (sh j hj')
end
