/-! spelling: readings from the end of the input -/
abbrev Qd : Type := Nat × Nat × Nat × Nat
def tk (x y : Qd) : Qd := ((x.1 + y.1) % 1000000, if y.2.1 < x.2.1 then y.2.1 else x.2.1, if y.2.1 < x.2.1 then y.2.2.1 else if y.2.1 = x.2.1 then (x.2.2.1 + y.2.2.1) % 1000000 else x.2.2.1, if y.2.1 < x.2.1 then y.2.2.2 + 1 else if y.2.1 = x.2.1 then min x.2.2.2 (y.2.2.2 + 1) else x.2.2.2)
def dgt (y : Qd) : Qd := (y.1, y.2.1 + 1, y.2.2.1, y.2.2.2 + 1)
def QB (n : Nat) (x : Qd) : Prop := x.1 < 1000000 ∧ x.2.1 ≤ n ∧ x.2.2.1 < 1000000 ∧ x.2.2.2 ≤ n
theorem QB.tk {n m : Nat} {x y : Qd} (hx : QB n x) (hy : QB m y) (hm : m < n) : QB n (tk x y) := by
  obtain ⟨a1, a2, a3, a4⟩ := hx
  obtain ⟨b1, b2, b3, b4⟩ := hy
  have hmod : ∀ z, z % 1000000 < 1000000 := fun z => Nat.mod_lt z (by decide)
  refine ⟨hmod _, ?_, ?_, ?_⟩
  · show (if y.2.1 < x.2.1 then y.2.1 else x.2.1) ≤ n
    split <;> omega
  · show (if y.2.1 < x.2.1 then y.2.2.1 else if y.2.1 = x.2.1 then (x.2.2.1 + y.2.2.1) % 1000000 else x.2.2.1) < 1000000
    split
    · omega
    · split
      · exact hmod _
      · omega
  · show (if y.2.1 < x.2.1 then y.2.2.2 + 1 else if y.2.1 = x.2.1 then min x.2.2.2 (y.2.2.2 + 1) else x.2.2.2) ≤ n
    split
    · omega
    · split <;> omega
theorem QB.dgt {n : Nat} {y : Qd} (hy : QB n y) : QB (n + 1) (dgt y) := ⟨hy.1, by show y.2.1 + 1 ≤ n + 1; have := hy.2.1; omega, hy.2.2.1, by show y.2.2.2 + 1 ≤ n + 1; have := hy.2.2.2; omega⟩
def rwD (v : Vw) (p : Sq) (T : Nat → Qd) (a : Nat) : Nat → Qd
  | 0 => dgt (T (a + 1))
  | k + 1 => if ty v p k a then tk (rwD v p T a k) (T (a + vl v k)) else rwD v p T a k
def Dt (v : Vw) (p : Sq) : Nat → Nat → Qd
  | 0 => fun _ => (1, 0, 1, 0)
  | z + 1 => fun q => if q = p.1 - (z + 1) then rwD v p (Dt v p z) (p.1 - (z + 1)) (vN v) else Dt v p z q
theorem rwD_QB {v : Vw} {p : Sq} {T : Nat → Qd} {a : Nat} (vo : VOK v) (ha : a < p.1) (hT : ∀ q, a < q → q ≤ p.1 → QB (p.1 - q) (T q)) : ∀ k, k ≤ vN v → QB (p.1 - a) (rwD v p T a k) := by
  intro k
  induction k with
  | zero =>
    intro _
    have := (hT (a + 1) (by omega) (by omega)).dgt
    rw [show p.1 - (a + 1) + 1 = p.1 - a by omega] at this
    exact this
  | succ k ih =>
    intro hk
    have h1 := (vo.2.1 k (by omega)).1
    show QB (p.1 - a) (if ty v p k a then tk (rwD v p T a k) (T (a + vl v k)) else rwD v p T a k)
    split
    · next h => exact (ih (by omega)).tk (hT (a + vl v k) (by omega) h.1) (by have := h.1; omega)
    · exact ih (by omega)
theorem Dt_QB {v : Vw} {p : Sq} (vo : VOK v) : ∀ z, z ≤ p.1 → ∀ q, p.1 - z ≤ q → q ≤ p.1 → QB (p.1 - q) (Dt v p z q) := by
  intro z
  induction z with
  | zero => intro _ q _ _; exact ⟨by show 1 < 1000000; omega, Nat.zero_le _, by show 1 < 1000000; omega, Nat.zero_le _⟩
  | succ z ih =>
    intro hz q h1 h2
    show QB (p.1 - q) (if q = p.1 - (z + 1) then rwD v p (Dt v p z) (p.1 - (z + 1)) (vN v) else Dt v p z q)
    split
    · next e =>
      rw [e]
      exact rwD_QB vo (by omega) (fun q' a b => ih (by omega) q' (by omega) b) (vN v) (Nat.le_refl _)
    · exact ih (by omega) q (by omega) h2
def V4 (a1 a2 a3 a4 : Nat) (x : Qd) (q : Nat) (h : Hp) : Prop := hI h a1 q = nI x.1 ∧ hI h a2 q = nI x.2.1 ∧ hI h a3 q = nI x.2.2.1 ∧ hI h a4 q = nI x.2.2.2
/-- four rows: only their place a may have changed -/
def K4 (a1 a2 a3 a4 a : Nat) (h h' : Hp) : Prop := OnlyI (fun q => q = a1 ∨ q = a2 ∨ q = a3 ∨ q = a4) h h' ∧ ∀ q, q ≠ a → hI h' a1 q = hI h a1 q ∧ hI h' a2 q = hI h a2 q ∧ hI h' a3 q = hI h a3 q ∧ hI h' a4 q = hI h a4 q
section
variable {a1 a2 a3 a4 a : Nat} {h h' h'' : Hp}
theorem K4.rf : K4 a1 a2 a3 a4 a h h := ⟨OnlyI.rf, fun _ _ => ⟨rfl, rfl, rfl, rfl⟩⟩
theorem K4.tr (k1 : K4 a1 a2 a3 a4 a h h') (k2 : K4 a1 a2 a3 a4 a h' h'') : K4 a1 a2 a3 a4 a h h'' := ⟨k1.1.tr k2.1, fun q hq => by
  obtain ⟨x1, x2, x3, x4⟩ := k1.2 q hq
  obtain ⟨y1, y2, y3, y4⟩ := k2.2 q hq
  exact ⟨y1.trans x1, y2.trans x2, y3.trans x3, y4.trans x4⟩⟩
theorem K4.set {r : Nat} {x : Int32} (hr : r = a1 ∨ r = a2 ∨ r = a3 ∨ r = a4) : K4 a1 a2 a3 a4 a h (setI h r a x) := by
  refine ⟨OnlyI.set hr, fun q hq => ?_⟩
  have : ∀ b, hI (setI h r a x) b q = hI h b q := by
    intro b
    rw [hI_setI]
    split
    · next e => rw [upd_ne _ _ hq, e]
    · rfl
  exact ⟨this a1, this a2, this a3, this a4⟩
theorem K4.put {r : Nat} {x : Int32} (k : K4 a1 a2 a3 a4 a h h') (hr : r = a1 ∨ r = a2 ∨ r = a3 ∨ r = a4) : K4 a1 a2 a3 a4 a h (setI h' r a x) := k.tr (K4.set hr)
theorem V4.fr {x : Qd} {q : Nat} (k : K4 a1 a2 a3 a4 a h h') (hq : q ≠ a) (s : V4 a1 a2 a3 a4 x q h) : V4 a1 a2 a3 a4 x q h' := by
  obtain ⟨y1, y2, y3, y4⟩ := k.2 q hq
  obtain ⟨x1, x2, x3, x4⟩ := s
  exact ⟨y1.trans x1, y2.trans x2, y3.trans x3, y4.trans x4⟩
end
section
variable {v : Vw} {p : Sq} {h : Hp}
theorem C_digitPiece (hL : Lay h) {a : Nat} (ha : a < 10) {y : Qd} (hy : V4 18 19 20 21 y (a + 1) h) : ∃ h', f_X6_studyDigit 17 (nI a) h = some h' ∧ K4 18 19 20 21 a h h' ∧ V4 18 19 20 21 (dgt y) a h' := by
  obtain ⟨y1, y2, y3, y4⟩ := hy
  have hL1 : Lay (setI h 18 a (nI y.1)) := hL.setI _ _ _
  have hL2 : Lay (setI (setI h 18 a (nI y.1)) 19 a (nI (y.2.1 + 1))) := hL1.setI _ _ _
  have hL3 : Lay (setI (setI (setI h 18 a (nI y.1)) 19 a (nI (y.2.1 + 1))) 20 a (nI y.2.2.1)) := hL2.setI _ _ _
  refine ⟨setI (setI (setI (setI h 18 a (nI y.1)) 19 a (nI (y.2.1 + 1))) 20 a (nI y.2.2.1)) 21 a (nI (y.2.2.2 + 1)), ?_, ?_, ?_⟩
  · unfold f_X6_studyDigit
    have e2 : hI (setI h 18 a (nI y.1)) 19 (a + 1) = nI y.2.1 := by rw [hI_setI_ne _ _ _ (by decide)]; exact y2
    have e3 : hI (setI (setI h 18 a (nI y.1)) 19 a (nI (y.2.1 + 1))) 20 (a + 1) = nI y.2.2.1 := by rw [hI_setI_ne _ _ _ (by decide), hI_setI_ne _ _ _ (by decide)]; exact y3
    have e4 : hI (setI (setI (setI h 18 a (nI y.1)) 19 a (nI (y.2.1 + 1))) 20 a (nI y.2.2.1)) 21 (a + 1) = nI y.2.2.2 := by rw [hI_setI_ne _ _ _ (by decide), hI_setI_ne _ _ _ (by decide), hI_setI_ne _ _ _ (by decide)]; exact y4
    simp (disch := omega) only [gd_17 hL, CG hL, CP hL, CG hL1, CP hL1, CG hL2, CP hL2, CG hL3, CP hL3, nI_add, Option.bind_some, y1, e2, e3, e4]
  · exact (((K4.set (Or.inl rfl)).put (Or.inr (Or.inl rfl))).put (Or.inr (Or.inr (Or.inl rfl)))).put (Or.inr (Or.inr (Or.inr rfl)))
  · unfold V4 dgt
    simp [hI_setI, upd_same]
theorem C_within {a b : Nat} (hab : a < b) (hb : b < 11) (h : Hp) : f_X6_isWithin (nI a) (nI b) h = some (nI 1) := by
  unfold f_X6_isWithin
  rw [if_neg (nI_lt0 a (by omega)), if_neg (nI_ge hab (by omega)), if_neg (nI_nlt (show b ≤ 10 by omega) (by decide))]
  simp only [Option.bind_some, rz_1]
theorem C_namePiece (hL : Lay h) {a b n m : Nat} (ha : a < 11) (hb : b < 11) (hab : a < b) {x y : Qd} (hx : V4 18 19 20 21 x a h) (hy : V4 18 19 20 21 y b h) (qx : QB n x) (qy : QB m y) (hn : n ≤ 10) (hm : m ≤ 10) :
    ∃ h', f_X6_studyName 17 (nI a) (nI b) h = some h' ∧ K4 18 19 20 21 a h h' ∧ V4 18 19 20 21 (tk x y) a h' := by
  obtain ⟨y1, y2, y3, y4⟩ := hy
  obtain ⟨x1, x2, x3, x4⟩ := hx
  obtain ⟨q1, q2, q3, q4⟩ := qx
  obtain ⟨r1, r2, r3, r4⟩ := qy
  have hr : ∀ u w : Nat, u < 1000000 → w < 1000000 → nI (u + w) - nI (u + w) / nI 1000000 * nI 1000000 = nI ((u + w) % 1000000) := fun u w hu hw => pk_rem (by omega) (by decide) (by decide)
  have hL1 : Lay (setI h 18 a (nI ((x.1 + y.1) % 1000000))) := hL.setI _ _ _
  have e1 : ∀ q, q ≠ 18 → hI (setI h 18 a (nI ((x.1 + y.1) % 1000000))) q = hI h q := fun q hq => hI_setI_ne _ _ _ hq
  unfold f_X6_studyName
  simp only [gd_17 hL, C_within hab hb h, Option.bind_some, if_neg nI01]
  simp (disch := omega) only [CG hL, CP hL, CG hL1, CP hL1, Option.bind_some, x1, y1, nI_add, hr x.1 y.1 q1 r1]
  simp (disch := omega) only [e1, x2, y2, x3, y3, x4, y4, nI_leI, nI_eq, nI_add, hr x.2.2.1 y.2.2.1 q3 r3, imn_nI]
  by_cases c1 : y.2.1 < x.2.1
  · rw [if_neg (by omega)]
    have hL2 : Lay (setI (setI h 18 a (nI ((x.1 + y.1) % 1000000))) 19 a (nI y.2.1)) := hL1.setI _ _ _
    have hL3 : Lay (setI (setI (setI h 18 a (nI ((x.1 + y.1) % 1000000))) 19 a (nI y.2.1)) 20 a (nI y.2.2.1)) := hL2.setI _ _ _
    refine ⟨setI (setI (setI (setI h 18 a (nI ((x.1 + y.1) % 1000000))) 19 a (nI y.2.1)) 20 a (nI y.2.2.1)) 21 a (nI (y.2.2.2 + 1)), ?_, ?_, ?_⟩
    · have e3 : hI (setI (setI h 18 a (nI ((x.1 + y.1) % 1000000))) 19 a (nI y.2.1)) 20 b = nI y.2.2.1 := by rw [hI_setI_ne _ _ _ (by decide), hI_setI_ne _ _ _ (by decide)]; exact y3
      have e4 : hI (setI (setI (setI h 18 a (nI ((x.1 + y.1) % 1000000))) 19 a (nI y.2.1)) 20 a (nI y.2.2.1)) 21 b = nI y.2.2.2 := by rw [hI_setI_ne _ _ _ (by decide), hI_setI_ne _ _ _ (by decide), hI_setI_ne _ _ _ (by decide)]; exact y4
      simp (disch := omega) only [CG hL2, CP hL2, CG hL3, CP hL3, nI_add, Option.bind_some, e3, e4]
    · exact (((K4.set (Or.inl rfl)).put (Or.inr (Or.inl rfl))).put (Or.inr (Or.inr (Or.inl rfl)))).put (Or.inr (Or.inr (Or.inr rfl)))
    · unfold V4 tk
      simp [hI_setI, upd_same, c1]
  · rw [if_pos (by omega)]
    by_cases c2 : y.2.1 = x.2.1
    · rw [if_pos c2]
      have hL2 : Lay (setI (setI h 18 a (nI ((x.1 + y.1) % 1000000))) 20 a (nI ((x.2.2.1 + y.2.2.1) % 1000000))) := hL1.setI _ _ _
      refine ⟨setI (setI (setI h 18 a (nI ((x.1 + y.1) % 1000000))) 20 a (nI ((x.2.2.1 + y.2.2.1) % 1000000))) 21 a (nI (min x.2.2.2 (y.2.2.2 + 1))), ?_, ?_, ?_⟩
      · have e4 : ∀ q, hI (setI (setI h 18 a (nI ((x.1 + y.1) % 1000000))) 20 a (nI ((x.2.2.1 + y.2.2.1) % 1000000))) 21 q = hI h 21 q := fun q => by rw [hI_setI_ne _ _ _ (by decide), hI_setI_ne _ _ _ (by decide)]
        simp (disch := omega) only [CG hL2, CP hL2, Option.bind_some, e4, x4, y4, nI_add, imn_nI]
      · exact ((K4.set (Or.inl rfl)).put (Or.inr (Or.inr (Or.inl rfl)))).put (Or.inr (Or.inr (Or.inr rfl)))
      · unfold V4 tk
        simp [hI_setI, upd_same, c2, x2]
    · rw [if_neg c2]
      refine ⟨setI h 18 a (nI ((x.1 + y.1) % 1000000)), rfl, K4.set (Or.inl rfl), ?_⟩
      unfold V4 tk
      simp [hI_setI, upd_same, c1, c2, x2, x3, x4]
end
