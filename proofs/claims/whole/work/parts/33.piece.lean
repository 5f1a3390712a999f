/-! the best spelling's pieces -/
def fsti (P : Nat → Prop) [DecidablePred P] : Nat → Nat → Nat
  | k, 0 => k
  | k, n + 1 => if P k then k else fsti P (k + 1) n
theorem lp_fst {β : Type} {W : Nat → Nat → β} {N : Nat} {P : Nat → Prop} [DecidablePred P] {r0 : β} {g : Nat → β} (hx : ∀ n, W (n + 1) N = r0) (hs : ∀ n k, k < N → (P k → W (n + 1) k = g k) ∧ (¬ P k → W (n + 1) k = W n (k + 1))) :
    ∀ n k, k ≤ N → N - k < n → W n k = if fsti P k (N - k) < N then g (fsti P k (N - k)) else r0 := by
  intro n
  induction n with
  | zero => intro k h1 h2; omega
  | succ n ih =>
    intro k h1 h2
    by_cases e : k = N
    · subst e
      rw [show k - k = 0 by omega]
      show _ = if k < k then _ else r0
      rw [if_neg (by omega)]
      exact hx n
    · obtain ⟨z, hz⟩ : ∃ z, N - k = z + 1 := ⟨N - k - 1, by omega⟩
      have e2 : fsti P k (N - k) = if P k then k else fsti P (k + 1) (N - (k + 1)) := by rw [hz, show N - (k + 1) = z by omega]; rfl
      by_cases hp : P k
      · rw [e2, if_pos hp, if_pos (by omega)]
        exact (hs n k (by omega)).1 hp
      · rw [e2, if_neg hp, (hs n k (by omega)).2 hp]
        exact ih (k + 1) (by omega) (by omega)
theorem fsti_P (P : Nat → Prop) [DecidablePred P] : ∀ n k, fsti P k n < k + n → P (fsti P k n) := by
  intro n
  induction n with
  | zero => intro k h; unfold fsti at h; omega
  | succ n ih =>
    intro k h
    have e : fsti P k (n + 1) = if P k then k else fsti P (k + 1) n := rfl
    rw [e] at h ⊢
    by_cases hp : P k
    · rw [if_pos hp]; exact hp
    · rw [if_neg hp] at h ⊢
      exact ih (k + 1) (by omega)
abbrev kb (T : Nat → Qd) (a b : Nat) : Prop := nI (T b).2.1 = nI (T a).2.1 ∧ nI ((T b).2.2.2 + 1) = nI (T a).2.2.2
def bn (v : Vw) (p : Sq) (a : Nat) : Nat := fsti (fun k => ty v p k a ∧ kb (Dt v p p.1) a (a + vl v k)) 0 (vN v)
def adv (v : Vw) (p : Sq) (a : Nat) : Nat := if bn v p a < vN v then vl v (bn v p a) else 1
def pv (v : Vw) (p : Sq) (a : Nat) : Int32 := if bn v p a < vN v then nI (bn v p a) else m2 - nI (p.2 a)
def ps (v : Vw) (p : Sq) : Nat → Nat
  | 0 => 0
  | n + 1 => ps v p n + adv v p (ps v p n)
/-- n pieces make the best spelling -/
def NP (v : Vw) (p : Sq) (n : Nat) : Prop := n ≤ 10 ∧ ps v p n = p.1 ∧ ∀ j, j < n → ps v p j < p.1
def sp (v : Vw) (p : Sq) (w : Nat) : Int32 := if w = 0 then nI (Dt v p p.1 0).1 else if w = 1 then nI (Dt v p p.1 0).2.1 else if w = 2 then nI (Dt v p p.1 0).2.2.2 else nI (Dt v p p.1 0).2.2.1
section
variable {v : Vw} {p : Sq} {h : Hp} {ea : Nat → Nat}
theorem adv_le (vo : VOK v) {a : Nat} (ha : a < p.1) : 1 ≤ adv v p a ∧ a + adv v p a ≤ p.1 := by
  unfold adv
  split
  · next c =>
    have q : ty v p (bn v p a) a ∧ _ := fsti_P _ (vN v) 0 (by rw [Nat.zero_add]; exact c)
    exact ⟨(vo.2.1 _ c).1, q.1.1⟩
  · exact ⟨Nat.le_refl 1, by omega⟩
theorem pv_ne (hp : IOK p) (vo : VOK v) {a : Nat} (ha : a < p.1) : ¬ pv v p a = m101 := by
  have h14 := vo.1
  unfold pv
  split
  · exact fun e => m101_ne (by omega) e.symm
  · have := hp.2 a ha
    rcases (by omega : p.2 a = 2 ∨ p.2 a = 3 ∨ p.2 a = 4 ∨ p.2 a = 5 ∨ p.2 a = 6 ∨ p.2 a = 7 ∨ p.2 a = 8 ∨ p.2 a = 9) with e | e | e | e | e | e | e | e <;> rw [e] <;> decide
theorem C_keeps (hL : Lay h) {T : Nat → Qd} {a b : Nat} (ha : a < 11) (hb : b < 11) (hab : a < b) (h1 : V4 18 19 20 21 (T a) a h) (h2 : V4 18 19 20 21 (T b) b h) : f_X6_keepsBest 17 (nI a) (nI b) h = some (b2 (kb T a b)) := by
  obtain ⟨x1, x2, x3, x4⟩ := h1
  obtain ⟨y1, y2, y3, y4⟩ := h2
  unfold f_X6_keepsBest
  simp only [gd_17 hL, C_within hab hb h, Option.bind_some, if_neg nI01]
  simp (disch := omega) only [CG hL, Option.bind_some, x2, y2, x4, y4, nI_add, ite_some, b2_def, b2_and, rz_b2]
theorem C_bestName (hL : Lay h) (cn : CN v ea h) (vo : VOK v) (hp : IOK p) (hc : CI p h) (hT : ∀ q, q ≤ p.1 → V4 18 19 20 21 (Dt v p p.1 q) q h) {a : Nat} (ha : a < p.1) : f_X6_bestNameAt 17 8 3 (nI a) h = some (if bn v p a < vN v then nI (bn v p a) else m1) := by
  have h14 := vo.1
  have hp1 := hp.1
  unfold f_X6_bestNameAt
  rw [gd_17 hL, ← ite_some]
  refine lp_fst (W := fun n i => f_X6_bestNameAt_L3 17 8 3 (nI a) h (some m1) n (nI i)) (N := vN v) (P := fun k => ty v p k a ∧ kb (Dt v p p.1) a (a + vl v k)) (g := fun i => some (nI i)) (fun n => ?_) (fun n i hi => ?_) FU 0 (Nat.zero_le _) (FU_gt (by omega))
  · show f_X6_bestNameAt_L3 _ _ _ _ _ _ _ _ = _
    unfold f_X6_bestNameAt_L3
    simp only [R_size hL cn, Option.bind_some, if_pos (nI_le (Nat.le_refl (vN v)) (show vN v < 2 ^ 31 by omega))]
  · constructor
    · intro z
      have z1 := z.1.1
      have hl := vo.2.1 i hi
      show f_X6_bestNameAt_L3 _ _ _ _ _ _ _ _ = _
      unfold f_X6_bestNameAt_L3
      simp only [R_size hL cn, Option.bind_some, if_neg (nI_ge hi (show vN v < 2 ^ 31 by omega)), R_typed hL cn vo hp hc hi (show a ≤ 10 by omega), b2_eq0]
      rw [if_neg (fun x => x z.1)]
      simp only [R_len hL cn vo hi, Option.bind_some, nI_add, C_keeps hL (T := Dt v p p.1) (a := a) (b := a + vl v i) (by omega) (by omega) (by omega) (hT a (by omega)) (hT _ z1), b2_eq0]
      rw [if_neg (fun x => x z.2)]
    · intro z
      show f_X6_bestNameAt_L3 _ _ _ _ _ _ _ _ = f_X6_bestNameAt_L3 _ _ _ _ _ _ _ _
      conv => lhs; unfold f_X6_bestNameAt_L3
      simp only [R_size hL cn, Option.bind_some, if_neg (nI_ge hi (show vN v < 2 ^ 31 by omega)), R_typed hL cn vo hp hc hi (show a ≤ 10 by omega), b2_eq0]
      by_cases y : ty v p i a
      · have z1 := y.1
        have hl := vo.2.1 i hi
        rw [if_neg (fun x => x y)]
        simp only [R_len hL cn vo hi, Option.bind_some, nI_add, C_keeps hL (T := Dt v p p.1) (a := a) (b := a + vl v i) (by omega) (by omega) (by omega) (hT a (by omega)) (hT _ z1), b2_eq0]
        rw [if_pos (fun x => z ⟨y, x⟩)]
      · rw [if_pos y, nI_add]
theorem M_bestName (hL : Lay h) (mn : MN v h) (mk : MK v h) (mi : MI p h) (vo : VOK v) (hp : IOK p) (hT : ∀ q, q ≤ p.1 → V4 90 91 93 92 (Dt v p p.1 q) q h) {a : Nat} (ha : a < p.1) : f_X10_bestName 77 (nI a) h = some (if bn v p a < vN v then nI (bn v p a) else m1) := by
  have h14 := vo.1
  have hp1 := hp.1
  unfold f_X10_bestName
  rw [gd_77 hL, ← ite_some]
  refine lp_fst (W := fun n i => f_X10_bestName_L2 77 (nI a) h (some m1) n (nI i)) (N := vN v) (P := fun k => ty v p k a ∧ kb (Dt v p p.1) a (a + vl v k)) (g := fun i => some (nI i)) (fun n => ?_) (fun n i hi => ?_) FU 0 (Nat.zero_le _) (FU_gt (by omega))
  · show f_X10_bestName_L2 _ _ _ _ _ _ = _
    unfold f_X10_bestName_L2
    simp only [MG hL, mn.1, Option.bind_some, if_pos (nI_le (Nat.le_refl (vN v)) (show vN v < 2 ^ 31 by omega))]
  · constructor
    · intro z
      have z1 := z.1.1
      obtain ⟨x1, x2, x3, x4⟩ := hT a (by omega)
      obtain ⟨y1, y2, y3, y4⟩ := hT _ z1
      show f_X10_bestName_L2 _ _ _ _ _ _ = _
      unfold f_X10_bestName_L2
      simp only [MG hL, mn.1, Option.bind_some, if_neg (nI_ge hi (show vN v < 2 ^ 31 by omega)), M_fits hL mn mk mi vo hp hi (show a ≤ 10 by omega), b2_eq0]
      rw [if_neg (fun x => x z.1)]
      simp (disch := omega) only [MG hL, MV mn, Option.bind_some, nI_add, x2, y2, x4, y4]
      rw [if_pos z.2.1, if_pos z.2.2]
    · intro z
      show f_X10_bestName_L2 _ _ _ _ _ _ = f_X10_bestName_L2 _ _ _ _ _ _
      conv => lhs; unfold f_X10_bestName_L2
      simp only [MG hL, mn.1, Option.bind_some, if_neg (nI_ge hi (show vN v < 2 ^ 31 by omega)), M_fits hL mn mk mi vo hp hi (show a ≤ 10 by omega), b2_eq0]
      by_cases y : ty v p i a
      · have z1 := y.1
        obtain ⟨x1, x2, x3, x4⟩ := hT a (by omega)
        obtain ⟨y1, y2, y3, y4⟩ := hT _ z1
        rw [if_neg (fun x => x y)]
        simp (disch := omega) only [MG hL, MV mn, Option.bind_some, nI_add, x2, y2, x4, y4]
        by_cases w : nI (Dt v p p.1 (a + vl v i)).2.1 = nI (Dt v p p.1 a).2.1
        · rw [if_pos w, if_neg (fun x => z ⟨y, w, x⟩)]
        · rw [if_neg w]
      · rw [if_pos y, nI_add]
abbrev R6 (q : Nat) : Prop := q = 22 ∨ q = 23
theorem C_best (hL : Lay h) (cn : CN v ea h) (vo : VOK v) (hp : IOK p) (hc : CI p h) (hT : ∀ q, q ≤ p.1 → V4 18 19 20 21 (Dt v p p.1 q) q h) : ∃ n g, f_X6_layBest 17 8 3 h = some g ∧ OnlyI R6 h g ∧ NP v p n ∧ hI g 22 1 = nI n ∧ ∀ j, j < n → hI g 23 j = pv v p (ps v p j) := by
  have h14 := vo.1
  have hp1 := hp.1
  have key : ∀ (K : Hp → Option Hp) (f n : Nat) (g : Hp), n ≤ 10 → 10 - n < f → OnlyI R6 h g → (∀ j, j < n → ps v p j < p.1) → n ≤ ps v p n → ps v p n ≤ p.1 → hI g 22 1 = nI n → (∀ j, j < n → hI g 23 j = pv v p (ps v p j)) →
      ∃ n' g', f_X6_layBest_L13 17 8 3 K f (nI (ps v p n)) (nI n) g = K g' ∧ OnlyI R6 h g' ∧ NP v p n' ∧ hI g' 22 1 = nI n' ∧ ∀ j, j < n' → hI g' 23 j = pv v p (ps v p j) := by
    intro K f
    induction f with
    | zero => intro n g p1 p2; omega
    | succ f ih =>
      intro n g p1 p2 p3 p4 p5 p6 p7 p8
      have hLg : Lay g := hL.ss p3.1
      have cng : CN v ea g := cn.fr p3.1 (p3.2 8 (by unfold R6; omega)) (fun q hq => p3.2 q (by unfold R6; omega))
      have hcg : CI p g := hc.fr (p3.2 3 (by unfold R6; omega)) (p3.2 4 (by unfold R6; omega))
      have hTg : ∀ q, q ≤ p.1 → V4 18 19 20 21 (Dt v p p.1 q) q g := fun q hq => by
        unfold V4
        rw [p3.2 18 (by unfold R6; omega), p3.2 19 (by unfold R6; omega), p3.2 20 (by unfold R6; omega), p3.2 21 (by unfold R6; omega)]
        exact hT q hq
      unfold f_X6_layBest_L13
      by_cases c0 : n = 10
      · rw [if_pos (nI_le (by omega) (by omega))]
        exact ⟨n, g, rfl, p3, ⟨p1, by omega, p4⟩, p7, p8⟩
      · rw [if_neg (nI_ge (by omega) (by omega)), (row_inp hLg hp hcg).size]
        simp only [Option.bind_some]
        by_cases c1 : ps v p n = p.1
        · rw [if_pos (nI_le (by omega) (by omega))]
          exact ⟨n, g, rfl, p3, ⟨p1, c1, p4⟩, p7, p8⟩
        · have ha : ps v p n < p.1 := by omega
          have had := adv_le vo ha
          have r : RowAt g 22 23 10 n := ⟨hLg.o (by decide) rfl, hLg.r 23 rfl, hLg.a (by decide) rfl, p7, by omega, by decide, by decide⟩
          rw [if_neg (nI_ge ha (by omega)), C_bestName hLg cng vo hp hcg hTg ha]
          simp only [Option.bind_some]
          have step : ∀ x, x = pv v p (ps v p n) → ∃ n' g', f_X6_layBest_L13 17 8 3 K f (nI (ps v p n + adv v p (ps v p n))) (nI (n + 1)) (setI (setI g 23 n x) 22 1 (nI (n + 1))) = K g' ∧ OnlyI R6 h g' ∧ NP v p n' ∧ hI g' 22 1 = nI n' ∧ ∀ j, j < n' → hI g' 23 j = pv v p (ps v p j) := by
            intro x hx
            refine ih (n + 1) _ (by omega) (by omega) ((p3.put (Or.inr rfl)).put (Or.inl rfl)) (fun j hj => ?_) (by show n + 1 ≤ ps v p n + adv v p (ps v p n); omega) had.2 (by rw [hI_setI_eq, upd_same]) (fun j hj => ?_)
            · by_cases e : j = n
              · rw [e]; exact ha
              · exact p4 j (by omega)
            · rw [hI_setI_ne _ _ _ (by decide), hI_setI_eq]
              by_cases e : j = n
              · rw [e, upd_same]; exact hx
              · rw [upd_ne _ _ e]; exact p8 j (by omega)
          by_cases c2 : bn v p (ps v p n) < vN v
          · have hl := vo.2.1 _ c2
            have sx := step (nI (bn v p (ps v p n))) (by unfold pv; rw [if_pos c2])
            have ea2 : adv v p (ps v p n) = vl v (bn v p (ps v p n)) := by unfold adv; rw [if_pos c2]
            have hLg2 : Lay (setI (setI g 23 n (nI (bn v p (ps v p n)))) 22 1 (nI (n + 1))) := (hLg.setI _ _ _).setI _ _ _
            have o2 : OnlyI R6 h (setI (setI g 23 n (nI (bn v p (ps v p n)))) 22 1 (nI (n + 1))) := (p3.put (Or.inr rfl)).put (Or.inl rfl)
            have cng2 : CN v ea (setI (setI g 23 n (nI (bn v p (ps v p n)))) 22 1 (nI (n + 1))) := cn.fr o2.1 (o2.2 8 (by unfold R6; omega)) (fun q hq => o2.2 q (by unfold R6; omega))
            rw [ea2] at sx
            simp only [if_pos c2, if_neg (fun e => m1_ne (show bn v p (ps v p n) < 2 ^ 31 by omega) (Eq.symm e)), CG hLg, Option.bind_some, r.add (by omega), R_len hLg2 cng2 vo c2, nI_add]
            exact sx
          · have sx := step (m2 - nI (p.2 (ps v p n))) (by unfold pv; rw [if_neg c2])
            have ea2 : adv v p (ps v p n) = 1 := by unfold adv; rw [if_neg c2]
            rw [ea2] at sx
            simp only [if_neg c2, if_true, CG hLg, Option.bind_some, (row_inp hLg hp hcg).get ha, hcg.2 _ ha, r.add (show n < 10 by omega), nI_add]
            exact sx
  unfold f_X6_layBest f_X8_clear
  have o22 : 22 < hN h ∧ (hK h 22).1 = 8 := hL.o (by decide) rfl
  simp only [gd_17 hL, CG hL, Option.bind_some, gd_of o22, getI_of o22, putI_of o22]
  obtain ⟨n', g', q1, q2, q3, q4, q5⟩ := key (fun h15 => some h15) FU 0 (setI h 22 1 (nI 0)) (Nat.zero_le _) (FU_gt (by decide)) (OnlyI.set (Or.inl rfl)) (fun j hj => by omega) (Nat.zero_le _) (Nat.zero_le _) (by rw [hI_setI_eq, upd_same]) (fun j hj => by omega)
  exact ⟨n', g', q1, q2, q3, q4, q5⟩
abbrev R46 (q : Nat) : Prop := 18 ≤ q ∧ q ≤ 23
/-- the class's study -/
theorem C_study (hL : Lay h) (cn : CN v ea h) (vo : VOK v) (hp : IOK p) (hc : CI p h) : ∃ n g, f_X6_study 17 8 3 h = some g ∧ OnlyI R46 h g ∧ (∀ q, q ≤ p.1 → V4 18 19 20 21 (Dt v p p.1 q) q g) ∧ NP v p n ∧ hI g 22 1 = nI n ∧ ∀ j, j < n → hI g 23 j = pv v p (ps v p j) := by
  have hp1 := hp.1
  have hL1 : Lay (setI h 18 p.1 (nI 1)) := hL.setI _ _ _
  have hL2 : Lay (setI (setI h 18 p.1 (nI 1)) 19 p.1 (nI 0)) := hL1.setI _ _ _
  have hL3 : Lay (setI (setI (setI h 18 p.1 (nI 1)) 19 p.1 (nI 0)) 20 p.1 (nI 1)) := hL2.setI _ _ _
  unfold f_X6_study
  simp only [gd_17 hL, (row_inp hL hp hc).size, Option.bind_some, imn_nI (show p.1 < 2 ^ 31 by omega) (show 10 < 2 ^ 31 by decide), Nat.min_eq_left hp1]
  simp (disch := omega) only [CG hL, CP hL, CG hL1, CP hL1, CG hL2, CP hL2, CG hL3, CP hL3, Option.bind_some]
  have k0 : K4 18 19 20 21 p.1 h (setI (setI (setI (setI h 18 p.1 (nI 1)) 19 p.1 (nI 0)) 20 p.1 (nI 1)) 21 p.1 (nI 0)) := (((K4.set (Or.inl rfl)).put (Or.inr (Or.inl rfl))).put (Or.inr (Or.inr (Or.inl rfl)))).put (Or.inr (Or.inr (Or.inr rfl)))
  have v0 : V4 18 19 20 21 (1, 0, 1, 0) p.1 (setI (setI (setI (setI h 18 p.1 (nI 1)) 19 p.1 (nI 0)) 20 p.1 (nI 1)) 21 p.1 (nI 0)) := by unfold V4; simp [hI_setI, upd_same]
  generalize setI (setI (setI (setI h 18 p.1 (nI 1)) 19 p.1 (nI 0)) 20 p.1 (nI 1)) 21 p.1 (nI 0) = g at *
  obtain ⟨g1, q1, q2, q3⟩ := C_table hL cn vo hp hc (fun h20 => (f_X6_layBest 17 8 3 h20).bind fun h21 => some h21) p.1 FU g (Nat.le_refl _) (FU_gt (by omega)) k0.1 (fun q a b => by
    rw [show p.1 - p.1 = 0 by omega, show q = p.1 by omega]
    exact v0)
  have hLg : Lay g1 := hL.ss q2.1
  have cng : CN v ea g1 := cn.fr q2.1 (q2.2 8 (by unfold R4; omega)) (fun q hq => q2.2 q (by unfold R4; omega))
  have hcg : CI p g1 := hc.fr (q2.2 3 (by unfold R4; omega)) (q2.2 4 (by unfold R4; omega))
  obtain ⟨n, g2, r1, r2, r3, r4, r5⟩ := C_best hLg cng vo hp hcg q3
  refine ⟨n, g2, ?_, (q2.mono (fun q z => ?_)).tr (r2.mono (fun q z => ?_)), fun q hq => ?_, r3, r4, r5⟩
  · rw [sub1, q1, r1]; rfl
  · unfold R4 at z; unfold R46; omega
  · unfold R6 at z; unfold R46; omega
  · unfold V4
    rw [r2.2 18 (by unfold R6; omega), r2.2 19 (by unfold R6; omega), r2.2 20 (by unfold R6; omega), r2.2 21 (by unfold R6; omega)]
    exact q3 q hq
theorem C_number (hL : Lay h) (hT : V4 18 19 20 21 (Dt v p p.1 0) 0 h) {w : Nat} (hw : w ≤ 3) : f_X6_number 17 (nI w) h = some (sp v p w) := by
  obtain ⟨x1, x2, x3, x4⟩ := hT
  unfold f_X6_number
  simp (disch := omega) only [gd_17 hL, CG hL, Option.bind_some, nI_eq, x1, x2, x3, x4]
  unfold sp
  rcases (by omega : w = 0 ∨ w = 1 ∨ w = 2 ∨ w = 3) with rfl | rfl | rfl | rfl <;> rfl
theorem C_numberN (hL : Lay h) {x : Int32} (hx : x < nI 0 ∨ nI 4 ≤ x) : f_X6_number 17 x h = some m102 := by
  have ne : ∀ n, n < 4 → ¬ x = nI n := by
    rintro n hn rfl
    rcases hx with z | z
    · exact nI_lt0 n (by omega) z
    · rw [nI_leI (by decide) (by omega)] at z
      omega
  unfold f_X6_number
  simp only [gd_17 hL, if_neg (ne 0 (by decide)), if_neg (ne 1 (by decide)), if_neg (ne 2 (by decide)), if_neg (ne 3 (by decide))]
theorem M_spell (hL : Lay h) (mn : MN v h) (mk : MK v h) (mi : MI p h) (vo : VOK v) (hp : IOK p) {w : Nat} (hw : w ≤ 3) : ∃ g, f_X10_spellingNow 77 (nI w) h = some (sp v p w, g) ∧ OnlyI R4m h g := by
  obtain ⟨g, q1, q2, q3⟩ := M_lay hL mn mk mi vo hp
  have hLg : Lay g := hL.ss q2.1
  obtain ⟨x1, x2, x3, x4⟩ := q3 0 (Nat.zero_le _)
  refine ⟨g, ?_, q2⟩
  unfold f_X10_spellingNow
  simp (disch := omega) only [gd_77 hL, q1, MG hLg, Option.bind_some, nI_eq, x1, x2, x3, x4]
  unfold sp
  rcases (by omega : w = 0 ∨ w = 1 ∨ w = 2 ∨ w = 3) with rfl | rfl | rfl | rfl <;> rfl
theorem M_piece (hL : Lay h) (mn : MN v h) (mk : MK v h) (mi : MI p h) (vo : VOK v) (hp : IOK p) {n : Nat} (np : NP v p n) (x : Int32) : ∃ g y, f_X10_pieceNow 77 x h = some (y, g) ∧ OnlyI R4m h g ∧ (∀ j, j < n → x = nI j → y = pv v p (ps v p j)) ∧ (x < nI 0 ∨ nI n ≤ x → y = m101) := by
  have hp1 := hp.1
  have h14 := vo.1
  obtain ⟨g, q1, q2, q3⟩ := M_lay hL mn mk mi vo hp
  have hLg : Lay g := hL.ss q2.1
  have e : ∀ q, q < 90 → hI g q = hI h q := fun q hq => q2.2 q (by unfold R4m; omega)
  have mng : MN v g := by unfold MN at *; rw [e 77 (by omega), e 79 (by omega), e 80 (by omega), e 81 (by omega)]; exact mn
  have mkg : MK v g := by unfold MK at *; rw [e 82 (by omega)]; exact mk
  have mig : MI p g := by unfold MI at *; rw [e 77 (by omega), e 83 (by omega)]; exact mi
  have key : ∀ f i, i ≤ n → n - i < f → (∀ j, j < i → ¬ x = nI j) → ∃ y, f_X10_pieceNow_L8 77 x g (some (m101, g)) f (nI (ps v p i)) (nI i) = some (y, g) ∧ (∀ j, j < n → x = nI j → y = pv v p (ps v p j)) ∧ (x < nI 0 ∨ nI n ≤ x → y = m101) := by
    intro f
    induction f with
    | zero => intro i p1 p2; omega
    | succ f ih =>
      intro i p1 p2 p3
      unfold f_X10_pieceNow_L8
      by_cases c0 : i = n
      · subst c0
        simp only [MG hLg, mig.1, Option.bind_some, if_pos (nI_le (show p.1 ≤ ps v p i by have := np.2.1; omega) (show ps v p i < 2 ^ 31 by have := np.2.1; omega))]
        exact ⟨m101, rfl, fun j hj ej => absurd ej (p3 j hj), fun _ => rfl⟩
      · have ha := np.2.2 i (by omega)
        have had := adv_le vo ha
        have hn10 := np.1
        simp only [MG hLg, mig.1, Option.bind_some, if_neg (nI_ge ha (show p.1 < 2 ^ 31 by omega)), M_bestName hLg mng mkg mig vo hp q3 ha, nI_add]
        by_cases c1 : nI i = x
        · rw [if_pos c1]
          refine ⟨pv v p (ps v p i), ?_, fun j hj ej => ?_, fun z => ?_⟩
          · unfold pv
            by_cases c2 : bn v p (ps v p i) < vN v
            · simp only [if_pos c2, if_neg (fun e => m1_ne (show bn v p (ps v p i) < 2 ^ 31 by omega) (Eq.symm e)), Option.bind_some]
            · simp (disch := omega) only [if_neg c2, if_true, MG hLg, Option.bind_some, mig.2 _ ha]
          · have := (nI_eq (a := i) (b := j) (by omega) (by omega)).mp (c1.trans ej)
            rw [this]
          · rw [← c1] at z
            rcases z with z | z
            · exact absurd z (nI_lt0 i (by omega))
            · rw [nI_leI (by omega) (by omega)] at z; omega
        · rw [if_neg c1]
          obtain ⟨y, r1, r2, r3⟩ := ih (i + 1) (by omega) (by omega) (fun j hj ej => by
            by_cases ei : j = i
            · rw [ei] at ej; exact c1 ej.symm
            · exact p3 j (by omega) ej)
          refine ⟨y, ?_, r2, r3⟩
          have r1' : f_X10_pieceNow_L8 77 x g (some (m101, g)) f (nI (ps v p i + adv v p (ps v p i))) (nI (i + 1)) = some (y, g) := r1
          by_cases c2 : bn v p (ps v p i) < vN v
          · have ea2 : adv v p (ps v p i) = vl v (bn v p (ps v p i)) := by unfold adv; rw [if_pos c2]
            rw [ea2] at r1'
            simp (disch := omega) only [if_pos c2, if_neg (fun e => m1_ne (show bn v p (ps v p i) < 2 ^ 31 by omega) (Eq.symm e)), MG hLg, MV mng, Option.bind_some, nI_add]
            exact r1'
          · have ea2 : adv v p (ps v p i) = 1 := by unfold adv; rw [if_neg c2]
            rw [ea2] at r1'
            simp only [if_neg c2, if_true, Option.bind_some, nI_add]
            exact r1'
  obtain ⟨y, r1, r2, r3⟩ := key FU 0 (Nat.zero_le _) (FU_gt (by have := np.1; omega)) (fun j hj => by omega)
  refine ⟨g, y, ?_, q2, r2, r3⟩
  unfold f_X10_pieceNow
  simp only [gd_77 hL, q1, Option.bind_some]
  exact r1
end
section
variable {pm : Nat} {v : Vw} {t p : Sq} {m : Mn} {c : Nat → Int32} {h : Hp}
theorem OC.r46 {g : Hp} (hpm : pm = 39 ∨ pm = 58) (o : OnlyI R46 h g) : OC pm h g := OC.of (o.mono (fun q z => by unfold R46 at z; unfold scrC; omega))
theorem OM.r4 {g : Hp} (o : OnlyI R4m h g) : OM h g := OM.of (o.mono (fun q z => by unfold R4m at z; omega))
theorem op_spelling (sc : SC pm v t p m c h) (sm : SM v t p m c h) (vo : VOK v) (hp : IOK p) (x : Int32) : Both (f_X9_spelling 0 x) (f_X10_spelling 77 x) h (fun h2 => SC pm v t p m c h2 ∧ SM v t p m c h2) := by
  have hL := sc.1
  have hpm := sc.2.2.2.2.2.1.two
  obtain ⟨-, -, hc, -, ⟨ea, cn⟩, -⟩ := id sc
  obtain ⟨n, g, q1, q2, q3, q4, q5, q6⟩ := C_study hL cn vo hp hc
  have hLg : Lay g := hL.ss q2.1
  have sc1 := sc.oc (OC.r46 hpm q2)
  have sm1 := sm.oc hpm (OC.r46 hpm q2)
  have e : ∀ y, f_X6_number 17 x g = some y → f_X9_spelling 0 x h = some (y, g) := by
    intro y hy
    unfold f_X9_spelling
    simp only [gd_0 hL, CG hL, CG hLg, Option.bind_some, q1, hy]
  have out : x < nI 0 ∨ nI 4 ≤ x → Both (f_X9_spelling 0 x) (f_X10_spelling 77 x) h (fun h2 => SC pm v t p m c h2 ∧ SM v t p m c h2) := by
    intro hx
    refine ⟨m102, g, g, e _ (C_numberN hLg hx), ?_, sc1, sm1⟩
    unfold f_X10_spelling
    simp only [gd_77 hLg, p_within, Option.bind_some, b2_f (w1_out (n := 3) (by decide) hx), if_true]
  rcases ix_cases x (n := 4) (by decide) with c1 | ⟨c0, c1⟩ | ⟨k, hk, rfl⟩
  · exact out (Or.inl c1)
  · exact out (Or.inr c1)
  · obtain ⟨g2, r1, r2⟩ := M_spell hLg sm1.2.2.2.2.1 sm1.2.2.2.1 sm1.2.2.1 vo hp (w := k) (by omega)
    refine ⟨sp v p k, g, g2, e _ (C_number hLg (q3 0 (Nat.zero_le _)) (by omega)), ?_, sc1.om (OM.r4 r2), sm1.om (OM.r4 r2)⟩
    unfold f_X10_spelling
    simp only [gd_77 hLg, p_within, Option.bind_some, b2_t (w1_in (n := 3) (show k ≤ 3 by omega) (by decide)), if_neg nI01, r1]
theorem op_piece (sc : SC pm v t p m c h) (sm : SM v t p m c h) (vo : VOK v) (hp : IOK p) (x : Int32) : Both (f_X9_piece 0 x) (f_X10_piece 77 x) h (fun h2 => SC pm v t p m c h2 ∧ SM v t p m c h2) := by
  have hL := sc.1
  have hpm := sc.2.2.2.2.2.1.two
  obtain ⟨-, -, hc, -, ⟨ea, cn⟩, -⟩ := id sc
  obtain ⟨n, g, q1, q2, q3, q4, q5, q6⟩ := C_study hL cn vo hp hc
  have hLg : Lay g := hL.ss q2.1
  have sc1 := sc.oc (OC.r46 hpm q2)
  have sm1 := sm.oc hpm (OC.r46 hpm q2)
  have r : RowAt g 22 23 10 n := ⟨hLg.o (by decide) rfl, hLg.r 23 rfl, hLg.a (by decide) rfl, q5, q4.1, by decide, by decide⟩
  obtain ⟨g2, y, r1, r2, r3, r4⟩ := M_piece hLg sm1.2.2.2.2.1 sm1.2.2.2.1 sm1.2.2.1 vo hp q4 x
  have e : f_X8_get 22 x g = some y → f_X9_piece 0 x h = some (y, g) := by
    intro hy
    unfold f_X9_piece f_X6_best
    simp only [gd_0 hL, CG hL, CG hLg, gd_17 hLg, Option.bind_some, q1, hy]
  refine ⟨y, g, g2, e ?_, ?_, sc1.om (OM.r4 r2), sm1.om (OM.r4 r2)⟩
  · rcases ix_cases x (n := n) (by have := q4.1; omega) with c1 | ⟨c0, c1⟩ | ⟨k, hk, rfl⟩
    · rw [r.getN (Or.inl c1), r4 (Or.inl c1)]
    · rw [r.getN (Or.inr c1), r4 (Or.inr c1)]
    · rw [r.get hk, q6 k hk, r3 k hk rfl]
  · unfold f_X10_piece
    simp only [gd_77 hLg, Option.bind_some, r1]
end
