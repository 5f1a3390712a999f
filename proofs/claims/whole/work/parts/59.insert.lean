/-! a new name's place in the roster -/
section
variable {v w : Vw} {h : Hp} {ea : Nat → Nat} {l u : Nat} {tt : Nat → Nat}
theorem R_placeOf (hL : Lay h) (cn : CN v ea h) (vo : VOK v) (no : NOK v l tt u) {e : Nat} (ce : CE w 0 e h) (wl : vl w 0 = l) (wt : vt w 0 = tt) : f_X7_placeOf 8 e h = some (nI (plc v l tt)) := by
  have h14 := vo.1
  subst wl
  subst wt
  unfold f_X7_placeOf
  rw [gd_8 hL]
  simp only [CG hL, Option.bind_some, aln_of (hL.a (x := (12, 14)) (a := 9) (by decide) rfl)]
  have q := lp_up (W := fun n i => f_X7_placeOf_L14 e 9 (nI 14) h (fun y10 => some y10) n (nI (cnt (fun k => nltD (vl v k) (vt v k) (vl w 0) (vt w 0)) (min i (vN v)))) (nI i)) (N := 14) (r := some (nI (plc v (vl w 0) (vt w 0)))) (fun n => ?_) (fun n i hi => ?_) FU 0 (Nat.zero_le _) (FU_gt (by decide))
  · refine Eq.trans ?_ q
    show f_X7_placeOf_L14 _ _ _ _ _ _ _ _ = f_X7_placeOf_L14 _ _ _ _ _ _ _ _
    rw [Nat.min_eq_left (Nat.zero_le _)]
    rfl
  · show f_X7_placeOf_L14 _ _ _ _ _ _ _ _ = _
    unfold f_X7_placeOf_L14
    rw [if_pos (nI_le (Nat.le_refl _) (by decide)), Nat.min_eq_right h14]
    rfl
  · show f_X7_placeOf_L14 _ _ _ _ _ _ _ _ = f_X7_placeOf_L14 _ _ _ _ _ _ _ _
    conv => lhs; unfold f_X7_placeOf_L14
    rw [if_neg (nI_ge hi (by decide)), R_aldN hL cn hi, Option.bind_some]
    by_cases c : i < vN v
    · rw [if_pos c, Option.elim_some, E_before (cn.ce c) ce (vo.2.1 i c).2 no.2.1.2 (fun x hx => by have := (vo.2.2.1 i c x hx).2; omega) (fun x hx => by have := (no.2.2.1 x hx).2; omega), Option.bind_some, Nat.min_eq_left (by omega), Nat.min_eq_left (by omega), nI_add, nI_add, ite_some, Option.bind_some, nI_b2', cnt_succ]
    · rw [if_neg c, Option.elim_none, Option.bind_some, Nat.min_eq_right (by omega), Nat.min_eq_right (by omega), nI_add]
theorem C_insert (hL : Lay h) (cn : CN v ea h) (vo : VOK v) (n : NOK v l tt u) {e : Nat} (ce : CE w 0 e h) (wl : vl w 0 = l) (wt : vt w 0 = tt) (wu : vu w 0 = u) (wk : vk w = vk v) (far : ∀ k, k < vN v → ea k + 3 ≤ e) : ∃ g, f_X7_insert 8 e h = some g ∧ Lay g ∧ (∀ q, q ≠ 8 → hI g q = hI h q) ∧ hN g = hN h ∧ hK g = hK h ∧ (∀ q j, q ≠ 9 → hR g q j = hR h q j) ∧ CN (vins v (plc v l tt) l tt u) (insf (plc v l tt) e ea) g := by
  have h14 := n.1
  have pe := R_placeOf hL cn vo n ce wl wt
  have hP := plc_le (v := v) (l := l) (t := tt)
  generalize plc v l tt = P at *
  have key : ∀ (K : Hp → Option Hp) f i g, P ≤ i → i ≤ vN v → i - P < f → R9 h g → (∀ j, j < 14 → hR g 9 j = if i < j ∧ j ≤ vN v then hR h 9 (j - 1) else hR h 9 j) → ∃ g', f_X7_insert_L25 8 e (nI P) K f (nI i) g = K g' ∧ R9 h g' ∧ (∀ j, j < 14 → hR g' 9 j = if P < j ∧ j ≤ vN v then hR h 9 (j - 1) else hR h 9 j) := by
    intro K f
    induction f with
    | zero => intro i g h1 h2 h3; omega
    | succ f ih =>
      intro i g h1 h2 h3 h4 h5
      have hLg : Lay g := hL.r9 h4
      unfold f_X7_insert_L25
      by_cases c : i = P
      · subst c
        rw [if_pos (nI_le (Nat.le_refl _) (by omega))]
        exact ⟨g, rfl, h4, h5⟩
      · rw [if_neg (nI_ge (by omega) (by omega))]
        obtain ⟨i', rfl⟩ : ∃ i', i = i' + 1 := ⟨i - 1, by omega⟩
        have o9 : 9 < hN g ∧ hK g 9 = (12, 14) := hLg.a (by decide) rfl
        have er : hR g 9 i' = some (ea i') := by rw [h5 _ (by omega), if_neg (by omega)]; exact (cn.2.2.1 i' (by omega)).1
        have cei := cn.ce (show i' < vN v by omega)
        simp only [CG hLg, Option.bind_some, pk_sub (show 1 ≤ i' + 1 by omega), Nat.add_sub_cancel, aldN_of o9 (by decide) (show i' < 14 by omega), er, astN_of o9 (by decide) (show i' + 1 < 14 by omega) (some (ea i')) (fun x hx => by
          rw [Option.mem_some_iff] at hx
          subst hx
          rw [h4.1, h4.2.1, cei.2.1]
          exact ⟨by have := cei.1; omega, rfl⟩), nI_m1]
        refine ih i' _ (by omega) (by omega) (by omega) (h4.set _ _) (fun j hj => ?_)
        rw [hR_setR]
        by_cases ej : j = i' + 1
        · subst ej
          rw [if_pos ⟨rfl, rfl⟩, if_pos ⟨by omega, h2⟩, Nat.add_sub_cancel]
          exact (cn.2.2.1 i' (by omega)).1.symm
        · rw [if_neg (fun z => ej z.2), h5 j hj]
          by_cases z : i' + 1 < j ∧ j ≤ vN v
          · rw [if_pos z, if_pos ⟨by omega, z.2⟩]
          · rw [if_neg z, if_neg (by omega)]
  obtain ⟨g1, q1, q2, q3⟩ := key (fun h9 => (getR h9 7 8 0).bind fun x10 => (astN h9 x10 (nI P) (some e)).bind fun h11 => (getI h11 7 8 1).bind fun x12 => (putI h11 7 8 1 (x12 + (nI 1))).bind fun h13 => some h13) FU (vN v) h hP (Nat.le_refl _) (FU_gt (by omega)) R9.rf (fun j hj => by rw [if_neg (by omega)])
  have hL1 : Lay g1 := hL.r9 q2
  have r2 : R9 h (setR g1 9 P (some e)) := q2.set _ _
  have hL2 : Lay (setR g1 9 P (some e)) := hL.r9 r2
  have hL3 : Lay (setI (setR g1 9 P (some e)) 8 1 (nI (vN v + 1))) := hL2.setI _ _ _
  have e8 : hI (setR g1 9 P (some e)) 8 1 = nI (vN v) := by rw [r2.2.2.1]; exact cn.2.1
  have eI : ∀ q, q ≠ 8 → hI (setI (setR g1 9 P (some e)) 8 1 (nI (vN v + 1))) q = hI h q := fun q hq => by rw [hI_setI_ne _ _ _ hq, r2.2.2.1]
  have eN : hN (setI (setR g1 9 P (some e)) 8 1 (nI (vN v + 1))) = hN h := r2.1
  have eK : hK (setI (setR g1 9 P (some e)) 8 1 (nI (vN v + 1))) = hK h := r2.2.1
  have eR : ∀ q j, q ≠ 9 → hR (setI (setR g1 9 P (some e)) 8 1 (nI (vN v + 1))) q j = hR h q j := fun q j hq => r2.2.2.2 q j hq
  have e9 : ∀ j, j < 14 → hR (setI (setR g1 9 P (some e)) 8 1 (nI (vN v + 1))) 9 j = if j = P then some e else if P < j ∧ j ≤ vN v then hR h 9 (j - 1) else hR h 9 j := by
    intro j hj
    show hR (setR g1 9 P (some e)) 9 j = _
    rw [hR_setR]
    by_cases z : j = P
    · rw [if_pos ⟨rfl, z⟩, if_pos z]
    · rw [if_neg (fun y => z y.2), if_neg z]; exact q3 j hj
  have e81 : hI (setI (setR g1 9 P (some e)) 8 1 (nI (vN v + 1))) 8 1 = nI (vN v + 1) := by rw [hI_setI_eq, upd_same]
  refine ⟨setI (setR g1 9 P (some e)) 8 1 (nI (vN v + 1)), ?_, hL3, eI, eN, eK, eR, ?_⟩
  · unfold f_X7_insert
    rw [gd_8 hL]
    have o9 : 9 < hN g1 ∧ hK g1 9 = (12, 14) := hL1.a (by decide) rfl
    simp only [CG hL, cn.2.1, Option.bind_some, if_pos (nI_lt h14 (by decide)), pe, q1, CG hL1, CG hL2, CP hL2, e8, nI_add, astN_of o9 (by decide) (show P < 14 by omega) (some e) (fun x hx => by
      rw [Option.mem_some_iff] at hx
      subst hx
      rw [q2.1, q2.2.1, ce.2.1]
      exact ⟨by have := ce.1; omega, rfl⟩)]
  · generalize setI (setR g1 9 P (some e)) 8 1 (nI (vN v + 1)) = g at *
    obtain ⟨b1, b2, b3, b4, b5⟩ := cn
    have cpo : ∀ k j, k < vN v → insf P l (vl v) j = vl v k → insf P tt (vt v) j = vt v k → insf P u (vu v) j = vu v k → CE (vins v P l tt u) j (ea k) g := fun k j hk z1 z2 z3 => (b3 k hk).2.cp (by rw [eN]; exact Nat.le_refl _) (fun q _ => by rw [eK]) (fun q i h1 _ => eR q i (by omega)) (fun q h1 _ => eI q (by omega)) z1 z2 z3 rfl
    refine ⟨by show vN v + 1 ≤ 14; omega, e81, fun j hj => ?_, fun j h1 h2 => ?_, fun i j hij hj => ?_⟩
    · have hj' : j < vN v + 1 := hj
      rw [e9 j (by omega)]
      rcases Nat.lt_trichotomy j P with c | c | c
      · rw [if_neg (by omega), if_neg (by omega), ins_lt c]
        exact ⟨(b3 j (by omega)).1, cpo j j (by omega) (ins_lt c) (ins_lt c) (ins_lt c)⟩
      · subst c
        rw [if_pos rfl, ins_eq]
        refine ⟨rfl, ce.cp (by rw [eN]; exact Nat.le_refl _) (fun q _ => by rw [eK]) (fun q i h1 _ => eR q i (by omega)) (fun q h1 _ => eI q (by omega)) ?_ ?_ ?_ wk.symm⟩
        · exact (ins_eq _ _ _).trans wl.symm
        · exact (ins_eq _ _ _).trans wt.symm
        · exact (ins_eq _ _ _).trans wu.symm
      · rw [if_neg (by omega), if_pos ⟨c, by omega⟩, ins_gt c]
        exact ⟨(b3 (j - 1) (by omega)).1, cpo (j - 1) j (by omega) (ins_gt c) (ins_gt c) (ins_gt c)⟩
    · have h1' : vN v + 1 ≤ j := h1
      rw [e9 j h2, if_neg (by omega), if_neg (by omega)]
      exact b4 j (by omega) h2
    · have hj' : j < vN v + 1 := hj
      rcases Nat.lt_trichotomy i P with c | c | c
      · rw [ins_lt c]
        rcases Nat.lt_trichotomy j P with d | d | d
        · rw [ins_lt d]; exact b5 i j hij (by omega)
        · subst d; rw [ins_eq]; exact Or.inl (far i (by omega))
        · rw [ins_gt d]; exact b5 i (j - 1) (by omega) (by omega)
      · subst c
        rw [ins_eq, ins_gt hij]
        exact Or.inr (far (j - 1) (by omega))
      · rw [ins_gt c, ins_gt (show P < j by omega)]
        exact b5 (i - 1) (j - 1) (by omega) (by omega)
end
/-- the names after the first i items came -/
def vI (v : Vw) (t : Sq) (s : NS) : Nat → Vw
  | 0 => v
  | i + 1 => vins (vI v t s i) (plc (vI v t s i) (zL s i) (nmt t s i)) (zL s i) (nmt t s i) (zF s i)
section
variable {v : Vw} {t : Sq} {s : NS}
theorem vI_all (vo : VOK v) {a : Nat} (ni : NI t a s) (hf : ∀ k, k < zn s → 1 ≤ zF s k) (h14 : vN v + zn s ≤ 14) (nk : ¬ ∃ i, i < zn s ∧ kn v t (zS s i) (zL s i)) : ∀ i, i ≤ zn s → VOK (vI v t s i) ∧ vN (vI v t s i) = vN v + i ∧ vk (vI v t s i) = vk v ∧ (i < zn s → NOK (vI v t s i) (zL s i) (nmt t s i) (zF s i)) ∧ ∀ k, k < vN (vI v t s i) → (∃ j, j < vN v ∧ vl (vI v t s i) k = vl v j ∧ vt (vI v t s i) k = vt v j) ∨ ∃ j, j < i ∧ vl (vI v t s i) k = zL s j ∧ vt (vI v t s i) k = nmt t s j := by
  have nok : ∀ i, i ≤ zn s → vN (vI v t s i) = vN v + i → (∀ k, k < vN (vI v t s i) → (∃ j, j < vN v ∧ vl (vI v t s i) k = vl v j ∧ vt (vI v t s i) k = vt v j) ∨ ∃ j, j < i ∧ vl (vI v t s i) k = zL s j ∧ vt (vI v t s i) k = nmt t s j) → i < zn s → NOK (vI v t s i) (zL s i) (nmt t s i) (zF s i) := by
    intro i _ e1 e2 hi
    obtain ⟨y1, y2, y3, y4⟩ := ni.2.2.2.1 i hi
    refine ⟨by omega, y1, y3, ⟨hf i hi, y4⟩, fun k hk z => ?_⟩
    rcases e2 k hk with ⟨j, hj, z1, z2⟩ | ⟨j, hj, z1, z2⟩
    · rw [z1, z2] at z
      exact nk ⟨i, hi, j, hj, z⟩
    · rw [z1, z2] at z
      exact ni.2.2.2.2 j i hj hi z
  intro i
  induction i with
  | zero =>
    intro h0
    have e2 : ∀ k, k < vN (vI v t s 0) → (∃ j, j < vN v ∧ vl (vI v t s 0) k = vl v j ∧ vt (vI v t s 0) k = vt v j) ∨ ∃ j, j < 0 ∧ vl (vI v t s 0) k = zL s j ∧ vt (vI v t s 0) k = nmt t s j := fun k hk => Or.inl ⟨k, hk, rfl, rfl⟩
    exact ⟨vo, rfl, rfl, nok 0 h0 rfl e2, e2⟩
  | succ i ih =>
    intro hi
    obtain ⟨w1, w2, w3, w4, w5⟩ := ih (by omega)
    have n := w4 (by omega)
    have e1 : vN (vI v t s (i + 1)) = vN v + (i + 1) := by show vN (vI v t s i) + 1 = _; omega
    have e2 : ∀ k, k < vN (vI v t s (i + 1)) → (∃ j, j < vN v ∧ vl (vI v t s (i + 1)) k = vl v j ∧ vt (vI v t s (i + 1)) k = vt v j) ∨ ∃ j, j < i + 1 ∧ vl (vI v t s (i + 1)) k = zL s j ∧ vt (vI v t s (i + 1)) k = nmt t s j := by
      intro k hk
      have hP := plc_le (v := vI v t s i) (l := zL s i) (t := nmt t s i)
      have old : ∀ k', k' < vN (vI v t s i) → vl (vI v t s (i + 1)) k = vl (vI v t s i) k' → vt (vI v t s (i + 1)) k = vt (vI v t s i) k' → (∃ j, j < vN v ∧ vl (vI v t s (i + 1)) k = vl v j ∧ vt (vI v t s (i + 1)) k = vt v j) ∨ ∃ j, j < i + 1 ∧ vl (vI v t s (i + 1)) k = zL s j ∧ vt (vI v t s (i + 1)) k = nmt t s j := by
        intro k' hk' z1 z2
        rw [z1, z2]
        rcases w5 k' hk' with ⟨j, hj, y⟩ | ⟨j, hj, y⟩
        · exact Or.inl ⟨j, hj, y⟩
        · exact Or.inr ⟨j, by omega, y⟩
      rcases Nat.lt_trichotomy k (plc (vI v t s i) (zL s i) (nmt t s i)) with c | c | c
      · exact old k (by omega) (ins_lt c) (ins_lt c)
      · refine Or.inr ⟨i, by omega, ?_, ?_⟩
        · rw [c]; exact ins_eq _ _ _
        · rw [c]; exact ins_eq _ _ _
      · exact old (k - 1) (by omega) (ins_gt c) (ins_gt c)
    exact ⟨w1.insv n, e1, w3, nok (i + 1) hi e1 e2, e2⟩
end
