/-! NEW NAMES: the class's loop, and the model -/
theorem CN.ext {v : Vw} {ea : Nat → Nat} {h g : Hp} (cn : CN v ea h) (x : Ext h g) (h99 : 99 ≤ hN h) : CN v ea g := by
  obtain ⟨b1, b2, b3, b4, b5⟩ := cn
  refine ⟨b1, by rw [x.2.2.1 8 (by omega)]; exact b2, fun k hk => ⟨by rw [x.2.2.2 9 (by omega)]; exact (b3 k hk).1, (b3 k hk).2.cp x.1 x.2.1 (fun q j _ hq => x.2.2.2 q hq j) (fun q _ hq => x.2.2.1 q hq) rfl rfl rfl rfl⟩, fun k h1 h2 => by rw [x.2.2.2 9 (by omega)]; exact b4 k h1 h2, b5⟩
section
variable {v : Vw} {h : Hp} {t : Sq} {s : NS}
def NInv (v : Vw) (t : Sq) (s : NS) (h : Hp) (i : Nat) (g : Hp) : Prop := Lay g ∧ (∀ q, q < 99 → q ≠ 8 → hI g q = hI h q) ∧ (∀ q j, q < 99 → q ≠ 9 → hR g q j = hR h q j) ∧ ∃ ea, CN (vI v t s i) ea g
theorem C_namesL (ht : TOK t) (hc : CT t h) (ck : CK v h) (cr : CR s h) {a : Nat} (ni : NI t a s) (ha : a ≤ t.1) (all : ∀ i, i ≤ zn s → VOK (vI v t s i) ∧ vk (vI v t s i) = vk v ∧ (i < zn s → NOK (vI v t s i) (zL s i) (nmt t s i) (zF s i))) (K : Hp → Option (Int32 × Hp)) : ∀ f i g, i ≤ zn s → zn s - i < f → NInv v t s h i g → ∃ g', f_X9_names_L78 0 (nI (zn s)) K f (nI i) g = K g' ∧ NInv v t s h (zn s) g' := by
  have ht1 := ht.1
  have hn := ni.small (by omega)
  intro f
  induction f with
  | zero => intro i g h1 h2; omega
  | succ f ih =>
    intro i g h1 h2 h3
    unfold f_X9_names_L78
    by_cases c : i = zn s
    · subst c
      rw [if_pos (nI_le (Nat.le_refl _) (by omega))]
      exact ⟨g, rfl, h3⟩
    · have hi : i < zn s := by omega
      obtain ⟨hLg, w1, w2, ea, cn⟩ := h3
      obtain ⟨vo, vkk, no⟩ := all i h1
      have no := no hi
      have h99 := hLg.1
      have hc' : CT t g := by unfold CT at *; rw [w1 1 (by omega) (by omega), w1 2 (by omega) (by omega)]; exact hc
      have ck' : CK (vI v t s i) g := by unfold CK at *; rw [w1 6 (by omega) (by omega), vkk]; exact ck
      have cr' : CR s g := by unfold CR at *; rw [w1 10 (by omega) (by omega), w1 11 (by omega) (by omega), w1 12 (by omega) (by omega), w1 13 (by omega) (by omega)]; exact cr
      obtain ⟨g1, g2, q1, q2, q3, q4, q5, q6⟩ := C_entry (v := vI v t s i) hLg ht hc' ck' cr' ni ha hi
      have hL2 : Lay g2 := q4.lay hLg
      have cn2 := cn.ext q4 h99
      obtain ⟨g3, r1, r2, r3, r4, r5, r6, r7⟩ := C_insert hL2 cn2 vo no q6 rfl rfl rfl rfl (fun k hk => (cn.ce hk).1.2)
      rw [if_neg (nI_ge hi (by omega))]
      simp only [CG hLg, Option.bind_some, q1, CG q2, q3, CG hL2, r1, nI_add]
      refine ih (i + 1) g3 (by omega) (by omega) ⟨r2, fun q hq h8 => ?_, fun q j hq h9 => ?_, _, r7⟩
      · rw [r3 q h8, q4.2.2.1 q (by omega)]; exact w1 q hq h8
      · rw [r6 q j h9, q4.2.2.2 q (by omega)]; exact w2 q j hq h9
theorem M_comes (hL : Lay h) (mn : MN v h) (vo : VOK v) (mq : MQn t s h) {a i : Nat} (ni : NI t a s) (ha : a ≤ 50) (hi : i < zn s) (no : NOK v (zL s i) (nmt t s i) (zF s i)) : ∃ g, f_X10_comes 77 (nI i) h = some g ∧ OnlyI (fun q => q = 77 ∨ q = 79 ∨ q = 80 ∨ q = 81) h g ∧ (∀ j, j ≠ 2 → hI g 77 j = hI h 77 j) ∧ MN (vins v (plc v (zL s i) (nmt t s i)) (zL s i) (nmt t s i) (zF s i)) g := by
  have h14 := no.1
  have hn := ni.small ha
  obtain ⟨y1, y2, y3, y4⟩ := ni.2.2.2.1 i hi
  obtain ⟨u1, u2, u3⟩ := mq i hi
  have hP := plc_le (v := v) (l := zL s i) (t := nmt t s i)
  have plt_ := fun k (hk : k < vN v) => plc_iff vo no hk
  have pge_ := fun k (hk : k < vN v) => plc_ge vo no hk
  have asy : ∀ k, k < vN v → nlt (vl v k) (vt v k) (zL s i) (nmt t s i) → ¬ nlt (zL s i) (nmt t s i) (vl v k) (vt v k) := fun k hk => nlt_as (vo.pos hk) no.pos
  generalize plc v (zL s i) (nmt t s i) = P at *
  have key : ∀ (K : Int32 → Hp → Option Hp) f p g, P ≤ p → p ≤ vN v → p - P < f → OnlyI (fun q => q = 79 ∨ q = 80 ∨ q = 81) h g → (∀ j, hI g 79 j = hI h 79 (if p < j ∧ j ≤ vN v then j - 1 else j)) → (∀ j, hI g 81 j = hI h 81 (if p < j ∧ j ≤ vN v then j - 1 else j)) → (∀ j x, x < 8 → hI g 80 (8 * j + x) = hI h 80 (8 * (if p < j ∧ j ≤ vN v then j - 1 else j) + x)) →
      ∃ g', f_X10_comes_L5 77 (nI i) K f (nI p) g = K (nI P) g' ∧ OnlyI (fun q => q = 79 ∨ q = 80 ∨ q = 81) h g' ∧ (∀ j, hI g' 79 j = hI h 79 (if P < j ∧ j ≤ vN v then j - 1 else j)) ∧ (∀ j, hI g' 81 j = hI h 81 (if P < j ∧ j ≤ vN v then j - 1 else j)) ∧ ∀ j x, x < 8 → hI g' 80 (8 * j + x) = hI h 80 (8 * (if P < j ∧ j ≤ vN v then j - 1 else j) + x) := by
    intro K f
    induction f with
    | zero => intro p g h1 h2 h3; omega
    | succ f ih =>
      intro p g h1 h2 h3 h4 h5 h6 h7
      have hLg : Lay g := hL.ss h4.1
      unfold f_X10_comes_L5
      by_cases c0 : p = 0
      · have eP : P = 0 := by omega
        subst c0
        subst eP
        rw [if_pos (nI_le (Nat.le_refl _) (by decide))]
        exact ⟨g, rfl, h4, h5, h6, h7⟩
      · rw [if_neg (nI_ge (by omega) (by omega))]
        obtain ⟨p', rfl⟩ : ∃ p', p = p' + 1 := ⟨p - 1, by omega⟩
        have hp' : p' < vN v := by omega
        have b8 := vo.2.1 p' hp'
        have mqg : MQn t s g := by unfold MQn at *; rw [h4.2 86 (by omega), h4.2 87 (by omega), h4.2 88 (by omega)]; exact mq
        obtain ⟨x, x1, -, x3⟩ := M_cmp hLg vo mqg ni ha hp' hi (by rw [h5, if_neg (by omega)]; exact (mn.2 p' hp').1) (fun z hz => by rw [h7 _ _ (by omega), if_neg (by omega)]; exact (mn.2 p' hp').2.1 z hz)
        rw [pk_sub (show 1 ≤ p' + 1 by omega), Nat.add_sub_cancel, x1, Option.bind_some]
        by_cases c : p' < P
        · have eP : P = p' + 1 := by omega
          rw [if_pos (x3.mpr (asy p' hp' ((plt_ p' hp').mp c)))]
          subst eP
          exact ⟨g, rfl, h4, h5, h6, h7⟩
        · rw [if_neg (fun z => x3.mp z (pge_ p' hp' c))]
          obtain ⟨g1, q1, q2, q3, q4, q5⟩ := M_move hLg (a := p') (b := p' + 1) (by omega) (by omega) (by omega)
          rw [q1, Option.bind_some, nI_m1]
          refine ih p' g1 (by omega) (by omega) (by omega) (h4.tr q2) (fun j => ?_) (fun j => ?_) (fun j x hx => ?_)
          · rw [q3]
            by_cases e : j = p' + 1
            · subst e
              rw [upd_same, h5, if_neg (by omega), if_pos ⟨by omega, h2⟩, Nat.add_sub_cancel]
            · rw [upd_ne _ _ e, h5]
              by_cases z : p' + 1 < j ∧ j ≤ vN v
              · rw [if_pos z, if_pos ⟨by omega, z.2⟩]
              · rw [if_neg z, if_neg (by omega)]
          · rw [q4]
            by_cases e : j = p' + 1
            · subst e
              rw [upd_same, h6, if_neg (by omega), if_pos ⟨by omega, h2⟩, Nat.add_sub_cancel]
            · rw [upd_ne _ _ e, h6]
              by_cases z : p' + 1 < j ∧ j ≤ vN v
              · rw [if_pos z, if_pos ⟨by omega, z.2⟩]
              · rw [if_neg z, if_neg (by omega)]
          · rw [q5]
            by_cases e : j = p' + 1
            · subst e
              rw [if_pos ⟨by omega, by omega⟩, show 8 * (p' + 1) + x - 8 * (p' + 1) = x by omega, h7 _ _ hx, if_neg (by omega), if_pos ⟨by omega, h2⟩, Nat.add_sub_cancel]
            · rw [if_neg (by omega), h7 _ _ hx]
              by_cases z : p' + 1 < j ∧ j ≤ vN v
              · rw [if_pos z, if_pos ⟨by omega, z.2⟩]
              · rw [if_neg z, if_neg (by omega)]
  obtain ⟨g1, q1, q2, q3, q4, q5⟩ := key (fun y6 h7 => (getR h7 10 77 3).bind fun x8 => (getR h7 10 77 18).bind fun x9 => (ald h7 x9 (nI i)).bind fun x10 => (ast h7 x8 y6 x10).bind fun h11 => (getR h11 10 77 5).bind fun x12 => (getR h11 10 77 20).bind fun x13 => (ald h11 x13 (nI i)).bind fun x14 => (ast h11 x12 y6 x14).bind fun h15 => f_X10_comes_L60 77 (nI i) y6 (fun h21 => (getI h21 10 77 2).bind fun x22 => (putI h21 10 77 2 (x22 + (nI 1))).bind fun h23 => some h23) FU (nI 0) h15) FU (vN v) h hP (Nat.le_refl _) (FU_gt (by omega)) OnlyI.rf (fun j => by rw [if_neg (by omega)]) (fun j => by rw [if_neg (by omega)]) (fun j x _ => by rw [if_neg (by omega)])
  have hL1 : Lay g1 := hL.ss q2.1
  have hL2 : Lay (setI g1 79 P (nI (zL s i))) := hL1.setI _ _ _
  have hL3 : Lay (setI (setI g1 79 P (nI (zL s i))) 81 P (nI (zF s i))) := hL2.setI _ _ _
  have key2 : ∀ (K : Hp → Option Hp) f x g, x ≤ 8 → 8 - x < f → OnlyI (fun q => q = 80) (setI (setI g1 79 P (nI (zL s i))) 81 P (nI (zF s i))) g → (∀ y, hI g 80 y = if 8 * P ≤ y ∧ y < 8 * P + x then hI h 87 (8 * i + (y - 8 * P)) else hI g1 80 y) →
      ∃ g', f_X10_comes_L60 77 (nI i) (nI P) K f (nI x) g = K g' ∧ OnlyI (fun q => q = 80) (setI (setI g1 79 P (nI (zL s i))) 81 P (nI (zF s i))) g' ∧ (∀ y, hI g' 80 y = if 8 * P ≤ y ∧ y < 8 * P + 8 then hI h 87 (8 * i + (y - 8 * P)) else hI g1 80 y) := by
    intro K f
    induction f with
    | zero => intro x g h1 h2; omega
    | succ f ih =>
      intro x g h1 h2 h3 h4
      have hLg : Lay g := hL3.ss h3.1
      have e87 : hI g 87 = hI h 87 := by rw [h3.2 87 (by omega), hI_setI_ne _ _ _ (by decide), hI_setI_ne _ _ _ (by decide), q2.2 87 (by omega)]
      unfold f_X10_comes_L60
      by_cases c : x = 8
      · subst c
        rw [if_pos (nI_le (Nat.le_refl 8) (by decide))]
        exact ⟨g, rfl, h3, h4⟩
      · rw [if_neg (nI_ge (by omega) (by decide))]
        simp (disch := omega) only [MG hLg, MP hLg, pk_mul, nI_add, Option.bind_some, e87]
        refine ih (x + 1) _ (by omega) (by omega) (h3.put rfl) (fun y => ?_)
        rw [hI_setI_eq]
        by_cases e : y = 8 * P + x
        · rw [e, upd_same, if_pos ⟨by omega, by omega⟩, show 8 * P + x - 8 * P = x by omega]
        · rw [upd_ne _ _ e, h4]
          by_cases z : 8 * P ≤ y ∧ y < 8 * P + x
          · rw [if_pos z, if_pos ⟨z.1, by omega⟩]
          · rw [if_neg z, if_neg (by omega)]
  obtain ⟨g2, r1, r2, r3⟩ := key2 (fun h21 => (getI h21 10 77 2).bind fun x22 => (putI h21 10 77 2 (x22 + (nI 1))).bind fun h23 => some h23) FU 0 _ (Nat.zero_le _) (FU_gt (by decide)) OnlyI.rf (fun y => by rw [if_neg (by omega), hI_setI_ne _ _ _ (by decide), hI_setI_ne _ _ _ (by decide)])
  have hL4 : Lay g2 := hL3.ss r2.1
  have e77 : hI g2 77 = hI h 77 := by rw [r2.2 77 (by omega), hI_setI_ne _ _ _ (by decide), hI_setI_ne _ _ _ (by decide), q2.2 77 (by omega)]
  have e79 : hI g2 79 = upd (hI g1 79) P (nI (zL s i)) := by rw [r2.2 79 (by omega), hI_setI_ne _ _ _ (by decide), hI_setI_eq]
  have e81 : hI g2 81 = upd (hI g1 81) P (nI (zF s i)) := by rw [r2.2 81 (by omega), hI_setI_eq, hI_setI_ne _ _ _ (by decide)]
  refine ⟨setI g2 77 2 (nI (vN v + 1)), ?_, ?_, fun j hj => ?_, ?_, fun k hk => ?_⟩
  · unfold f_X10_comes
    have e86 : hI g1 86 i = nI (zL s i) := by rw [q2.2 86 (by omega)]; exact u1
    have e88 : hI (setI g1 79 P (nI (zL s i))) 88 i = nI (zF s i) := by rw [hI_setI_ne _ _ _ (by decide), q2.2 88 (by omega)]; exact u3 no.2.2.2.1.1
    simp only [gd_77 hL, MG hL, mn.1, Option.bind_some, q1]
    simp (disch := omega) only [MG hL1, MP hL1, Option.bind_some, e86, MG hL2, MP hL2, e88, r1]
    simp only [MG hL4, MP hL4, e77, mn.1, Option.bind_some, nI_add]
  · have o1 : OnlyI (fun q => q = 77 ∨ q = 79 ∨ q = 80 ∨ q = 81) h (setI (setI g1 79 P (nI (zL s i))) 81 P (nI (zF s i))) := ((q2.mono (fun q z => Or.inr z)).put (by omega)).put (by omega)
    exact (o1.tr (r2.mono (fun q z => by omega))).put (by omega)
  · rw [hI_setI_eq, upd_ne _ _ hj, e77]
  · rw [hI_setI_eq, upd_same]; rfl
  · have hk' : k < vN v + 1 := hk
    rw [hI_setI_ne _ _ _ (by decide), hI_setI_ne _ _ _ (by decide), hI_setI_ne _ _ _ (by decide), e79, e81]
    have old : ∀ k', k' < vN v → k ≠ P → (if P < k ∧ k ≤ vN v then k - 1 else k) = k' → insf P (zL s i) (vl v) k = vl v k' → insf P (nmt t s i) (vt v) k = vt v k' → insf P (zF s i) (vu v) k = vu v k' → upd (hI g1 79) P (nI (zL s i)) k = nI (insf P (zL s i) (vl v) k) ∧ (∀ x, x < insf P (zL s i) (vl v) k → hI g2 80 (8 * k + x) = nI (insf P (nmt t s i) (vt v) k x)) ∧ upd (hI g1 81) P (nI (zF s i)) k = nI (insf P (zF s i) (vu v) k) := by
      intro k' hk' hne e1 z1 z2 z3
      have b8 := vo.2.1 k' hk'
      rw [upd_ne _ _ hne, upd_ne _ _ hne, z1, z2, z3, q3, q4, e1]
      refine ⟨(mn.2 k' hk').1, fun x hx => ?_, (mn.2 k' hk').2.2⟩
      rw [r3, if_neg (by omega), q5 _ _ (by omega), e1]
      exact (mn.2 k' hk').2.1 x hx
    show upd (hI g1 79) P (nI (zL s i)) k = nI (insf P (zL s i) (vl v) k) ∧ (∀ x, x < insf P (zL s i) (vl v) k → hI g2 80 (8 * k + x) = nI (insf P (nmt t s i) (vt v) k x)) ∧ upd (hI g1 81) P (nI (zF s i)) k = nI (insf P (zF s i) (vu v) k)
    rcases Nat.lt_trichotomy k P with c | c | c
    · exact old k (by omega) (by omega) (if_neg (by omega)) (ins_lt c) (ins_lt c) (ins_lt c)
    · subst c
      rw [upd_same, upd_same, ins_eq, ins_eq, ins_eq]
      refine ⟨rfl, fun x hx => ?_, rfl⟩
      rw [r3, if_pos ⟨by omega, by omega⟩, show 8 * k + x - 8 * k = x by omega]
      exact u2 x hx
    · exact old (k - 1) (by omega) (by omega) (if_pos ⟨c, by omega⟩) (ins_gt c) (ins_gt c) (ins_gt c)
end
