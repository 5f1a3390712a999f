def vdial (v : Vw) (d : Nat → Nat) : Vw := (vN v, vl v, vt v, vu v, d)
section
variable {v : Vw} {h : Hp} {ea : Nat → Nat}
/-- one entry is encoded -/
theorem E_encode0 {k e : Nat} {d : Nat → Nat} (hL : Lay h) (ce : CE v k e h) (hl : 1 ≤ vl v k ∧ vl v k ≤ 8) (hlt : ∀ i, i < vl v k → 97 ≤ vt v k i ∧ vt v k i ≤ 122) (ck : ∀ c, c < 26 → hI h 6 c = nI (d c)) : ∃ g, f_X1_encode e 5 h = some g ∧ OnlyI (fun q => q = e + 2) h g ∧ CE (vdial v d) k e g := by
  obtain ⟨⟨x2, x3⟩, x4, x5, x6, x7, x8, x9, x10, x11⟩ := id ce
  have ckv : CK (vdial v d) h := ck
  have key : ∀ f i g, i ≤ vl v k → vl v k - i < f → OnlyI (fun q => q = e + 2) h g → (∀ j, j < i → hI g (e + 2) j = nI (d (vt v k j - 97))) → ∃ g', f_X1_encode_L2 e 5 (fun h9 => some h9) f (nI i) g = some g' ∧ OnlyI (fun q => q = e + 2) h g' ∧ ∀ j, j < vl v k → hI g' (e + 2) j = nI (d (vt v k j - 97)) := by
    intro f
    induction f with
    | zero => intro i g h1 h2; omega
    | succ f ih =>
      intro i g h1 h2 h3 h4
      have hLg : Lay g := hL.ss h3.1
      have o : e < hN g ∧ (hK g e).1 = 1 := by rw [h3.1.1, h3.1.2.1, x4]; exact ⟨by omega, rfl⟩
      have o1 : e + 1 < hN g ∧ hK g (e + 1) = (11, vl v k) := by rw [h3.1.1, h3.1.2.1]; exact ⟨by omega, x5⟩
      have o2 : e + 2 < hN g ∧ hK g (e + 2) = (11, vl v k) := by rw [h3.1.1, h3.1.2.1]; exact ⟨by omega, x6⟩
      have r0 : getR g 1 e 0 = some (e + 1) := getR_of o (by rw [h3.1.2.2.1]; exact x7)
      have r1 : getR g 1 e 1 = some (e + 2) := getR_of o (by rw [h3.1.2.2.1]; exact x8)
      have ckg : CK (vdial v d) g := by unfold CK at *; rw [h3.2 6 (by omega)]; exact ckv
      unfold f_X1_encode_L2
      simp only [r0, aln_of o1, Option.bind_some]
      by_cases c : i = vl v k
      · subst c
        rw [if_pos (nI_le (Nat.le_refl _) (by omega))]
        exact ⟨g, rfl, h3, h4⟩
      · have hi : i < vl v k := by omega
        have ht := hlt i hi
        rw [if_neg (nI_ge hi (by omega))]
        have ei : ald g (e + 1) (nI i) = some (nI (vt v k i)) := by rw [ald_of o1 (by omega) hi, h3.2 (e + 1) (by omega), x10 i hi]
        simp only [r1, aln_of o2, if_neg (nI_ge hi (show vl v k < 2 ^ 31 by omega)), ei, Option.bind_some, C_digitOf hLg ckg ht.1 ht.2, ast_of o2 (show vl v k < 2 ^ 31 by omega) hi, nI_add]
        refine ih (i + 1) _ (by omega) (by omega) (h3.put rfl) (fun j hj => ?_)
        rw [hI_setI_eq]
        by_cases ej : j = i
        · rw [ej, upd_same]; rfl
        · rw [upd_ne _ _ ej]; exact h4 j (by omega)
  obtain ⟨g, q1, q2, q3⟩ := key FU 0 h (Nat.zero_le _) (FU_gt (by omega)) OnlyI.rf (fun j hj => by omega)
  refine ⟨g, ?_, q2, ⟨x2, by rw [q2.1.1]; exact x3⟩, by rw [q2.1.2.1]; exact x4, by rw [q2.1.2.1]; exact x5, by rw [q2.1.2.1]; exact x6, by rw [q2.1.2.2.1]; exact x7, by rw [q2.1.2.2.1]; exact x8, by rw [q2.2 e (by omega)]; exact x9, fun i hi => by rw [q2.2 (e + 1) (by omega)]; exact x10 i hi, fun i hi => q3 i hi⟩
  unfold f_X1_encode
  rw [(EG ce (by omega)).1]
  exact q1
theorem E_encode {k e : Nat} {d : Nat → Nat} (hL : Lay h) (ce : CE v k e h) (vo : VOK v) (hk : k < vN v) (ck : ∀ c, c < 26 → hI h 6 c = nI (d c)) : ∃ g, f_X1_encode e 5 h = some g ∧ OnlyI (fun q => q = e + 2) h g ∧ CE (vdial v d) k e g := E_encode0 hL ce (vo.2.1 k hk) (vo.2.2.1 k hk) ck
theorem R_encode {d : Nat → Nat} (hL : Lay h) (cn : CN v ea h) (vo : VOK v) (ck : ∀ c, c < 26 → hI h 6 c = nI (d c)) : ∃ g, f_X7_encode 8 5 h = some g ∧ OnlyI (fun q => 99 ≤ q) h g ∧ CN (vdial v d) ea g := by
  have h14 := vo.1
  obtain ⟨b1, b2, b3, b4, b5⟩ := id cn
  have key : ∀ f i g, i ≤ 14 → 14 - i < f → OnlyI (fun q => 99 ≤ q) h g → (∀ j, j < vN v → j < i → CE (vdial v d) j (ea j) g) → (∀ j, j < vN v → i ≤ j → CE v j (ea j) g) → ∃ g', f_X7_encode_L11 5 9 (nI 14) (fun h9 => some h9) f (nI i) g = some g' ∧ OnlyI (fun q => 99 ≤ q) h g' ∧ ∀ j, j < vN v → CE (vdial v d) j (ea j) g' := by
    intro f
    induction f with
    | zero => intro i g h1 h2; omega
    | succ f ih =>
      intro i g h1 h2 h3 h4 h5
      have hLg : Lay g := hL.ss h3.1
      unfold f_X7_encode_L11
      by_cases c : i = 14
      · subst c
        rw [if_pos (nI_le (Nat.le_refl _) (by decide))]
        exact ⟨g, rfl, h3, fun j hj => h4 j hj (by omega)⟩
      · rw [if_neg (nI_ge (by omega) (by decide)), aldN_of (hLg.a (a := 9) (x := (12, 14)) (by decide) rfl) (by decide) (show i < 14 by omega), h3.1.2.2.1]
        simp only [Option.bind_some, nI_add]
        by_cases ci : i < vN v
        · rw [(b3 i ci).1]
          obtain ⟨g1, q1, q2, q3⟩ := E_encode hLg (h5 i ci (Nat.le_refl _)) vo ci (d := d) (fun c hc => by rw [h3.2 6 (by omega)]; exact ck c hc)
          simp only [Option.elim_some, q1, Option.bind_some]
          have e99 := (b3 i ci).2.1.1
          have fr : ∀ (w : Vw) j, j < vN v → j ≠ i → CE w j (ea j) g → CE w j (ea j) g1 := by
            intro w j hj ne ce
            have ap : ea j + 3 ≤ ea i ∨ ea i + 3 ≤ ea j := by
              rcases Nat.lt_or_gt_of_ne ne with z | z
              · exact b5 j i z ci
              · exact (b5 i j z hj).symm
            exact ce.fr q2.1 (q2.2 _ (by omega)) (q2.2 _ (by omega)) (q2.2 _ (by omega))
          refine ih (i + 1) g1 (by omega) (by omega) (h3.tr (q2.mono (fun q z => by omega))) (fun j hj hji => ?_) (fun j hj hji => fr v j hj (by omega) (h5 j hj (by omega)))
          by_cases ej : j = i
          · rw [ej]; exact q3
          · exact fr (vdial v d) j hj ej (h4 j hj (by omega))
        · rw [b4 i (by omega) (by omega)]
          simp only [Option.elim_none, Option.bind_some]
          exact ih (i + 1) g (by omega) (by omega) h3 (fun j hj _ => h4 j hj (by omega)) (fun j hj z => by omega)
  obtain ⟨g, q1, q2, q3⟩ := key FU 0 h (by omega) (FU_gt (by decide)) OnlyI.rf (fun j _ hj => by omega) (fun j hj _ => (b3 j hj).2)
  refine ⟨g, ?_, q2, b1, by rw [q2.2 8 (by omega)]; exact b2, fun k hk => ⟨by rw [q2.1.2.2.1]; exact (b3 k hk).1, q3 k hk⟩, fun k h1 h2 => by rw [q2.1.2.2.1]; exact b4 k h1 h2, b5⟩
  unfold f_X7_encode
  simp only [gd_8 hL, CG hL, Option.bind_some, aln_of (hL.a (a := 9) (by decide) rfl)]
  exact q1
end
section
variable {pm : Nat} {v : Vw} {t p : Sq} {m : Mn} {c : Nat → Int32} {h : Hp}
theorem VOK.dial (vo : VOK v) {s : DS} (f : dfin t s) : VOK (vdial v s.2.2.2.2) := by
  obtain ⟨d1, d2, d3, d4, d5⟩ := drn_DI t t.1 s f.1
  exact ⟨vo.1, vo.2.1, vo.2.2.1, vo.2.2.2.1, fun c hc => by have := d3 c (by have := f.2.1; omega); show 2 ≤ s.2.2.2.2 c ∧ s.2.2.2.2 c ≤ 9; omega, vo.2.2.2.2.2⟩
theorem M_most_ (hL : Lay h) {d : Nat → Nat} (hd : ∀ j, j < 26 → hI h 89 j = nI (d j)) (hb : ∀ j, j < 26 → d j ≤ 9) (K : Int32 → Option (Int32 × Hp)) : f_X10_dial_L14 77 h K FU (nI 0) (nI 2) = K (nI (fmax (fun i => cnt (fun j => d j = i + 2) 26) 8)) := by
  have inner : ∀ (x : Int32) (i : Nat) (K : Int32 → Option (Int32 × Hp)), i < 8 → f_X10_dial_L25 77 x (nI (i + 2)) h K FU (nI 0) (nI 0) = K (nI (cnt (fun j => d j = i + 2) 26)) := by
    intro x i K hi
    refine lp_up (W := fun n j => f_X10_dial_L25 77 x (nI (i + 2)) h K n (nI (cnt (fun j => d j = i + 2) j)) (nI j)) (N := 26) (fun n => ?_) (fun n j hj => ?_) FU 0 (Nat.zero_le _) (FU_gt (by decide))
    · show f_X10_dial_L25 _ _ _ _ _ _ _ _ = _
      unfold f_X10_dial_L25
      rw [if_pos (nI_le (Nat.le_refl _) (by decide))]
    · show f_X10_dial_L25 _ _ _ _ _ _ _ _ = f_X10_dial_L25 _ _ _ _ _ _ _ _
      have bj := hb j hj
      conv => lhs; unfold f_X10_dial_L25
      rw [if_neg (nI_ge hj (by decide))]
      simp (disch := omega) only [MG hL, hd j hj, Option.bind_some, nI_eq, ite_some, b2_def, nI_b2, nI_add]
      rfl
  refine lp_up (W := fun n i => f_X10_dial_L14 77 h K n (nI (fmax (fun i => cnt (fun j => d j = i + 2) 26) i)) (nI (i + 2))) (N := 8) (fun n => ?_) (fun n i hi => ?_) FU 0 (Nat.zero_le _) (FU_gt (by decide))
  · show f_X10_dial_L14 _ _ _ _ _ _ = _
    unfold f_X10_dial_L14
    rw [if_pos (nI_le (by decide) (by decide))]
  · show f_X10_dial_L14 _ _ _ _ _ _ = f_X10_dial_L14 _ _ _ _ _ _
    have bm : fmax (fun i => cnt (fun j => d j = i + 2) 26) i ≤ 26 := (fmax_le _ _ _).mpr (fun k _ => cnt_le _ _)
    have bc := cnt_le (fun j => d j = i + 2) 26
    conv => lhs; unfold f_X10_dial_L14
    rw [if_neg (nI_ge (by omega) (by decide)), inner _ i _ hi, fmax_succ]
    simp (disch := omega) only [nI_leI, ite_some, Option.bind_some, nI_add]
    congr 1
    split
    · rw [Nat.max_eq_left (by omega)]
    · rw [Nat.max_eq_right (by omega)]
theorem M_dcopy (hL : Lay h) (x : Int32) (K : Hp → Option (Int32 × Hp)) : ∃ g, f_X10_dial_L76 77 x K FU (nI 0) h = K g ∧ OnlyI (fun q => q = 82) h g ∧ ∀ j, j < 26 → hI g 82 j = hI h 89 j := by
  have key : ∀ f i g, i ≤ 26 → 26 - i < f → OnlyI (fun q => q = 82) h g → (∀ j, j < i → hI g 82 j = hI h 89 j) → ∃ g', f_X10_dial_L76 77 x K f (nI i) g = K g' ∧ OnlyI (fun q => q = 82) h g' ∧ ∀ j, j < 26 → hI g' 82 j = hI h 89 j := by
    intro f
    induction f with
    | zero => intro i g h1 h2; omega
    | succ f ih =>
      intro i g h1 h2 h3 h4
      have hLg : Lay g := hL.ss h3.1
      unfold f_X10_dial_L76
      by_cases c : i = 26
      · subst c
        rw [if_pos (nI_le (Nat.le_refl _) (by decide))]
        exact ⟨g, rfl, h3, h4⟩
      · rw [if_neg (nI_ge (by omega) (by decide))]
        simp (disch := omega) only [MG hLg, MP hLg, Option.bind_some, nI_add]
        refine ih (i + 1) _ (by omega) (by omega) (h3.put rfl) (fun j hj => ?_)
        rw [hI_setI_eq]
        by_cases e : j = i
        · rw [e, upd_same, h3.2 89 (by omega)]
        · rw [upd_ne _ _ e]; exact h4 j (by omega)
  exact key FU 0 h (by omega) (FU_gt (by decide)) OnlyI.rf (fun j hj => by omega)
theorem op_dial (sc : SC pm v t p m c h) (sm : SM v t p m c h) (vo : VOK v) (ht : TOK t) : Both (f_X9_dial 0) (f_X10_dial 77) h (fun h2 => ∃ v' t' c', VOK v' ∧ TOK t' ∧ vN v' = vN v ∧ SC pm v' t' p m c' h2 ∧ SM v' t' p m c' h2) := by
  have hL := sc.1
  have cm := sc.2.2.2.2.2.1
  have hpm := cm.two
  have h14 := vo.1
  obtain ⟨-, a1, a2, a3, ⟨ea, cn⟩, -, a6⟩ := id sc
  obtain ⟨g1, y, q1, q2, q3⟩ := C_read hL ht a1
  have hL1 : Lay g1 := hL.ss q2.1
  rcases q3 with ⟨nf, rfl, e6⟩ | ⟨s, fin, rfl, ck⟩
  · have oc : OC pm h g1 := ⟨q2.1, fun q hq => by
      by_cases z : q = 6
      · rw [z]; exact e6
      · exact q2.2 q (fun w => by rcases w with w | w; exact z w; exact hq (by unfold scrC; omega)), by rw [q2.2 25 (by omega)]⟩
    have sc1 := sc.oc oc
    have sm1 := sm.oc hpm oc
    obtain ⟨g2, r2, r3⟩ := M_isDial sm1.1 ht sm1.2.1
    rcases r3 with ⟨-, r4⟩ | ⟨s, fin, -⟩
    · have om : OM g1 g2 := OM.of (r2.mono (fun q z => by omega))
      refine ⟨m103, g1, g2, ?_, ?_, v, t, c, vo, ht, rfl, sc1.om om, sm1.om om⟩
      · unfold f_X9_dial
        simp only [gd_0 hL, CG hL, Option.bind_some, q1, if_true]
      · unfold f_X10_dial
        simp only [gd_77 sm1.1, r4, Option.bind_some, if_true]
    · exact absurd ⟨s, fin⟩ nf
  · have di := drn_DI t t.1 s fin.1
    have dg := di.ig
    have vo' := vo.dial fin
    have cn1 : CN v ea g1 := cn.fr q2.1 (q2.2 8 (by omega)) (fun q hq => q2.2 q (by omega))
    obtain ⟨g2, r1, r2, r3⟩ := R_encode hL1 cn1 vo ck
    have hL2 : Lay g2 := hL1.ss r2.1
    have o12 : OnlyI (fun q => q = 6 ∨ q = 7 ∨ 99 ≤ q) h g2 := (q2.mono (fun q z => by omega)).tr (r2.mono (fun q z => by omega))
    have ct2 : CT t g2 := by unfold CT at *; rw [o12.2 1 (by omega), o12.2 2 (by omega)]; exact a1
    have rt := row_text hL2 ht ct2
    have hL3 : Lay (setI g2 1 1 (nI 0)) := hL2.setI _ _ _
    have e13 : hI (setI g2 1 1 (nI 0)) 0 13 = c 1 := by rw [hI_setI_ne _ _ _ (by decide), o12.2 0 (by omega)]; exact a6.2.1
    have hL4 : Lay (setI (setI g2 1 1 (nI 0)) 0 13 (c 1 + nI 1)) := hL3.setI _ _ _
    have ne : ¬ nI s.2.2.2.1 = nI 0 := by rw [nI_eq (by omega) (by decide)]; have := fin.2.2.2; omega
    have cls : f_X9_dial 0 h = some (nI s.2.2.2.1, setI (setI g2 1 1 (nI 0)) 0 13 (c 1 + nI 1)) := by
      unfold f_X9_dial
      simp only [gd_0 hL, CG hL, Option.bind_some, q1, if_neg ne, CG hL1, r1, CG hL2, rt.clear, CG hL3, CP hL3, e13]
    have o4 : OnlyI (fun q => q = 0 ∨ q = 1 ∨ q = 6 ∨ q = 7 ∨ 99 ≤ q) h (setI (setI g2 1 1 (nI 0)) 0 13 (c 1 + nI 1)) := ((o12.mono (fun q z => by omega)).put (Or.inr (Or.inl rfl))).put (Or.inl rfl)
    have i0 : ∀ j, j ≠ 13 → hI (setI (setI g2 1 1 (nI 0)) 0 13 (c 1 + nI 1)) 0 j = hI h 0 j := fun j hj => by rw [hI_setI_eq, upd_ne _ _ hj, hI_setI_ne _ _ _ (by decide), o12.2 0 (by omega)]
    have sc2 : SC pm (vdial v s.2.2.2.2) (0, t.2) p m (cinc c 1) (setI (setI g2 1 1 (nI 0)) 0 13 (c 1 + nI 1)) := by
      have cn4 : CN (vdial v s.2.2.2.2) ea (setI (setI g2 1 1 (nI 0)) 0 13 (c 1 + nI 1)) := r3.fr ⟨rfl, rfl, rfl, rfl⟩ (by rw [hI_setI_ne _ _ _ (by decide), hI_setI_ne _ _ _ (by decide)]) (fun q hq => by rw [hI_setI_ne _ _ _ (by omega), hI_setI_ne _ _ _ (by omega)])
      refine ⟨hL4, ⟨by rw [hI_setI_ne _ _ _ (by decide), hI_setI_eq, upd_same], fun i hi => absurd hi (Nat.not_lt_zero i)⟩, ?_, fun j hj => ?_, ⟨ea, cn4⟩, ⟨?_, ?_, fun hm => ?_, ?_⟩, ?_⟩
      · unfold CI at *; rw [o4.2 3 (by omega), o4.2 4 (by omega)]; exact a2
      · rw [hI_setI_ne _ _ _ (by decide), hI_setI_ne _ _ _ (by decide), r2.2 6 (by omega)]
        exact ck j hj
      · rw [o4.1.2.2.1]; exact cm.1
      · rw [i0 10 (by decide)]; exact cm.2.1
      · have cp := cm.cp hm
        unfold CP_ at *
        rw [o4.2 pm (by omega), o4.2 (pm + 16) (by omega)]
        refine ⟨cp.1, cp.2.1, cp.2.2.1, cp.2.2.2.1, fun k hk i hi => ?_⟩
        have hk' : k < vN v := hk
        rw [o4.2 (pm + 2 + k) (by omega)]
        exact cp.2.2.2.2 k hk i hi
      · rw [o4.2 25 (by omega)]; exact cm.2.2.2
      · exact ⟨by rw [i0 12 (by decide)]; exact a6.1, by rw [hI_setI_eq, upd_same]; rfl, by rw [i0 14 (by decide)]; exact a6.2.2.1, by rw [i0 11 (by decide)]; exact a6.2.2.2⟩
    have sm2 : SM v t p m c (setI (setI g2 1 1 (nI 0)) 0 13 (c 1 + nI 1)) := sm.cls hL4 (fun q h1 h2 => o4.2 q (by omega))
    generalize setI (setI g2 1 1 (nI 0)) 0 13 (c 1 + nI 1) = g4 at *
    obtain ⟨-, m1_, m2_, m3_, m4_, m5_, m6_⟩ := id sm2
    obtain ⟨g5, u2, u3⟩ := M_isDial hL4 ht m1_
    rcases u3 with ⟨nf, -⟩ | ⟨s', fin', u4, u5⟩
    · exact absurd ⟨s, fin⟩ nf
    · have es : s' = s := Option.some.inj (fin'.1.symm.trans fin.1)
      subst es
      have hL5 : Lay g5 := hL4.ss u2.1
      have bd : ∀ j, j < 26 → s'.2.2.2.2 j ≤ 9 := fun j hj => (vo'.2.2.2.2.1 j hj).2
      have mo : fmax (fun i => cnt (fun j => s'.2.2.2.2 j = i + 2) 26) 8 = s'.2.2.2.1 := by
        have := di.2.2.2.2
        rw [fin.2.1, fin.2.2.1] at this
        exact this.symm
      obtain ⟨g6, w1, w2, w3⟩ := M_dcopy hL5 (nI s'.2.2.2.1) (fun h17 => (getI h17 10 77 7).bind fun x18 => (putI h17 10 77 7 (x18 + (nI 1))).bind fun h19 => (putI h19 10 77 0 (nI 0)).bind fun h20 => some (nI s'.2.2.2.1, h20))
      have hL6 : Lay g6 := hL5.ss w2.1
      have e77 : hI g6 77 = hI g4 77 := by rw [w2.2 77 (by omega), u2.2 77 (by omega)]
      have hL7 : Lay (setI g6 77 7 (c 1 + nI 1)) := hL6.setI _ _ _
      have hL8 : Lay (setI (setI g6 77 7 (c 1 + nI 1)) 77 0 (nI 0)) := hL7.setI _ _ _
      refine ⟨nI s'.2.2.2.1, g4, setI (setI g6 77 7 (c 1 + nI 1)) 77 0 (nI 0), cls, ?_, vdial v s'.2.2.2.2, (0, t.2), cinc c 1, vo', ⟨Nat.zero_le _, fun i hi => absurd hi (Nat.not_lt_zero i)⟩, rfl, ?_, ?_⟩
      · unfold f_X10_dial
        rw [gd_77 hL4, u4, Option.bind_some, if_neg nI01, M_most_ hL5 u5 bd, mo, w1]
        simp only [MG hL6, MP hL6, e77, m6_.2.1, Option.bind_some, MP hL7]
      · have o1 : OnlyI (fun q => 77 ≤ q ∧ q < 99) g4 g6 := (u2.mono (fun q z => by omega)).tr (w2.mono (fun q z => by omega))
        exact sc2.mod ((o1.put (by omega)).put (by omega))
      · have jq : ∀ q, q ≠ 77 → q ≠ 82 → q ≠ 89 → hI (setI (setI g6 77 7 (c 1 + nI 1)) 77 0 (nI 0)) q = hI g4 q := fun q h1 h2 h3 => by rw [hI_setI_ne _ _ _ h1, hI_setI_ne _ _ _ h1, w2.2 q h2, u2.2 q h3]
        have j77 : ∀ j, j ≠ 7 → j ≠ 0 → hI (setI (setI g6 77 7 (c 1 + nI 1)) 77 0 (nI 0)) 77 j = hI g4 77 j := fun j h1 h2 => by rw [hI_setI_eq, upd_ne _ _ h2, hI_setI_eq, upd_ne _ _ h1, e77]
        refine ⟨hL8, ⟨by rw [hI_setI_eq, upd_same], fun i hi => absurd hi (Nat.not_lt_zero i)⟩, ?_, fun j hj => ?_, ?_, ?_, ?_⟩
        · unfold MI at *; rw [j77 10 (by decide) (by decide), jq 83 (by decide) (by decide) (by decide)]; exact m2_
        · rw [hI_setI_ne _ _ _ (by decide), hI_setI_ne _ _ _ (by decide), w3 j hj]
          exact u5 j hj
        · unfold MN at *; rw [j77 2 (by decide) (by decide), jq 79 (by decide) (by decide) (by decide), jq 80 (by decide) (by decide) (by decide), jq 81 (by decide) (by decide) (by decide)]; exact m4_
        · unfold MM at *; rw [j77 12 (by decide) (by decide), jq 84 (by decide) (by decide) (by decide), jq 85 (by decide) (by decide) (by decide)]; exact m5_
        · exact ⟨by rw [j77 6 (by decide) (by decide)]; exact m6_.1, by rw [hI_setI_eq, upd_ne _ _ (by decide), hI_setI_eq, upd_same]; rfl, by rw [j77 8 (by decide) (by decide)]; exact m6_.2.2.1, by rw [j77 15 (by decide) (by decide)]; exact m6_.2.2.2⟩
end
