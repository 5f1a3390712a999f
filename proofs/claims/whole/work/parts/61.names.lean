/-! names -/
abbrev gd3 (t : Sq) (j : Nat) (s : NS) : Prop := j = t.1 ∧ zm s ≠ 0 ∧ 0 < zF s (zn s - 1)
abbrev knw (v : Vw) (t : Sq) (s : NS) : Prop := ∃ i, i < zn s ∧ kn v t (zS s i) (zL s i)
section
variable {pm : Nat} {v : Vw} {t p : Sq} {m : Mn} {c : Nat → Int32} {h : Hp}
theorem C_namesF (sc : SC pm v t p m c h) (vo : VOK v) (ht : TOK t) : ∃ j s g, FE t j ∧ nrn t j = some s ∧ OnlyI R3 h g ∧ CR s g ∧ f_X9_names 0 h = (if gd3 t j s ∧ ¬ knw v t s then (if vN v + zn s ≤ 14 then f_X9_names_L78 0 (nI (zn s)) (fun h23 => (getR h23 9 0 0).bind fun x24 => (f_X8_clear x24 h23).bind fun p25 => (putI p25.2 9 0 10 (nI 0)).bind fun h26 => (getI h26 9 0 12).bind fun x27 => (putI h26 9 0 12 (x27 + (nI 1))).bind fun h28 => some (nI (zn s), h28)) 16 (nI 0) g else some (m104, g)) else some (m103, g)) := by
  have ht1 := ht.1
  have h14 := vo.1
  have hpm := sc.2.2.2.2.2.1.two
  obtain ⟨j, s, g, q1, q2, q3, q4, q5⟩ := C_scan sc.1 ht sc.2.1
  have sc1 := sc.oc (OC.r3 hpm q3)
  obtain ⟨hLg, a1, a2, a3, ⟨ea, cn⟩, a5, a6⟩ := id sc1
  have ni := nrn_NI t j s q2
  have hj : j ≤ t.1 := by rcases q1 with z | z <;> omega
  have hn := ni.small (by omega)
  refine ⟨j, s, g, q1, q2, q3, q4, ?_⟩
  have r := row_text hLg ht a1
  have en : f_X3_endsWithItem 10 g = some (b2 (zm s ≠ 0 ∧ 0 < zF s (zn s - 1))) := by
    unfold f_X3_endsWithItem
    simp only [gd_10 hLg, CG hLg, q4.1, q4.2.2.1, Option.bind_some]
    by_cases c0 : zm s = 0
    · rw [c0, if_pos rfl, Option.bind_some, rz_0, b2_f (fun z => z.1 rfl)]
      rfl
    · obtain ⟨x1, x2, x3, x4, x5, x6, x7⟩ := ni.2.2.1 c0
      have y4 := (ni.2.2.2.1 (zn s - 1) (by omega)).2.2.2
      rw [x1, if_neg nI01, pk_sub x2, X3_freq hLg q4 hn (by omega), Option.bind_some]
      by_cases c1 : 0 < zF s (zn s - 1)
      · rw [if_neg (nI_ge c1 (by omega)), Option.bind_some, rz_1, b2_t ⟨by decide, c1⟩]; rfl
      · rw [if_pos (nI_le (show zF s (zn s - 1) ≤ 0 by omega) (by decide)), Option.bind_some, rz_0, b2_f (fun z => c1 z.2)]; rfl
  have it : f_X3_items 10 g = some (nI (zn s)) := by
    unfold f_X3_items
    simp only [gd_10 hLg, CG hLg, q4.1, Option.bind_some]
  unfold f_X9_names
  simp only [gd_0 sc.1, CG sc.1, Option.bind_some, q5, CG hLg, r.size]
  by_cases c1 : j = t.1
  · subst c1
    rw [if_pos rfl, Option.bind_some, if_neg nI01, en, Option.bind_some]
    by_cases c2 : zm s ≠ 0 ∧ 0 < zF s (zn s - 1)
    · rw [b2_t c2, if_neg nI01, C_known hLg ht a1 vo cn q4 ni (Nat.le_refl _), Option.bind_some]
      by_cases c3 : knw v t s
      · rw [b2_t c3, if_neg nI01, if_neg (fun z => z.2 c3)]
      · rw [b2_f c3, if_pos rfl, if_pos ⟨⟨rfl, c2⟩, c3⟩]
        simp only [it, Option.bind_some, R_size hLg cn, nI_add]
        by_cases c4 : vN v + zn s ≤ 14
        · rw [if_pos c4, if_pos (nI_le c4 (by decide))]
        · rw [if_neg c4, if_neg (nI_ge (by omega) (by omega))]
    · rw [b2_f c2, if_pos rfl, if_neg (fun z => c2 z.1.2)]
  · rw [if_neg (by rw [nI_eq (by omega) (by omega)]; exact c1), Option.bind_some, if_pos rfl, if_neg (fun z => c1 z.1.1)]
theorem M_namesF (sm : SM v t p m c h) (vo : VOK v) (ht : TOK t) : ∃ j s g, FE t j ∧ nrn t j = some s ∧ OM h g ∧ (gd3 t j s → hI g 77 17 = nI (zn s) ∧ MQn t s g) ∧ f_X10_names 77 h = (if gd3 t j s ∧ ¬ knw v t s then (if vN v + zn s ≤ 14 then f_X10_names_L85 77 (fun h19 => (getI h19 10 77 6).bind fun x20 => (putI h19 10 77 6 (x20 + (nI 1))).bind fun h21 => (putI h21 10 77 12 (nI 0)).bind fun h22 => (putI h22 10 77 0 (nI 0)).bind fun h23 => (getI h23 10 77 17).bind fun x24 => some (x24, h23)) FU (nI 0) g else some (m104, g)) else some (m103, g)) := by
  have ht1 := ht.1
  have h14 := vo.1
  obtain ⟨j, s, g, q1, q2, q3, q4, q5⟩ := M_read sm.1 ht sm.2.1
  have sm1 := sm.om q3
  obtain ⟨hLg, a1, a2, a3, mn, a5, a6⟩ := id sm1
  have ni := nrn_NI t j s q2
  have hj : j ≤ t.1 := by rcases q1 with z | z <;> omega
  have hn := ni.small (by omega)
  have gg : gd3 t j s → hI g 77 17 = nI (zn s) ∧ MQn t s g := by
    rintro ⟨z1, z2, z3⟩
    have mr := q4 z1
    rcases mr.2.1 z2 with w | w
    · omega
    · exact ⟨w.2.2, mr.2.2⟩
  refine ⟨j, s, g, q1, q2, q3, gg, ?_⟩
  have z0 : ∀ n x K, f_X10_names_L27 77 g K (n + 1) (nI 0) x = K (nI 0) := by
    intro n x K
    unfold f_X10_names_L27
    rw [(MG hLg).1, Option.bind_some, if_pos (show nI 0 = nI 0 from rfl)]
    split <;> rfl
  have v3 : (if nI j = nI t.1 then (if hI g 77 16 ≤ nI 2 then some (nI 0) else some (nI 1)) else some (nI 0)) = some (b2 (gd3 t j s)) := by
    by_cases c1 : j = t.1
    · have mr := q4 c1
      subst c1
      rw [if_pos rfl]
      by_cases c0 : zm s = 0
      · rw [b2_f (fun z => z.2.1 c0)]
        obtain ⟨_, z | z⟩ := mr.1 c0
        · rw [z.2, if_pos (by decide)]
        · rw [z.2.1, if_pos (by decide)]
      · rcases mr.2.1 c0 with z | z
        · rw [z.2.1, if_pos (by decide), b2_f (fun y => by have := y.2.2; omega)]
        · rw [z.2.1, b2_t ⟨rfl, c0, z.1⟩, if_neg (by split <;> decide)]
    · rw [if_neg (by rw [nI_eq (by omega) (by omega)]; exact c1), b2_f (fun z => c1 z.1)]
  unfold f_X10_names
  simp only [gd_77 sm.1, q5, Option.bind_some, MG hLg, a1.1]
  rw [v3, Option.bind_some]
  by_cases c1 : gd3 t j s
  · obtain ⟨e17, mq⟩ := gg c1
    rw [b2_t c1, M_names27 hLg mn vo mq e17 ni (by omega)]
    by_cases c3 : knw v t s
    · rw [b2_f (fun z => z c3), if_pos (show nI 0 = nI 0 from rfl), if_neg (show ¬ (gd3 t j s ∧ ¬ knw v t s) from fun z => z.2 c3)]
    · rw [b2_t c3, if_neg nI01, if_pos (show gd3 t j s ∧ ¬ knw v t s from ⟨c1, c3⟩), mn.1, e17, nI_add]
      by_cases c4 : vN v + zn s ≤ 14
      · rw [if_pos c4, if_pos (nI_le c4 (by decide))]
      · rw [if_neg c4, if_neg (nI_ge (by omega) (by omega))]
  · rw [b2_f c1, if_neg (show ¬ (gd3 t j s ∧ ¬ knw v t s) from fun z => c1 z.1)]
    exact z0 255 _ _
theorem M_comesL {s : NS} (hL : Lay h) (mq : MQn t s h) (e17 : hI h 77 17 = nI (zn s)) {a : Nat} (ni : NI t a s) (ha : a ≤ 50) (all : ∀ i, i ≤ zn s → VOK (vI v t s i) ∧ vk (vI v t s i) = vk v ∧ (i < zn s → NOK (vI v t s i) (zL s i) (nmt t s i) (zF s i))) (K : Hp → Option (Int32 × Hp)) : ∀ f i g, i ≤ zn s → zn s - i < f → OnlyI (fun q => q = 77 ∨ q = 79 ∨ q = 80 ∨ q = 81) h g → (∀ j, j ≠ 2 → hI g 77 j = hI h 77 j) → MN (vI v t s i) g →
    ∃ g', f_X10_names_L85 77 K f (nI i) g = K g' ∧ OnlyI (fun q => q = 77 ∨ q = 79 ∨ q = 80 ∨ q = 81) h g' ∧ (∀ j, j ≠ 2 → hI g' 77 j = hI h 77 j) ∧ MN (vI v t s (zn s)) g' := by
  have hn := ni.small ha
  intro f
  induction f with
  | zero => intro i g h1 h2; omega
  | succ f ih =>
    intro i g h1 h2 h3 h4 h5
    have hLg : Lay g := hL.ss h3.1
    unfold f_X10_names_L85
    rw [(MG hLg).1, h4 17 (by decide), e17, Option.bind_some]
    by_cases ci : i = zn s
    · rw [if_pos (nI_le (by omega) (by omega))]
      rw [ci] at h5
      exact ⟨g, rfl, h3, h4, h5⟩
    · have hi : i < zn s := by omega
      rw [if_neg (nI_ge hi (by omega))]
      have mqg : MQn t s g := by unfold MQn at *; rw [h3.2 86 (by omega), h3.2 87 (by omega), h3.2 88 (by omega)]; exact mq
      obtain ⟨g1, q1, q2, q3, q4⟩ := M_comes hLg h5 (all i h1).1 mqg ni ha hi ((all i h1).2.2 hi)
      rw [q1, Option.bind_some, nI_add]
      exact ih (i + 1) g1 (by omega) (by omega) (h3.tr q2) (fun j hj => (q3 j hj).trans (h4 j hj)) q4
theorem op_names (sc : SC pm v t p m c h) (sm : SM v t p m c h) (vo : VOK v) (ht : TOK t) (mo : MOK m (vN v)) : Both (f_X9_names 0) (f_X10_names 77) h (fun h2 => ∃ v' t' m' c', VOK v' ∧ TOK t' ∧ MOK m' (vN v') ∧ SC pm v' t' p m' c' h2 ∧ SM v' t' p m' c' h2) := by
  have hpm := sc.2.2.2.2.2.1.two
  have ht1 := ht.1
  obtain ⟨j, s, g, q1, q2, q3, q4, q5⟩ := C_namesF sc vo ht
  have o1 : OC pm h g := OC.r3 hpm q3
  have sc1 := sc.oc o1
  have sm1 := sm.oc hpm o1
  have hj : j ≤ t.1 := by rcases q1 with z | z <;> omega
  by_cases c1 : gd3 t j s ∧ ¬ knw v t s
  · by_cases c2 : vN v + zn s ≤ 14
    · rw [if_pos c1, if_pos c2] at q5
      have ni := nrn_NI t j s q2
      have hn := ni.small (by omega)
      have hf : ∀ k, k < zn s → 1 ≤ zF s k := by
        intro k hk
        obtain ⟨x1, x2, x3, x4, x5, x6, x7⟩ := ni.2.2.1 c1.1.2.1
        by_cases e : k = zn s - 1
        · rw [e]; exact c1.1.2.2
        · exact x7 k (by omega)
      have al := vI_all vo ni hf c2 c1.2
      have all : ∀ i, i ≤ zn s → VOK (vI v t s i) ∧ vk (vI v t s i) = vk v ∧ (i < zn s → NOK (vI v t s i) (zL s i) (nmt t s i) (zF s i)) := fun i hi => ⟨(al i hi).1, (al i hi).2.2.1, (al i hi).2.2.2.1⟩
      obtain ⟨hLg, a1, a2, a3, ⟨ea, cn⟩, cm, a6⟩ := id sc1
      obtain ⟨g', r1, hL1, r2, r3, ea', cn'⟩ := C_namesL ht a1 a3 q4 ni hj all (fun h23 => (getR h23 9 0 0).bind fun x24 => (f_X8_clear x24 h23).bind fun p25 => (putI p25.2 9 0 10 (nI 0)).bind fun h26 => (getI h26 9 0 12).bind fun x27 => (putI h26 9 0 12 (x27 + (nI 1))).bind fun h28 => some (nI (zn s), h28)) 16 0 g (Nat.zero_le _) (by omega) ⟨hLg, fun _ _ _ => rfl, fun _ _ _ _ => rfl, ea, cn⟩
      have hL2 : Lay (setI g' 1 1 (nI 0)) := hL1.setI _ _ _
      have hL3 : Lay (setI (setI g' 1 1 (nI 0)) 0 10 (nI 0)) := hL2.setI _ _ _
      have hL4 : Lay (setI (setI (setI g' 1 1 (nI 0)) 0 10 (nI 0)) 0 12 (c 0 + nI 1)) := hL3.setI _ _ _
      have a1' : CT t g' := by unfold CT at *; rw [r2 1 (by omega) (by omega), r2 2 (by omega) (by omega)]; exact a1
      have e12 : hI (setI (setI g' 1 1 (nI 0)) 0 10 (nI 0)) 0 12 = c 0 := by rw [hI_setI_eq, upd_ne _ _ (by decide), hI_setI_ne _ _ _ (by decide), r2 0 (by omega) (by omega)]; exact a6.1
      have cls : f_X9_names 0 h = some (nI (zn s), setI (setI (setI g' 1 1 (nI 0)) 0 10 (nI 0)) 0 12 (c 0 + nI 1)) := by
        rw [q5, r1]
        simp only [CG hL1, Option.bind_some, (row_text hL1 ht a1').clear, CP hL2, CG hL3, CP hL3, e12]
      have oo : OnlyI (fun q => q = 0 ∨ q = 1) g' (setI (setI (setI g' 1 1 (nI 0)) 0 10 (nI 0)) 0 12 (c 0 + nI 1)) := ((OnlyI.set (Or.inr rfl)).put (Or.inl rfl)).put (Or.inl rfl)
      have sc2 : SC pm (vI v t s (zn s)) (0, t.2) p (0, m.2) (cinc c 0) (setI (setI (setI g' 1 1 (nI 0)) 0 10 (nI 0)) 0 12 (c 0 + nI 1)) := by
        have i0 : ∀ j, j ≠ 10 → j ≠ 12 → hI (setI (setI (setI g' 1 1 (nI 0)) 0 10 (nI 0)) 0 12 (c 0 + nI 1)) 0 j = hI g 0 j := fun j h1 h2 => by rw [hI_setI_eq, upd_ne _ _ h2, hI_setI_eq, upd_ne _ _ h1, hI_setI_ne _ _ _ (by decide), r2 0 (by omega) (by omega)]
        have i10 : hI (setI (setI (setI g' 1 1 (nI 0)) 0 10 (nI 0)) 0 12 (c 0 + nI 1)) 0 10 = nI 0 := by rw [hI_setI_eq, upd_ne _ _ (by decide), hI_setI_eq, upd_same]
        have i12 : hI (setI (setI (setI g' 1 1 (nI 0)) 0 10 (nI 0)) 0 12 (c 0 + nI 1)) 0 12 = c 0 + nI 1 := by rw [hI_setI_eq, upd_same]
        have i1 : hI (setI (setI (setI g' 1 1 (nI 0)) 0 10 (nI 0)) 0 12 (c 0 + nI 1)) 1 1 = nI 0 := by rw [hI_setI_ne _ _ _ (by decide), hI_setI_ne _ _ _ (by decide), hI_setI_eq, upd_same]
        generalize setI (setI (setI g' 1 1 (nI 0)) 0 10 (nI 0)) 0 12 (c 0 + nI 1) = g2 at *
        have ne : ∀ q, q < 99 → q ≠ 0 → q ≠ 1 → q ≠ 8 → hI g2 q = hI g q := fun q h0 h1 h2 h3 => by rw [oo.2 q (by omega), r2 q h0 h3]
        refine ⟨hL4, ⟨i1, fun i hi => absurd hi (Nat.not_lt_zero i)⟩, ?_, ?_, ⟨_, cn'.fr oo.1 (oo.2 8 (by omega)) (fun q hq => oo.2 q (by omega))⟩, ⟨?_, ?_, fun z => absurd rfl z, ?_⟩, ?_⟩
        · unfold CI at *; rw [ne 3 (by decide) (by decide) (by decide) (by decide), ne 4 (by decide) (by decide) (by decide) (by decide)]; exact a2
        · unfold CK at *; rw [ne 6 (by decide) (by decide) (by decide) (by decide), (all (zn s) (Nat.le_refl _)).2.1]; exact a3
        · rw [oo.1.2.2.1, r3 0 8 (by omega) (by omega), r3 0 9 (by omega) (by omega)]; exact cm.1
        · rw [i10, b2_f (fun z : (0 : Nat) ≠ 0 => z rfl)]
        · rw [ne 25 (by decide) (by decide) (by decide) (by decide)]; exact cm.2.2.2
        · exact ⟨i12, by rw [i0 13 (by decide) (by decide)]; exact a6.2.1, by rw [i0 14 (by decide) (by decide)]; exact a6.2.2.1, by rw [i0 11 (by decide) (by decide)]; exact a6.2.2.2⟩
      have sm2 : SM v t p m c (setI (setI (setI g' 1 1 (nI 0)) 0 10 (nI 0)) 0 12 (c 0 + nI 1)) := sm1.cls hL4 (fun q h1 h2 => by rw [oo.2 q (by omega), r2 q (by omega) (by omega)])
      generalize setI (setI (setI g' 1 1 (nI 0)) 0 10 (nI 0)) 0 12 (c 0 + nI 1) = g2 at *
      obtain ⟨j', s', g3, w1, w2, w3, w4, w5⟩ := M_namesF sm2 vo ht
      have ej := FE_one w1 q1
      subst ej
      have es : s' = s := Option.some.inj (w2.symm.trans q2)
      subst es
      rw [if_pos c1, if_pos c2] at w5
      obtain ⟨e17, mq⟩ := w4 c1.1
      have sm3 := sm2.om w3
      obtain ⟨hL5, m1_, m2_, m3_, m4_, m5_, m6_⟩ := id sm3
      obtain ⟨g4, x1, x2, x3, x4⟩ := M_comesL (v := v) hL5 mq e17 ni (by omega) all (fun h19 => (getI h19 10 77 6).bind fun x20 => (putI h19 10 77 6 (x20 + (nI 1))).bind fun h21 => (putI h21 10 77 12 (nI 0)).bind fun h22 => (putI h22 10 77 0 (nI 0)).bind fun h23 => (getI h23 10 77 17).bind fun x24 => some (x24, h23)) FU 0 g3 (Nat.zero_le _) (FU_gt (by omega)) OnlyI.rf (fun _ _ => rfl) m4_
      have hL6 : Lay g4 := hL5.ss x2.1
      have hL7 : Lay (setI g4 77 6 (c 0 + nI 1)) := hL6.setI _ _ _
      have hL8 : Lay (setI (setI g4 77 6 (c 0 + nI 1)) 77 12 (nI 0)) := hL7.setI _ _ _
      have hL9 : Lay (setI (setI (setI g4 77 6 (c 0 + nI 1)) 77 12 (nI 0)) 77 0 (nI 0)) := hL8.setI _ _ _
      have j77 : ∀ j, j ≠ 0 → j ≠ 6 → j ≠ 12 → hI (setI (setI (setI g4 77 6 (c 0 + nI 1)) 77 12 (nI 0)) 77 0 (nI 0)) 77 j = hI g4 77 j := fun j h1 h2 h3 => by rw [hI_setI_eq, upd_ne _ _ h1, hI_setI_eq, upd_ne _ _ h3, hI_setI_eq, upd_ne _ _ h2]
      have jq : ∀ q, q ≠ 77 → hI (setI (setI (setI g4 77 6 (c 0 + nI 1)) 77 12 (nI 0)) 77 0 (nI 0)) q = hI g4 q := fun q h1 => by rw [hI_setI_ne _ _ _ h1, hI_setI_ne _ _ _ h1, hI_setI_ne _ _ _ h1]
      have j0 : hI (setI (setI (setI g4 77 6 (c 0 + nI 1)) 77 12 (nI 0)) 77 0 (nI 0)) 77 0 = nI 0 := by rw [hI_setI_eq, upd_same]
      have j12 : hI (setI (setI (setI g4 77 6 (c 0 + nI 1)) 77 12 (nI 0)) 77 0 (nI 0)) 77 12 = nI 0 := by rw [hI_setI_eq, upd_ne _ _ (by decide), hI_setI_eq, upd_same]
      have j6 : hI (setI (setI (setI g4 77 6 (c 0 + nI 1)) 77 12 (nI 0)) 77 0 (nI 0)) 77 6 = c 0 + nI 1 := by rw [hI_setI_eq, upd_ne _ _ (by decide), hI_setI_eq, upd_ne _ _ (by decide), hI_setI_eq, upd_same]
      have o5 : OnlyI (fun q => 77 ≤ q ∧ q < 99) g3 (setI (setI (setI g4 77 6 (c 0 + nI 1)) 77 12 (nI 0)) 77 0 (nI 0)) := (((x2.mono (fun q z => by omega)).put (by omega)).put (by omega)).put (by omega)
      refine ⟨nI (zn s'), g2, setI (setI (setI g4 77 6 (c 0 + nI 1)) 77 12 (nI 0)) 77 0 (nI 0), cls, ?_, vI v t s' (zn s'), (0, t.2), (0, m.2), cinc c 0, (all _ (Nat.le_refl _)).1, ⟨Nat.zero_le _, fun i hi => absurd hi (Nat.not_lt_zero i)⟩, fun z => absurd rfl z, (sc2.om w3).mod o5, ?_⟩
      · rw [w5, x1]
        simp only [MG hL6, MP hL6, MP hL7, MP hL8, MG hL9, x3 6 (by decide), m6_.1, Option.bind_some, j77 17 (by decide) (by decide) (by decide), x3 17 (by decide), e17]
      · generalize setI (setI (setI g4 77 6 (c 0 + nI 1)) 77 12 (nI 0)) 77 0 (nI 0) = g5 at *
        have ne : ∀ q, q ≠ 77 → q ≠ 79 → q ≠ 80 → q ≠ 81 → hI g5 q = hI g3 q := fun q h1 h2 h3 h4 => by rw [jq q h1, x2.2 q (by omega)]
        refine ⟨hL9, ⟨j0, fun i hi => absurd hi (Nat.not_lt_zero i)⟩, ?_, ?_, ?_, ⟨j12, fun z => absurd rfl z, ?_⟩, ?_⟩
        · unfold MI at *; rw [j77 10 (by decide) (by decide) (by decide), x3 10 (by decide), ne 83 (by decide) (by decide) (by decide) (by decide)]; exact m2_
        · unfold MK at *; rw [ne 82 (by decide) (by decide) (by decide) (by decide), (all (zn s') (Nat.le_refl _)).2.1]; exact m3_
        · unfold MN at *; rw [j77 2 (by decide) (by decide) (by decide), jq 79 (by decide), jq 80 (by decide), jq 81 (by decide)]; exact x4
        · intro k hk; rw [ne 84 (by decide) (by decide) (by decide) (by decide)]; exact m5_.2.2 k hk
        · exact ⟨j6, by rw [j77 7 (by decide) (by decide) (by decide), x3 7 (by decide)]; exact m6_.2.1, by rw [j77 8 (by decide) (by decide) (by decide), x3 8 (by decide)]; exact m6_.2.2.1, by rw [j77 15 (by decide) (by decide) (by decide), x3 15 (by decide)]; exact m6_.2.2.2⟩
    · obtain ⟨j', s', g3, w1, w2, w3, w4, w5⟩ := M_namesF sm1 vo ht
      have ej := FE_one w1 q1
      subst ej
      have es : s' = s := Option.some.inj (w2.symm.trans q2)
      subst es
      rw [if_pos c1, if_neg c2] at q5 w5
      exact ⟨m104, g, g3, q5, w5, v, t, m, c, vo, ht, mo, sc1.om w3, sm1.om w3⟩
  · obtain ⟨j', s', g3, w1, w2, w3, w4, w5⟩ := M_namesF sm1 vo ht
    have ej := FE_one w1 q1
    subst ej
    have es : s' = s := Option.some.inj (w2.symm.trans q2)
    subst es
    rw [if_neg c1] at q5 w5
    exact ⟨m103, g, g3, q5, w5, v, t, m, c, vo, ht, mo, sc1.om w3, sm1.om w3⟩
end
