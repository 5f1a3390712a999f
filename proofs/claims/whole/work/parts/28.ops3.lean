/-! sign, digit, use, about, name 0 to 5 -/
section
variable {pm : Nat} {v : Vw} {t p : Sq} {m : Mn} {c : Nat → Int32} {h : Hp}
theorem op_sign (sc : SC pm v t p m c h) (sm : SM v t p m c h) (vo : VOK v) (x y : Int32) : BothR (f_X9_sign 0 x y) (f_X10_sign 77 x y) h := by
  have hL := sc.1
  obtain ⟨-, -, -, -, ⟨ea, cn⟩, -⟩ := sc
  have mn := sm.2.2.2.2.1
  have hN := vo.1
  have out : x < nI 0 ∨ nI (vN v) ≤ x → BothR (f_X9_sign 0 x y) (f_X10_sign 77 x y) h := by
    intro hx
    refine ⟨m101, ?_, ?_⟩
    · unfold f_X9_sign f_X7_letterAt
      simp only [gd_0 hL, gd_8 hL, CG hL, Option.bind_some, R_getN hL cn hx, Option.elim_none]
    · unfold f_X10_sign
      simp only [gd_77 hL, M_isNameN hL mn vo hx, Option.bind_some, if_true]
  rcases ix_cases x (n := vN v) (by omega) with c1 | ⟨c0, c1⟩ | ⟨k, hk, rfl⟩
  · exact out (Or.inl c1)
  · exact out (Or.inr c1)
  · have hl := vo.2.1 k hk
    have out2 : y < nI 0 ∨ nI (vl v k) ≤ y → BothR (f_X9_sign 0 (nI k) y) (f_X10_sign 77 (nI k) y) h := by
      intro hx
      refine ⟨m101, ?_, ?_⟩
      · unfold f_X9_sign f_X7_letterAt
        simp only [gd_0 hL, gd_8 hL, CG hL, Option.bind_some, R_get hL cn hk, Option.elim_some, E_letterN (cn.ce hk) (show vl v k < 2 ^ 31 by omega) hx]
      · unfold f_X10_sign
        simp (disch := omega) only [gd_77 hL, M_isName hL mn vo hk, Option.bind_some, if_neg nI01, MG hL, MV mn, p_within, b2_eq0]
        rw [if_pos (w0_out (by omega) hx)]
        rfl
    rcases ix_cases y (n := vl v k) (by omega) with c1 | ⟨c0, c1⟩ | ⟨i, hi, rfl⟩
    · exact out2 (Or.inl c1)
    · exact out2 (Or.inr c1)
    · refine ⟨nI (vt v k i), ?_, ?_⟩
      · unfold f_X9_sign f_X7_letterAt
        simp only [gd_0 hL, gd_8 hL, CG hL, Option.bind_some, R_get hL cn hk, Option.elim_some, E_letter (cn.ce hk) (show vl v k < 2 ^ 31 by omega) hi]
      · unfold f_X10_sign
        simp (disch := omega) only [gd_77 hL, M_isName hL mn vo hk, Option.bind_some, if_neg nI01, MG hL, MV mn, p_within, b2_eq0, pk_mul, nI_add]
        rw [if_neg (fun z => z (w0_in hi (by omega)))]
        rfl
theorem op_digit (sc : SC pm v t p m c h) (sm : SM v t p m c h) (vo : VOK v) (x y : Int32) : BothR (f_X9_digit 0 x y) (f_X10_digit 77 x y) h := by
  have hL := sc.1
  obtain ⟨-, -, -, -, ⟨ea, cn⟩, -⟩ := sc
  have mn := sm.2.2.2.2.1
  have mk := sm.2.2.2.1
  have hN := vo.1
  have out : x < nI 0 ∨ nI (vN v) ≤ x → BothR (f_X9_digit 0 x y) (f_X10_digit 77 x y) h := by
    intro hx
    refine ⟨m101, ?_, ?_⟩
    · unfold f_X9_digit f_X7_digitAt
      simp only [gd_0 hL, gd_8 hL, CG hL, Option.bind_some, R_getN hL cn hx, Option.elim_none]
    · unfold f_X10_digit
      simp only [gd_77 hL, M_isNameN hL mn vo hx, Option.bind_some, if_true]
  rcases ix_cases x (n := vN v) (by omega) with c1 | ⟨c0, c1⟩ | ⟨k, hk, rfl⟩
  · exact out (Or.inl c1)
  · exact out (Or.inr c1)
  · have hl := vo.2.1 k hk
    have out2 : y < nI 0 ∨ nI (vl v k) ≤ y → BothR (f_X9_digit 0 (nI k) y) (f_X10_digit 77 (nI k) y) h := by
      intro hx
      refine ⟨m101, ?_, ?_⟩
      · unfold f_X9_digit f_X7_digitAt
        simp only [gd_0 hL, gd_8 hL, CG hL, Option.bind_some, R_get hL cn hk, Option.elim_some, E_digitN (cn.ce hk) (show vl v k < 2 ^ 31 by omega) hx]
      · unfold f_X10_digit
        simp (disch := omega) only [gd_77 hL, M_isName hL mn vo hk, Option.bind_some, if_neg nI01, MG hL, MV mn, p_within, b2_eq0]
        rw [if_pos (w0_out (by omega) hx)]
        rfl
    rcases ix_cases y (n := vl v k) (by omega) with c1 | ⟨c0, c1⟩ | ⟨i, hi, rfl⟩
    · exact out2 (Or.inl c1)
    · exact out2 (Or.inr c1)
    · refine ⟨nI (vd v k i), ?_, ?_⟩
      · unfold f_X9_digit f_X7_digitAt
        simp only [gd_0 hL, gd_8 hL, CG hL, Option.bind_some, R_get hL cn hk, Option.elim_some, E_digit (cn.ce hk) (show vl v k < 2 ^ 31 by omega) hi]
      · unfold f_X10_digit
        simp (disch := omega) only [gd_77 hL, M_isName hL mn vo hk, Option.bind_some, if_neg nI01, MG hL, MV mn, p_within, b2_eq0, M_code hL mn mk vo hk hi]
        rw [if_neg (fun z => z (w0_in hi (by omega)))]
        rfl
def ab (v : Vw) (w : Nat) : Int32 := if w = 0 then nI (vN v) else if w = 1 then nI (fsum (vu v) (vN v)) else if w = 2 then nI (cnt (fun k => 0 < cnt (tw v k) (vN v)) (vN v)) else if w = 3 then nI (cnt (fun k => cnt (tw v k) k = 0) (vN v)) else if w = 4 then ftel v (vN v) else if w = 5 then nI (fsum (fun k => vu v k * prs v k (vl v k)) (vN v)) else nI (fsum (fun k => vu v k * vl v k) (vN v))
theorem w_cases {w : Nat} (h : w ≤ 6) : w = 0 ∨ w = 1 ∨ w = 2 ∨ w = 3 ∨ w = 4 ∨ w = 5 ∨ w = 6 := by omega
theorem C_about (sc : SC pm v t p m c h) (vo : VOK v) {w : Nat} (hw : w ≤ 6) : f_X9_about 0 (nI w) h = some (ab v w) := by
  have hL := sc.1
  obtain ⟨-, -, -, -, ⟨ea, cn⟩, -⟩ := sc
  unfold f_X9_about
  simp (disch := omega) only [gd_0 hL, CG hL, Option.bind_some, nI_eq, R_size hL cn, R_sumF hL cn vo, C_withTwins hL cn vo, C_codes hL cn vo, C_most hL cn vo, C_sumP hL cn vo, R_sumL hL cn vo, ite_some]
  unfold ab
  rcases w_cases hw with rfl | rfl | rfl | rfl | rfl | rfl | rfl <;> rfl
theorem C_aboutN (sc : SC pm v t p m c h) {x : Int32} (hx : x < nI 0 ∨ nI 7 ≤ x) : f_X9_about 0 x h = some m102 := by
  have hL := sc.1
  have ne : ∀ n, n < 7 → ¬ x = nI n := by
    rintro n hn rfl
    rcases hx with z | z
    · exact nI_lt0 n (by omega) z
    · rw [nI_leI (by decide) (by omega)] at z
      omega
  unfold f_X9_about
  simp only [gd_0 hL, if_neg (ne 0 (by decide)), if_neg (ne 1 (by decide)), if_neg (ne 2 (by decide)), if_neg (ne 3 (by decide)), if_neg (ne 4 (by decide)), if_neg (ne 5 (by decide)), if_neg (ne 6 (by decide))]
theorem M_about (sm : SM v t p m c h) (vo : VOK v) {w : Nat} (hw : w ≤ 6) : f_X10_aboutNow 77 (nI w) h = some (ab v w) := by
  have hL := sm.1
  have mn := sm.2.2.2.2.1
  have mk := sm.2.2.2.1
  unfold f_X10_aboutNow
  simp (disch := omega) only [gd_77 hL, MG hL, mn.1, Option.bind_some, nI_eq, M_sumF hL mn vo, M_withTwins hL mn mk vo, M_codes hL mn mk vo, M_most hL mn mk vo, M_sumP hL mn mk vo, M_sumL hL mn vo, ite_some]
  unfold ab
  rfl
theorem op_about (sc : SC pm v t p m c h) (sm : SM v t p m c h) (vo : VOK v) (x : Int32) : BothR (f_X9_about 0 x) (f_X10_about 77 x) h := by
  have hL := sc.1
  have out : x < nI 0 ∨ nI 7 ≤ x → BothR (f_X9_about 0 x) (f_X10_about 77 x) h := by
    intro hx
    refine ⟨m102, C_aboutN sc hx, ?_⟩
    unfold f_X10_about
    simp only [gd_77 hL, p_within, Option.bind_some, b2_eq0]
    rw [if_pos (w1_out (by decide) hx)]
    rfl
  rcases ix_cases x (n := 7) (by decide) with c1 | ⟨c0, c1⟩ | ⟨k, hk, rfl⟩
  · exact out (Or.inl c1)
  · exact out (Or.inr c1)
  · refine ⟨ab v k, C_about sc vo (by omega), ?_⟩
    unfold f_X10_about
    simp only [gd_77 hL, p_within, Option.bind_some, b2_eq0, M_about sm vo (show k ≤ 6 by omega)]
    rw [if_neg (fun z => z (w1_in (show k ≤ 6 by omega) (by decide)))]
    rfl
/-- name, what = 0 .. 5 -/
def nm (v : Vw) (k w : Nat) : Int32 := if w = 0 then nI (vl v k) else if w = 1 then nI (vu v k) else if w = 2 then nI (cnt (tw v k) (vN v)) else if w = 3 then tel v k else if w = 4 then nI (prs v k (vl v k)) else nI (pl v k (vl v k))
theorem C_name (sc : SC pm v t p m c h) (vo : VOK v) {k w : Nat} (hk : k < vN v) (hw : w ≤ 5) : f_X9_name 0 (nI k) (nI w) h = some (nm v k w, h) := by
  have hL := sc.1
  obtain ⟨-, -, -, -, ⟨ea, cn⟩, -⟩ := sc
  unfold f_X9_name
  simp (maxSteps := 2000000) (disch := omega) only [gd_0 hL, CG hL, Option.bind_some, R_has hL cn hk, if_neg nI01, nI_eq, R_len hL cn vo hk, R_freq hL cn vo hk, C_twins hL cn vo hk, C_tel hL cn vo hk, C_presses hL cn vo hk, C_placeIn hL cn vo hk (Nat.le_refl _)]
  unfold nm
  rcases (by omega : w = 0 ∨ w = 1 ∨ w = 2 ∨ w = 3 ∨ w = 4 ∨ w = 5) with rfl | rfl | rfl | rfl | rfl | rfl <;> rfl
theorem M_name (sm : SM v t p m c h) (vo : VOK v) {k w : Nat} (hk : k < vN v) (hw : w ≤ 5) : f_X10_nameNow 77 (nI k) (nI w) h = some (nm v k w, h) := by
  have hL := sm.1
  have mn := sm.2.2.2.2.1
  have mk := sm.2.2.2.1
  have hN := vo.1
  unfold f_X10_nameNow
  simp (disch := omega) only [gd_77 hL, MG hL, MV mn, Option.bind_some, nI_eq, M_twins hL mn mk vo hk, M_tel hL mn mk vo hk, M_presses hL mn mk vo hk, M_placeIn hL mn mk vo hk (Nat.le_refl _)]
  unfold nm
  rcases (by omega : w = 0 ∨ w = 1 ∨ w = 2 ∨ w = 3 ∨ w = 4 ∨ w = 5) with rfl | rfl | rfl | rfl | rfl | rfl <;> rfl
/-- an entry's frequency is set -/
def vuse (v : Vw) (k x : Nat) : Vw := (vN v, vl v, vt v, fun j => if j = k then x else vu v j, vk v)
theorem VOK.use {k x : Nat} (vo : VOK v) (h1 : 1 ≤ x) (h2 : x ≤ 99) : VOK (vuse v k x) := by
  refine ⟨vo.1, vo.2.1, vo.2.2.1, fun j hj => ?_, vo.2.2.2.2.1, vo.2.2.2.2.2⟩
  show 1 ≤ (if j = k then x else vu v j) ∧ (if j = k then x else vu v j) ≤ 99
  split
  · exact ⟨h1, h2⟩
  · exact vo.2.2.2.1 j hj
theorem CN.use {ea : Nat → Nat} {k x : Nat} (cn : CN v ea h) (hk : k < vN v) : CN (vuse v k x) ea (setI h (ea k) 2 (nI x)) := by
  obtain ⟨h1, h2, h3, h4, h5⟩ := cn
  have hq := (h3 k hk).2.1
  refine ⟨h1, ?_, fun j hj => ⟨(h3 j hj).1, ?_⟩, h4, h5⟩
  · rw [hI_setI_ne _ _ _ (by omega)]; exact h2
  · obtain ⟨⟨a1, a2⟩, k0, k1, k2, r0, r1, u, tt, d⟩ := (h3 j hj).2
    have ap : j = k ∨ ea j + 3 ≤ ea k ∨ ea k + 3 ≤ ea j := by
      rcases Nat.lt_trichotomy j k with z | z | z
      · exact Or.inr (h5 j k z hk)
      · exact Or.inl z
      · exact Or.inr ((h5 k j z hj).symm)
    have nap : ∀ q, q = ea j + 1 ∨ q = ea j + 2 → q ≠ ea k := by
      rintro q hq rfl
      rcases ap with z | z | z
      · subst z; omega
      · omega
      · omega
    refine ⟨⟨a1, a2⟩, k0, k1, k2, r0, r1, ?_, fun i hi => ?_, fun i hi => ?_⟩
    · show _ = nI (if j = k then x else vu v j)
      by_cases e : j = k
      · subst e
        rw [hI_setI_eq, upd_same, if_pos rfl]
      · rw [hI_setI_ne _ _ _ (by rcases ap with z | z | z <;> omega), if_neg e]
        exact u
    · rw [hI_setI_ne _ _ _ (nap _ (by omega))]
      exact tt i hi
    · rw [hI_setI_ne _ _ _ (nap _ (by omega))]
      exact d i hi
theorem op_use (sc : SC pm v t p m c h) (sm : SM v t p m c h) (vo : VOK v) (x y : Int32) : Both (f_X9_use 0 x y) (f_X10_use 77 x y) h (fun h2 => ∃ v', VOK v' ∧ vN v' = vN v ∧ SC pm v' t p m c h2 ∧ SM v' t p m c h2) := by
  have hL := sc.1
  obtain ⟨-, a1, a2, a3, ⟨ea, cn⟩, a5, a6⟩ := id sc
  have mn := sm.2.2.2.2.1
  have h14 := vo.1
  have out : x < nI 0 ∨ nI (vN v) ≤ x → Both (f_X9_use 0 x y) (f_X10_use 77 x y) h (fun h2 => ∃ v', VOK v' ∧ vN v' = vN v ∧ SC pm v' t p m c h2 ∧ SM v' t p m c h2) := by
    intro hx
    refine ⟨m101, h, h, ?_, ?_, v, vo, rfl, sc, sm⟩
    · unfold f_X9_use
      simp only [gd_0 hL, CG hL, Option.bind_some, R_hasN hL cn hx, if_true]
    · unfold f_X10_use
      simp only [gd_77 hL, M_isNameN hL mn vo hx, Option.bind_some, if_true]
  rcases ix_cases x (n := vN v) (by omega) with c1 | ⟨c0, c1⟩ | ⟨k, hk, rfl⟩
  · exact out (Or.inl c1)
  · exact out (Or.inr c1)
  · have hl := vo.2.1 k hk
    by_cases c1 : ¬ y < nI 1 ∧ y ≤ nI 99
    · obtain ⟨z, k1, k2, rfl⟩ := rng c1.1 c1.2 (by decide) (by decide)
      have hq := (cn.ce hk).1
      have oE : ea k < hN h ∧ (hK h (ea k)).1 = 1 := ⟨by omega, by rw [(cn.ce hk).2.1]⟩
      have hL1 : Lay (setI h (ea k) 2 (nI z)) := hL.setI _ _ _
      have e : ∀ q, q < 99 → hI (setI h (ea k) 2 (nI z)) q = hI h q := fun q hq => hI_setI_ne _ _ _ (by omega)
      have hpm := a5.two
      have sc1 : SC pm (vuse v k z) t p m c (setI h (ea k) 2 (nI z)) := by
        refine ⟨hL1, ?_, ?_, ?_, ⟨ea, cn.use hk⟩, ?_, ?_⟩
        · unfold CT at *; rw [e 1 (by omega), e 2 (by omega)]; exact a1
        · unfold CI at *; rw [e 3 (by omega), e 4 (by omega)]; exact a2
        · unfold CK at *; rw [e 6 (by omega)]; exact a3
        · exact a5.fr h14 (SS.setI h _ _ _) (e 0 (by omega)) (by rw [e 25 (by omega)]) (fun q h1 h2 => e q (by omega))
        · unfold CC at *; rw [e 0 (by omega)]; exact a6
      have sm1 := sm.cls hL1 (fun q h1 h2 => e q h2)
      refine ⟨nI (vu v k), setI h (ea k) 2 (nI z), setI (setI h (ea k) 2 (nI z)) 81 k (nI z), ?_, ?_, vuse v k z, vo.use k1 k2, rfl, sc1.mod (OnlyI.set (by omega)), ?_⟩
      · unfold f_X9_use f_X7_setFrequency
        simp only [gd_0 hL, gd_8 hL, CG hL, Option.bind_some, R_has hL cn hk, if_neg nI01, if_neg c1.1, if_pos c1.2, R_get hL cn hk, Option.elim_some, EG (cn.ce hk) (show vl v k < 2 ^ 31 by omega), putI_of oE]
      · unfold f_X10_use
        have mn1 := sm1.2.2.2.2.1
        simp (disch := omega) only [gd_77 hL1, M_isName hL1 mn1 vo hk, Option.bind_some, if_neg nI01, p_within, b2_t c1, MG hL1, MP hL1, MV mn1]
      · obtain ⟨-, m1, m2, m3, m4, m5, m6⟩ := sm1
        have e' : ∀ q, q ≠ 81 → hI (setI (setI h (ea k) 2 (nI z)) 81 k (nI z)) q = hI (setI h (ea k) 2 (nI z)) q := fun q hq => hI_setI_ne _ _ _ hq
        refine ⟨hL1.setI _ _ _, ?_, ?_, ?_, ?_, ?_, ?_⟩
        · unfold MT at *; rw [e' 77 (by omega), e' 78 (by omega)]; exact m1
        · unfold MI at *; rw [e' 77 (by omega), e' 83 (by omega)]; exact m2
        · unfold MK at *; rw [e' 82 (by omega)]; exact m3
        · unfold MN at *
          rw [e' 77 (by omega), e' 79 (by omega), e' 80 (by omega)]
          refine ⟨m4.1, fun j hj => ⟨(m4.2 j hj).1, (m4.2 j hj).2.1, ?_⟩⟩
          rw [hI_setI_eq]
          show _ = nI (if j = k then z else vu v j)
          by_cases ej : j = k
          · rw [ej, upd_same, if_pos rfl]
          · rw [upd_ne _ _ ej, if_neg ej]; exact (m4.2 j hj).2.2
        · unfold MM at *; rw [e' 77 (by omega), e' 84 (by omega), e' 85 (by omega)]; exact m5
        · unfold MC at *; rw [e' 77 (by omega)]; exact m6
    · refine ⟨m102, h, h, ?_, ?_, v, vo, rfl, sc, sm⟩
      · unfold f_X9_use
        simp only [gd_0 hL, CG hL, Option.bind_some, R_has hL cn hk, if_neg nI01]
        by_cases z : y < nI 1
        · rw [if_pos z]
        · rw [if_neg z, if_neg (fun w => c1 ⟨z, w⟩)]
      · unfold f_X10_use
        simp only [gd_77 hL, M_isName hL mn vo hk, Option.bind_some, if_neg nI01, p_within, b2_f c1, if_true]
end
