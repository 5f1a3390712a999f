section
variable {pm : Nat} {v : Vw} {t p : Sq} {m : Mn} {c : Nat → Int32} {h : Hp} {b : Nat}
theorem M_least (sm : SM v t p m c h) (vo : VOK v) (h1 : 1 ≤ vN v) (hw : 2 ≤ m.1 ∧ m.1 ≤ 4) : ∃ g, f_X10_leastCost 77 h = some (nI (fsum (fun k => vu v k * plen (vu v) m.1 (vN v) k) (vN v)), g) ∧ OM h g := by
  have hL := sm.1
  have mn := sm.2.2.2.2.1
  have h14 := vo.1
  obtain ⟨g, q1, q2, q3⟩ := M_costs hL mn vo hw.1 hw.2
  have om : OM h g := OM.of (q2.mono (fun q z => by omega))
  have smg := sm.om om
  refine ⟨g, ?_, om⟩
  have e := (q3 0 (vN v) True.intro h1 (by omega)).1
  have ca := M_costAt smg.1 (f := 0) (s := vN v) (by omega) h1
  rw [Nat.zero_add] at ca
  rw [Nat.zero_add] at e
  unfold f_X10_leastCost
  simp only [gd_77 hL, MG hL, sm.2.2.2.2.2.1.1, Option.bind_some, q1, MG smg.1, smg.2.2.2.2.1.1, ca, e, cost_plan hw.1 h1 h14]
theorem C_pres (sc : SC pm v t p m c h) : getR h 9 0 8 = some pm := by
  have r8 : hR h 0 8 = some pm := by rcases sc.2.2.2.2.2.1.1 with z | z <;> rw [z.1, z.2.1]
  exact getR_of (sc.1.o (by decide) rfl) r8
theorem C_spare (sc : SC pm v t p m c h) : getR h 9 0 9 = some (oth pm) := by
  have r9 : hR h 0 9 = some (oth pm) := by
    unfold oth
    rcases sc.2.2.2.2.2.1.1 with z | z
    · rw [if_pos z.1]; exact z.2.2
    · rw [if_neg (by omega)]; exact z.2.2
  exact getR_of (sc.1.o (by decide) rfl) r9
theorem op_tend (sc : SC pm v t p m c h) (sm : SM v t p m c h) (vo : VOK v) (mo : MOK m (vN v)) (x : Int32) : Both (f_X9_tend 0 x) (f_X10_tend 77 x) h (fun h2 => ∃ pm' m' c', MOK m' (vN v) ∧ SC pm' v t p m' c' h2 ∧ SM v t p m' c' h2) := by
  have hL := sc.1
  have cm := sc.2.2.2.2.2.1
  have hpm := cm.two
  have h14 := vo.1
  by_cases c0 : m.1 = 0
  · refine ⟨m103, h, h, ?_, ?_, pm, m, c, mo, sc, sm⟩
    · unfold f_X9_tend
      simp only [gd_0 hL, CG hL, cm.2.1, Option.bind_some, b2_f (fun z : m.1 ≠ 0 => z c0), if_true]
    · unfold f_X10_tend
      simp only [gd_77 hL, MG hL, sm.2.2.2.2.2.1.1, Option.bind_some, c0, if_true]
  · have mo0 := mo c0
    have hw := mo0.1
    have bd := mo.bd c0
    have cp := cm.cp c0
    have e0 : ¬ nI m.1 = nI 0 := by rw [nI_eq (by omega) (by decide)]; exact c0
    by_cases c1 : ¬ x < nI 0 ∧ x ≤ nI 100
    · obtain ⟨g1, q1, q2, q3⟩ := C_opt sc vo hw.1 hw.2
      have sc1 := sc.oc q2
      have sm1 := sm.oc hpm q2
      obtain ⟨-, -, -, -, ⟨ea1, cn1⟩, cm1, -⟩ := id sc1
      have cp1 := cm1.cp c0
      have bd' := fmn_bd (vu v) hw.1 hw.2 h14
      have cc : ∀ K : Int32 × Hp, f_X9_tend 0 x h = (if (x * nI (fsum (fun k => vu v k * plen (vu v) m.1 (vN v) k) (vN v))) < ((nI 100) * (nI (fsum (fun k => vu v k * m.2.1 k) (vN v)) - nI (fsum (fun k => vu v k * plen (vu v) m.1 (vN v) k) (vN v)))) then (f_X9_adoptSpare 0 g1).bind fun h13 => some (nI (cnt (fun k => ¬ smp m (fmn (vu v) m.1 (vN v)) k) (vN v)), h13) else some (m1, g1)) := by
        intro _
        unfold f_X9_tend f_X4_width
        simp only [gd_0 hL, CG hL, cm.2.1, Option.bind_some, b2_t (show m.1 ≠ 0 from c0), if_neg nI01, if_neg c1.1, if_pos c1.2, C_pres sc, MA hL hpm, cp.1, q1, CG sc1.1, C_mcost sc1.1 cn1 vo (oth_two pm) q3, C_pres sc1, C_mcost sc1.1 cn1 vo hpm cp1, C_spare sc1, C_mdiff sc1.1 hpm (oth_two pm) cp1 q3 h14 bd bd']
        rfl
      have cc1 := cc (m1, g1)
      by_cases c2 : (x * nI (fsum (fun k => vu v k * plen (vu v) m.1 (vN v) k) (vN v))) < ((nI 100) * (nI (fsum (fun k => vu v k * m.2.1 k) (vN v)) - nI (fsum (fun k => vu v k * plen (vu v) m.1 (vN v) k) (vN v))))
      · obtain ⟨g2, r1, r2, r3, r4⟩ := C_adopt sc1 (m' := fmn (vu v) m.1 (vN v)) (by show m.1 ≠ 0; exact c0) q3
        have sm2 := sm1.cls r3 (fun q h1 h2 => r4 q (by omega))
        obtain ⟨g3, s1, s2⟩ := M_least sm2 vo mo0.2.1 hw
        have sc3 := r2.om s2
        have sm3 := sm2.om s2
        obtain ⟨g4, t1, t2, t3⟩ := M_menu sm3.1 sm3.2.2.2.2.1 vo hw.1 hw.2
        have sc4 := sc3.om (OM.r47 t2)
        have sm4 := sm3.om (OM.r47 t2)
        have tq := M_take_eq sm4.1 sm4.2.2.2.2.1 vo (sm4.ml c0) (m' := fmn (vu v) m.1 (vN v)) t3 bd bd' (nI m.1) (fun y6 => f_X10_takeMenu_L36 77 (nI m.1) y6 (fun h13 => f_X10_takeMenu_L64 77 (nI m.1) y6 (fun h19 => (putI h19 10 77 12 (nI m.1)).bind fun h20 => (getI h20 10 77 15).bind fun x21 => (putI h20 10 77 15 (x21 + (nI 1))).bind fun h22 => some (y6, h22)) FU (nI 0) h13) FU (nI 0) g4)
        obtain ⟨g5, u1, u2, u3, u4, u5, u6, u7⟩ := M_copy sm4.1 sm4.2.2.2.2.1 vo (m' := fmn (vu v) m.1 (vN v)) t3 bd' (nI m.1) (nI (cnt (fun k => ¬ smp m (fmn (vu v) m.1 (vN v)) k) (vN v)))
        have sm5 := sm4.take (m' := fmn (vu v) m.1 (vN v)) rfl bd' u2 u3 u4 u5 u6 u7
        refine ⟨nI (cnt (fun k => ¬ smp m (fmn (vu v) m.1 (vN v)) k) (vN v)), g2, g5, ?_, ?_, oth pm, fmn (vu v) m.1 (vN v), c3 c, MOK_fmn hw.1 hw.2 mo0.2.1 h14, sc4.take u2, sm5⟩
        · rw [cc1, if_pos c2, r1]
          rfl
        · unfold f_X10_tend f_X10_takeMenu
          simp only [gd_77 r3, MG r3, sm2.2.2.2.2.2.1.1, Option.bind_some, if_neg e0, p_within, b2_t c1, if_neg nI01, s1, M_costNow sm3.1 sm3.2.2.2.2.1 vo (sm3.ml c0), if_pos c2, MG sm3.1, sm3.2.2.2.2.2.1.1, t1, MG sm4.1, sm4.2.2.2.2.2.1.1, gd_77 sm4.1, tq, u1]
      · obtain ⟨g3, s1, s2⟩ := M_least sm1 vo mo0.2.1 hw
        have sc3 := sc1.om s2
        have sm3 := sm1.om s2
        refine ⟨m1, g1, g3, ?_, ?_, pm, m, c, mo, sc3, sm3⟩
        · rw [cc1, if_neg c2]
        · unfold f_X10_tend
          simp only [gd_77 sm1.1, MG sm1.1, sm1.2.2.2.2.2.1.1, Option.bind_some, if_neg e0, p_within, b2_t c1, if_neg nI01, s1, M_costNow sm3.1 sm3.2.2.2.2.1 vo (sm3.ml c0), if_neg c2]
    · refine ⟨m102, h, h, ?_, ?_, pm, m, c, mo, sc, sm⟩
      · unfold f_X9_tend
        simp only [gd_0 hL, CG hL, cm.2.1, Option.bind_some, b2_t (show m.1 ≠ 0 from c0), if_neg nI01]
        by_cases z : x < nI 0
        · rw [if_pos z]
        · rw [if_neg z, if_neg (fun y => c1 ⟨z, y⟩)]
      · unfold f_X10_tend
        simp only [gd_77 hL, MG hL, sm.2.2.2.2.2.1.1, Option.bind_some, if_neg e0, p_within, b2_f c1, if_true]
theorem op_path (sc : SC pm v t p m c h) (sm : SM v t p m c h) (vo : VOK v) (mo : MOK m (vN v)) (x y : Int32) : BothR (f_X9_path 0 x y) (f_X10_path 77 x y) h := by
  have hL := sc.1
  have cm := sc.2.2.2.2.2.1
  have hpm := cm.two
  have h14 := vo.1
  have mn := sm.2.2.2.2.1
  by_cases c0 : m.1 = 0
  · refine ⟨m103, ?_, ?_⟩
    · unfold f_X9_path
      simp only [gd_0 hL, CG hL, cm.2.1, Option.bind_some, b2_f (fun z : m.1 ≠ 0 => z c0), if_true]
    · unfold f_X10_path
      simp only [gd_77 hL, MG hL, sm.2.2.2.2.2.1.1, Option.bind_some, c0, if_true]
  · have hw := (mo c0).1
    have bd := mo.bd c0
    have cp := cm.cp c0
    have ml := sm.ml c0
    have e0 : ¬ nI m.1 = nI 0 := by rw [nI_eq (by omega) (by decide)]; exact c0
    have cc : ∀ r, f_X4_stepOf pm x y h = some r → f_X9_path 0 x y h = some r := by
      intro r hr
      unfold f_X9_path
      simp only [gd_0 hL, CG hL, cm.2.1, Option.bind_some, b2_t (show m.1 ≠ 0 from c0), if_neg nI01, C_pres sc, hr]
    have out : x < nI 0 ∨ nI (vN v) ≤ x → BothR (f_X9_path 0 x y) (f_X10_path 77 x y) h := by
      intro hx
      refine ⟨m101, cc _ ?_, ?_⟩
      · unfold f_X4_stepOf
        simp only [MA hL hpm, C_mhasN hL hpm cp hx, Option.bind_some, if_true]
      · unfold f_X10_path
        simp only [gd_77 hL, MG hL, sm.2.2.2.2.2.1.1, Option.bind_some, if_neg e0, M_isNameN hL mn vo hx, if_true]
    rcases ix_cases x (n := vN v) (by omega) with c1 | ⟨-, c1⟩ | ⟨k, hk, rfl⟩
    · exact out (Or.inl c1)
    · exact out (Or.inr c1)
    · have bk := bd k hk
      have out2 : y < nI 0 ∨ nI (m.2.1 k) ≤ y → BothR (f_X9_path 0 (nI k) y) (f_X10_path 77 (nI k) y) h := by
        intro hy
        refine ⟨m101, cc _ (C_mstepN hL hpm cp h14 bd hk hy), ?_⟩
        unfold f_X10_path
        simp (disch := omega) only [gd_77 hL, MG hL, sm.2.2.2.2.2.1.1, Option.bind_some, if_neg e0, M_isName hL mn vo hk, if_neg nI01, (ml k hk).1, p_within, b2_f (w0_out (show m.2.1 k < 2 ^ 31 by omega) hy), if_true]
      rcases ix_cases y (n := m.2.1 k) (by omega) with c1 | ⟨-, c1⟩ | ⟨i, hi, rfl⟩
      · exact out2 (Or.inl c1)
      · exact out2 (Or.inr c1)
      · refine ⟨nI (m.2.2.1 k i), cc _ ?_, ?_⟩
        · rw [C_mstep hL hpm cp h14 bd hk (by omega)]
          unfold so
          rw [if_pos hi]
        · unfold f_X10_path
          simp (disch := omega) only [gd_77 hL, MG hL, sm.2.2.2.2.2.1.1, Option.bind_some, if_neg e0, M_isName hL mn vo hk, if_neg nI01, (ml k hk).1, p_within, b2_t (w0_in hi (show m.2.1 k < 2 ^ 31 by omega)), pk_mul, nI_add, (ml k hk).2 i hi]
/-- menu, what = 0 .. 6 -/
def mv (v : Vw) (m : Mn) (c : Nat → Int32) (w : Nat) : Int32 := if w = 0 then nI m.1 else if w = 1 then nI (fsum (fun k => vu v k * m.2.1 k) (vN v)) else if w = 2 then nI (fsum (fun k => vu v k * plen (vu v) m.1 (vN v) k) (vN v)) else if w = 3 then nI (fmax m.2.1 (vN v)) else if w = 4 then nI m.2.2.2 else if w = 5 then nI (if 0 < m.2.1 (vN v - 1) then m.2.2.1 (vN v - 1) 0 else 0) else c 3
theorem C_menu (sc : SC pm v t p m c h) (vo : VOK v) (mo : MOK m (vN v)) (c0 : m.1 ≠ 0) {w : Nat} (hw : w ≤ 6) : ∃ g, f_X9_menu 0 (nI w) h = some (mv v m c w, g) ∧ OC pm h g := by
  have hL := sc.1
  have cm := sc.2.2.2.2.2.1
  have hpm := cm.two
  have h14 := vo.1
  obtain ⟨-, -, -, -, ⟨ea, cn⟩, -, cc⟩ := id sc
  have mo0 := mo c0
  have bd := mo.bd c0
  have cp := cm.cp c0
  have pre : f_X9_menu 0 (nI w) h = f_X9_menu 0 (nI w) h := rfl
  unfold f_X9_menu at pre ⊢
  simp only [gd_0 hL, CG hL, cm.2.1, Option.bind_some, b2_t c0, if_neg nI01]
  rcases w_cases hw with rfl | rfl | rfl | rfl | rfl | rfl | rfl
  · refine ⟨h, ?_, OC.rf⟩
    unfold f_X4_width
    simp only [if_true, C_pres sc, MA hL hpm, cp.1, Option.bind_some]
    rfl
  · refine ⟨h, ?_, OC.rf⟩
    simp (disch := omega) only [nI_eq, C_pres sc, C_mcost hL cn vo hpm cp, Option.bind_some]
    rfl
  · obtain ⟨g, q1, q2, q3⟩ := C_opt sc vo mo0.1.1 mo0.1.2
    have sc1 := sc.oc q2
    obtain ⟨-, -, -, -, ⟨ea1, cn1⟩, -⟩ := id sc1
    refine ⟨g, ?_, q2⟩
    unfold f_X4_width
    simp (disch := omega) only [nI_eq, C_pres sc, MA hL hpm, cp.1, q1, CG sc1.1, C_mcost sc1.1 cn1 vo (oth_two pm) q3, Option.bind_some]
    rfl
  · refine ⟨h, ?_, OC.rf⟩
    simp (disch := omega) only [nI_eq, C_pres sc, C_mlongest hL hpm cp h14 bd, Option.bind_some]
    rfl
  · refine ⟨h, ?_, OC.rf⟩
    unfold f_X4_branchings
    simp (disch := omega) only [nI_eq, C_pres sc, MA hL hpm, cp.2.2.1, Option.bind_some]
    rfl
  · refine ⟨h, ?_, OC.rf⟩
    simp (disch := omega) only [nI_eq, C_pres sc, C_mwhole hL hpm cp h14 mo0.2.1 bd, Option.bind_some]
    rfl
  · refine ⟨h, ?_, OC.rf⟩
    simp (disch := omega) only [nI_eq, cc.2.2.2, Option.bind_some]
    rfl
theorem M_menuNow (sm : SM v t p m c h) (vo : VOK v) (mo : MOK m (vN v)) (c0 : m.1 ≠ 0) {w : Nat} (hw : w ≤ 6) : ∃ g, f_X10_menuNow 77 (nI w) h = some (mv v m c w, g) ∧ OM h g := by
  have hL := sm.1
  have mn := sm.2.2.2.2.1
  have h14 := vo.1
  have mo0 := mo c0
  have bd := mo.bd c0
  have ml := sm.ml c0
  unfold f_X10_menuNow
  rw [gd_77 hL]
  rcases w_cases hw with rfl | rfl | rfl | rfl | rfl | rfl | rfl
  · refine ⟨h, ?_, OM.rf⟩
    simp only [if_true, MG hL, sm.2.2.2.2.2.1.1, Option.bind_some]
    rfl
  · refine ⟨h, ?_, OM.rf⟩
    simp (disch := omega) only [nI_eq, M_costNow hL mn vo ml, Option.bind_some]
    rfl
  · obtain ⟨g, q1, q2⟩ := M_least sm vo mo0.2.1 mo0.1
    refine ⟨g, ?_, q2⟩
    simp (disch := omega) only [nI_eq, q1, Option.bind_some]
    rfl
  · refine ⟨h, ?_, OM.rf⟩
    simp (disch := omega) only [nI_eq, M_longest hL mn vo ml bd, Option.bind_some]
    rfl
  · refine ⟨h, ?_, OM.rf⟩
    simp (disch := omega) only [nI_eq, M_many hL mn vo ml bd, Option.bind_some, ← mo0.2.2.2.1]
    rfl
  · refine ⟨h, ?_, OM.rf⟩
    simp (disch := omega) only [nI_eq, M_whole hL mn vo ml bd, Option.bind_some, mo0.2.2.2.2.1]
    rfl
  · refine ⟨h, ?_, OM.rf⟩
    simp (disch := omega) only [nI_eq, MG hL, sm.2.2.2.2.2.2.2.2.2, Option.bind_some]
    rfl
theorem op_menu (sc : SC pm v t p m c h) (sm : SM v t p m c h) (vo : VOK v) (mo : MOK m (vN v)) (x : Int32) : Both (f_X9_menu 0 x) (f_X10_menu 77 x) h (fun h2 => SC pm v t p m c h2 ∧ SM v t p m c h2) := by
  have hL := sc.1
  have cm := sc.2.2.2.2.2.1
  have hpm := cm.two
  by_cases c0 : m.1 = 0
  · refine ⟨m103, h, h, ?_, ?_, sc, sm⟩
    · unfold f_X9_menu
      simp only [gd_0 hL, CG hL, cm.2.1, Option.bind_some, b2_f (fun z : m.1 ≠ 0 => z c0), if_true]
    · unfold f_X10_menu
      simp only [gd_77 hL, MG hL, sm.2.2.2.2.2.1.1, Option.bind_some, c0, if_true]
  · have hw := (mo c0).1
    have e0 : ¬ nI m.1 = nI 0 := by rw [nI_eq (by omega) (by decide)]; exact c0
    have out : x < nI 0 ∨ nI 7 ≤ x → Both (f_X9_menu 0 x) (f_X10_menu 77 x) h (fun h2 => SC pm v t p m c h2 ∧ SM v t p m c h2) := by
      intro hx
      have ne : ∀ n, n < 7 → ¬ x = nI n := by
        rintro n hn rfl
        rcases hx with z | z
        · exact nI_lt0 n (by omega) z
        · rw [nI_leI (by decide) (by omega)] at z
          omega
      refine ⟨m102, h, h, ?_, ?_, sc, sm⟩
      · unfold f_X9_menu
        simp only [gd_0 hL, CG hL, cm.2.1, Option.bind_some, b2_t (show m.1 ≠ 0 from c0), if_neg nI01, if_neg (ne 0 (by decide)), if_neg (ne 1 (by decide)), if_neg (ne 2 (by decide)), if_neg (ne 3 (by decide)), if_neg (ne 4 (by decide)), if_neg (ne 5 (by decide)), if_neg (ne 6 (by decide))]
      · unfold f_X10_menu
        simp only [gd_77 hL, MG hL, sm.2.2.2.2.2.1.1, Option.bind_some, if_neg e0, p_within, b2_f (w1_out (n := 6) (by decide) hx), if_true]
    rcases ix_cases x (n := 7) (by decide) with c1 | ⟨-, c1⟩ | ⟨w, hw7, rfl⟩
    · exact out (Or.inl c1)
    · exact out (Or.inr c1)
    · obtain ⟨g1, q1, q2⟩ := C_menu sc vo mo c0 (show w ≤ 6 by omega)
      have sc1 := sc.oc q2
      have sm1 := sm.oc hpm q2
      obtain ⟨g2, r1, r2⟩ := M_menuNow sm1 vo mo c0 (show w ≤ 6 by omega)
      refine ⟨_, g1, g2, q1, ?_, sc1.om r2, sm1.om r2⟩
      unfold f_X10_menu
      simp only [gd_77 sm1.1, MG sm1.1, sm1.2.2.2.2.2.1.1, Option.bind_some, if_neg e0, p_within, b2_t (w1_in (n := 6) (show w ≤ 6 by omega) (by decide)), if_neg nI01, r1]
/-- name, what = 0 .. 7 -/
def nmx (v : Vw) (m : Mn) (k w : Nat) : Int32 := if w ≤ 5 then nm v k w else if w = 6 then (if m.1 = 0 then m1 else nI (m.2.1 k)) else nI (plen (vu v) 3 (vN v) k)
theorem C_nameX (sc : SC pm v t p m c h) (vo : VOK v) {k w : Nat} (hk : k < vN v) (hw : w ≤ 7) : ∃ g, f_X9_name 0 (nI k) (nI w) h = some (nmx v m k w, g) ∧ OC pm h g ∧ (w ≠ 7 → g = h) := by
  have hL := sc.1
  have cm := sc.2.2.2.2.2.1
  have hpm := cm.two
  have h14 := vo.1
  obtain ⟨-, -, -, -, ⟨ea, cn⟩, -⟩ := id sc
  by_cases c5 : w ≤ 5
  · refine ⟨h, ?_, OC.rf, fun _ => rfl⟩
    rw [C_name sc vo hk c5]
    unfold nmx
    rw [if_pos c5]
  · have ne : ∀ n, n ≤ 5 → ¬ nI w = nI n := fun n hn => by rw [nI_eq (by omega) (by omega)]; omega
    unfold nmx f_X9_name
    simp only [gd_0 hL, CG hL, Option.bind_some, R_has hL cn hk, if_neg nI01, if_neg (ne 0 (by decide)), if_neg (ne 1 (by decide)), if_neg (ne 2 (by decide)), if_neg (ne 3 (by decide)), if_neg (ne 4 (by decide)), if_neg (ne 5 (by decide)), if_neg c5]
    by_cases c6 : w = 6
    · subst c6
      refine ⟨h, ?_, OC.rf, fun _ => rfl⟩
      simp only [if_true, cm.2.1, Option.bind_some]
      by_cases c0 : m.1 = 0
      · rw [b2_f (fun z : m.1 ≠ 0 => z c0), if_pos rfl, if_pos c0]
        rfl
      · rw [b2_t (show m.1 ≠ 0 from c0), if_neg nI01, if_neg c0]
        simp only [C_pres sc, C_mlen hL hpm (cm.cp c0) h14 hk, Option.bind_some]
    · obtain ⟨g, q1, q2, q3⟩ := C_opt sc vo (b := 3) (by decide) (by decide)
      have sc1 := sc.oc q2
      refine ⟨g, ?_, q2, fun z => absurd (by omega) z⟩
      have e7 : w = 7 := by omega
      rw [if_neg (by rw [nI_eq (by omega) (by omega)]; omega), if_pos (by rw [e7]), if_neg c6]
      simp only [q1, Option.bind_some, C_mlen sc1.1 (oth_two pm) q3 h14 hk]
      rfl
theorem M_nameX (sm : SM v t p m c h) (vo : VOK v) (mo : MOK m (vN v)) {k w : Nat} (hk : k < vN v) (hw : w ≤ 7) : ∃ g, f_X10_nameNow 77 (nI k) (nI w) h = some (nmx v m k w, g) ∧ OM h g := by
  have hL := sm.1
  have mn := sm.2.2.2.2.1
  have h14 := vo.1
  by_cases c5 : w ≤ 5
  · refine ⟨h, ?_, OM.rf⟩
    rw [M_name sm vo hk c5]
    unfold nmx
    rw [if_pos c5]
  · have ne : ∀ n, n ≤ 5 → ¬ nI w = nI n := fun n hn => by rw [nI_eq (by omega) (by omega)]; omega
    unfold nmx f_X10_nameNow
    simp only [gd_77 hL, if_neg (ne 0 (by decide)), if_neg (ne 1 (by decide)), if_neg (ne 2 (by decide)), if_neg (ne 3 (by decide)), if_neg (ne 4 (by decide)), if_neg (ne 5 (by decide)), if_neg c5]
    by_cases c6 : w = 6
    · subst c6
      refine ⟨h, ?_, OM.rf⟩
      simp only [if_true, MG hL, sm.2.2.2.2.2.1.1, Option.bind_some]
      by_cases c0 : m.1 = 0
      · rw [c0, if_pos rfl, if_pos rfl]
        rfl
      · have hw4 := (mo c0).1
        rw [if_neg c0, if_neg (by rw [nI_eq (by omega) (by decide)]; exact c0)]
        simp (disch := omega) only [MG hL, (sm.ml c0 k hk).1, Option.bind_some]
    · obtain ⟨g, q1, q2, q3⟩ := M_menu hL mn vo (b := 3) (by decide) (by decide)
      have smg := sm.om (OM.r47 q2)
      refine ⟨g, ?_, OM.r47 q2⟩
      have e7 : w = 7 := by omega
      rw [if_neg (by rw [nI_eq (by omega) (by omega)]; omega), if_neg c6]
      simp (disch := omega) only [q1, MG smg.1, Option.bind_some, (q3 k hk).1]
theorem op_name (sc : SC pm v t p m c h) (sm : SM v t p m c h) (vo : VOK v) (mo : MOK m (vN v)) (x y : Int32) : Both (f_X9_name 0 x y) (f_X10_name 77 x y) h (fun h2 => SC pm v t p m c h2 ∧ SM v t p m c h2) := by
  have hL := sc.1
  have cm := sc.2.2.2.2.2.1
  have hpm := cm.two
  have h14 := vo.1
  have mn := sm.2.2.2.2.1
  obtain ⟨-, -, -, -, ⟨ea, cn⟩, -⟩ := id sc
  have out : x < nI 0 ∨ nI (vN v) ≤ x → Both (f_X9_name 0 x y) (f_X10_name 77 x y) h (fun h2 => SC pm v t p m c h2 ∧ SM v t p m c h2) := by
    intro hx
    refine ⟨m101, h, h, ?_, ?_, sc, sm⟩
    · unfold f_X9_name
      simp only [gd_0 hL, CG hL, Option.bind_some, R_hasN hL cn hx, if_true]
    · unfold f_X10_name
      simp only [gd_77 hL, M_isNameN hL mn vo hx, Option.bind_some, if_true]
  rcases ix_cases x (n := vN v) (by omega) with c1 | ⟨-, c1⟩ | ⟨k, hk, rfl⟩
  · exact out (Or.inl c1)
  · exact out (Or.inr c1)
  · have out2 : y < nI 0 ∨ nI 8 ≤ y → Both (f_X9_name 0 (nI k) y) (f_X10_name 77 (nI k) y) h (fun h2 => SC pm v t p m c h2 ∧ SM v t p m c h2) := by
      intro hy
      have ne : ∀ n, n < 8 → ¬ y = nI n := by
        rintro n hn rfl
        rcases hy with z | z
        · exact nI_lt0 n (by omega) z
        · rw [nI_leI (by decide) (by omega)] at z
          omega
      refine ⟨m102, h, h, ?_, ?_, sc, sm⟩
      · unfold f_X9_name
        simp only [gd_0 hL, CG hL, Option.bind_some, R_has hL cn hk, if_neg nI01, if_neg (ne 0 (by decide)), if_neg (ne 1 (by decide)), if_neg (ne 2 (by decide)), if_neg (ne 3 (by decide)), if_neg (ne 4 (by decide)), if_neg (ne 5 (by decide)), if_neg (ne 6 (by decide)), if_neg (ne 7 (by decide))]
      · unfold f_X10_name
        simp only [gd_77 hL, M_isName hL mn vo hk, Option.bind_some, if_neg nI01, p_within, b2_f (w1_out (n := 7) (by decide) hy), if_true]
    rcases ix_cases y (n := 8) (by decide) with c1 | ⟨-, c1⟩ | ⟨w, hw, rfl⟩
    · exact out2 (Or.inl c1)
    · exact out2 (Or.inr c1)
    · obtain ⟨g1, q1, q2, -⟩ := C_nameX sc vo hk (show w ≤ 7 by omega)
      have sc1 := sc.oc q2
      have sm1 := sm.oc hpm q2
      obtain ⟨g2, r1, r2⟩ := M_nameX sm1 vo mo hk (show w ≤ 7 by omega)
      refine ⟨_, g1, g2, q1, ?_, sc1.om r2, sm1.om r2⟩
      unfold f_X10_name
      simp only [gd_77 sm1.1, M_isName sm1.1 sm1.2.2.2.2.1 vo hk, Option.bind_some, if_neg nI01, p_within, b2_t (w1_in (n := 7) (show w ≤ 7 by omega) (by decide)), r1]
end
