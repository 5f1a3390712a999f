/-! build, tend, path, menu, name -/
section
variable {pm : Nat} {v : Vw} {t p : Sq} {m : Mn} {c : Nat → Int32} {h : Hp} {b : Nat}
def c3 (c : Nat → Int32) : Nat → Int32 := fun i => if i = 3 then c 3 + nI 1 else c i
theorem OM.r47 {g : Hp} (o : OnlyI R47 h g) : OM h g := OM.of (o.mono (fun q z => by unfold R47 at z; omega))
theorem SM.ml (sm : SM v t p m c h) (h0 : m.1 ≠ 0) : ML m (vN v) h := sm.2.2.2.2.2.1.2.1 h0
theorem CM.cp {N : Nat} (cm : CM m N pm h) (h0 : m.1 ≠ 0) : CP_ m N pm h := cm.2.2.1 h0
/-- the class's half: the spare menu becomes the menu -/
theorem C_adopt (sc : SC pm v t p m c h) {m' : Mn} (h0 : m'.1 ≠ 0) (cp : CP_ m' (vN v) (oth pm) h) : ∃ g, f_X9_adoptSpare 0 h = some g ∧ SC (oth pm) v t p m' (c3 c) g ∧ Lay g ∧ ∀ q, q ≠ 0 → hI g q = hI h q := by
  obtain ⟨hL, a1, a2, a3, ⟨ea, a4⟩, a5, a6⟩ := sc
  have hpm := a5.two
  have r8 : hR h 0 8 = some pm := by rcases a5.1 with z | z <;> rw [z.1, z.2.1]
  have r9 : hR h 0 9 = some (oth pm) := by
    unfold oth
    rcases a5.1 with z | z
    · rw [if_pos z.1]; exact z.2.2
    · rw [if_neg (by omega)]; exact z.2.2
  have o0 : ∀ {k : Hp}, Lay k → 0 < hN k ∧ (hK k 0).1 = 9 := fun hk => hk.o (by decide) rfl
  have hL1 : Lay (setR h 0 8 (some (oth pm))) := hL.setR _ (by decide)
  have hL2 : Lay (setR (setR h 0 8 (some (oth pm))) 0 9 (some pm)) := hL1.setR _ (by decide)
  have hL3 : Lay (setI (setR (setR h 0 8 (some (oth pm))) 0 9 (some pm)) 0 10 (nI 1)) := hL2.setI _ _ _
  have e11 : hI (setI (setR (setR h 0 8 (some (oth pm))) 0 9 (some pm)) 0 10 (nI 1)) 0 11 = c 3 := by rw [hI_setI_eq, upd_ne _ _ (by decide), hI_setR, hI_setR]; exact a6.2.2.2
  refine ⟨setI (setI (setR (setR h 0 8 (some (oth pm))) 0 9 (some pm)) 0 10 (nI 1)) 0 11 (c 3 + nI 1), ?_, ?_, hL3.setI _ _ _, fun q hq => ?_⟩
  · unfold f_X9_adoptSpare
    simp only [gd_of (o0 hL), getR_of (o0 hL) r8, getR_of (o0 hL) r9, Option.bind_some, putR_of (o0 hL), putR_of (o0 hL1), putI_of (o0 hL2), getI_of (o0 hL3), e11, putI_of (o0 hL3)]
  · have ne : ∀ q, q ≠ 0 → hI (setI (setI (setR (setR h 0 8 (some (oth pm))) 0 9 (some pm)) 0 10 (nI 1)) 0 11 (c 3 + nI 1)) q = hI h q := fun q hq => by rw [hI_setI_ne _ _ _ hq, hI_setI_ne _ _ _ hq, hI_setR, hI_setR]
    have hN_ : hN (setI (setI (setR (setR h 0 8 (some (oth pm))) 0 9 (some pm)) 0 10 (nI 1)) 0 11 (c 3 + nI 1)) = hN h := rfl
    have hK_ : hK (setI (setI (setR (setR h 0 8 (some (oth pm))) 0 9 (some pm)) 0 10 (nI 1)) 0 11 (c 3 + nI 1)) = hK h := rfl
    have hR_ : ∀ q j, q ≠ 0 → hR (setI (setI (setR (setR h 0 8 (some (oth pm))) 0 9 (some pm)) 0 10 (nI 1)) 0 11 (c 3 + nI 1)) q j = hR h q j := fun q j hq => by
      show hR (setR (setR h 0 8 (some (oth pm))) 0 9 (some pm)) q j = hR h q j
      rw [hR_setR, if_neg (fun z => hq z.1), hR_setR, if_neg (fun z => hq z.1)]
    have r8' : hR (setI (setI (setR (setR h 0 8 (some (oth pm))) 0 9 (some pm)) 0 10 (nI 1)) 0 11 (c 3 + nI 1)) 0 8 = some (oth pm) := by
      show hR (setR (setR h 0 8 (some (oth pm))) 0 9 (some pm)) 0 8 = _
      rw [hR_setR, if_neg (by decide), hR_setR, if_pos ⟨rfl, rfl⟩]
    have r9' : hR (setI (setI (setR (setR h 0 8 (some (oth pm))) 0 9 (some pm)) 0 10 (nI 1)) 0 11 (c 3 + nI 1)) 0 9 = some pm := by
      show hR (setR (setR h 0 8 (some (oth pm))) 0 9 (some pm)) 0 9 = _
      rw [hR_setR, if_pos ⟨rfl, rfl⟩]
    have i0 : ∀ j, j ≠ 10 → j ≠ 11 → hI (setI (setI (setR (setR h 0 8 (some (oth pm))) 0 9 (some pm)) 0 10 (nI 1)) 0 11 (c 3 + nI 1)) 0 j = hI h 0 j := fun j h1 h2 => by rw [hI_setI_eq, upd_ne _ _ h2, hI_setI_eq, upd_ne _ _ h1, hI_setR, hI_setR]
    have i10 : hI (setI (setI (setR (setR h 0 8 (some (oth pm))) 0 9 (some pm)) 0 10 (nI 1)) 0 11 (c 3 + nI 1)) 0 10 = nI 1 := by rw [hI_setI_eq, upd_ne _ _ (by decide), hI_setI_eq, upd_same]
    have i11 : hI (setI (setI (setR (setR h 0 8 (some (oth pm))) 0 9 (some pm)) 0 10 (nI 1)) 0 11 (c 3 + nI 1)) 0 11 = c 3 + nI 1 := by rw [hI_setI_eq, upd_same]
    have hLf : Lay (setI (setI (setR (setR h 0 8 (some (oth pm))) 0 9 (some pm)) 0 10 (nI 1)) 0 11 (c 3 + nI 1)) := hL3.setI _ _ _
    generalize setI (setI (setR (setR h 0 8 (some (oth pm))) 0 9 (some pm)) 0 10 (nI 1)) 0 11 (c 3 + nI 1) = g at *
    refine ⟨hLf, ?_, ?_, ?_, ⟨ea, ?_⟩, ⟨?_, ?_, fun _ => ?_, ?_⟩, ?_⟩
    · unfold CT at *; rw [ne 1 (by decide), ne 2 (by decide)]; exact a1
    · unfold CI at *; rw [ne 3 (by decide), ne 4 (by decide)]; exact a2
    · unfold CK at *; rw [ne 6 (by decide)]; exact a3
    · obtain ⟨b1, b2, b3, b4, b5⟩ := a4
      refine ⟨b1, by rw [ne 8 (by decide)]; exact b2, fun k hk => ?_, fun k h1 h2 => by rw [hR_ 9 k (by decide)]; exact b4 k h1 h2, b5⟩
      obtain ⟨x1, ⟨x2, x3⟩, x4, x5, x6, x7, x8, x9, x10, x11⟩ := b3 k hk
      refine ⟨by rw [hR_ 9 k (by decide)]; exact x1, ⟨x2, by rw [hN_]; exact x3⟩, by rw [hK_]; exact x4, by rw [hK_]; exact x5, by rw [hK_]; exact x6, by rw [hR_ _ _ (by omega)]; exact x7, by rw [hR_ _ _ (by omega)]; exact x8, by rw [ne _ (by omega)]; exact x9, fun i hi => by rw [ne _ (by omega)]; exact x10 i hi, fun i hi => by rw [ne _ (by omega)]; exact x11 i hi⟩
    · rw [r8', r9']
      unfold oth
      rcases hpm with rfl | rfl
      · exact Or.inr ⟨rfl, rfl, rfl⟩
      · exact Or.inl ⟨rfl, rfl, rfl⟩
    · rw [i10, b2_t h0]
    · have o := oth_two pm
      unfold CP_ at *
      rw [ne (oth pm) (by omega), ne (oth pm + 16) (by omega)]
      refine ⟨cp.1, cp.2.1, cp.2.2.1, cp.2.2.2.1, fun k hk i hi => ?_⟩
      rw [ne (oth pm + 2 + k) (by omega)]
      exact cp.2.2.2.2 k hk i hi
    · rw [ne 25 (by decide)]; exact a5.2.2.2
    · exact ⟨by rw [i0 12 (by decide) (by decide)]; exact a6.1, by rw [i0 13 (by decide) (by decide)]; exact a6.2.1, by rw [i0 14 (by decide) (by decide)]; exact a6.2.2.1, i11⟩
  · rw [hI_setI_ne _ _ _ hq, hI_setI_ne _ _ _ hq, hI_setR, hI_setR]
/-- the model's half -/
theorem SM.take {g : Hp} (sm : SM v t p m c h) {m' : Mn} {x : Int32} (hx : x = nI m'.1) (bd' : MBd m' (vN v)) (o : OnlyI (fun q => q = 77 ∨ q = 84 ∨ q = 85) h g) (e : ∀ j, j ≠ 12 → j ≠ 15 → hI g 77 j = hI h 77 j) (e12 : hI g 77 12 = x) (e15 : hI g 77 15 = hI h 77 15 + nI 1) (ml : ML m' (vN v) g) (ms : ∀ k, vN v ≤ k → hI g 84 k = hI h 84 k) : SM v t p m' (c3 c) g := by
  obtain ⟨hL, h1, h2, h3, h4, h5, h6⟩ := sm
  refine ⟨hL.ss o.1, ?_, ?_, ?_, ?_, ⟨by rw [e12, hx], fun _ => ml, fun k hk => ?_⟩, ?_⟩
  · unfold MT at *; rw [e 0 (by decide) (by decide), o.2 78 (by omega)]; exact h1
  · unfold MI at *; rw [e 10 (by decide) (by decide), o.2 83 (by omega)]; exact h2
  · unfold MK at *; rw [o.2 82 (by omega)]; exact h3
  · unfold MN at *; rw [e 2 (by decide) (by decide), o.2 79 (by omega), o.2 80 (by omega), o.2 81 (by omega)]; exact h4
  · by_cases z : k < vN v
    · exact ⟨m'.2.1 k, (bd' k z).1, (ml k z).1⟩
    · obtain ⟨l, a, b⟩ := h5.2.2 k hk
      exact ⟨l, a, by rw [ms k (by omega)]; exact b⟩
  · exact ⟨by rw [e 6 (by decide) (by decide)]; exact h6.1, by rw [e 7 (by decide) (by decide)]; exact h6.2.1, by rw [e 8 (by decide) (by decide)]; exact h6.2.2.1, by rw [e15, h6.2.2.2]; rfl⟩
theorem SC.take {g : Hp} (sc : SC pm v t p m c h) (o : OnlyI (fun q => q = 77 ∨ q = 84 ∨ q = 85) h g) : SC pm v t p m c g := sc.mod (o.mono (fun q z => by omega))
theorem op_build (sc : SC pm v t p m c h) (sm : SM v t p m c h) (vo : VOK v) (mo : MOK m (vN v)) (x : Int32) : Both (f_X9_build 0 x) (f_X10_build 77 x) h (fun h2 => ∃ pm' m' c', MOK m' (vN v) ∧ SC pm' v t p m' c' h2 ∧ SM v t p m' c' h2) := by
  have hL := sc.1
  have hpm := sc.2.2.2.2.2.1.two
  have h14 := vo.1
  obtain ⟨-, -, -, -, ⟨ea, cn⟩, -⟩ := id sc
  have mn := sm.2.2.2.2.1
  by_cases c1 : ¬ x < nI 2 ∧ x ≤ nI 4
  · obtain ⟨b, k1, k2, rfl⟩ := rng c1.1 c1.2 (by decide) (by decide)
    by_cases c2 : vN v = 0
    · refine ⟨m103, h, h, ?_, ?_, pm, m, c, mo, sc, sm⟩
      · unfold f_X9_build
        simp only [gd_0 hL, CG hL, if_neg c1.1, if_pos c1.2, R_size hL cn, Option.bind_some, c2, if_true]
      · unfold f_X10_build
        simp only [gd_77 hL, MG hL, p_within, b2_t c1, if_neg nI01, mn.1, Option.bind_some, c2, if_true]
    · obtain ⟨g1, q1, q2, q3⟩ := C_opt sc vo k1 k2
      have sc1 := sc.oc q2
      have sm1 := sm.oc hpm q2
      obtain ⟨-, -, -, -, ⟨ea1, cn1⟩, -⟩ := id sc1
      obtain ⟨g2, r1, r2, r3, r4⟩ := C_adopt sc1 (m' := fmn (vu v) b (vN v)) (by show b ≠ 0; omega) q3
      have sm2 := sm1.cls r3 (fun q h1 h2 => r4 q (by omega))
      obtain ⟨g3, s1, s2, s3⟩ := M_menu r3 sm2.2.2.2.2.1 vo k1 k2
      have sc3 := r2.om (OM.r47 s2)
      have sm3 := sm2.om (OM.r47 s2)
      have hL3 := sm3.1
      have bd := fmn_bd (vu v) k1 k2 h14
      obtain ⟨r, t1⟩ := M_take_any hL3 sm3.2.2.2.2.1 vo sm3.2.2.2.2.2.1.2.2 (nI b) (fun y6 => f_X10_takeMenu_L36 77 (nI b) y6 (fun h13 => f_X10_takeMenu_L64 77 (nI b) y6 (fun h19 => (putI h19 10 77 12 (nI b)).bind fun h20 => (getI h20 10 77 15).bind fun x21 => (putI h20 10 77 15 (x21 + (nI 1))).bind fun h22 => some (y6, h22)) FU (nI 0) h13) FU (nI 0) g3)
      obtain ⟨g4, u1, u2, u3, u4, u5, u6, u7⟩ := M_copy hL3 sm3.2.2.2.2.1 vo (m' := fmn (vu v) b (vN v)) s3 bd (nI b) r
      have sm4 := sm3.take (m' := fmn (vu v) b (vN v)) rfl bd u2 u3 u4 u5 u6 u7
      refine ⟨nI (fsum (fun k => vu v k * plen (vu v) b (vN v) k) (vN v)), g2, g4, ?_, ?_, oth pm, fmn (vu v) b (vN v), c3 c, MOK_fmn k1 k2 (by omega) h14, sc3.take u2, sm4⟩
      · unfold f_X9_build
        simp only [gd_0 hL, CG hL, if_neg c1.1, if_pos c1.2, R_size hL cn, Option.bind_some, nI_eq (show vN v < 2 ^ 31 by omega) (show 0 < 2 ^ 31 by decide), if_neg c2, q1, CG sc1.1, C_mcost sc1.1 cn1 vo (oth_two pm) q3, r1]
        rfl
      · unfold f_X10_build f_X10_takeMenu
        simp only [gd_77 r3, MG r3, p_within, b2_t c1, if_neg nI01, sm2.2.2.2.2.1.1, Option.bind_some, nI_eq (show vN v < 2 ^ 31 by omega) (show 0 < 2 ^ 31 by decide), if_neg c2, s1, gd_77 hL3, t1, u1, M_costNow sm4.1 sm4.2.2.2.2.1 vo u6]
        rfl
  · refine ⟨m102, h, h, ?_, ?_, pm, m, c, mo, sc, sm⟩
    · unfold f_X9_build
      simp only [gd_0 hL]
      by_cases z : x < nI 2
      · rw [if_pos z]
      · rw [if_neg z, if_neg (fun y => c1 ⟨z, y⟩)]
    · unfold f_X10_build
      simp only [gd_77 hL, p_within, Option.bind_some, b2_f c1, if_true]
end
