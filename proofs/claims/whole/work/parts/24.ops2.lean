/-! blank, press, back, wipe, typed, laid, count -/
/-- 'within 0 and n - 1': a place below n -/
theorem w0_in {k n : Nat} (hk : k < n) (hn : n < 2 ^ 31) : ¬ nI k < nI 0 ∧ nI k ≤ nI n - nI 1 := ⟨nI_lt0 k (by omega), by rw [pk_sub (by omega)]; exact nI_le (by omega) (by omega)⟩
theorem w0_out {x : Int32} {n : Nat} (hn : n < 2 ^ 31) (hx : x < nI 0 ∨ nI n ≤ x) : ¬ (¬ x < nI 0 ∧ x ≤ nI n - nI 1) := by
  rintro ⟨z1, z2⟩
  have c1 := hx.resolve_left z1
  by_cases c2 : n = 0
  · rw [c2, le_toInt] at z2
    rw [lt_toInt, nI_toInt (by decide)] at z1
    have e : (nI 0 - nI 1).toInt = -1 := by decide
    rw [e] at z2
    omega
  · rw [pk_sub (by omega)] at z2
    rw [le_toInt, nI_toInt (by omega)] at c1 z2
    omega
section
variable {pm : Nat} {v : Vw} {t p : Sq} {m : Mn} {c : Nat → Int32} {h : Hp}
theorem op_press (sc : SC pm v t p m c h) (sm : SM v t p m c h) (hp : IOK p) (x : Int32) : Both (f_X9_press 0 x) (f_X10_press 77 x) h (fun h2 => ∃ p', IOK p' ∧ SC pm v t p' m c h2 ∧ SM v t p' m c h2) := by
  have hL := sc.1
  have r := row_inp hL hp sc.2.2.1
  have hm0 := sm.2.2.1.1
  by_cases c1 : ¬ x < nI 2 ∧ x ≤ nI 9
  · obtain ⟨k, k1, k2, rfl⟩ := rng c1.1 c1.2 (by decide) (by decide)
    by_cases c2 : p.1 < 10
    · have hL1 : Lay (setI (setI h 4 p.1 (nI k)) 3 1 (nI (p.1 + 1))) := (hL.setI _ _ _).setI _ _ _
      have o1 : OnlyI (fun q => q = 3 ∨ q = 4) h (setI (setI h 4 p.1 (nI k)) 3 1 (nI (p.1 + 1))) := (OnlyI.set (Or.inr rfl)).put (Or.inl rfl)
      have sm1 := sm.cls hL1 (fun q h1 h2 => o1.2 q (by omega))
      have sc1 := sc.inp o1 (put_CI sc.2.2.1 (x := k))
      refine ⟨nI (p.1 + 1), setI (setI h 4 p.1 (nI k)) 3 1 (nI (p.1 + 1)), ?_⟩
      generalize hg1 : setI (setI h 4 p.1 (nI k)) 3 1 (nI (p.1 + 1)) = h1 at *
      have hL2 : Lay (setI h1 83 p.1 (nI k)) := hL1.setI _ _ _
      have hL3 : Lay (setI (setI h1 83 p.1 (nI k)) 77 10 (nI (p.1 + 1))) := hL2.setI _ _ _
      refine ⟨setI (setI h1 83 p.1 (nI k)) 77 10 (nI (p.1 + 1)), ?_, ?_, put p k, ?_, ?_, ?_⟩
      · unfold f_X9_press
        have e1 : hI h1 3 1 = nI (p.1 + 1) := sc1.2.2.1.1
        simp (disch := omega) only [gd_0 hL, CG hL, CG hL1, Option.bind_some, nI_ltI, nI_leI, r.full, r.add c2, hg1, row_size (hL1.o (a := 3) (by decide) rfl), e1, b2_eq0]
        simp [show ¬ k < 2 by omega, k2, show ¬ 10 ≤ p.1 by omega]
      · unfold f_X10_press
        have e1 := sm1.2.2.1.1
        simp (disch := omega) only [gd_77 hL1, MG hL1, MG hL2, MG hL3, MP hL1, MP hL2, p_within, Option.bind_some, b2_eq0, e1, nI_eq, hI_setI, nI_add]
        simp [c1, show ¬ p.1 = 10 by omega, e1, nI_add, upd_same, nI_1, (MG hL3).1, hI_setI]
      · refine ⟨by show p.1 + 1 ≤ 10; omega, fun i hi => ?_⟩
        have hi' : i < p.1 + 1 := hi
        show 2 ≤ (if i = p.1 then k else p.2 i) ∧ (if i = p.1 then k else p.2 i) ≤ 9
        split
        · exact ⟨k1, k2⟩
        · exact hp.2 i (by omega)
      · exact sc1.mod ((OnlyI.set (by omega)).put (by omega))
      · exact sm1.inp hL3 (fun j _ hj => by simp [hI_setI, upd_ne _ _ hj]) (fun q h1 h2 h3 => by rw [hI_setI_ne _ _ _ (by omega), hI_setI_ne _ _ _ (by omega)]) (put_MI sm1.2.2.1)
    · refine ⟨m104, h, h, ?_, ?_, p, hp, sc, sm⟩
      · unfold f_X9_press
        simp (disch := omega) only [gd_0 hL, CG hL, Option.bind_some, nI_ltI, nI_leI, r.full, b2_eq0]
        simp [show ¬ k < 2 by omega, k2, show 10 ≤ p.1 by omega]
      · unfold f_X10_press
        have := hp.1
        simp (disch := omega) only [gd_77 hL, MG hL, p_within, Option.bind_some, b2_eq0, hm0, nI_eq]
        simp [c1, show p.1 = 10 by omega]
  · refine ⟨m102, h, h, ?_, ?_, p, hp, sc, sm⟩
    · unfold f_X9_press
      simp only [gd_0 hL]
      by_cases z : x < nI 2
      · rw [if_pos z]
      · rw [if_neg z, if_neg (fun y => c1 ⟨z, y⟩)]
    · unfold f_X10_press
      simp only [gd_77 hL, p_within, Option.bind_some, b2_eq0]
      rw [if_pos c1]
theorem op_blank (sc : SC pm v t p m c h) (sm : SM v t p m c h) (ht : TOK t) : Both (f_X9_blank 0) (f_X10_blank 77) h (fun h2 => ∃ t', TOK t' ∧ SC pm v t' p m c h2 ∧ SM v t' p m c h2) := by
  have hL := sc.1
  have r := row_text hL ht sc.2.1
  have hL1 : Lay (setI h 1 1 (nI 0)) := hL.setI _ _ _
  have hL2 : Lay (setI (setI h 1 1 (nI 0)) 77 0 (nI 0)) := hL1.setI _ _ _
  refine ⟨nI t.1, setI h 1 1 (nI 0), setI (setI h 1 1 (nI 0)) 77 0 (nI 0), ?_, ?_, (0, t.2), ⟨Nat.zero_le _, fun i hi => absurd hi (Nat.not_lt_zero i)⟩, ?_, ?_⟩
  · unfold f_X9_blank
    simp only [gd_0 hL, CG hL, Option.bind_some, r.clear]
  · unfold f_X10_blank
    simp only [gd_77 hL1, MG hL1, MP hL1, Option.bind_some, hI_setI_ne h 1 (nI 0) (show 77 ≠ 1 by decide), sm.2.1.1]
  · exact (sc.text (t' := (0, t.2)) (OnlyI.set (Or.inl rfl)) ⟨by simp [hI_setI, upd_same], fun i hi => absurd hi (Nat.not_lt_zero i)⟩).mod (OnlyI.set (by omega))
  · exact (sm.cls hL1 (fun q h1 h2 => hI_setI_ne _ _ _ (by omega))).text hL2 (fun j _ hj => by simp [hI_setI, upd_ne _ _ hj]) (fun q h1 h2 => by rw [hI_setI_ne _ _ _ (by omega)]) ⟨by simp [hI_setI, upd_same], fun i hi => absurd hi (Nat.not_lt_zero i)⟩
theorem op_wipe (sc : SC pm v t p m c h) (sm : SM v t p m c h) (hp : IOK p) : Both (f_X9_wipe 0) (f_X10_wipe 77) h (fun h2 => ∃ p', IOK p' ∧ SC pm v t p' m c h2 ∧ SM v t p' m c h2) := by
  have hL := sc.1
  have r := row_inp hL hp sc.2.2.1
  have hL1 : Lay (setI h 3 1 (nI 0)) := hL.setI _ _ _
  have hL2 : Lay (setI (setI h 3 1 (nI 0)) 77 10 (nI 0)) := hL1.setI _ _ _
  refine ⟨nI p.1, setI h 3 1 (nI 0), setI (setI h 3 1 (nI 0)) 77 10 (nI 0), ?_, ?_, (0, p.2), ⟨Nat.zero_le _, fun i hi => absurd hi (Nat.not_lt_zero i)⟩, ?_, ?_⟩
  · unfold f_X9_wipe
    simp only [gd_0 hL, CG hL, Option.bind_some, r.clear]
  · unfold f_X10_wipe
    simp only [gd_77 hL1, MG hL1, MP hL1, Option.bind_some, hI_setI_ne h 1 (nI 0) (show 77 ≠ 3 by decide), sm.2.2.1.1]
  · exact (sc.inp (p' := (0, p.2)) (OnlyI.set (Or.inl rfl)) ⟨by simp [hI_setI, upd_same], fun i hi => absurd hi (Nat.not_lt_zero i)⟩).mod (OnlyI.set (by omega))
  · exact (sm.cls hL1 (fun q h1 h2 => hI_setI_ne _ _ _ (by omega))).inp hL2 (fun j _ hj => by simp [hI_setI, upd_ne _ _ hj]) (fun q h1 h2 h3 => by rw [hI_setI_ne _ _ _ (by omega)]) ⟨by simp [hI_setI, upd_same], fun i hi => absurd hi (Nat.not_lt_zero i)⟩
theorem op_back (sc : SC pm v t p m c h) (sm : SM v t p m c h) (hp : IOK p) : Both (f_X9_back 0) (f_X10_back 77) h (fun h2 => ∃ p', IOK p' ∧ SC pm v t p' m c h2 ∧ SM v t p' m c h2) := by
  have hL := sc.1
  have r := row_inp hL hp sc.2.2.1
  have hp1 := hp.1
  by_cases c1 : p.1 = 0
  · refine ⟨m103, h, h, ?_, ?_, p, hp, sc, sm⟩
    · unfold f_X9_back
      simp only [gd_0 hL, CG hL, Option.bind_some, r.size, c1, if_true]
    · unfold f_X10_back
      simp only [gd_77 hL, MG hL, Option.bind_some, sm.2.2.1.1, c1, if_true]
  · have hL1 : Lay (setI h 3 1 (nI (p.1 - 1))) := hL.setI _ _ _
    have hL2 : Lay (setI (setI h 3 1 (nI (p.1 - 1))) 77 10 (nI (p.1 - 1))) := hL1.setI _ _ _
    refine ⟨nI (p.1 - 1), setI h 3 1 (nI (p.1 - 1)), setI (setI h 3 1 (nI (p.1 - 1))) 77 10 (nI (p.1 - 1)), ?_, ?_, (p.1 - 1, p.2), ⟨by show p.1 - 1 ≤ 10; omega, fun i hi => hp.2 i (by have : i < p.1 - 1 := hi; omega)⟩, ?_, ?_⟩
    · unfold f_X9_back
      simp (disch := omega) only [gd_0 hL, CG hL, CG hL1, Option.bind_some, r.size, nI_eq, r.rem (by omega), row_size (hL1.o (a := 3) (by decide) rfl)]
      simp [c1, hI_setI, upd_same]
    · unfold f_X10_back
      have e1 : hI (setI h 3 1 (nI (p.1 - 1))) 77 10 = nI p.1 := by rw [hI_setI_ne _ _ _ (by decide)]; exact sm.2.2.1.1
      simp (disch := omega) only [gd_77 hL1, MG hL1, MP hL1, MG hL2, Option.bind_some, e1, nI_eq, pk_sub]
      simp [c1, hI_setI, upd_same]
    · exact (sc.inp (p' := (p.1 - 1, p.2)) (OnlyI.set (Or.inl rfl)) ⟨by simp [hI_setI, upd_same], fun i hi => by rw [hI_setI_ne _ _ _ (by decide)]; exact sc.2.2.1.2 i (by have : i < p.1 - 1 := hi; omega)⟩).mod (OnlyI.set (by omega))
    · refine (sm.cls hL1 (fun q h1 h2 => hI_setI_ne _ _ _ (by omega))).inp hL2 (fun j _ hj => by simp [hI_setI, upd_ne _ _ hj]) (fun q h1 h2 h3 => by rw [hI_setI_ne _ _ _ (by omega)]) ⟨by simp [hI_setI, upd_same], fun i hi => ?_⟩
      rw [hI_setI_ne _ _ _ (by decide), hI_setI_ne _ _ _ (by decide)]
      exact sm.2.2.1.2 i (by have : i < p.1 - 1 := hi; omega)
/-- a reader on each side -/
def BothR (f g : Hp → Option Int32) (h : Hp) : Prop := ∃ r, f h = some r ∧ g h = some r
theorem op_typed (sc : SC pm v t p m c h) (sm : SM v t p m c h) (hp : IOK p) (x : Int32) : BothR (f_X9_typed 0 x) (f_X10_typed 77 x) h := by
  have hL := sc.1
  have r := row_inp hL hp sc.2.2.1
  have hp1 := hp.1
  have e1 := sm.2.2.1.1
  rcases ix_cases x (n := p.1) (by omega) with c1 | ⟨c0, c1⟩ | ⟨k, hk, rfl⟩
  · refine ⟨m101, ?_, ?_⟩
    · unfold f_X9_typed
      simp only [gd_0 hL, CG hL, Option.bind_some, r.getN (Or.inl c1)]
    · unfold f_X10_typed
      simp only [gd_77 hL, MG hL, p_within, Option.bind_some, b2_eq0]
      rw [if_pos (fun z => z.1 c1)]
      rfl
  · refine ⟨m101, ?_, ?_⟩
    · unfold f_X9_typed
      simp only [gd_0 hL, CG hL, Option.bind_some, r.getN (Or.inr c1)]
    · unfold f_X10_typed
      simp only [gd_77 hL, MG hL, p_within, Option.bind_some, b2_eq0, e1]
      rw [if_pos (w0_out (by omega) (Or.inr c1))]
      rfl
  · refine ⟨nI (p.2 k), ?_, ?_⟩
    · unfold f_X9_typed
      simp only [gd_0 hL, CG hL, Option.bind_some, r.get hk, sc.2.2.1.2 k hk]
    · unfold f_X10_typed
      simp (disch := omega) only [gd_77 hL, MG hL, p_within, Option.bind_some, b2_eq0, e1, sm.2.2.1.2]
      rw [if_neg (fun z => z (w0_in hk (by omega)))]
      rfl
theorem C_digitOf (hL : Lay h) (hk : CK v h) {k : Nat} (h1 : 97 ≤ k) (h2 : k ≤ 122) : f_X2_digitOf 5 (nI k) h = some (nI (vk v (k - 97))) := by
  unfold f_X2_digitOf
  simp (disch := omega) only [gd_5 hL, CG hL, Option.bind_some, nI_ltI, pk_sub, hk (k - 97) (by omega)]
  simp [show ¬ k < 97 by omega, show ¬ 122 < k by omega]
theorem op_laid (sc : SC pm v t p m c h) (sm : SM v t p m c h) (x : Int32) : BothR (f_X9_laid 0 x) (f_X10_laid 77 x) h := by
  have hL := sc.1
  by_cases c1 : ¬ x < nI 97 ∧ x ≤ nI 122
  · obtain ⟨k, k1, k2, rfl⟩ := rng c1.1 c1.2 (by decide) (by decide)
    refine ⟨nI (vk v (k - 97)), ?_, ?_⟩
    · unfold f_X9_laid
      simp only [gd_0 hL, CG hL, Option.bind_some, C_digitOf hL sc.2.2.2.1 k1 k2]
    · unfold f_X10_laid
      simp (disch := omega) only [gd_77 hL, MG hL, p_within, Option.bind_some, b2_eq0, pk_sub, sm.2.2.2.1 (k - 97) (by omega)]
      simp [c1]
  · refine ⟨m102, ?_, ?_⟩
    · unfold f_X9_laid f_X2_digitOf
      simp only [gd_0 hL, gd_5 hL, CG hL, Option.bind_some]
      by_cases z : x < nI 97
      · rw [if_pos z]; rfl
      · rw [if_neg z, if_pos (Int32.not_le.mp (fun y => c1 ⟨z, y⟩))]; rfl
    · unfold f_X10_laid
      simp only [gd_77 hL, p_within, Option.bind_some, b2_eq0]
      rw [if_pos c1]
      rfl
theorem op_count (sc : SC pm v t p m c h) (sm : SM v t p m c h) (ht : TOK t) (hp : IOK p) (x : Int32) : BothR (f_X9_count 0 x) (f_X10_count 77 x) h := by
  have hL := sc.1
  have r := row_inp hL hp sc.2.2.1
  have r2 := row_text hL ht sc.2.1
  obtain ⟨-, -, -, -, ⟨ea, hcn⟩, -, k0, k1, k2, k3⟩ := sc
  obtain ⟨-, m0, m1_, -, m2_, -, j0, j1, j2, j3⟩ := sm
  refine ⟨if x = nI 0 then nI (vN v) else if x = nI 1 then nI t.1 else if x = nI 2 then nI p.1 else if x = nI 3 then c 0 else if x = nI 4 then c 1 else if x = nI 5 then c 2 else m102, ?_, ?_⟩
  · unfold f_X9_count f_X7_size
    simp only [gd_0 hL, gd_8 hL, CG hL, Option.bind_some, r.size, r2.size, hcn.2.1, k0, k1, k2, ite_some]
  · unfold f_X10_count f_X10_howMany
    simp only [gd_77 hL, MG hL, Option.bind_some, m0.1, m1_.1, m2_.1, j0, j1, j2, ite_some]
end
