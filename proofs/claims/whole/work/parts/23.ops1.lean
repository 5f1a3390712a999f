/-! letter .. wipe: texts and inputs -/
section
variable {h : Hp}
/-- a Row: at a, its numbers at b -/
theorem row_size {a : Nat} (hO : a < hN h ∧ (hK h a).1 = 8) : f_X8_size a h = some (hI h a 1) := by
  unfold f_X8_size
  simp only [gd_of hO, getI_of hO, Option.bind_some]
end
section
variable {h : Hp} {a b cap n : Nat}
def RowAt (h : Hp) (a b cap n : Nat) : Prop := (a < hN h ∧ (hK h a).1 = 8) ∧ hR h a 0 = some b ∧ (b < hN h ∧ hK h b = (11, cap)) ∧ hI h a 1 = nI n ∧ n ≤ cap ∧ cap < 2 ^ 31 ∧ a ≠ b
theorem RowAt.full (r : RowAt h a b cap n) : f_X8_isFull a h = some (b2 (cap ≤ n)) := by
  obtain ⟨hO, hr, hb, hn, h1, h2, -⟩ := r
  unfold f_X8_isFull aln
  simp only [gd_of hO, getI_of hO, getR_of hO hr, Option.bind_some, hn]
  rw [if_pos ⟨hb.1, by rw [hb.2]⟩, hb.2]
  simp only [Option.bind_some, ite_some, b2_def', rz_b2]
  rw [b2_of (d := cap ≤ n)]
  rw [show Int32.ofNat cap = nI cap from rfl, nI_ltI (by omega) h2]
  omega
theorem RowAt.size (r : RowAt h a b cap n) : f_X8_size a h = some (nI n) := by
  rw [row_size r.1, r.2.2.2.1]
theorem RowAt.clear (r : RowAt h a b cap n) : f_X8_clear a h = some (nI n, setI h a 1 (nI 0)) := by
  obtain ⟨hO, hr, hb, hn, h1, h2, -⟩ := r
  unfold f_X8_clear
  simp only [gd_of hO, getI_of hO, putI_of hO, Option.bind_some, hn]
theorem RowAt.get (r : RowAt h a b cap n) {k : Nat} (hk : k < n) : f_X8_get a (nI k) h = some (hI h b k) := by
  obtain ⟨hO, hr, hb, hn, h1, h2, -⟩ := r
  unfold f_X8_get
  simp only [gd_of hO, getI_of hO, getR_of hO hr, Option.bind_some, hn]
  rw [if_neg (nI_lt0 k (by omega)), if_neg (by rw [nI_leI (by omega) (by omega)]; omega), ald_of hb h2 (by omega)]
  rfl
theorem RowAt.getN (r : RowAt h a b cap n) {x : Int32} (hx : x < nI 0 ∨ nI n ≤ x) : f_X8_get a x h = some m101 := by
  obtain ⟨hO, hr, hb, hn, h1, h2, -⟩ := r
  unfold f_X8_get
  simp only [gd_of hO, getI_of hO, getR_of hO hr, Option.bind_some, hn]
  by_cases c : x < nI 0
  · rw [if_pos c]; rfl
  · rw [if_neg c, if_pos (hx.resolve_left c)]; rfl
theorem RowAt.add (r : RowAt h a b cap n) (hn1 : n < cap) (x : Int32) : f_X8_add a x h = some (setI (setI h b n x) a 1 (nI (n + 1))) := by
  have hf := r.full
  obtain ⟨hO, hr, hb, hn, h1, h2, hab⟩ := r
  have hO1 : a < hN (setI h b n x) ∧ (hK (setI h b n x) a).1 = 8 := hO
  unfold f_X8_add
  simp only [gd_of hO, hf, Option.bind_some, b2_f (show ¬ cap ≤ n by omega), if_true, getR_of hO hr, getI_of hO, hn, ast_of hb h2 hn1, getI_of hO1, putI_of hO1, hI_setI_ne h n x hab, nI_1, nI_add]
theorem RowAt.addF (r : RowAt h a b cap n) (hn1 : ¬ n < cap) (x : Int32) : f_X8_add a x h = some h := by
  have hf := r.full
  obtain ⟨hO, hr, hb, hn, h1, h2, hab⟩ := r
  unfold f_X8_add
  simp only [gd_of hO, hf, Option.bind_some, b2_t (show cap ≤ n by omega), if_neg nI01]
theorem RowAt.rem (r : RowAt h a b cap n) (hn1 : 0 < n) : f_X8_removeLast a h = some (setI h a 1 (nI (n - 1))) := by
  obtain ⟨hO, hr, hb, hn, h1, h2, hab⟩ := r
  unfold f_X8_removeLast
  simp only [gd_of hO, getI_of hO, putI_of hO, Option.bind_some, hn]
  rw [if_neg (by rw [nI_leI (by omega) (by omega)]; omega), pk_sub hn1]
  rfl
end
section
variable {pm : Nat} {v : Vw} {t p : Sq} {m : Mn} {c : Nat → Int32} {h : Hp}
theorem row_text (hL : Lay h) (ht : TOK t) (hc : CT t h) : RowAt h 1 2 50 t.1 := ⟨hL.o (by decide) rfl, hL.r 8 rfl, hL.a (by decide) rfl, hc.1, ht.1, by decide, by decide⟩
theorem row_inp (hL : Lay h) (hp : IOK p) (hc : CI p h) : RowAt h 3 4 10 p.1 := ⟨hL.o (by decide) rfl, hL.r 9 rfl, hL.a (by decide) rfl, hc.1, hp.1, by decide, by decide⟩
def put (s : Sq) (x : Nat) : Sq := (s.1 + 1, fun i => if i = s.1 then x else s.2 i)
theorem SC.text {t' : Sq} {h' : Hp} (s : SC pm v t p m c h) (o : OnlyI (fun q => q = 1 ∨ q = 2) h h') (ht : CT t' h') : SC pm v t' p m c h' := by
  obtain ⟨hL, h1, h2, h3, ⟨ea, h4⟩, h5, h6⟩ := s
  have hpm := h5.two
  have e : ∀ q, q ≠ 1 → q ≠ 2 → hI h' q = hI h q := fun q hq hq2 => o.2 q (by omega)
  refine ⟨hL.ss o.1, ht, ?_, ?_, ⟨ea, ?_⟩, ?_, ?_⟩
  · unfold CI at *; rw [e 3 (by omega) (by omega), e 4 (by omega) (by omega)]; exact h2
  · unfold CK at *; rw [e 6 (by omega) (by omega)]; exact h3
  · exact h4.fr o.1 (e 8 (by omega) (by omega)) (fun q hq => e q (by omega) (by omega))
  · exact h5.fr h4.1 o.1 (e 0 (by omega) (by omega)) (by rw [e 25 (by omega) (by omega)]) (fun q h1 h2 => e q (by omega) (by omega))
  · unfold CC at *; rw [e 0 (by omega) (by omega)]; exact h6
theorem SC.inp {p' : Sq} {h' : Hp} (s : SC pm v t p m c h) (o : OnlyI (fun q => q = 3 ∨ q = 4) h h') (hp : CI p' h') : SC pm v t p' m c h' := by
  obtain ⟨hL, h1, h2, h3, ⟨ea, h4⟩, h5, h6⟩ := s
  have hpm := h5.two
  have e : ∀ q, q ≠ 3 → q ≠ 4 → hI h' q = hI h q := fun q hq hq2 => o.2 q (by omega)
  refine ⟨hL.ss o.1, ?_, hp, ?_, ⟨ea, ?_⟩, ?_, ?_⟩
  · unfold CT at *; rw [e 1 (by omega) (by omega), e 2 (by omega) (by omega)]; exact h1
  · unfold CK at *; rw [e 6 (by omega) (by omega)]; exact h3
  · exact h4.fr o.1 (e 8 (by omega) (by omega)) (fun q hq => e q (by omega) (by omega))
  · exact h5.fr h4.1 o.1 (e 0 (by omega) (by omega)) (by rw [e 25 (by omega) (by omega)]) (fun q h1 h2 => e q (by omega) (by omega))
  · unfold CC at *; rw [e 0 (by omega) (by omega)]; exact h6
/-- the model's rows are written: the class stays -/
theorem SC.mod {h' : Hp} (s : SC pm v t p m c h) (o : OnlyI (fun q => 77 ≤ q ∧ q < 99) h h') : SC pm v t p m c h' := by
  obtain ⟨hL, h1, h2, h3, ⟨ea, h4⟩, h5, h6⟩ := s
  have hpm := h5.two
  have e : ∀ q, q < 77 ∨ 99 ≤ q → hI h' q = hI h q := fun q hq => o.2 q (by omega)
  refine ⟨hL.ss o.1, ?_, ?_, ?_, ⟨ea, ?_⟩, ?_, ?_⟩
  · unfold CT at *; rw [e 1 (by omega), e 2 (by omega)]; exact h1
  · unfold CI at *; rw [e 3 (by omega), e 4 (by omega)]; exact h2
  · unfold CK at *; rw [e 6 (by omega)]; exact h3
  · exact h4.fr o.1 (e 8 (by omega)) (fun q hq => e q (by omega))
  · exact h5.fr h4.1 o.1 (e 0 (by omega)) (by rw [e 25 (by omega)]) (fun q h1 h2 => e q (by omega))
  · unfold CC at *; rw [e 0 (by omega)]; exact h6
/-- the class's rows are written: the model stays -/
theorem SM.cls {h' : Hp} (s : SM v t p m c h) (hL' : Lay h') (e : ∀ q, 77 ≤ q → q < 99 → hI h' q = hI h q) : SM v t p m c h' := s.fr hL' (fun j _ => by rw [e 77 (by omega) (by omega)]) (fun q h1 h2 => e q (by omega) (by omega))
theorem SM.text {t' : Sq} {h' : Hp} (s : SM v t p m c h) (hL' : Lay h') (e77 : ∀ j ∈ pj, j ≠ 0 → hI h' 77 j = hI h 77 j) (e : ∀ q, 79 ≤ q → q ≤ 85 → hI h' q = hI h q) (ht : MT t' h') : SM v t' p m c h' := by
  obtain ⟨hL, h1, h2, h3, h4, h5, h6⟩ := s
  refine ⟨hL', ht, ?_, ?_, ?_, ?_, ?_⟩
  · unfold MI at *; rw [e77 10 (by decide) (by decide), e 83 (by omega) (by omega)]; exact h2
  · unfold MK at *; rw [e 82 (by omega) (by omega)]; exact h3
  · unfold MN at *; rw [e77 2 (by decide) (by decide), e 79 (by omega) (by omega), e 80 (by omega) (by omega), e 81 (by omega) (by omega)]; exact h4
  · unfold MM at *; rw [e77 12 (by decide) (by decide), e 84 (by omega) (by omega), e 85 (by omega) (by omega)]; exact h5
  · unfold MC at *; rw [e77 6 (by decide) (by decide), e77 7 (by decide) (by decide), e77 8 (by decide) (by decide), e77 15 (by decide) (by decide)]; exact h6
theorem SM.inp {p' : Sq} {h' : Hp} (s : SM v t p m c h) (hL' : Lay h') (e77 : ∀ j ∈ pj, j ≠ 10 → hI h' 77 j = hI h 77 j) (e : ∀ q, 78 ≤ q → q ≤ 85 → q ≠ 83 → hI h' q = hI h q) (hp : MI p' h') : SM v t p' m c h' := by
  obtain ⟨hL, h1, h2, h3, h4, h5, h6⟩ := s
  refine ⟨hL', ?_, hp, ?_, ?_, ?_, ?_⟩
  · unfold MT at *; rw [e77 0 (by decide) (by decide), e 78 (by omega) (by omega) (by omega)]; exact h1
  · unfold MK at *; rw [e 82 (by omega) (by omega) (by omega)]; exact h3
  · unfold MN at *; rw [e77 2 (by decide) (by decide), e 79 (by omega) (by omega) (by omega), e 80 (by omega) (by omega) (by omega), e 81 (by omega) (by omega) (by omega)]; exact h4
  · unfold MM at *; rw [e77 12 (by decide) (by decide), e 84 (by omega) (by omega) (by omega), e 85 (by omega) (by omega) (by omega)]; exact h5
  · unfold MC at *; rw [e77 6 (by decide) (by decide), e77 7 (by decide) (by decide), e77 8 (by decide) (by decide), e77 15 (by decide) (by decide)]; exact h6
/-- one call on each side -/
def Both (f : Hp → Option (Int32 × Hp)) (g : Hp → Option (Int32 × Hp)) (h : Hp) (P : Hp → Prop) : Prop := ∃ r h1 h2, f h = some (r, h1) ∧ g h1 = some (r, h2) ∧ P h2
theorem put_CT {x : Nat} (hc : CT t h) : CT (put t x) (setI (setI h 2 t.1 (nI x)) 1 1 (nI (t.1 + 1))) := by
  refine ⟨by simp [hI_setI, upd_same, put], fun i hi => ?_⟩
  have hi' : i < t.1 + 1 := hi
  simp only [hI_setI, put]
  by_cases e : i = t.1
  · subst e; simp [upd_same]
  · simp [upd_ne _ _ e, e, hc.2 i (by omega)]
theorem put_MT {x : Nat} (hc : MT t h) : MT (put t x) (setI (setI h 78 t.1 (nI x)) 77 0 (nI (t.1 + 1))) := by
  refine ⟨by simp [hI_setI, upd_same, put], fun i hi => ?_⟩
  have hi' : i < t.1 + 1 := hi
  simp only [hI_setI, put]
  by_cases e : i = t.1
  · subst e; simp [upd_same]
  · simp [upd_ne _ _ e, e, hc.2 i (by omega)]
theorem put_CI {x : Nat} (hc : CI p h) : CI (put p x) (setI (setI h 4 p.1 (nI x)) 3 1 (nI (p.1 + 1))) := by
  refine ⟨by simp [hI_setI, upd_same, put], fun i hi => ?_⟩
  have hi' : i < p.1 + 1 := hi
  simp only [hI_setI, put]
  by_cases e : i = p.1
  · subst e; simp [upd_same]
  · simp [upd_ne _ _ e, e, hc.2 i (by omega)]
theorem put_MI {x : Nat} (hc : MI p h) : MI (put p x) (setI (setI h 83 p.1 (nI x)) 77 10 (nI (p.1 + 1))) := by
  refine ⟨by simp [hI_setI, upd_same, put], fun i hi => ?_⟩
  have hi' : i < p.1 + 1 := hi
  simp only [hI_setI, put]
  by_cases e : i = p.1
  · subst e; simp [upd_same]
  · simp [upd_ne _ _ e, e, hc.2 i (by omega)]
theorem op_letter (sc : SC pm v t p m c h) (sm : SM v t p m c h) (ht : TOK t) (x : Int32) : Both (f_X9_letter 0 x) (f_X10_letter 77 x) h (fun h2 => ∃ t', TOK t' ∧ SC pm v t' p m c h2 ∧ SM v t' p m c h2) := by
  have hL := sc.1
  have r := row_text hL ht sc.2.1
  have hm0 := sm.2.1.1
  by_cases c1 : ¬ x < nI 32 ∧ x ≤ nI 126
  · obtain ⟨k, k1, k2, rfl⟩ := rng c1.1 c1.2 (by decide) (by decide)
    by_cases c2 : t.1 < 50
    · have hL1 : Lay (setI (setI h 2 t.1 (nI k)) 1 1 (nI (t.1 + 1))) := (hL.setI _ _ _).setI _ _ _
      have o1 : OnlyI (fun q => q = 1 ∨ q = 2) h (setI (setI h 2 t.1 (nI k)) 1 1 (nI (t.1 + 1))) := (OnlyI.set (Or.inr rfl)).put (Or.inl rfl)
      have sm1 := sm.cls hL1 (fun q h1 h2 => o1.2 q (by omega))
      have sc1 := sc.text o1 (put_CT sc.2.1 (x := k))
      refine ⟨nI (t.1 + 1), setI (setI h 2 t.1 (nI k)) 1 1 (nI (t.1 + 1)), ?_⟩
      generalize hg1 : setI (setI h 2 t.1 (nI k)) 1 1 (nI (t.1 + 1)) = h1 at *
      have hL2 : Lay (setI h1 78 t.1 (nI k)) := hL1.setI _ _ _
      have hL3 : Lay (setI (setI h1 78 t.1 (nI k)) 77 0 (nI (t.1 + 1))) := hL2.setI _ _ _
      refine ⟨setI (setI h1 78 t.1 (nI k)) 77 0 (nI (t.1 + 1)), ?_, ?_, put t k, ?_, ?_, ?_⟩
      · unfold f_X9_letter
        have e1 : hI h1 1 1 = nI (t.1 + 1) := sc1.2.1.1
        simp (disch := omega) only [gd_0 hL, CG hL, CG hL1, Option.bind_some, nI_ltI, nI_leI, r.full, r.add c2, hg1, row_size (hL1.o (a := 1) (by decide) rfl), e1, b2_eq0]
        simp [show ¬ k < 32 by omega, k2, show ¬ 50 ≤ t.1 by omega]
      · unfold f_X10_letter
        have e1 := sm1.2.1.1
        simp (disch := omega) only [gd_77 hL1, MG hL1, MG hL2, MG hL3, MP hL1, MP hL2, p_within, Option.bind_some, b2_eq0, e1, nI_eq, hI_setI, nI_add]
        simp [c1, show ¬ t.1 = 50 by omega, e1, nI_add, upd_same, nI_1, (MG hL3).1, hI_setI]
      · refine ⟨by show t.1 + 1 ≤ 50; omega, fun i hi => ?_⟩
        have hi' : i < t.1 + 1 := hi
        show 32 ≤ (if i = t.1 then k else t.2 i) ∧ (if i = t.1 then k else t.2 i) ≤ 126
        split
        · exact ⟨k1, k2⟩
        · exact ht.2 i (by omega)
      · exact sc1.mod ((OnlyI.set (by omega)).put (by omega))
      · exact sm1.text hL3 (fun j _ hj => by simp [hI_setI, upd_ne _ _ hj]) (fun q h1 h2 => by rw [hI_setI_ne _ _ _ (by omega), hI_setI_ne _ _ _ (by omega)]) (put_MT sm1.2.1)
    · refine ⟨m104, h, h, ?_, ?_, t, ht, sc, sm⟩
      · unfold f_X9_letter
        simp (disch := omega) only [gd_0 hL, CG hL, Option.bind_some, nI_ltI, nI_leI, r.full, b2_eq0]
        simp [show ¬ k < 32 by omega, k2, show 50 ≤ t.1 by omega]
      · unfold f_X10_letter
        have := ht.1
        simp (disch := omega) only [gd_77 hL, MG hL, p_within, Option.bind_some, b2_eq0, hm0, nI_eq]
        simp [c1, show t.1 = 50 by omega]
  · refine ⟨m102, h, h, ?_, ?_, t, ht, sc, sm⟩
    · unfold f_X9_letter
      simp only [gd_0 hL]
      by_cases z : x < nI 32
      · rw [if_pos z]
      · rw [if_neg z, if_neg (fun y => c1 ⟨z, y⟩)]
    · unfold f_X10_letter
      simp only [gd_77 hL, p_within, Option.bind_some, b2_eq0]
      rw [if_pos c1]
end
