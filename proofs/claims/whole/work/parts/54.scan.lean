/-! reading a list: the class -/
section
variable {h : Hp} {t : Sq} {s : NS}
theorem X3_name (hL : Lay h) (ht : TOK t) (hc : CT t h) (cr : CR s h) {a : Nat} (ni : NI t a s) (ha : a < t.1) (h0 : zm s = 0) : (∃ s' h', nst t a s = some s' ∧ f_X3_fitsName 10 1 (nI a) h = some (nI 1, h') ∧ OnlyI R3 h h' ∧ CR s' h') ∨ (nst t a s = none ∧ f_X3_fitsName 10 1 (nI a) h = some (nI 0, h)) := by
  have ht1 := ht.1
  have hn := ni.small (by omega)
  have hls := X3_listed hL ht hc cr ni ha h0
  obtain ⟨n1, n2, n3, n4, n5⟩ := ni
  obtain ⟨x1, x2, x3, x4⟩ := n2 h0
  have b := ht.2 a ha
  have r := row_text hL ht hc
  have eg : f_X8_get 1 (nI a) h = some (nI (t.2 a)) := by rw [r.get ha, hc.2 a ha]
  unfold f_X3_fitsName nst
  rw [if_pos h0, gd_10 hL, eg, Option.bind_some]
  by_cases c1 : t.2 a = 58
  · rw [if_pos c1, if_pos (show nI (t.2 a) = nI 58 by rw [c1])]
    have e0 : f_X3_endsName 10 1 (nI a) h = if nI (a - zs s) = nI 0 then some (nI 0, h) else if b2 (¬ unl t s (a - zs s)) = nI 0 then some (nI 1, setI (setI (setI (setI (setI h 11 (zn s) (nI (zs s))) 12 (zn s) (nI (a - zs s))) 13 (zn s) (nI 0)) 10 3 (nI (zn s + 1))) 10 5 (nI 1)) else some (nI 0, h) := by
      unfold f_X3_endsName
      have l1 := hL.setI 11 (zn s) (nI (zs s))
      have l2 := l1.setI 12 (zn s) (nI (a - zs s))
      have l3 := l2.setI 13 (zn s) (nI 0)
      have l4 := l3.setI 10 3 (nI (zn s + 1))
      have p1 := (ast_of (h := h) (hL.a (a := 11) (by decide) rfl) (by decide) (show zn s < 50 by omega))
      have p2 := (ast_of (h := setI h 11 (zn s) (nI (zs s))) (l1.a (a := 12) (by decide) rfl) (by decide) (show zn s < 50 by omega))
      have p3 := (ast_of (h := setI (setI h 11 (zn s) (nI (zs s))) 12 (zn s) (nI (a - zs s))) (l2.a (a := 13) (by decide) rfl) (by decide) (show zn s < 50 by omega))
      have p4 := putI_of (h := setI (setI (setI h 11 (zn s) (nI (zs s))) 12 (zn s) (nI (a - zs s))) 13 (zn s) (nI 0)) (l3.o (c := 3) (a := 10) (by decide) rfl)
      have p5 := putI_of (h := setI (setI (setI (setI h 11 (zn s) (nI (zs s))) 12 (zn s) (nI (a - zs s))) 13 (zn s) (nI 0)) 10 3 (nI (zn s + 1))) (l4.o (c := 3) (a := 10) (by decide) rfl)
      simp (disch := omega) only [gd_10 hL, CG hL, CG l1, CG l2, CG l3, cr.1, cr.2.1, Option.bind_some, pk_sub, hls, if_pos (nI_lt (show zn s < 50 by omega) (by decide)), p1, p2, p3, p4, p5, hI_setI_ne, nI_add, rz_0, rz_1]
    rw [e0]
    by_cases c2 : a = zs s
    · right
      rw [if_neg (show ¬ (a ≠ zs s ∧ unl t s (a - zs s)) from fun z => z.1 c2), if_pos (show nI (a - zs s) = nI 0 by rw [c2, Nat.sub_self])]
      simp only [Option.bind_some, rz_0, and_self]
    · rw [if_neg (show ¬ nI (a - zs s) = nI 0 by rw [nI_eq (by omega) (by omega)]; omega)]
      by_cases c3 : unl t s (a - zs s)
      · left
        rw [if_pos (show a ≠ zs s ∧ unl t s (a - zs s) from ⟨c2, c3⟩), b2_f (show ¬ ¬ unl t s (a - zs s) from fun z => z c3), if_pos (show nI 0 = nI 0 from rfl)]
        refine ⟨_, _, rfl, rfl, ?_, ?_⟩
        · refine ((((OnlyI.set (by unfold R3; omega)).put ?_).put ?_).put ?_).put ?_ <;> (unfold R3; omega)
        · refine ⟨?_, ?_, ?_, ?_⟩
          · show _ = nI (zn s + 1)
            rw [hI_setI_eq, upd_ne _ _ (by decide), hI_setI_eq, upd_same]
          · show _ = nI (zs s)
            rw [hI_setI_eq, upd_ne _ _ (by decide), hI_setI_eq, upd_ne _ _ (by decide), hI_setI_ne _ _ _ (by decide), hI_setI_ne _ _ _ (by decide), hI_setI_ne _ _ _ (by decide)]
            exact cr.2.1
          · show _ = nI 1
            rw [hI_setI_eq, upd_same]
          · intro k hk
            have hk' : k < zn s + 1 := hk
            show _ = nI (updN (zS s) (zn s) (zs s) k) ∧ _ = nI (updN (zL s) (zn s) (a - zs s) k) ∧ _ = nI (updN (zF s) (zn s) 0 k)
            simp only [hI_setI_ne, hI_setI_eq, ne_eq, show ¬ (11 : Nat) = 10 by decide, show ¬ (12 : Nat) = 10 by decide, show ¬ (13 : Nat) = 10 by decide, show ¬ (11 : Nat) = 12 by decide, show ¬ (11 : Nat) = 13 by decide, show ¬ (12 : Nat) = 11 by decide, show ¬ (12 : Nat) = 13 by decide, show ¬ (13 : Nat) = 11 by decide, show ¬ (13 : Nat) = 12 by decide, not_false_eq_true]
            by_cases e : k = zn s
            · rw [e, upd_same, upd_same, upd_same, updN_same, updN_same, updN_same]
              exact ⟨rfl, rfl, rfl⟩
            · rw [upd_ne _ _ e, upd_ne _ _ e, upd_ne _ _ e, updN_ne _ _ e, updN_ne _ _ e, updN_ne _ _ e]
              exact cr.2.2.2 k (by omega)
      · right
        rw [if_neg (show ¬ (a ≠ zs s ∧ unl t s (a - zs s)) from fun z => c3 z.2), b2_t (show ¬ unl t s (a - zs s) from c3), if_neg nI01]
        simp only [Option.bind_some, rz_0, and_self]
  · rw [if_neg c1, if_neg (show ¬ nI (t.2 a) = nI 58 by rw [nI_eq (by omega) (by omega)]; exact c1)]
    simp (disch := omega) only [CG hL, cr.2.1, Option.bind_some, pk_sub, nI_ltI, nI_leI]
    by_cases c2 : (97 ≤ t.2 a ∧ t.2 a ≤ 122) ∧ a - zs s < 8
    · left
      rw [if_pos c2, if_neg (show ¬ t.2 a < 97 by omega), if_neg (show ¬ 122 < t.2 a by omega), if_neg (show ¬ 8 ≤ a - zs s by omega)]
      exact ⟨s, h, rfl, by simp only [Option.bind_some, rz_1], OnlyI.rf, cr⟩
    · right
      rw [if_neg c2]
      refine ⟨rfl, ?_⟩
      by_cases c3 : t.2 a < 97
      · rw [if_pos c3]; simp only [Option.bind_some, rz_0]
      · rw [if_neg c3]
        by_cases c4 : 122 < t.2 a
        · rw [if_pos c4]; simp only [Option.bind_some, rz_0]
        · rw [if_neg c4, if_pos (show 8 ≤ a - zs s by omega)]; simp only [Option.bind_some, rz_0]
theorem X3_use (hL : Lay h) (ht : TOK t) (cr : CR s h) {a : Nat} (ni : NI t a s) (ha : a < t.1) (h0 : ¬ zm s = 0) : (∃ s' h', nst t a s = some s' ∧ f_X3_fitsFrequency 10 (nI (t.2 a)) (nI a) h = some (nI 1, h') ∧ OnlyI R3 h h' ∧ CR s' h') ∨ (nst t a s = none ∧ f_X3_fitsFrequency 10 (nI (t.2 a)) (nI a) h = some (nI 0, h)) := by
  have ht1 := ht.1
  have hn := ni.small (by omega)
  obtain ⟨n1, n2, n3, n4, n5⟩ := ni
  obtain ⟨x1, x2, x3, x4, x5, x6, x7⟩ := n3 h0
  have b := ht.2 a ha
  have y4 := (n4 (zn s - 1) (by omega)).2.2.2
  have ef := X3_freq hL cr hn (show zn s - 1 < zn s by omega)
  generalize hf : zF s (zn s - 1) = f at *
  have l1 := hL.setI 10 5 (nI 0)
  have p1 := putI_of (h := h) (hL.o (c := 3) (a := 10) (by decide) rfl)
  have p2 := putI_of (h := setI h 10 5 (nI 0)) (l1.o (c := 3) (a := 10) (by decide) rfl)
  have p3 := (ast_of (h := h) (hL.a (a := 13) (by decide) rfl) (by decide) (show zn s - 1 < 50 by omega))
  have e0 : f_X3_fitsFrequency 10 (nI (t.2 a)) (nI a) h = if t.2 a = 59 ∧ 0 < f then some (nI 1, setI (setI h 10 5 (nI 0)) 10 4 (nI (a + 1))) else if (48 ≤ t.2 a ∧ t.2 a ≤ 57) ∧ 1 ≤ 10 * f + (t.2 a - 48) ∧ 10 * f + (t.2 a - 48) ≤ 99 then some (nI 1, setI h 13 (zn s - 1) (nI (10 * f + (t.2 a - 48)))) else some (nI 0, h) := by
    unfold f_X3_fitsFrequency
    simp (disch := omega) only [gd_10 hL, CG hL, cr.1, Option.bind_some, pk_sub, ef, pk_mul, nI_add, nI_eq, nI_leI, nI_ltI, rz_0, rz_1, p1, p2, p3]
    by_cases c1 : t.2 a = 59
    · rw [if_pos c1]
      by_cases c2 : f ≤ 0
      · rw [if_pos c2, if_neg (show ¬ t.2 a < 48 by omega), if_pos (show 57 < t.2 a by omega), if_neg (show ¬ (t.2 a = 59 ∧ 0 < f) by omega), if_neg (show ¬ ((48 ≤ t.2 a ∧ t.2 a ≤ 57) ∧ 1 ≤ 10 * f + (t.2 a - 48) ∧ 10 * f + (t.2 a - 48) ≤ 99) by omega)]
      · rw [if_neg c2, if_pos (show t.2 a = 59 ∧ 0 < f by omega)]
    · rw [if_neg c1, if_neg (show ¬ (t.2 a = 59 ∧ 0 < f) from fun z => c1 z.1)]
      by_cases c2 : t.2 a < 48
      · rw [if_pos c2, if_neg (by omega)]
      · rw [if_neg c2]
        by_cases c3 : 57 < t.2 a
        · rw [if_pos c3, if_neg (by omega)]
        · rw [if_neg c3, if_neg (show ¬ zn s = 0 by omega), show 10 * f + t.2 a - 48 = 10 * f + (t.2 a - 48) by omega]
          by_cases c4 : 10 * f + (t.2 a - 48) < 1
          · rw [if_pos c4, if_neg (by omega)]
          · rw [if_neg c4]
            by_cases c5 : 10 * f + (t.2 a - 48) ≤ 99
            · rw [if_pos c5, if_pos (by omega)]
            · rw [if_neg c5, if_neg (by omega)]
  rw [e0]
  unfold nst
  rw [if_neg h0, hf]
  by_cases c1 : t.2 a = 59 ∧ 0 < f
  · left
    rw [if_pos c1, if_pos c1]
    refine ⟨_, _, rfl, rfl, (OnlyI.set (by unfold R3; omega)).put (by unfold R3; omega), ?_, ?_, ?_, ?_⟩
    · show _ = nI (zn s)
      rw [hI_setI_eq, upd_ne _ _ (by decide), hI_setI_eq, upd_ne _ _ (by decide)]
      exact cr.1
    · show _ = nI (a + 1)
      rw [hI_setI_eq, upd_same]
    · show _ = nI 0
      rw [hI_setI_eq, upd_ne _ _ (by decide), hI_setI_eq, upd_same]
    · intro k hk
      simp only [hI_setI_ne, ne_eq, show ¬ (11 : Nat) = 10 by decide, show ¬ (12 : Nat) = 10 by decide, show ¬ (13 : Nat) = 10 by decide, not_false_eq_true]
      exact cr.2.2.2 k hk
  · rw [if_neg c1, if_neg c1]
    by_cases c2 : (48 ≤ t.2 a ∧ t.2 a ≤ 57) ∧ 1 ≤ 10 * f + (t.2 a - 48) ∧ 10 * f + (t.2 a - 48) ≤ 99
    · left
      rw [if_pos c2, if_pos c2]
      refine ⟨_, _, rfl, rfl, OnlyI.set (by unfold R3; omega), ?_, ?_, ?_, ?_⟩
      · rw [hI_setI_ne _ _ _ (by decide)]; exact cr.1
      · rw [hI_setI_ne _ _ _ (by decide)]; exact cr.2.1
      · rw [hI_setI_ne _ _ _ (by decide)]; exact cr.2.2.1.trans (by rw [x1]; rfl)
      · intro k hk
        have hk' : k < zn s := hk
        rw [hI_setI_ne _ _ _ (by decide), hI_setI_ne _ _ _ (by decide), hI_setI_eq]
        refine ⟨(cr.2.2.2 k hk').1, (cr.2.2.2 k hk').2.1, ?_⟩
        show _ = nI (updN (zF s) (zn s - 1) (10 * f + (t.2 a - 48)) k)
        by_cases e : k = zn s - 1
        · rw [e, upd_same, updN_same]
        · rw [upd_ne _ _ e, updN_ne _ _ e]; exact (cr.2.2.2 k hk').2.2
    · right
      rw [if_neg c2, if_neg c2]
      exact ⟨rfl, rfl⟩
theorem C_scanL (hL : Lay h) (ht : TOK t) (hc : CT t h) (K : Hp → Option (Int32 × Hp)) : ∀ f k s g, k ≤ t.1 → t.1 - k < f → nrn t k = some s → OnlyI R3 h g → CR s g →
    ∃ j s' g', FE t j ∧ nrn t j = some s' ∧ OnlyI R3 h g' ∧ CR s' g' ∧ f_X3_scan_L17 10 1 K f (nI k) g = if j = t.1 then K g' else some (nI j, g') := by
  have ht1 := ht.1
  intro f
  induction f with
  | zero => intro k s g h1 h2; omega
  | succ f ih =>
    intro k s g h1 h2 h3 h4 h5
    have hLg : Lay g := hL.ss h4.1
    have hcg : CT t g := by unfold CT at *; rw [h4.2 1 (by unfold R3; omega), h4.2 2 (by unfold R3; omega)]; exact hc
    have r := row_text hLg ht hcg
    have d := nrn_NI t k s h3
    unfold f_X3_scan_L17
    rw [r.size, Option.bind_some]
    by_cases c : t.1 ≤ k
    · have e : k = t.1 := by omega
      rw [if_pos (nI_le c (by omega))]
      exact ⟨k, s, g, Or.inl ⟨e, s, by rw [← e]; exact h3⟩, h3, h4, h5, by rw [if_pos e]⟩
    · rw [if_neg (nI_ge (by omega) (by omega)), r.get (show k < t.1 by omega), hcg.2 k (by omega)]
      simp only [Option.bind_some, CG hLg, h5.2.2.1]
      have hm : (nI (zm s) = nI 0) ↔ zm s = 0 := by
        by_cases w : zm s = 0
        · simp [w]
        · rw [(d.2.2.1 w).1]; decide
      have hb : ∀ (x : Option NS), nst t k s = x → nrn t (k + 1) = x := by
        intro x hx
        show (nrn t k).bind (nst t k) = x
        rw [h3]; exact hx
      have main : (∃ s' h', nst t k s = some s' ∧ (if zm s = 0 then (f_X3_fitsName 10 1 (nI k) g).bind fun p8 => some (p8.1, p8.2) else (f_X3_fitsFrequency 10 (nI (t.2 k)) (nI k) g).bind fun p9 => some (p9.1, p9.2)) = some (nI 1, h') ∧ OnlyI R3 g h' ∧ CR s' h') ∨ (nst t k s = none ∧ (if zm s = 0 then (f_X3_fitsName 10 1 (nI k) g).bind fun p8 => some (p8.1, p8.2) else (f_X3_fitsFrequency 10 (nI (t.2 k)) (nI k) g).bind fun p9 => some (p9.1, p9.2)) = some (nI 0, g)) := by
        by_cases w : zm s = 0
        · rw [if_pos w]
          rcases X3_name hLg ht hcg h5 d (by omega) w with ⟨s', h', q1, q2, q3, q4⟩ | ⟨q1, q2⟩
          · exact Or.inl ⟨s', h', q1, by rw [q2]; rfl, q3, q4⟩
          · exact Or.inr ⟨q1, by rw [q2]; rfl⟩
        · rw [if_neg w]
          rcases X3_use hLg ht h5 d (by omega) w with ⟨s', h', q1, q2, q3, q4⟩ | ⟨q1, q2⟩
          · exact Or.inl ⟨s', h', q1, by rw [q2]; rfl, q3, q4⟩
          · exact Or.inr ⟨q1, by rw [q2]; rfl⟩
      simp only [hm]
      rcases main with ⟨s', h', q1, q2, q3, q4⟩ | ⟨q1, q2⟩
      · obtain ⟨j, s2, g2, z1, z2, z3, z4, z5⟩ := ih (k + 1) s' h' (by omega) (by omega) (hb _ q1) (h4.tr q3) q4
        refine ⟨j, s2, g2, z1, z2, z3, z4, ?_⟩
        rw [q2, Option.bind_some, if_neg nI01, nI_add]
        exact z5
      · refine ⟨k, s, g, Or.inr ⟨by omega, ⟨s, h3⟩, hb _ q1⟩, h3, h4, h5, ?_⟩
        rw [q2, Option.bind_some, if_pos rfl, if_neg (by omega)]
theorem C_scan (hL : Lay h) (ht : TOK t) (hc : CT t h) : ∃ j s' g', FE t j ∧ nrn t j = some s' ∧ OnlyI R3 h g' ∧ CR s' g' ∧ f_X3_scan 10 1 h = some (nI j, g') := by
  have l1 := hL.setI 10 3 (nI 0)
  have l2 := l1.setI 10 4 (nI 0)
  have l3 := l2.setI 10 5 (nI 0)
  have o : OnlyI R3 h (setI (setI (setI h 10 3 (nI 0)) 10 4 (nI 0)) 10 5 (nI 0)) := ((OnlyI.set (by unfold R3; omega)).put (by unfold R3; omega)).put (by unfold R3; omega)
  obtain ⟨j, s', g', q1, q2, q3, q4, q5⟩ := C_scanL hL ht hc (fun h13 => (f_X8_size 1 h13).bind fun x14 => some (x14, h13)) FU 0 (0, 0, 0, fun _ => 0, fun _ => 0, fun _ => 0) _ (Nat.zero_le _) (by have := ht.1; show t.1 - 0 < 256; omega) rfl o ⟨by rw [hI_setI_eq, upd_ne _ _ (by decide), hI_setI_eq, upd_ne _ _ (by decide), hI_setI_eq, upd_same]; rfl, by rw [hI_setI_eq, upd_ne _ _ (by decide), hI_setI_eq, upd_same]; rfl, by rw [hI_setI_eq, upd_same]; rfl, fun k hk => absurd hk (Nat.not_lt_zero k)⟩
  refine ⟨j, s', g', q1, q2, q3, q4, ?_⟩
  have p1 := putI_of (h := h) (hL.o (c := 3) (a := 10) (by decide) rfl)
  have p2 := putI_of (h := setI h 10 3 (nI 0)) (l1.o (c := 3) (a := 10) (by decide) rfl)
  have p3 := putI_of (h := setI (setI h 10 3 (nI 0)) 10 4 (nI 0)) (l2.o (c := 3) (a := 10) (by decide) rfl)
  unfold f_X3_scan
  rw [gd_10 hL, p1, Option.bind_some, p2, Option.bind_some, p3, Option.bind_some]
  refine q5.trans ?_
  have hLg : Lay g' := hL.ss q3.1
  have hcg : CT t g' := by unfold CT at *; rw [q3.2 1 (by unfold R3; omega), q3.2 2 (by unfold R3; omega)]; exact hc
  by_cases c : j = t.1
  · rw [if_pos c, (row_text hLg ht hcg).size, c]; rfl
  · rw [if_neg c]
end
