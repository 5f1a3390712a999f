section
variable {pm : Nat} {v : Vw} {t p : Sq} {m : Mn} {c : Nat → Int32} {h : Hp} {ea : Nat → Nat}
def cinc (c : Nat → Int32) (k : Nat) : Nat → Int32 := fun i => if i = k then c k + nI 1 else c i
theorem M_shift (hL : Lay h) {N k : Nat} (hN : hI h 77 2 = nI N) (h14 : N < 14) (hk : k ≤ N) (K : Hp → Option (Int32 × Hp)) : ∃ g, f_X10_drop_L23 77 K FU (nI k) h = K g ∧ OnlyI (fun q => q = 79 ∨ q = 80 ∨ q = 81) h g ∧ (∀ j, hI g 79 j = hI h 79 (if k ≤ j ∧ j < N then j + 1 else j)) ∧ (∀ j, hI g 81 j = hI h 81 (if k ≤ j ∧ j < N then j + 1 else j)) ∧ ∀ j x, x < 8 → hI g 80 (8 * j + x) = hI h 80 (8 * (if k ≤ j ∧ j < N then j + 1 else j) + x) := by
  have key : ∀ f i g, k ≤ i → i ≤ N → N - i < f → OnlyI (fun q => q = 79 ∨ q = 80 ∨ q = 81) h g → (∀ j, hI g 79 j = hI h 79 (if k ≤ j ∧ j < i then j + 1 else j)) → (∀ j, hI g 81 j = hI h 81 (if k ≤ j ∧ j < i then j + 1 else j)) → (∀ j x, x < 8 → hI g 80 (8 * j + x) = hI h 80 (8 * (if k ≤ j ∧ j < i then j + 1 else j) + x)) →
      ∃ g', f_X10_drop_L23 77 K f (nI i) g = K g' ∧ OnlyI (fun q => q = 79 ∨ q = 80 ∨ q = 81) h g' ∧ (∀ j, hI g' 79 j = hI h 79 (if k ≤ j ∧ j < N then j + 1 else j)) ∧ (∀ j, hI g' 81 j = hI h 81 (if k ≤ j ∧ j < N then j + 1 else j)) ∧ ∀ j x, x < 8 → hI g' 80 (8 * j + x) = hI h 80 (8 * (if k ≤ j ∧ j < N then j + 1 else j) + x) := by
    intro f
    induction f with
    | zero => intro i g h1 h2 h3; omega
    | succ f ih =>
      intro i g h1 h2 h3 h4 h5 h6 h7
      have hLg : Lay g := hL.ss h4.1
      have e2 : hI g 77 2 = nI N := by rw [h4.2 77 (by omega)]; exact hN
      unfold f_X10_drop_L23
      simp only [MG hLg, e2, Option.bind_some]
      by_cases ci : i = N
      · subst ci
        rw [if_pos (nI_le (Nat.le_refl _) (by omega))]
        exact ⟨g, rfl, h4, h5, h6, h7⟩
      · rw [if_neg (nI_ge (by omega) (by omega)), nI_add]
        obtain ⟨g1, q1, q2, q3, q4, q5⟩ := M_move hLg (a := i + 1) (b := i) (by omega) (by omega) (by omega)
        simp only [q1, Option.bind_some]
        refine ih (i + 1) g1 (by omega) (by omega) (by omega) (h4.tr q2) (fun j => ?_) (fun j => ?_) (fun j x hx => ?_)
        · rw [q3]
          by_cases e : j = i
          · subst e
            rw [upd_same, h5, if_neg (by omega), if_pos ⟨h1, by omega⟩]
          · rw [upd_ne _ _ e, h5]
            by_cases z : k ≤ j ∧ j < i
            · rw [if_pos z, if_pos ⟨z.1, by omega⟩]
            · rw [if_neg z, if_neg (by omega)]
        · rw [q4]
          by_cases e : j = i
          · subst e
            rw [upd_same, h6, if_neg (by omega), if_pos ⟨h1, by omega⟩]
          · rw [upd_ne _ _ e, h6]
            by_cases z : k ≤ j ∧ j < i
            · rw [if_pos z, if_pos ⟨z.1, by omega⟩]
            · rw [if_neg z, if_neg (by omega)]
        · rw [q5]
          by_cases e : j = i
          · subst e
            rw [if_pos ⟨by omega, by omega⟩, show 8 * j + x - 8 * j = x by omega, h7 _ _ hx, if_neg (by omega), if_pos ⟨h1, by omega⟩]
          · rw [if_neg (by omega), h7 _ _ hx]
            by_cases z : k ≤ j ∧ j < i
            · rw [if_pos z, if_pos ⟨z.1, by omega⟩]
            · rw [if_neg z, if_neg (by omega)]
  exact key FU k h (Nat.le_refl _) hk (FU_gt (by omega)) OnlyI.rf (fun j => by rw [if_neg (by omega)]) (fun j => by rw [if_neg (by omega)]) (fun j x _ => by rw [if_neg (by omega)])
theorem op_drop (sc : SC pm v t p m c h) (sm : SM v t p m c h) (vo : VOK v) (mo : MOK m (vN v)) (x : Int32) : Both (f_X9_drop 0 x) (f_X10_drop 77 x) h (fun h2 => ∃ v' m' c', VOK v' ∧ MOK m' (vN v') ∧ SC pm v' t p m' c' h2 ∧ SM v' t p m' c' h2) := by
  have hL := sc.1
  have cm := sc.2.2.2.2.2.1
  have hpm := cm.two
  have h14 := vo.1
  obtain ⟨-, a1, a2, a3, ⟨ea, cn⟩, -, a6⟩ := id sc
  have mn := sm.2.2.2.2.1
  have out : x < nI 0 ∨ nI (vN v) ≤ x → Both (f_X9_drop 0 x) (f_X10_drop 77 x) h (fun h2 => ∃ v' m' c', VOK v' ∧ MOK m' (vN v') ∧ SC pm v' t p m' c' h2 ∧ SM v' t p m' c' h2) := by
    intro hx
    refine ⟨m101, h, h, ?_, ?_, v, m, c, vo, mo, sc, sm⟩
    · unfold f_X9_drop
      simp only [gd_0 hL, CG hL, Option.bind_some, R_hasN hL cn hx, if_true]
    · unfold f_X10_drop
      simp only [gd_77 hL, M_isNameN hL mn vo hx, Option.bind_some, if_true]
  rcases ix_cases x (n := vN v) (by omega) with c1 | ⟨-, c1⟩ | ⟨k, hk, rfl⟩
  · exact out (Or.inl c1)
  · exact out (Or.inr c1)
  · obtain ⟨g1, q1, q2, q3, q4, q5, q6, q7⟩ := C_remove hL cn hk
    have hL2 : Lay (setI g1 0 10 (nI 0)) := q2.setI _ _ _
    have hL3 : Lay (setI (setI g1 0 10 (nI 0)) 0 14 (c 2 + nI 1)) := hL2.setI _ _ _
    have e14 : hI (setI g1 0 10 (nI 0)) 0 14 = c 2 := by rw [hI_setI_eq, upd_ne _ _ (by decide), q3 0 (by decide)]; exact a6.2.2.1
    have cls : f_X9_drop 0 (nI k) h = some (nI (vN v - 1), setI (setI g1 0 10 (nI 0)) 0 14 (c 2 + nI 1)) := by
      have e8 : hI (setI (setI g1 0 10 (nI 0)) 0 14 (c 2 + nI 1)) 8 1 = nI (vN v - 1) := by rw [hI_setI_ne _ _ _ (by decide), hI_setI_ne _ _ _ (by decide)]; exact q7.2.1
      unfold f_X9_drop f_X7_size
      simp only [gd_0 hL, CG hL, Option.bind_some, R_has hL cn hk, if_neg nI01, q1, CP q2, CG hL2, CP hL2, e14, CG hL3, gd_8 hL3, e8]
    have sc2 : SC pm (vdrop v k) t p (0, m.2) (cinc c 2) (setI (setI g1 0 10 (nI 0)) 0 14 (c 2 + nI 1)) := by
      have o : OnlyI (fun q => q = 0) g1 (setI (setI g1 0 10 (nI 0)) 0 14 (c 2 + nI 1)) := OnlyI.tr (A := fun q => q = 0) (OnlyI.set rfl) (OnlyI.set rfl)
      have i0 : ∀ j, j ≠ 10 → j ≠ 14 → hI (setI (setI g1 0 10 (nI 0)) 0 14 (c 2 + nI 1)) 0 j = hI h 0 j := fun j h1 h2 => by rw [hI_setI_eq, upd_ne _ _ h2, hI_setI_eq, upd_ne _ _ h1, q3 0 (by decide)]
      have i10 : hI (setI (setI g1 0 10 (nI 0)) 0 14 (c 2 + nI 1)) 0 10 = nI 0 := by rw [hI_setI_eq, upd_ne _ _ (by decide), hI_setI_eq, upd_same]
      have i14 : hI (setI (setI g1 0 10 (nI 0)) 0 14 (c 2 + nI 1)) 0 14 = c 2 + nI 1 := by rw [hI_setI_eq, upd_same]
      generalize setI (setI g1 0 10 (nI 0)) 0 14 (c 2 + nI 1) = g at *
      have ne : ∀ q, q ≠ 0 → q ≠ 8 → hI g q = hI h q := fun q h1 h2 => by rw [o.2 q h1, q3 q h2]
      refine ⟨hL3, ?_, ?_, ?_, ⟨_, q7.fr o.1 (o.2 8 (by decide)) (fun q hq => o.2 q (by omega))⟩, ⟨?_, ?_, fun z => absurd rfl z, ?_⟩, ?_⟩
      · unfold CT at *; rw [ne 1 (by decide) (by decide), ne 2 (by decide) (by decide)]; exact a1
      · unfold CI at *; rw [ne 3 (by decide) (by decide), ne 4 (by decide) (by decide)]; exact a2
      · unfold CK at *; rw [ne 6 (by decide) (by decide)]; exact a3
      · rw [o.1.2.2.1, q6 0 8 (by decide), q6 0 9 (by decide)]; exact cm.1
      · rw [i10, b2_f (fun z : (0 : Nat) ≠ 0 => z rfl)]
      · rw [ne 25 (by decide) (by decide)]; exact cm.2.2.2
      · exact ⟨by rw [i0 12 (by decide) (by decide)]; exact a6.1, by rw [i0 13 (by decide) (by decide)]; exact a6.2.1, i14, by rw [i0 11 (by decide) (by decide)]; exact a6.2.2.2⟩
    have sm2 : SM v t p m c (setI (setI g1 0 10 (nI 0)) 0 14 (c 2 + nI 1)) := sm.cls hL3 (fun q h1 h2 => by rw [hI_setI_ne _ _ _ (by omega), hI_setI_ne _ _ _ (by omega)]; exact q3 q (by omega))
    generalize setI (setI g1 0 10 (nI 0)) 0 14 (c 2 + nI 1) = g2 at *
    have hL4 : Lay (setI g2 77 2 (nI (vN v - 1))) := hL3.setI _ _ _
    obtain ⟨g3, r1, r2, r3, r4, r5⟩ := M_shift hL4 (N := vN v - 1) (k := k) (by rw [hI_setI_eq, upd_same]) (by omega) (by omega) (fun h7 => (getI h7 10 77 8).bind fun x8 => (putI h7 10 77 8 (x8 + (nI 1))).bind fun h9 => (putI h9 10 77 12 (nI 0)).bind fun h10 => (getI h10 10 77 2).bind fun x11 => some (x11, h10))
    have hL5 : Lay g3 := hL4.ss r2.1
    have e77 : ∀ j, j ≠ 2 → hI g3 77 j = hI g2 77 j := fun j hj => by rw [r2.2 77 (by omega), hI_setI_eq, upd_ne _ _ hj]
    have e772 : hI g3 77 2 = nI (vN v - 1) := by rw [r2.2 77 (by omega), hI_setI_eq, upd_same]
    obtain ⟨-, m1_, m2_, m3_, m4_, m5_, m6_⟩ := id sm2
    have hL6 : Lay (setI g3 77 8 (c 2 + nI 1)) := hL5.setI _ _ _
    have hL7 : Lay (setI (setI g3 77 8 (c 2 + nI 1)) 77 12 (nI 0)) := hL6.setI _ _ _
    refine ⟨nI (vN v - 1), g2, setI (setI g3 77 8 (c 2 + nI 1)) 77 12 (nI 0), cls, ?_, vdrop v k, (0, m.2), cinc c 2, vo.drop hk, fun z => absurd rfl z, ?_, ?_⟩
    · unfold f_X10_drop
      rw [gd_77 hL3, M_isName hL3 m4_ vo hk]
      have e2' : hI (setI (setI g3 77 8 (c 2 + nI 1)) 77 12 (nI 0)) 77 2 = nI (vN v - 1) := by rw [hI_setI_eq, upd_ne _ _ (by decide), hI_setI_eq, upd_ne _ _ (by decide), e772]
      simp only [Option.bind_some, if_neg nI01, MG hL3, MP hL3, m4_.1, pk_sub (show 1 ≤ vN v by omega), r1]
      simp only [MG hL5, MP hL5, e77 8 (by decide), m6_.2.2.1, Option.bind_some, MP hL6, MG hL7, e2']
    · have o1 : OnlyI (fun q => 77 ≤ q ∧ q < 99) g2 (setI g2 77 2 (nI (vN v - 1))) := OnlyI.set (by omega)
      exact sc2.mod (((o1.tr (r2.mono (fun q z => by omega))).put (by omega)).put (by omega))
    · have j77 : ∀ j, j ≠ 2 → j ≠ 8 → j ≠ 12 → hI (setI (setI g3 77 8 (c 2 + nI 1)) 77 12 (nI 0)) 77 j = hI g2 77 j := fun j h1 h2 h3 => by rw [hI_setI_eq, upd_ne _ _ h3, hI_setI_eq, upd_ne _ _ h2, e77 j h1]
      have jq : ∀ q, q ≠ 77 → q ≠ 79 → q ≠ 80 → q ≠ 81 → hI (setI (setI g3 77 8 (c 2 + nI 1)) 77 12 (nI 0)) q = hI g2 q := fun q h1 h2 h3 h4 => by rw [hI_setI_ne _ _ _ h1, hI_setI_ne _ _ _ h1, r2.2 q (by omega), hI_setI_ne _ _ _ h1]
      have jg : ∀ q, q ≠ 77 → hI (setI (setI g3 77 8 (c 2 + nI 1)) 77 12 (nI 0)) q = hI g3 q := fun q h1 => by rw [hI_setI_ne _ _ _ h1, hI_setI_ne _ _ _ h1]
      refine ⟨hL7, ?_, ?_, ?_, ⟨?_, fun j hj => ?_⟩, ⟨?_, fun z => absurd rfl z, ?_⟩, ?_⟩
      · unfold MT at *; rw [j77 0 (by decide) (by decide) (by decide), jq 78 (by decide) (by decide) (by decide) (by decide)]; exact m1_
      · unfold MI at *; rw [j77 10 (by decide) (by decide) (by decide), jq 83 (by decide) (by decide) (by decide) (by decide)]; exact m2_
      · unfold MK at *; rw [jq 82 (by decide) (by decide) (by decide) (by decide)]; exact m3_
      · rw [hI_setI_eq, upd_ne _ _ (by decide), hI_setI_eq, upd_ne _ _ (by decide), e772]; rfl
      · have hj' : j < vN v - 1 := hj
        have ei : (if k ≤ j ∧ j < vN v - 1 then j + 1 else j) = (if j < k then j else j + 1) := by
          by_cases z : j < k
          · rw [if_pos z, if_neg (by omega)]
          · rw [if_neg z, if_pos (by omega)]
        have sh : (if j < k then j else j + 1) < vN v := by split <;> omega
        obtain ⟨w1, w2, w3⟩ := m4_.2 _ sh
        have b8 := vo.2.1 _ sh
        rw [jg 79 (by decide), jg 80 (by decide), jg 81 (by decide), r3, r4, ei, hI_setI_ne _ _ _ (by decide), hI_setI_ne _ _ _ (by decide)]
        refine ⟨w1, fun i hi => ?_, w3⟩
        have hi' : i < vl v (if j < k then j else j + 1) := hi
        rw [r5 _ _ (by omega), ei, hI_setI_ne _ _ _ (by decide)]
        exact w2 i hi'
      · rw [hI_setI_eq, upd_same]
      · intro q hq
        rw [jq 84 (by decide) (by decide) (by decide) (by decide)]
        exact m5_.2.2 q hq
      · exact ⟨by rw [j77 6 (by decide) (by decide) (by decide)]; exact m6_.1, by rw [j77 7 (by decide) (by decide) (by decide)]; exact m6_.2.1, by rw [hI_setI_eq, upd_ne _ _ (by decide), hI_setI_eq, upd_same]; rfl, by rw [j77 15 (by decide) (by decide) (by decide)]; exact m6_.2.2.2⟩
end
