/-! leads -/
/-- the digits of n, the first one first; D of them -/
def wd (n D s : Nat) : Nat := n / 10 ^ (D - 1 - s) % 10
def DD (n D : Nat) : Prop := D ≤ 10 ∧ n / 10 ^ D = 0 ∧ ∀ j, j < D → n / 10 ^ j ≠ 0
theorem DD_ex (n : Nat) (h : n < 2 ^ 31) : ∃ D, DD n D := by
  have e10 : n / 10 ^ 10 = 0 := Nat.div_eq_of_lt (by omega)
  obtain ⟨D, h1, h2⟩ := pk_least (fun j => n / 10 ^ j = 0) ⟨10, e10⟩
  refine ⟨D, ?_, h1, h2⟩
  by_cases c : D ≤ 10
  · exact c
  · exact absurd e10 (h2 10 (by omega))
theorem div_pow_succ (n j : Nat) : n / 10 ^ (j + 1) = n / 10 ^ j / 10 := by rw [Nat.pow_succ, Nat.div_div_eq_div_mul]
abbrev led (m : Mn) (n D k : Nat) : Prop := D ≤ m.2.1 k ∧ ∀ s, s < D → m.2.2.1 k s = wd n D s
section
variable {pm : Nat} {v : Vw} {t p : Sq} {m : Mn} {c : Nat → Int32} {h : Hp} {N a : Nat}
theorem row_want (hL : Lay h) (ha : a = 39 ∨ a = 58) {n : Nat} (hn : n ≤ 10) (e : hI h (a + 17) 1 = nI n) : RowAt h (a + 17) (a + 18) 10 n := by
  refine ⟨?_, ?_, ?_, e, hn, by decide, by omega⟩
  · rcases ha with rfl | rfl <;> exact hL.o (by decide) rfl
  · rcases ha with rfl | rfl
    · exact hL.2.2 (56, 0, 57) (by decide)
    · exact hL.2.2 (75, 0, 76) (by decide)
  · rcases ha with rfl | rfl <;> exact hL.a (by decide) rfl
theorem C_split (hL : Lay h) (ha : a = 39 ∨ a = 58) {n D : Nat} (hn : n < 2 ^ 31) (hD : DD n D) : ∃ g, f_X4_splitDecimals a (nI n) h = some g ∧ OnlyI (fun q => q = a + 17 ∨ q = a + 18) h g ∧ hI g (a + 17) 1 = nI D ∧ ∀ i, i < D → hI g (a + 18) i = nI (n / 10 ^ i % 10) := by
  have key : ∀ f j g, j ≤ D → D - j < f → OnlyI (fun q => q = a + 17 ∨ q = a + 18) h g → hI g (a + 17) 1 = nI j → (∀ i, i < j → hI g (a + 18) i = nI (n / 10 ^ i % 10)) → ∃ g', f_X4_splitDecimals_L12 a (fun h7 => some h7) f (nI (n / 10 ^ j)) (nI j) g = some g' ∧ OnlyI (fun q => q = a + 17 ∨ q = a + 18) h g' ∧ hI g' (a + 17) 1 = nI D ∧ ∀ i, i < D → hI g' (a + 18) i = nI (n / 10 ^ i % 10) := by
    intro f
    induction f with
    | zero => intro j g h1 h2; omega
    | succ f ih =>
      intro j g h1 h2 h3 h4 h5
      have hLg : Lay g := hL.ss h3.1
      have hD10 := hD.1
      unfold f_X4_splitDecimals_L12
      by_cases c : j = D
      · subst c
        refine ⟨g, ?_, h3, h4, h5⟩
        by_cases c1 : 10 ≤ j
        · rw [if_pos (nI_le c1 (by omega))]
        · rw [if_neg (nI_ge (by omega) (by omega)), hD.2.1, if_pos (nI_le (Nat.le_refl 0) (by decide))]
      · have hq := hD.2.2 j (by omega)
        have hle : n / 10 ^ j ≤ n := Nat.div_le_self _ _
        have r := row_want hLg ha (show j ≤ 10 by omega) h4
        have hlt := Nat.lt_of_le_of_lt hle hn
        rw [if_neg (nI_ge (by omega) (by omega)), if_neg (nI_ge (Nat.pos_of_ne_zero hq) hlt), (MA hLg ha).2.2.2.2.2.1, pk_rem hlt (by decide) (by decide)]
        simp only [Option.bind_some, r.add (show j < 10 by omega), pk_div hlt (show 0 < 10 by decide) (show 10 < 2 ^ 31 by decide), ← div_pow_succ, nI_add]
        refine ih (j + 1) _ (by omega) (by omega) ((h3.put (Or.inr rfl)).put (Or.inl rfl)) (by rw [hI_setI_eq, upd_same]) (fun i hi => ?_)
        rw [hI_setI_ne _ _ _ (by omega), hI_setI_eq]
        by_cases e : i = j
        · rw [e, upd_same]
        · rw [upd_ne _ _ e]; exact h5 i (by omega)
  have o17 : a + 17 < hN h ∧ (hK h (a + 17)).1 = 8 := by rcases ha with rfl | rfl <;> exact hL.o (by decide) rfl
  unfold f_X4_splitDecimals f_X8_clear
  simp only [MA hL ha, Option.bind_some, gd_of o17, getI_of o17, putI_of o17]
  have q := key FU 0 (setI h (a + 17) 1 (nI 0)) (Nat.zero_le _) (FU_gt (by have := hD.1; omega)) (OnlyI.set (Or.inl rfl)) (by rw [hI_setI_eq, upd_same]) (fun i hi => by omega)
  rw [Nat.pow_zero, Nat.div_one] at q
  exact q
theorem wd_lt (n D s : Nat) : wd n D s < 10 := Nat.mod_lt _ (by decide)
theorem C_begins (hL : Lay h) (ha : a = 39 ∨ a = 58) (cp : CP_ m N a h) (hN : N ≤ 14) (bd : MBd m N) {n D k : Nat} (hD : DD n D) (hk : k < N) (e1 : hI h (a + 17) 1 = nI D) (e2 : ∀ i, i < D → hI h (a + 18) i = nI (n / 10 ^ i % 10)) : f_X4_beginsAsWanted a (nI k) h = some (b2 (led m n D k)) := by
  have hD10 := hD.1
  have bk := bd k hk
  have r := row_want hL ha hD10 e1
  unfold f_X4_beginsAsWanted
  simp only [MA hL ha, Option.bind_some, r.size]
  have q := lp_all0 (W := fun f i => f_X4_beginsAsWanted_L10 a (nI k) (nI D) h ((rz (nI 1)).bind fun r => some r) f (nI i)) (N := D) (P := fun i => i < m.2.1 k ∧ m.2.2.1 k i = wd n D i) (r1 := some (nI 1)) (r0 := some (nI 0)) (fun f => ?_) (fun f i hi _ => ?_) (n := FU) (FU_gt (by omega))
  · refine q.trans ?_
    rw [ite_some, b2_def]
    refine congrArg some (b2_of ⟨fun z => ⟨?_, fun i hi => (z i hi).2⟩, fun z i hi => ⟨by have := z.1; omega, z.2 i hi⟩⟩)
    by_cases c : D = 0
    · omega
    · have := (z (D - 1) (by omega)).1
      omega
  · show f_X4_beginsAsWanted_L10 _ _ _ _ _ _ _ = _
    unfold f_X4_beginsAsWanted_L10
    rw [if_pos (nI_le (Nat.le_refl D) (by omega)), rz_1]
    rfl
  · have wl := wd_lt n D i
    have eg : f_X8_get (a + 17) (nI (D - 1 - i)) h = some (nI (wd n D i)) := by rw [r.get (by omega), e2 _ (by omega)]; rfl
    have st : so m k i = nI (wd n D i) ↔ (i < m.2.1 k ∧ m.2.2.1 k i = wd n D i) := by
      unfold so
      by_cases z : i < m.2.1 k
      · have := bk.2 i z
        rw [if_pos z, nI_eq (by omega) (by omega)]
        exact ⟨fun w => ⟨z, w⟩, fun w => w.2⟩
      · rw [if_neg z]
        exact ⟨fun w => absurd w (m101_ne (by omega)), fun w => absurd w.1 z⟩
    constructor
    · intro z
      show f_X4_beginsAsWanted_L10 _ _ _ _ _ _ _ = f_X4_beginsAsWanted_L10 _ _ _ _ _ _ _
      conv => lhs; unfold f_X4_beginsAsWanted_L10
      rw [if_neg (nI_ge hi (by omega)), C_mstep hL ha cp hN bd hk (by omega)]
      simp only [Option.bind_some, MA hL ha, pk_sub (show 1 ≤ D by omega), pk_sub (show i ≤ D - 1 by omega), eg, nI_add]
      rw [if_pos (st.mpr z)]
    · intro z
      show f_X4_beginsAsWanted_L10 _ _ _ _ _ _ _ = _
      unfold f_X4_beginsAsWanted_L10
      rw [if_neg (nI_ge hi (by omega)), C_mstep hL ha cp hN bd hk (by omega)]
      simp only [Option.bind_some, MA hL ha, pk_sub (show 1 ≤ D by omega), pk_sub (show i ≤ D - 1 by omega), eg]
      rw [if_neg (fun w => z (st.mp w)), rz_0]
      rfl
/-- the class's answer -/
theorem C_follow (hL : Lay h) (ha : a = 39 ∨ a = 58) (cp : CP_ m N a h) (hN : N ≤ 14) (bd : MBd m N) {n D : Nat} (hn : n < 2 ^ 31) (hD : DD n D) : ∃ g y, f_X4_follow a (nI n) h = some (y, g) ∧ OnlyI (fun q => q = a + 17 ∨ q = a + 18) h g ∧ ((∀ k, k < N → ¬ led m n D k) → y = m101) ∧ ∀ k, k < N → led m n D k → (∀ j, j < k → ¬ led m n D j) → y = if m.2.1 k = D then nI k else m1 := by
  have hD10 := hD.1
  obtain ⟨g, q1, q2, q3, q4⟩ := C_split hL ha hn hD
  have hLg : Lay g := hL.ss q2.1
  have cpg : CP_ m N a g := by
    unfold CP_ at *
    rw [q2.2 a (by omega), q2.2 (a + 16) (by omega)]
    refine ⟨cp.1, cp.2.1, cp.2.2.1, cp.2.2.2.1, fun k hk i hi => ?_⟩
    rw [q2.2 (a + 2 + k) (by omega)]
    exact cp.2.2.2.2 k hk i hi
  have r := row_want hLg ha hD10 q3
  have w := lp_find (W := fun f i => f_X4_follow_L14 a g (some (m101, g)) f (nI i)) (N := N) (P := fun k => led m n D k) (r0 := some (m101, g)) (g := fun k => some (if m.2.1 k = D then nI k else m1, g)) (fun f => ?_) (fun f i hi => ?_) FU 0 (Nat.zero_le _) (FU_gt (by omega))
  · have pre : f_X4_follow a (nI n) h = f_X4_follow_L14 a g (some (m101, g)) FU (nI 0) := by
      unfold f_X4_follow
      simp only [MA hL ha, if_pos (nI_le (Nat.zero_le n) hn), q1, Option.bind_some]
    by_cases ex : ∃ k, k < N ∧ led m n D k
    · obtain ⟨k, ⟨k1, k2⟩, k3⟩ := pk_least (fun k => k < N ∧ led m n D k) ex
      refine ⟨g, if m.2.1 k = D then nI k else m1, ?_, q2, fun z => absurd k2 (z k k1), fun j h1 h2 h3 => ?_⟩
      · rw [pre]
        exact w.2 k (Nat.zero_le _) k1 k2 (fun j _ hj z => k3 j hj ⟨by omega, z⟩)
      · have : j = k := by
          rcases Nat.lt_trichotomy j k with z | z | z
          · exact absurd ⟨h1, h2⟩ (k3 j z)
          · exact z
          · exact absurd k2 (h3 k z)
        rw [this]
    · refine ⟨g, m101, ?_, q2, fun _ => rfl, fun k h1 h2 _ => absurd ⟨k, h1, h2⟩ ex⟩
      rw [pre]
      exact w.1 (fun i _ hi z => ex ⟨i, hi, z⟩)
  · show f_X4_follow_L14 _ _ _ _ _ = _
    unfold f_X4_follow_L14
    simp only [MA hLg ha, cpg.2.1, Option.bind_some, if_pos (nI_le (Nat.le_refl N) (show N < 2 ^ 31 by omega))]
  · have bi := (bd i hi).1
    constructor
    · intro z
      show f_X4_follow_L14 _ _ _ _ _ = _
      unfold f_X4_follow_L14
      simp (disch := omega) only [MA hLg ha, cpg.2.1, Option.bind_some, if_neg (nI_ge hi (show N < 2 ^ 31 by omega)), C_begins hLg ha cpg hN bd hD hi q3 q4, b2_t z, if_neg nI01, cpg.2.2.2.1 i hi, r.size, nI_eq, ite_some]
      rw [if_neg (by decide)]
    · intro z
      show f_X4_follow_L14 _ _ _ _ _ = f_X4_follow_L14 _ _ _ _ _
      conv => lhs; unfold f_X4_follow_L14
      simp only [MA hLg ha, cpg.2.1, Option.bind_some, if_neg (nI_ge hi (show N < 2 ^ 31 by omega)), C_begins hLg ha cpg hN bd hD hi q3 q4, b2_f z, if_true, nI_add]
end
section
variable {pm : Nat} {v : Vw} {t p : Sq} {m : Mn} {c : Nat → Int32} {h : Hp} {N a : Nat}
abbrev RA (h g : Hp) : Prop := OnlyI (fun q => q = 77 ∨ q = 98) h g ∧ ∀ j, j ≠ 30 → hI g 77 j = hI h 77 j
theorem RA.om {g : Hp} (r : RA h g) : OM h g := ⟨r.1.1, fun q hq => r.1.2 q (by omega), fun j hj => r.2 j (fun e => by rw [e] at hj; revert hj; decide)⟩
theorem M_count (hL : Lay h) {n D : Nat} (hn : n < 2 ^ 31) (hD : DD n D) (x : Int32) (K : Int32 → Option (Int32 × Hp)) : f_X10_layAsked_L4 77 x h K FU (nI 0) (nI n) = K (nI D) := by
  have hD10 := hD.1
  have q := lp_up (W := fun f i => f_X10_layAsked_L4 77 x h K f (nI i) (nI (n / 10 ^ i))) (N := D) (r := K (nI D)) (fun f => ?_) (fun f i hi => ?_) FU 0 (Nat.zero_le _) (FU_gt (by omega))
  · have q' : f_X10_layAsked_L4 77 x h K FU (nI 0) (nI (n / 10 ^ 0)) = K (nI D) := q
    rw [Nat.pow_zero, Nat.div_one] at q'
    exact q'
  · show f_X10_layAsked_L4 _ _ _ _ _ _ _ = _
    unfold f_X10_layAsked_L4
    rw [hD.2.1, if_pos (nI_le (Nat.le_refl 0) (by decide))]
  · show f_X10_layAsked_L4 _ _ _ _ _ _ _ = f_X10_layAsked_L4 _ _ _ _ _ _ _
    have hlt : n / 10 ^ i < 2 ^ 31 := Nat.lt_of_le_of_lt (Nat.div_le_self _ _) hn
    conv => lhs; unfold f_X10_layAsked_L4
    rw [if_neg (nI_ge (Nat.pos_of_ne_zero (hD.2.2 i hi)) hlt), pk_div hlt (by decide) (by decide), ← div_pow_succ, nI_add]
theorem M_askedL (hL : Lay h) {n D : Nat} (hn : n < 2 ^ 31) (hD : DD n D) : ∀ y f g (bb : Int32), y ≤ D → y < f → RA h g → hI g 77 30 = nI D → (∀ s, y ≤ s → s < D → hI g 98 s = nI (wd n D s)) → ((bb = nI 1 ∧ ∀ s, y ≤ s → s < D → 0 < wd n D s) ∨ (bb = nI 0 ∧ ∃ s, s < D ∧ ¬ 0 < wd n D s)) →
    ∃ g', f_X10_layAsked_L42 77 (fun y14 h15 => (rz y14).bind fun r => some (r, h15)) f bb (nI (n / 10 ^ (D - y))) (nI y + m1) g = some (b2 (∀ s, s < D → 0 < wd n D s), g') ∧ RA h g' ∧ hI g' 77 30 = nI D ∧ ∀ s, s < D → hI g' 98 s = nI (wd n D s) := by
  have hD10 := hD.1
  intro y
  induction y with
  | zero =>
    intro f g bb h1 h2 h3 h4 h5 h6
    obtain ⟨f, rfl⟩ : ∃ z, f = z + 1 := ⟨f - 1, by omega⟩
    unfold f_X10_layAsked_L42
    rw [nI0_m1, if_pos m1_lt0]
    refine ⟨g, ?_, h3, h4, fun s hs => h5 s (Nat.zero_le _) hs⟩
    rcases h6 with ⟨rfl, z⟩ | ⟨rfl, s, z1, z2⟩
    · rw [b2_t (fun s hs => z s (Nat.zero_le _) hs), rz_1]; rfl
    · rw [b2_f (fun w => z2 (w s z1)), rz_0]; rfl
  | succ y ih =>
    intro f g bb h1 h2 h3 h4 h5 h6
    obtain ⟨f, rfl⟩ : ∃ z, f = z + 1 := ⟨f - 1, by omega⟩
    have hLg : Lay g := hL.ss h3.1.1
    have hlt : n / 10 ^ (D - (y + 1)) < 2 ^ 31 := Nat.lt_of_le_of_lt (Nat.div_le_self _ _) hn
    have ew : n / 10 ^ (D - (y + 1)) % 10 = wd n D y := by unfold wd; rw [show D - (y + 1) = D - 1 - y by omega]
    have wl := wd_lt n D y
    unfold f_X10_layAsked_L42
    rw [nI_m1, if_neg (nI_lt0 y (by omega)), pk_rem hlt (by decide) (by decide), pk_div hlt (by decide) (by decide), ← div_pow_succ, ew, show D - (y + 1) + 1 = D - y by omega]
    have hLg2 : Lay (setI g 98 y (nI (wd n D y))) := hLg.setI _ _ _
    simp (disch := omega) only [MG hLg, MP hLg, Option.bind_some, MG hLg2, hI_setI_eq, upd_same, nI_leI]
    have st : ∀ bb', ((bb' = nI 1 ∧ ∀ s, y ≤ s → s < D → 0 < wd n D s) ∨ (bb' = nI 0 ∧ ∃ s, s < D ∧ ¬ 0 < wd n D s)) → ∃ g', f_X10_layAsked_L42 77 (fun y14 h15 => (rz y14).bind fun r => some (r, h15)) f bb' (nI (n / 10 ^ (D - y))) (nI y + m1) (setI g 98 y (nI (wd n D y))) = some (b2 (∀ s, s < D → 0 < wd n D s), g') ∧ RA h g' ∧ hI g' 77 30 = nI D ∧ ∀ s, s < D → hI g' 98 s = nI (wd n D s) := by
      intro bb' hb
      refine ih f _ bb' (by omega) (by omega) ⟨h3.1.put (Or.inr rfl), fun j hj => by rw [hI_setI_ne _ _ _ (by decide)]; exact h3.2 j hj⟩ (by rw [hI_setI_ne _ _ _ (by decide)]; exact h4) (fun s a b => ?_) hb
      rw [hI_setI_eq]
      by_cases e : s = y
      · rw [e, upd_same]
      · rw [upd_ne _ _ e]; exact h5 s (by omega) b
    rcases h6 with ⟨rfl, z⟩ | ⟨rfl, s, z1, z2⟩
    · rw [if_neg nI01]
      by_cases c : wd n D y ≤ 0
      · rw [if_pos c]
        exact st (nI 0) (Or.inr ⟨rfl, y, by omega, by omega⟩)
      · rw [if_neg c]
        exact st (nI 1) (Or.inl ⟨rfl, fun s a b => by
          by_cases e : s = y
          · rw [e]; omega
          · exact z s (by omega) b⟩)
    · rw [if_pos rfl]
      exact st (nI 0) (Or.inr ⟨rfl, s, z1, z2⟩)
theorem M_askedP (hL : Lay h) {n D : Nat} (hn : n < 2 ^ 31) (hD : DD n D) : f_X10_layAsked 77 (nI n) h = f_X10_layAsked_L42 77 (fun y14 h15 => (rz y14).bind fun r => some (r, h15)) FU (nI 1) (nI n) (nI D + m1) (setI h 77 30 (nI D)) := by
  unfold f_X10_layAsked
  rw [gd_77 hL, M_count hL hn hD, (MP hL).1]
  rw [Option.bind_some, if_neg (nI_lt0 n hn), Option.bind_some, sub1]
theorem M_asked (hL : Lay h) {n D : Nat} (hn : n < 2 ^ 31) (hD : DD n D) : ∃ g, f_X10_layAsked 77 (nI n) h = some (b2 (∀ s, s < D → 0 < wd n D s), g) ∧ RA h g ∧ hI g 77 30 = nI D ∧ ∀ s, s < D → hI g 98 s = nI (wd n D s) := by
  have hD10 := hD.1
  rw [M_askedP hL hn hD]
  have ra : RA h (setI h 77 30 (nI D)) := ⟨OnlyI.set (Or.inl rfl), fun j hj => by rw [hI_setI_eq, upd_ne _ _ hj]⟩
  have q := M_askedL hL hn hD D FU (setI h 77 30 (nI D)) (nI 1) (Nat.le_refl _) (FU_gt (by omega)) ra (by rw [hI_setI_eq, upd_same]) (fun s a b => by omega) (Or.inl ⟨rfl, fun s a b => by omega⟩)
  have en : n / 10 ^ (D - D) = n := by rw [Nat.sub_self, Nat.pow_zero, Nat.div_one]
  rw [en] at q
  exact q
theorem M_led (hL : Lay h) (ml : ML m N h) (hN : N ≤ 14) (bd : MBd m N) {n D k : Nat} (hD : DD n D) (hk : k < N) (e1 : hI h 77 30 = nI D) (e2 : ∀ s, s < D → hI h 98 s = nI (wd n D s)) : f_X10_isLed 77 (nI k) h = some (b2 (led m n D k)) := by
  have hD10 := hD.1
  have bk := bd k hk
  unfold f_X10_isLed
  simp (disch := omega) only [gd_77 hL, MG hL, (ml k hk).1, e1, Option.bind_some, nI_ltI, ite_some]
  have k0 : ∀ f x, f_X10_isLed_L21 77 (nI k) h (fun y15 => (rz y15).bind fun r => some r) (f + 1) (nI 0) x = some (nI 0) := by
    intro f x
    unfold f_X10_isLed_L21
    simp only [MG hL, e1, Option.bind_some]
    by_cases c : nI D ≤ x
    · rw [if_pos c]; rfl
    · rw [if_neg c, if_pos trivial]; rfl
  by_cases c : m.2.1 k < D
  · rw [if_pos c, b2_f (fun z => by have := z.1; omega)]
    exact k0 255 _
  · rw [if_neg c]
    have q := lp_all0 (W := fun f i => f_X10_isLed_L21 77 (nI k) h (fun y15 => (rz y15).bind fun r => some r) f (nI 1) (nI i)) (N := D) (P := fun i => m.2.2.1 k i = wd n D i) (r1 := some (nI 1)) (r0 := some (nI 0)) (fun f => ?_) (fun f i hi hf => ?_) (n := FU) (FU_gt (by omega))
    · refine q.trans ?_
      rw [ite_some, b2_def]
      exact congrArg some (b2_of ⟨fun z => ⟨by omega, z⟩, fun z => z.2⟩)
    · show f_X10_isLed_L21 _ _ _ _ _ _ _ = _
      unfold f_X10_isLed_L21
      simp only [MG hL, e1, Option.bind_some, if_pos (nI_le (Nat.le_refl D) (show D < 2 ^ 31 by omega))]
      rfl
    · have ge : ¬ nI D ≤ nI i := nI_ge hi (by omega)
      have r1 := bk.2 i (by omega)
      have wl := wd_lt n D i
      constructor
      · intro b
        show f_X10_isLed_L21 _ _ _ _ _ _ _ = f_X10_isLed_L21 _ _ _ _ _ _ _
        conv => lhs; unfold f_X10_isLed_L21
        simp (disch := omega) only [MG hL, e1, if_neg ge, if_neg nI01, pk_mul, nI_add, (ml k hk).2 i (by omega), e2 i hi, Option.bind_some, b, if_true]
      · intro b
        show f_X10_isLed_L21 _ _ _ _ _ _ _ = _
        obtain ⟨z, rfl⟩ : ∃ z, f = z + 1 := ⟨f - 1, by omega⟩
        unfold f_X10_isLed_L21
        simp (disch := omega) only [MG hL, e1, if_neg ge, if_neg nI01, pk_mul, nI_add, (ml k hk).2 i (by omega), e2 i hi, Option.bind_some, nI_eq, if_neg b]
        exact k0 z _
def lastL (m : Mn) (n D : Nat) : Nat → Int32
  | 0 => m1
  | k + 1 => if led m n D k then nI k else lastL m n D k
theorem lastL_one {n D k : Nat} (hk : led m n D k) (u : ∀ j, j < N → led m n D j → j = k) : ∀ i, i ≤ N → lastL m n D i = (if k < i then nI k else m1) ∧ cnt (led m n D) i = if k < i then 1 else 0 := by
  intro i
  induction i with
  | zero => intro _; exact ⟨by rw [if_neg (by omega)]; rfl, by rw [if_neg (by omega)]; rfl⟩
  | succ i ih =>
    intro hi
    obtain ⟨a1, a2⟩ := ih (by omega)
    show (if led m n D i then nI i else lastL m n D i) = _ ∧ cnt (led m n D) i + (if led m n D i then 1 else 0) = _
    by_cases z : led m n D i
    · have e := u i (by omega) z
      subst e
      rw [if_neg (by omega)] at a2
      rw [if_pos z, if_pos z, a2, if_pos (by omega), if_pos (by omega)]
      exact ⟨rfl, rfl⟩
    · have ne : k ≠ i := fun e => z (by rw [← e]; exact hk)
      rw [if_neg z, if_neg z, a1, a2]
      by_cases y : k < i
      · rw [if_pos y, if_pos y, if_pos (by omega), if_pos (by omega)]; exact ⟨rfl, rfl⟩
      · rw [if_neg y, if_neg y, if_neg (by omega), if_neg (by omega)]; exact ⟨rfl, rfl⟩
theorem op_leads (sc : SC pm v t p m c h) (sm : SM v t p m c h) (vo : VOK v) (mo : MOK m (vN v)) (x : Int32) : Both (f_X9_leads 0 x) (f_X10_leads 77 x) h (fun h2 => SC pm v t p m c h2 ∧ SM v t p m c h2) := by
  have hL := sc.1
  have cm := sc.2.2.2.2.2.1
  have hpm := cm.two
  have h14 := vo.1
  by_cases c0 : m.1 = 0
  · refine ⟨m103, h, h, ?_, ?_, sc, sm⟩
    · unfold f_X9_leads
      simp only [gd_0 hL, CG hL, cm.2.1, Option.bind_some, b2_f (fun z : m.1 ≠ 0 => z c0), if_true]
    · unfold f_X10_leads
      simp only [gd_77 hL, MG hL, sm.2.2.2.2.2.1.1, Option.bind_some, c0, if_true]
  · have mo0 := mo c0
    have hw := mo0.1
    have bd := mo.bd c0
    have cp := cm.cp c0
    have e0 : ¬ nI m.1 = nI 0 := by rw [nI_eq (by omega) (by decide)]; exact c0
    have cc : ∀ y g, f_X4_follow pm x h = some (y, g) → f_X9_leads 0 x h = some (y, g) := by
      intro y g hy
      unfold f_X9_leads
      simp only [gd_0 hL, CG hL, cm.2.1, Option.bind_some, b2_t (show m.1 ≠ 0 from c0), if_neg nI01, C_pres sc, hy]
    by_cases cx : x < nI 0
    · have ra : RA h (setI h 77 30 (nI 0)) := ⟨OnlyI.set (Or.inl rfl), fun j hj => by rw [hI_setI_eq, upd_ne _ _ hj]⟩
      refine ⟨m101, h, setI h 77 30 (nI 0), cc _ _ ?_, ?_, sc.om ra.om, sm.om ra.om⟩
      · unfold f_X4_follow
        simp only [MA hL hpm]
        rw [if_neg (fun z => by rw [le_toInt] at z; rw [lt_toInt] at cx; omega)]
      · have la : f_X10_layAsked 77 x h = some (nI 0, setI h 77 30 (nI 0)) := by
          unfold f_X10_layAsked
          rw [gd_77 hL]
          have l4 : ∀ K, f_X10_layAsked_L4 77 x h K FU (nI 0) x = K (nI 0) := by
            intro K
            show f_X10_layAsked_L4 77 x h K (255 + 1) (nI 0) x = _
            unfold f_X10_layAsked_L4
            rw [if_pos (by rw [le_toInt]; rw [lt_toInt] at cx; omega)]
          have l42 : ∀ g, f_X10_layAsked_L42 77 (fun y14 h15 => (rz y14).bind fun r => some (r, h15)) FU (nI 0) x m1 g = some (nI 0, g) := by
            intro g
            show f_X10_layAsked_L42 77 _ (255 + 1) (nI 0) x m1 g = _
            unfold f_X10_layAsked_L42
            rw [if_pos m1_lt0, rz_0]
            rfl
          rw [l4]
          simp only [MP hL, Option.bind_some, if_pos cx, sub1, nI0_m1, l42]
        unfold f_X10_leads
        simp only [gd_77 hL, MG hL, sm.2.2.2.2.2.1.1, Option.bind_some, if_neg e0, la, if_true]
    · obtain ⟨n, hn, rfl⟩ := nI_of cx
      obtain ⟨D, hD⟩ := DD_ex n hn
      obtain ⟨g1, y, q1, q2, q3, q4⟩ := C_follow hL hpm cp h14 bd hn hD
      have oc : OC pm h g1 := OC.of (q2.mono (fun q z => by unfold scrC; omega))
      have sc1 := sc.oc oc
      have sm1 := sm.oc hpm oc
      obtain ⟨g2, r1, r2, r3, r4⟩ := M_asked sm1.1 hn hD
      have sc2 := sc1.om r2.om
      have sm2 := sm1.om r2.om
      have ml := sm2.ml c0
      have hL2 := sm2.1
      refine ⟨y, g1, g2, cc _ _ q1, ?_, sc2, sm2⟩
      have pre : f_X10_leads 77 (nI n) g1 = if b2 (∀ s, s < D → 0 < wd n D s) = nI 0 then some (m101, g2) else f_X10_leads_L28 77 g2 (fun y11 y12 => (if y11 = nI 0 then (some m101) else (if y11 = (nI 1) then (some y12) else (some m1))).bind fun (v13 : Int32) => some (v13, g2)) FU (nI 0) m1 (nI 0) := by
        unfold f_X10_leads
        simp only [gd_77 sm1.1, MG sm1.1, sm1.2.2.2.2.2.1.1, Option.bind_some, if_neg e0, r1]
      rw [pre]
      simp only [b2_eq0]
      by_cases cz : ∀ s, s < D → 0 < wd n D s
      · rw [if_neg (fun z => z cz)]
        have lp : f_X10_leads_L28 77 g2 (fun y11 y12 => (if y11 = nI 0 then (some m101) else (if y11 = (nI 1) then (some y12) else (some m1))).bind fun (v13 : Int32) => some (v13, g2)) FU (nI 0) m1 (nI 0) = some (if cnt (led m n D) (vN v) = 0 then m101 else if cnt (led m n D) (vN v) = 1 then lastL m n D (vN v) else m1, g2) := by
          refine lp_up (W := fun f i => f_X10_leads_L28 77 g2 (fun y11 y12 => (if y11 = nI 0 then (some m101) else (if y11 = (nI 1) then (some y12) else (some m1))).bind fun (v13 : Int32) => some (v13, g2)) f (nI (cnt (led m n D) i)) (lastL m n D i) (nI i)) (N := vN v) (fun f => ?_) (fun f i hi => ?_) FU 0 (Nat.zero_le _) (FU_gt (by omega))
          · show f_X10_leads_L28 _ _ _ _ _ _ _ = _
            have cl := cnt_le (led m n D) (vN v)
            unfold f_X10_leads_L28
            simp only [MG hL2, sm2.2.2.2.2.1.1, Option.bind_some, if_pos (nI_le (Nat.le_refl (vN v)) (show vN v < 2 ^ 31 by omega))]
            simp (disch := omega) only [nI_eq, ite_some, Option.bind_some]
          · show f_X10_leads_L28 _ _ _ _ _ _ _ = f_X10_leads_L28 _ _ _ _ _ _ _
            conv => lhs; unfold f_X10_leads_L28
            simp only [MG hL2, sm2.2.2.2.2.1.1, Option.bind_some, if_neg (nI_ge hi (show vN v < 2 ^ 31 by omega)), M_led hL2 ml h14 bd hD hi r3 r4, ite_some, b2_bnd, nI_b2, nI_add]
            congr 1
            show _ = if led m n D i then nI i else lastL m n D i
            simp only [b2_eq0]
            by_cases z : led m n D i
            · rw [if_neg (fun w => w z), if_pos z]
            · rw [if_pos z, if_neg z]
        rw [lp]
        congr 2
        by_cases ex : ∃ k, k < vN v ∧ led m n D k
        · obtain ⟨k, ⟨k1, k2⟩, k3⟩ := pk_least (fun k => k < vN v ∧ led m n D k) ex
          rw [q4 k k1 k2 (fun j hj z => k3 j hj ⟨by omega, z⟩)]
          by_cases ce : m.2.1 k = D
          · have un : ∀ j, j < vN v → led m n D j → j = k := fun j hj z => mo0.2.2.2.2.2.1 k j k1 hj ⟨⟨by rw [ce]; exact z.1, Nat.le_refl _⟩, fun s hs => by rw [z.2 s (by omega), k2.2 s (by omega)]⟩
            obtain ⟨l1, l2⟩ := lastL_one k2 un (vN v) (Nat.le_refl _)
            rw [if_pos k1] at l1 l2
            rw [if_pos ce, l2, l1]
            rfl
          · have kl := k2.1
            obtain ⟨j, j1, j2, j3⟩ := mo0.2.2.2.2.2.2 k D k1 (by omega)
            have jl : led m n D j := ⟨j3.1.1, fun s hs => by rw [j3.2 s hs, k2.2 s hs]⟩
            have one : cnt (fun i => i = k) (vN v) < cnt (led m n D) (vN v) := cnt_lt (j := j) (fun i _ e => by rw [e]; exact k2) j1 jl j2
            have pos : 0 < cnt (fun i => i = k) (vN v) := cnt_pos.mpr ⟨k, k1, rfl⟩
            rw [if_neg ce, if_neg (by omega), if_neg (by omega)]
        · have z : cnt (led m n D) (vN v) = 0 := by
            by_cases w : 0 < cnt (led m n D) (vN v)
            · exact absurd (cnt_pos.mp w) ex
            · omega
          rw [if_pos z, q3 (fun k hk w => ex ⟨k, hk, w⟩)]
      · rw [if_pos cz]
        congr 2
        refine (q3 (fun k hk w => cz (fun s hs => ?_))).symm
        have := (bd k hk).2 s (by have := w.1; omega)
        rw [← w.2 s hs]
        omega
end
