/-! WHAT THE CODES OF THE NAMES SAY -/
def lcp (f g : Nat → Nat) : Nat → Nat → Nat
  | _, 0 => 0
  | i, n + 1 => if f i = g i then 1 + lcp f g (i + 1) n else 0
theorem lcp_iff (f g : Nat → Nat) (n : Nat) : ∀ i d, d ≤ lcp f g i n ↔ d ≤ n ∧ ∀ x, x < d → f (i + x) = g (i + x) := by
  induction n with
  | zero =>
    intro i d
    unfold lcp
    exact ⟨fun h => ⟨h, fun x hx => by omega⟩, fun h => h.1⟩
  | succ n ih =>
    intro i d
    unfold lcp
    by_cases e : f i = g i
    · rw [if_pos e]
      cases d with
      | zero => exact ⟨fun _ => ⟨by omega, fun x hx => by omega⟩, fun _ => by omega⟩
      | succ d =>
        rw [show d + 1 ≤ 1 + lcp f g (i + 1) n ↔ d ≤ lcp f g (i + 1) n by omega, ih]
        refine ⟨fun h => ⟨by omega, fun x hx => ?_⟩, fun h => ⟨by omega, fun x hx => ?_⟩⟩
        · cases x with
          | zero => exact e
          | succ x => rw [show i + (x + 1) = i + 1 + x by omega]; exact h.2 x (by omega)
        · rw [show i + 1 + x = i + (x + 1) by omega]; exact h.2 (x + 1) (by omega)
    · rw [if_neg e]
      refine ⟨fun h => ⟨by omega, fun x hx => by omega⟩, fun h => ?_⟩
      by_cases z : d = 0
      · omega
      · exact absurd (h.2 0 (by omega)) e
def fsum (f : Nat → Nat) : Nat → Nat
  | 0 => 0
  | k + 1 => fsum f k + f k
def fmax (f : Nat → Nat) : Nat → Nat
  | 0 => 0
  | k + 1 => max (fmax f k) (f k)
theorem fmax_succ (f : Nat → Nat) (k : Nat) : fmax f (k + 1) = max (fmax f k) (f k) := rfl
theorem fsum_succ (f : Nat → Nat) (k : Nat) : fsum f (k + 1) = fsum f k + f k := rfl
theorem fmax_le (f : Nat → Nat) (n d : Nat) : fmax f n ≤ d ↔ ∀ k, k < n → f k ≤ d := by
  induction n with
  | zero => exact ⟨fun _ k hk => by omega, fun _ => Nat.zero_le d⟩
  | succ n ih =>
    unfold fmax
    rw [Nat.max_le, ih]
    refine ⟨fun h k hk => ?_, fun h => ⟨fun k hk => h k (by omega), h n (by omega)⟩⟩
    by_cases e : k = n
    · rw [e]; exact h.2
    · exact h.1 k (by omega)
/-- digits that two names' codes share -/
def sd (v : Vw) (j k : Nat) : Nat := lcp (vd v j) (vd v k) 0 (min (vl v j) (vl v k))
theorem sd_iff (v : Vw) (j k d : Nat) : d ≤ sd v j k ↔ d ≤ vl v j ∧ d ≤ vl v k ∧ ∀ i, i < d → vd v j i = vd v k i := by
  unfold sd
  rw [lcp_iff, Nat.le_min]
  simp only [Nat.zero_add, and_assoc]
theorem sd_le (v : Vw) (j k : Nat) : sd v j k ≤ vl v j ∧ sd v j k ≤ vl v k := by
  have := (sd_iff v j k (sd v j k)).mp (Nat.le_refl _)
  exact ⟨this.1, this.2.1⟩
abbrev bg (v : Vw) (j d k : Nat) : Prop := d ≤ vl v k ∧ ∀ i, i < d → vd v j i = vd v k i
abbrev tw (v : Vw) (a b : Nat) : Prop := a ≠ b ∧ vl v a = vl v b ∧ ∀ i, i < vl v a → vd v a i = vd v b i
abbrev ch (v : Vw) (p : Sq) (k : Nat) : Prop := p.1 ≤ vl v k ∧ ∀ i, i < p.1 → vd v k i = p.2 i
abbrev ty (v : Vw) (p : Sq) (k a : Nat) : Prop := a + vl v k ≤ p.1 ∧ ∀ i, i < vl v k → vd v k i = p.2 (a + i)
/-- the place of a name in the choice by its first d digits -/
def pl (v : Vw) (a d : Nat) : Nat := cnt (fun j => bg v a d j ∧ ah v j a) (vN v)
def prs (v : Vw) (a : Nat) : Nat → Nat
  | 0 => pl v a 0 + 1
  | d + 1 => min (prs v a d) (d + 1 + pl v a (d + 1) + 1)
def dl (v : Vw) (a : Nat) : Nat := fmax (fun k => if k = a then 0 else sd v k a + 1) (vN v)
def tel (v : Vw) (a : Nat) : Int32 := if dl v a ≤ vl v a then nI (dl v a) else m1
def ftel (v : Vw) : Nat → Int32
  | 0 => m1
  | k + 1 => imx (ftel v k) (tel v k)
theorem vd_rng {v : Vw} (vo : VOK v) {k i : Nat} (hk : k < vN v) (hi : i < vl v k) : 2 ≤ vd v k i ∧ vd v k i ≤ 9 := by
  have := vo.2.2.1 k hk i hi
  exact vo.2.2.2.2.1 _ (by omega)
theorem m101_ne {n : Nat} (h : n < 2 ^ 31) : ¬ m101 = nI n := by
  intro e
  have := congrArg Int32.toInt e
  rw [nI_toInt h, show m101.toInt = -101 from by decide] at this
  omega
theorem m1_ne {n : Nat} (h : n < 2 ^ 31) : ¬ m1 = nI n := by
  intro e
  have := congrArg Int32.toInt e
  rw [nI_toInt h, show m1.toInt = -1 from by decide] at this
  omega
section
variable {v : Vw} {ea : Nat → Nat} {h : Hp} {p : Sq}
theorem E_shared {j k e f : Nat} (ce : CE v j e h) (cf : CE v k f h) (vo : VOK v) (hj : j < vN v) (hk : k < vN v) : f_X1_sharedDigits e f h = some (nI (sd v j k)) := by
  have hl := (vo.2.1 j hj).2
  have hl2 := (vo.2.1 k hk).2
  have key : ∀ n i, i ≤ min (vl v j) (vl v k) → min (vl v j) (vl v k) - i < n → f_X1_sharedDigits_L2 e f h (fun y12 => some y12) n (nI i) = some (nI (i + lcp (vd v j) (vd v k) i (min (vl v j) (vl v k) - i))) := by
    intro n
    induction n with
    | zero => intro i a b; omega
    | succ n ih =>
      intro i a b
      unfold f_X1_sharedDigits_L2
      by_cases c1 : vl v j ≤ i
      · simp (disch := omega) only [EG ce (by omega), EG cf (by omega), Option.bind_some, nI_leI, if_pos c1]
        rw [show min (vl v j) (vl v k) - i = 0 by omega]
        rfl
      · by_cases c2 : vl v k ≤ i
        · simp (disch := omega) only [EG ce (by omega), EG cf (by omega), Option.bind_some, nI_leI, if_neg c1, if_pos c2]
          rw [show min (vl v j) (vl v k) - i = 0 by omega]
          rfl
        · obtain ⟨z, hz⟩ : ∃ z, min (vl v j) (vl v k) - i = z + 1 := ⟨min (vl v j) (vl v k) - i - 1, by omega⟩
          simp (disch := omega) only [EG ce (by omega), EG cf (by omega), Option.bind_some, nI_leI, if_neg c1, if_neg c2, nI_add]
          rw [hz]
          unfold lcp
          by_cases c3 : vd v j i = vd v k i
          · rw [if_pos (by rw [c3]), if_pos c3, ih (i + 1) (by omega) (by omega), show min (vl v j) (vl v k) - (i + 1) = z by omega, Nat.add_assoc]
          · have ne : ¬ nI (vd v j i) = nI (vd v k i) := by
              have r1 := vd_rng vo hj (i := i) (by omega)
              have r2 := vd_rng vo hk (i := i) (by omega)
              rw [nI_eq (by omega) (by omega)]
              exact c3
            rw [if_neg ne, if_neg c3]
            rfl
  unfold f_X1_sharedDigits
  rw [(EG ce (by omega)).1, key FU 0 (Nat.zero_le _) (FU_gt (by omega))]
  unfold sd
  rw [Nat.zero_add, Nat.sub_zero]
theorem R_shared (hL : Lay h) (cn : CN v ea h) (vo : VOK v) {j k : Nat} (hj : j < vN v) (hk : k < vN v) : f_X7_sharedDigits 8 (nI j) (nI k) h = some (nI (sd v j k)) := by
  unfold f_X7_sharedDigits
  simp only [gd_8 hL, R_get hL cn hk, R_get hL cn hj, Option.bind_some, Option.elim_some, E_shared (cn.ce hj) (cn.ce hk) vo hj hk]
theorem E_begins {k e : Nat} (hL : Lay h) (ce : CE v k e h) (vo : VOK v) (hk : k < vN v) (hp : IOK p) (hc : CI p h) : f_X1_beginsWith e 3 h = some (b2 (ch v p k)) := by
  have hl := vo.2.1 k hk
  have r := row_inp hL hp hc
  have hp1 := hp.1
  unfold f_X1_beginsWith
  rw [(EG ce (by omega)).1]
  have q := lp_all0 (W := fun n i => f_X1_beginsWith_L2 e 3 h ((rz (nI 1)).bind fun r => some r) n (nI i)) (N := p.1) (P := fun i => i < vl v k ∧ vd v k i = p.2 i) (r1 := some (nI 1)) (r0 := some (nI 0)) (fun n => ?_) (fun n i hi _ => ?_) (n := FU) (FU_gt (by omega))
  · refine q.trans ?_
    rw [ite_some, b2_def]
    refine congrArg some (b2_of ⟨fun z => ⟨?_, fun i hi => (z i hi).2⟩, fun z i hi => ⟨by omega, z.2 i hi⟩⟩)
    by_cases c0 : p.1 = 0
    · omega
    · have := (z (p.1 - 1) (by omega)).1
      omega
  · show f_X1_beginsWith_L2 _ _ _ _ _ _ = _
    unfold f_X1_beginsWith_L2
    simp only [r.size, Option.bind_some, if_pos (nI_le (Nat.le_refl p.1) (by omega)), rz_1]
  · have e1 : ¬ nI p.1 ≤ nI i := nI_ge hi (by omega)
    have e2 := hp.2 i hi
    constructor
    · rintro ⟨a, b⟩
      show f_X1_beginsWith_L2 _ _ _ _ _ _ = _
      conv => lhs; unfold f_X1_beginsWith_L2
      simp only [r.size, Option.bind_some, if_neg e1, E_digit ce (by omega) a, r.get hi, hc.2 i hi, b, if_true, nI_add]
    · intro a
      show f_X1_beginsWith_L2 _ _ _ _ _ _ = _
      unfold f_X1_beginsWith_L2
      simp only [r.size, Option.bind_some, if_neg e1, r.get hi, hc.2 i hi]
      by_cases c : i < vl v k
      · have r1 := vd_rng vo hk c
        simp only [E_digit ce (by omega) c, Option.bind_some, rz_0]
        rw [if_neg]
        rw [nI_eq (by omega) (by omega)]
        exact fun z => a ⟨c, z⟩
      · simp only [E_digitN ce (by omega) (Or.inr (nI_le (show vl v k ≤ i by omega) (by omega))), Option.bind_some, rz_0]
        rw [if_neg (m101_ne (by omega))]
theorem R_begins (hL : Lay h) (cn : CN v ea h) (vo : VOK v) (hp : IOK p) (hc : CI p h) {k : Nat} (hk : k < vN v) : f_X7_beginsWith 8 (nI k) 3 h = some (b2 (ch v p k)) := by
  unfold f_X7_beginsWith
  simp only [gd_8 hL, R_get hL cn hk, Option.bind_some, Option.elim_some, E_begins hL (cn.ce hk) vo hk hp hc, ite_some, b2_bnd, rz_b2]
theorem E_typed {k e a : Nat} (hL : Lay h) (ce : CE v k e h) (vo : VOK v) (hk : k < vN v) (hp : IOK p) (hc : CI p h) (ha : a ≤ 10) : f_X1_isTypedAt e 3 (nI a) h = some (b2 (ty v p k a)) := by
  have hl := vo.2.1 k hk
  have r := row_inp hL hp hc
  have hp1 := hp.1
  unfold f_X1_isTypedAt
  rw [(EG ce (by omega)).1]
  have q := lp_all0 (W := fun n i => f_X1_isTypedAt_L2 e 3 (nI a) h ((rz (nI 1)).bind fun r => some r) n (nI i)) (N := vl v k) (P := fun i => a + i < p.1 ∧ vd v k i = p.2 (a + i)) (r1 := some (nI 1)) (r0 := some (nI 0)) (fun n => ?_) (fun n i hi _ => ?_) (n := FU) (FU_gt (by omega))
  · refine q.trans ?_
    rw [ite_some, b2_def]
    refine congrArg some (b2_of ⟨fun z => ⟨?_, fun i hi => (z i hi).2⟩, fun z i hi => ⟨by omega, z.2 i hi⟩⟩)
    have := (z (vl v k - 1) (by omega)).1
    omega
  · show f_X1_isTypedAt_L2 _ _ _ _ _ _ _ = _
    unfold f_X1_isTypedAt_L2
    simp only [EG ce (by omega), Option.bind_some, if_pos (nI_le (Nat.le_refl (vl v k)) (by omega)), rz_1]
  · have e1 : ¬ nI (vl v k) ≤ nI i := nI_ge hi (by omega)
    have r1 := vd_rng vo hk hi
    constructor
    · rintro ⟨a, b⟩
      show f_X1_isTypedAt_L2 _ _ _ _ _ _ _ = _
      conv => lhs; unfold f_X1_isTypedAt_L2
      simp only [EG ce (by omega), Option.bind_some, if_neg e1, nI_add, r.get a, hc.2 _ a, ← b, (EG ce (by omega)).2.2.2.2.2.2.2 i hi, if_true]
    · intro na
      show f_X1_isTypedAt_L2 _ _ _ _ _ _ _ = _
      unfold f_X1_isTypedAt_L2
      simp only [EG ce (by omega), Option.bind_some, if_neg e1, nI_add, (EG ce (by omega)).2.2.2.2.2.2.2 i hi]
      by_cases c : a + i < p.1
      · have e2 := hp.2 _ c
        simp only [r.get c, hc.2 _ c, Option.bind_some, rz_0]
        rw [if_neg]
        rw [nI_eq (by omega) (by omega)]
        exact fun z => na ⟨c, z.symm⟩
      · simp only [r.getN (Or.inr (nI_le (show p.1 ≤ a + i by omega) (by omega))), Option.bind_some, rz_0]
        rw [if_neg (m101_ne (by omega))]
theorem R_typed (hL : Lay h) (cn : CN v ea h) (vo : VOK v) (hp : IOK p) (hc : CI p h) {k a : Nat} (hk : k < vN v) (ha : a ≤ 10) : f_X7_isTypedAt 8 (nI k) 3 (nI a) h = some (b2 (ty v p k a)) := by
  unfold f_X7_isTypedAt
  simp only [gd_8 hL, R_get hL cn hk, Option.bind_some, Option.elim_some, E_typed hL (cn.ce hk) vo hk hp hc ha, ite_some, b2_bnd, rz_b2]
-- Choices
theorem C_placeIn (hL : Lay h) (cn : CN v ea h) (vo : VOK v) {k d : Nat} (hk : k < vN v) (hd : d ≤ vl v k) : f_X0_placeIn 14 8 (nI d) (nI k) h = some (nI (pl v k d)) := by
  have hN := cn.1
  have hl := vo.2.1 k hk
  unfold f_X0_placeIn
  rw [gd_14 hL]
  refine lp_up (W := fun n i => f_X0_placeIn_L6 8 (nI d) (nI k) h (fun y8 => some y8) n (nI (cnt (fun j => bg v k d j ∧ ah v j k) i)) (nI i)) (N := vN v) (fun n => ?_) (fun n i hi => ?_) FU 0 (Nat.zero_le _) (FU_gt (by omega))
  · show f_X0_placeIn_L6 _ _ _ _ _ _ _ _ = _
    unfold f_X0_placeIn_L6
    simp only [R_size hL cn, Option.bind_some, if_pos (nI_le (Nat.le_refl (vN v)) (by omega))]
    rfl
  · show f_X0_placeIn_L6 _ _ _ _ _ _ _ _ = f_X0_placeIn_L6 _ _ _ _ _ _ _ _
    have hsd := sd_le v i k
    conv => lhs; unfold f_X0_placeIn_L6
    simp only [R_size hL cn, Option.bind_some, if_neg (nI_ge hi (show vN v < 2 ^ 31 by omega)), R_ahead hL cn vo hi hk, R_shared hL cn vo hi hk, nI_ltI (show sd v i k < 2 ^ 31 by omega) (show d < 2 ^ 31 by omega), ite_some, nI_add, b2_eq0]
    congr 1
    rw [cnt_succ]
    by_cases c1 : ah v i k
    · by_cases c2 : d ≤ sd v i k
      · have c3 := (sd_iff v i k d).mp c2
        rw [if_neg (fun z => z c1), if_neg (by omega), if_pos ⟨⟨c3.1, fun x hx => (c3.2.2 x hx).symm⟩, c1⟩]
      · rw [if_neg (fun z => z c1), if_pos (by omega), if_neg (fun z => c2 ((sd_iff v i k d).mpr ⟨z.1.1, hd, fun x hx => (z.1.2 x hx).symm⟩)), Nat.add_zero]
    · rw [if_pos c1, if_neg (fun z => c1 z.2), Nat.add_zero]
theorem pl_le (v : Vw) (a d : Nat) : pl v a d ≤ vN v := cnt_le _ _
theorem prs_le (v : Vw) (a d : Nat) : prs v a d ≤ vN v + 1 := by
  induction d with
  | zero => unfold prs; have := pl_le v a 0; omega
  | succ d ih => unfold prs; omega
theorem imn_nI {a b : Nat} (ha : a < 2 ^ 31) (hb : b < 2 ^ 31) : imn (nI a) (nI b) = nI (min a b) := by
  unfold imn
  simp only [nI_ltI hb ha]
  split
  · rw [Nat.min_eq_right (by omega)]
  · rw [Nat.min_eq_left (by omega)]
theorem imx_nI {a b : Nat} (ha : a < 2 ^ 31) (hb : b < 2 ^ 31) : imx (nI a) (nI b) = nI (max a b) := by
  unfold imx
  simp only [nI_ltI ha hb]
  split
  · rw [Nat.max_eq_right (by omega)]
  · rw [Nat.max_eq_left (by omega)]
theorem C_presses (hL : Lay h) (cn : CN v ea h) (vo : VOK v) {k : Nat} (hk : k < vN v) : f_X0_presses 14 8 (nI k) h = some (nI (prs v k (vl v k))) := by
  have hN := cn.1
  have hl := vo.2.1 k hk
  unfold f_X0_presses
  rw [gd_14 hL, C_placeIn hL cn vo hk (Nat.zero_le _)]
  simp only [Option.bind_some, nI_add]
  refine lp_up (W := fun n i => f_X0_presses_L13 14 8 (nI k) h (fun y8 => some y8) n (nI (prs v k i)) (nI (i + 1))) (N := vl v k) (fun n => ?_) (fun n i hi => ?_) FU 0 (Nat.zero_le _) (FU_gt (by omega))
  · show f_X0_presses_L13 _ _ _ _ _ _ _ _ = _
    unfold f_X0_presses_L13
    simp only [R_len hL cn vo hk, Option.bind_some, if_pos (nI_lt (show vl v k < vl v k + 1 by omega) (by omega))]
  · show f_X0_presses_L13 _ _ _ _ _ _ _ _ = f_X0_presses_L13 _ _ _ _ _ _ _ _
    have h1 := prs_le v k i
    have h2 := pl_le v k (i + 1)
    conv => lhs; unfold f_X0_presses_L13
    simp only [R_len hL cn vo hk, Option.bind_some, if_neg (nI_nlt (show i + 1 ≤ vl v k by omega) (by omega)), C_placeIn hL cn vo hk (show i + 1 ≤ vl v k by omega), nI_add]
    rw [imn_nI (by omega) (by omega)]
    rfl
theorem dl_le (v : Vw) (vo : VOK v) (a : Nat) (m : Nat) (hm : m ≤ vN v) : fmax (fun k => if k = a then 0 else sd v k a + 1) m ≤ 9 := by
  rw [fmax_le]
  intro k hk
  have := (vo.2.1 k (by omega)).2
  have := (sd_le v k a).1
  show (if k = a then 0 else sd v k a + 1) ≤ 9
  split <;> omega
theorem C_tel (hL : Lay h) (cn : CN v ea h) (vo : VOK v) {k : Nat} (hk : k < vN v) : f_X0_distinguishingLength 14 8 (nI k) h = some (tel v k) := by
  have hN := cn.1
  have hl := vo.2.1 k hk
  unfold f_X0_distinguishingLength
  rw [gd_14 hL]
  refine lp_up (W := fun n i => f_X0_distinguishingLength_L5 8 (nI k) h (fun y6 => (f_X7_lengthOf 8 (nI k) h).bind fun x7 => (if x7 < y6 then (some m1) else (some y6)).bind fun (v8 : Int32) => some v8) n (nI (fmax (fun j => if j = k then 0 else sd v j k + 1) i)) (nI i)) (N := vN v) (fun n => ?_) (fun n i hi => ?_) FU 0 (Nat.zero_le _) (FU_gt (by omega))
  · show f_X0_distinguishingLength_L5 _ _ _ _ _ _ _ = _
    have h1 := dl_le v vo k (vN v) (Nat.le_refl _)
    unfold f_X0_distinguishingLength_L5
    simp only [R_size hL cn, Option.bind_some, if_pos (nI_le (Nat.le_refl (vN v)) (show vN v < 2 ^ 31 by omega)), R_len hL cn vo hk, nI_ltI (show vl v k < 2 ^ 31 by omega) (show fmax (fun j => if j = k then 0 else sd v j k + 1) (vN v) < 2 ^ 31 by omega)]
    unfold tel dl
    by_cases c : vl v k < fmax (fun j => if j = k then 0 else sd v j k + 1) (vN v)
    · rw [if_pos c, if_neg (by omega)]; rfl
    · rw [if_neg c, if_pos (by omega)]; rfl
  · show f_X0_distinguishingLength_L5 _ _ _ _ _ _ _ = f_X0_distinguishingLength_L5 _ _ _ _ _ _ _
    have h1 := dl_le v vo k i (by omega)
    have hsd := (sd_le v i k).2
    conv => lhs; unfold f_X0_distinguishingLength_L5
    simp only [R_size hL cn, Option.bind_some, if_neg (nI_ge hi (show vN v < 2 ^ 31 by omega)), R_shared hL cn vo hi hk, nI_add, nI_eq (show i < 2 ^ 31 by omega) (show k < 2 ^ 31 by omega)]
    rw [fmax_succ]
    by_cases c : i = k
    · simp only [if_pos c, Option.bind_some, Nat.max_zero]
    · simp only [if_neg c, Option.bind_some]
      rw [imx_nI (by omega) (by omega)]
theorem R_twin (hL : Lay h) (cn : CN v ea h) (vo : VOK v) {j k : Nat} (hj : j < vN v) (hk : k < vN v) : f_X7_areTwins 8 (nI j) (nI k) h = some (b2 (tw v j k)) := by
  have hN := cn.1
  have hl := vo.2.1 k hk
  have hl2 := vo.2.1 j hj
  have hsd := sd_le v j k
  unfold f_X7_areTwins
  simp (disch := omega) only [gd_8 hL, R_get hL cn hk, R_get hL cn hj, Option.bind_some, Option.elim_some, EG (cn.ce hk) (show vl v k < 2 ^ 31 by omega), EG (cn.ce hj) (show vl v j < 2 ^ 31 by omega), E_shared (cn.ce hj) (cn.ce hk) vo hj hk, nI_eq, ite_some, b2_def, b2_and, b2_nor, rz_b2, rz_0]
  congr 1
  apply b2_of
  constructor
  · rintro ⟨a, b, c⟩
    exact ⟨a, b.symm, ((sd_iff v j k (vl v j)).mp (by omega)).2.2⟩
  · rintro ⟨a, b, c⟩
    have := (sd_iff v j k (vl v j)).mpr ⟨Nat.le_refl _, by omega, c⟩
    exact ⟨a, b.symm, by omega⟩
theorem C_below (hL : Lay h) (cn : CN v ea h) (vo : VOK v) {k e : Nat} (hk : k < vN v) (he : e ≤ vN v) : f_X0_twinsBelow 14 8 (nI e) (nI k) h = some (nI (cnt (tw v k) e)) := by
  have hN := cn.1
  unfold f_X0_twinsBelow
  rw [gd_14 hL]
  refine lp_up (W := fun n i => f_X0_twinsBelow_L6 8 (nI e) (nI k) h (fun y8 => some y8) n (nI (cnt (tw v k) i)) (nI i)) (N := e) (fun n => ?_) (fun n i hi => ?_) FU 0 (Nat.zero_le _) (FU_gt (by omega))
  · show f_X0_twinsBelow_L6 _ _ _ _ _ _ _ _ = _
    unfold f_X0_twinsBelow_L6
    simp only [if_pos (nI_le (Nat.le_refl e) (by omega))]
  · show f_X0_twinsBelow_L6 _ _ _ _ _ _ _ _ = f_X0_twinsBelow_L6 _ _ _ _ _ _ _ _
    conv => lhs; unfold f_X0_twinsBelow_L6
    simp only [Option.bind_some, if_neg (nI_ge hi (show e < 2 ^ 31 by omega)), R_twin hL cn vo hk (show i < vN v by omega), ite_some, nI_b2', nI_add]
    rfl
theorem C_twins (hL : Lay h) (cn : CN v ea h) (vo : VOK v) {k : Nat} (hk : k < vN v) : f_X0_twins 14 8 (nI k) h = some (nI (cnt (tw v k) (vN v))) := by
  unfold f_X0_twins
  simp only [gd_14 hL, R_size hL cn, Option.bind_some, C_below hL cn vo hk (Nat.le_refl _)]
theorem C_withTwins (hL : Lay h) (cn : CN v ea h) (vo : VOK v) : f_X0_namesWithTwins 14 8 h = some (nI (cnt (fun k => 0 < cnt (tw v k) (vN v)) (vN v))) := by
  have hN := cn.1
  unfold f_X0_namesWithTwins
  rw [gd_14 hL]
  refine lp_up (W := fun n i => f_X0_namesWithTwins_L4 14 8 h (fun y8 => some y8) n (nI (cnt (fun k => 0 < cnt (tw v k) (vN v)) i)) (nI i)) (N := vN v) (fun n => ?_) (fun n i hi => ?_) FU 0 (Nat.zero_le _) (FU_gt (by omega))
  · show f_X0_namesWithTwins_L4 _ _ _ _ _ _ _ = _
    unfold f_X0_namesWithTwins_L4
    simp only [R_size hL cn, Option.bind_some, if_pos (nI_le (Nat.le_refl (vN v)) (show vN v < 2 ^ 31 by omega))]
  · show f_X0_namesWithTwins_L4 _ _ _ _ _ _ _ = f_X0_namesWithTwins_L4 _ _ _ _ _ _ _
    have hc := cnt_le (tw v i) (vN v)
    conv => lhs; unfold f_X0_namesWithTwins_L4
    simp only [R_size hL cn, Option.bind_some, if_neg (nI_ge hi (show vN v < 2 ^ 31 by omega)), C_twins hL cn vo hi, nI_leI (show cnt (tw v i) (vN v) < 2 ^ 31 by omega) (show 0 < 2 ^ 31 by omega), nI_add, ite_some]
    congr 1
    rw [cnt_succ]
    by_cases c : 0 < cnt (tw v i) (vN v)
    · rw [if_neg (by omega), if_pos c]
    · rw [if_pos (by omega), if_neg c, Nat.add_zero]
theorem C_codes (hL : Lay h) (cn : CN v ea h) (vo : VOK v) : f_X0_differentCodes 14 8 h = some (nI (cnt (fun k => cnt (tw v k) k = 0) (vN v))) := by
  have hN := cn.1
  unfold f_X0_differentCodes
  rw [gd_14 hL]
  refine lp_up (W := fun n i => f_X0_differentCodes_L4 14 8 h (fun y8 => some y8) n (nI (cnt (fun k => cnt (tw v k) k = 0) i)) (nI i)) (N := vN v) (fun n => ?_) (fun n i hi => ?_) FU 0 (Nat.zero_le _) (FU_gt (by omega))
  · show f_X0_differentCodes_L4 _ _ _ _ _ _ _ = _
    unfold f_X0_differentCodes_L4
    simp only [R_size hL cn, Option.bind_some, if_pos (nI_le (Nat.le_refl (vN v)) (show vN v < 2 ^ 31 by omega))]
  · show f_X0_differentCodes_L4 _ _ _ _ _ _ _ = f_X0_differentCodes_L4 _ _ _ _ _ _ _
    have hc := cnt_le (tw v i) i
    conv => lhs; unfold f_X0_differentCodes_L4
    simp only [R_size hL cn, Option.bind_some, if_neg (nI_ge hi (show vN v < 2 ^ 31 by omega)), C_below hL cn vo hi (Nat.le_of_lt hi), nI_eq (show cnt (tw v i) i < 2 ^ 31 by omega) (show 0 < 2 ^ 31 by omega), nI_add, ite_some]
    congr 1
    rw [cnt_succ]
    by_cases c : cnt (tw v i) i = 0
    · rw [if_pos c, if_pos c]
    · rw [if_neg c, if_neg c]; rfl
theorem C_most (hL : Lay h) (cn : CN v ea h) (vo : VOK v) : f_X0_greatestDistinguishingLength 14 8 h = some (ftel v (vN v)) := by
  have hN := cn.1
  unfold f_X0_greatestDistinguishingLength
  rw [gd_14 hL]
  refine lp_up (W := fun n i => f_X0_greatestDistinguishingLength_L4 14 8 h (fun y8 => some y8) n (ftel v i) (nI i)) (N := vN v) (fun n => ?_) (fun n i hi => ?_) FU 0 (Nat.zero_le _) (FU_gt (by omega))
  · show f_X0_greatestDistinguishingLength_L4 _ _ _ _ _ _ _ = _
    unfold f_X0_greatestDistinguishingLength_L4
    simp only [R_size hL cn, Option.bind_some, if_pos (nI_le (Nat.le_refl (vN v)) (show vN v < 2 ^ 31 by omega))]
  · show f_X0_greatestDistinguishingLength_L4 _ _ _ _ _ _ _ = f_X0_greatestDistinguishingLength_L4 _ _ _ _ _ _ _
    conv => lhs; unfold f_X0_greatestDistinguishingLength_L4
    simp only [R_size hL cn, Option.bind_some, if_neg (nI_ge hi (show vN v < 2 ^ 31 by omega)), C_tel hL cn vo hi, nI_add]
    rfl
theorem C_sumP (hL : Lay h) (cn : CN v ea h) (vo : VOK v) : f_X0_sumOfPresses 14 8 h = some (nI (fsum (fun k => vu v k * prs v k (vl v k)) (vN v))) := by
  have hN := cn.1
  unfold f_X0_sumOfPresses
  rw [gd_14 hL]
  refine lp_up (W := fun n i => f_X0_sumOfPresses_L4 14 8 h (fun y8 => some y8) n (nI (fsum (fun k => vu v k * prs v k (vl v k)) i)) (nI i)) (N := vN v) (fun n => ?_) (fun n i hi => ?_) FU 0 (Nat.zero_le _) (FU_gt (by omega))
  · show f_X0_sumOfPresses_L4 _ _ _ _ _ _ _ = _
    unfold f_X0_sumOfPresses_L4
    simp only [R_size hL cn, Option.bind_some, if_pos (nI_le (Nat.le_refl (vN v)) (show vN v < 2 ^ 31 by omega))]
  · show f_X0_sumOfPresses_L4 _ _ _ _ _ _ _ = f_X0_sumOfPresses_L4 _ _ _ _ _ _ _
    conv => lhs; unfold f_X0_sumOfPresses_L4
    simp only [R_size hL cn, Option.bind_some, if_neg (nI_ge hi (show vN v < 2 ^ 31 by omega)), R_freq hL cn vo hi, C_presses hL cn vo hi, pk_mul, nI_add]
    rfl
theorem R_sumF (hL : Lay h) (cn : CN v ea h) (vo : VOK v) : f_X7_sumOfFrequencies 8 h = some (nI (fsum (vu v) (vN v))) := by
  have hN := cn.1
  unfold f_X7_sumOfFrequencies
  simp only [gd_8 hL, CG hL, Option.bind_some, aln_of (hL.a (a := 9) (by decide) rfl)]
  refine lp_up (W := fun n i => f_X7_sumOfFrequencies_L13 9 (nI 14) h (fun y8 => some y8) n (nI (fsum (vu v) (min i (vN v)))) (nI i)) (N := 14) (fun n => ?_) (fun n i hi => ?_) FU 0 (Nat.zero_le _) (FU_gt (by omega))
  · show f_X7_sumOfFrequencies_L13 _ _ _ _ _ _ _ = _
    unfold f_X7_sumOfFrequencies_L13
    rw [if_pos (nI_le (Nat.le_refl 14) (by decide)), Nat.min_eq_right hN]
  · show f_X7_sumOfFrequencies_L13 _ _ _ _ _ _ _ = f_X7_sumOfFrequencies_L13 _ _ _ _ _ _ _
    conv => lhs; unfold f_X7_sumOfFrequencies_L13
    simp only [if_neg (nI_ge hi (show 14 < 2 ^ 31 by omega)), R_aldN hL cn hi, Option.bind_some, nI_add]
    by_cases c : i < vN v
    · simp only [if_pos c, Option.elim_some, EG (cn.ce c) (show vl v i < 2 ^ 31 by have := (vo.2.1 i c).2; omega), Option.bind_some, nI_add]
      rw [Nat.min_eq_left (by omega), Nat.min_eq_left (by omega)]
      rfl
    · simp only [if_neg c, Option.elim_none, Option.bind_some]
      rw [Nat.min_eq_right (by omega), Nat.min_eq_right (by omega)]
theorem R_sumL (hL : Lay h) (cn : CN v ea h) (vo : VOK v) : f_X7_sumOfLengths 8 h = some (nI (fsum (fun k => vu v k * vl v k) (vN v))) := by
  have hN := cn.1
  unfold f_X7_sumOfLengths
  simp only [gd_8 hL, CG hL, Option.bind_some, aln_of (hL.a (a := 9) (by decide) rfl)]
  refine lp_up (W := fun n i => f_X7_sumOfLengths_L13 9 (nI 14) h (fun y8 => some y8) n (nI (fsum (fun k => vu v k * vl v k) (min i (vN v)))) (nI i)) (N := 14) (fun n => ?_) (fun n i hi => ?_) FU 0 (Nat.zero_le _) (FU_gt (by omega))
  · show f_X7_sumOfLengths_L13 _ _ _ _ _ _ _ = _
    unfold f_X7_sumOfLengths_L13
    rw [if_pos (nI_le (Nat.le_refl 14) (by decide)), Nat.min_eq_right hN]
  · show f_X7_sumOfLengths_L13 _ _ _ _ _ _ _ = f_X7_sumOfLengths_L13 _ _ _ _ _ _ _
    conv => lhs; unfold f_X7_sumOfLengths_L13
    simp only [if_neg (nI_ge hi (show 14 < 2 ^ 31 by omega)), R_aldN hL cn hi, Option.bind_some, nI_add]
    by_cases c : i < vN v
    · simp only [if_pos c, Option.elim_some, EG (cn.ce c) (show vl v i < 2 ^ 31 by have := (vo.2.1 i c).2; omega), Option.bind_some, pk_mul, nI_add]
      rw [Nat.min_eq_left (by omega), Nat.min_eq_left (by omega)]
      rfl
    · simp only [if_neg c, Option.elim_none, Option.bind_some]
      rw [Nat.min_eq_right (by omega), Nat.min_eq_right (by omega)]
end
