/-! DIGEST: folds; the class -/
def mx (a : Int64) (x : Int32) : Int64 := ((31 : Int64) * a) + (Int32.toInt64 x)
def fd (st : Nat → Int64 → Int64) : Nat → Int64 → Int64
  | 0, a => a
  | n + 1, a => st n (fd st n a)
def mxs (f : Nat → Int32) (n : Nat) (a : Int64) : Int64 := fd (fun i b => mx b (f i)) n a
theorem mxs_zero (f : Nat → Int32) (a : Int64) : mxs f 0 a = a := rfl
theorem mxs_succ (f : Nat → Int32) (n : Nat) (a : Int64) : mxs f (n + 1) a = mx (mxs f n a) (f n) := rfl
theorem mxs_congr {f g : Nat → Int32} {n : Nat} (a : Int64) (h : ∀ i, i < n → f i = g i) : mxs f n a = mxs g n a := by
  induction n with
  | zero => rw [mxs_zero, mxs_zero]
  | succ n ih => rw [mxs_succ, mxs_succ, ih (fun i hi => h i (by omega)), h n (by omega)]
theorem lpC {β : Type} {G : Hp → Prop} {W : Nat → Int64 → Nat → Hp → β} {N : Nat} {st : Nat → Int64 → Int64} {K : Int64 → Hp → β} (hx : ∀ n a g, G g → W (n + 1) a N g = K a g) (hs : ∀ n a i g, i < N → G g → ∃ g', G g' ∧ W (n + 1) a i g = W n (st i a) (i + 1) g') : ∀ n i a g, i ≤ N → N - i < n → G g → ∃ g', G g' ∧ W n (fd st i a) i g = K (fd st N a) g' := by
  intro n
  induction n with
  | zero => intro i a g h1 h2; omega
  | succ n ih =>
    intro i a g h1 h2 h3
    by_cases e : i = N
    · subst e
      exact ⟨g, h3, hx n _ g h3⟩
    · obtain ⟨g', q1, q2⟩ := hs n (fd st i a) i g (by omega) h3
      rw [q2]
      exact ih (i + 1) a g' (by omega) (by omega) q1
theorem lpG {β : Type} {G : Int64 → Hp → Prop} {W : Nat → Nat → Hp → β} {N : Nat} {st : Nat → Int64 → Int64} {K : Hp → β} (hx : ∀ n a g, G a g → W (n + 1) N g = K g) (hs : ∀ n a i g, i < N → G a g → ∃ g', G (st i a) g' ∧ W (n + 1) i g = W n (i + 1) g') : ∀ n i a g, i ≤ N → N - i < n → G (fd st i a) g → ∃ g', G (fd st N a) g' ∧ W n i g = K g' := by
  intro n
  induction n with
  | zero => intro i a g h1 h2; omega
  | succ n ih =>
    intro i a g h1 h2 h3
    by_cases e : i = N
    · subst e
      exact ⟨g, h3, hx n _ g h3⟩
    · obtain ⟨g', q1, q2⟩ := hs n (fd st i a) i g (by omega) h3
      rw [q2]
      exact ih (i + 1) a g' (by omega) (by omega) q1
def nmd (v : Vw) (m : Mn) (k : Nat) (a : Int64) : Int64 := mxs (fun i => nI (vd v k i)) (vl v k) (mxs (nmx v m k) 8 (mxs (fun i => nI (vt v k i)) (vl v k) a))
def cnv (v : Vw) (t p : Sq) (c : Nat → Int32) (w : Nat) : Int32 := if w = 0 then nI (vN v) else if w = 1 then nI t.1 else if w = 2 then nI p.1 else if w = 3 then c 0 else if w = 4 then c 1 else c 2
def pth (m : Mn) (k : Nat) (a : Int64) : Int64 := mxs (fun i => nI (m.2.2.1 k i)) (m.2.1 k) a
def dg1 (v : Vw) (m : Mn) : Int64 := mxs (ab v) 7 (fd (nmd v m) (vN v) (mxs (fun i => nI (vk v i)) 26 1571))
def dg2 (v : Vw) (p : Sq) (n : Nat) (s : Nat → Nat) (q : Nat) (a : Int64) : Int64 := mxs (fun j => pv v p (ps v p j)) q (mxs (sp v p) 4 (mxs (fun i => nI (s i)) n (mxs (fun i => nI (p.2 i)) p.1 a)))
def dg3 (v : Vw) (m : Mn) (c : Nat → Int32) (a : Int64) : Int64 := if m.1 = 0 then a else fd (pth m) (vN v) (mxs (mv v m c) 7 a)
def dg4 (v : Vw) (t p : Sq) (c : Nat → Int32) (a : Int64) : Int64 := mxs (cnv v t p c) 6 (mxs (fun i => nI (t.2 i)) t.1 a)
section
variable {pm : Nat} {v : Vw} {t p : Sq} {m : Mn} {c : Nat → Int32} {h : Hp} {ea : Nat → Nat}
theorem R_letter (hL : Lay h) (cn : CN v ea h) (vo : VOK v) {k i : Nat} (hk : k < vN v) (hi : i < vl v k) : f_X7_letterAt 8 (nI k) (nI i) h = some (nI (vt v k i)) := by
  have hl := vo.2.1 k hk
  unfold f_X7_letterAt
  rw [gd_8 hL, R_get hL cn hk, Option.bind_some, Option.elim_some, E_letter (cn.ce hk) (by omega) hi]
  rfl
theorem R_digit (hL : Lay h) (cn : CN v ea h) (vo : VOK v) {k i : Nat} (hk : k < vN v) (hi : i < vl v k) : f_X7_digitAt 8 (nI k) (nI i) h = some (nI (vd v k i)) := by
  have hl := vo.2.1 k hk
  unfold f_X7_digitAt
  rw [gd_8 hL, R_get hL cn hk, Option.bind_some, Option.elim_some, E_digit (cn.ce hk) (by omega) hi]
  rfl
theorem C_mix (a : Int64) (x : Int32) : f_X9_mix a x h = some (mx a x) := rfl
theorem D_row {a b cap n : Nat} (r : RowAt h a b cap n) (hc : cap < 200) (x : Int64) : f_X9_mixRow x a h = some (mxs (fun i => hI h b i) n x) := by
  have hn : n ≤ cap := r.2.2.2.2.1
  unfold f_X9_mixRow
  refine lp_up (W := fun f i => f_X9_mixRow_L5 a h (fun y5 => some y5) f (mxs (fun i => hI h b i) i x) (nI i)) (N := n) (fun f => ?_) (fun f i hi => ?_) FU 0 (Nat.zero_le _) (FU_gt (by omega))
  · show f_X9_mixRow_L5 _ _ _ _ _ _ = _
    unfold f_X9_mixRow_L5
    rw [r.size, Option.bind_some, if_pos (nI_le (Nat.le_refl _) (by omega))]
  · show f_X9_mixRow_L5 _ _ _ _ _ _ = f_X9_mixRow_L5 _ _ _ _ _ _
    conv => lhs; unfold f_X9_mixRow_L5
    rw [r.size, Option.bind_some, if_neg (nI_ge hi (by omega)), r.get hi, Option.bind_some, C_mix, Option.bind_some, nI_add, mxs_succ]
theorem D_keys (hL : Lay h) (ck : CK v h) (K : Int64 → Option (Int64 × Hp)) (a : Int64) : f_X9_digest_L7 0 h K FU a (nI 97) = K (mxs (fun i => nI (vk v i)) 26 a) := by
  refine lp_up (W := fun f i => f_X9_digest_L7 0 h K f (mxs (fun i => nI (vk v i)) i a) (nI (97 + i))) (N := 26) (fun f => ?_) (fun f i hi => ?_) FU 0 (Nat.zero_le _) (FU_gt (by omega))
  · show f_X9_digest_L7 _ _ _ _ _ _ = _
    unfold f_X9_digest_L7
    rw [if_pos (nI_lt (by decide) (by decide))]
  · show f_X9_digest_L7 _ _ _ _ _ _ = f_X9_digest_L7 _ _ _ _ _ _
    conv => lhs; unfold f_X9_digest_L7
    rw [if_neg (nI_nlt (by omega) (by omega))]
    simp only [CG hL, Option.bind_some]
    rw [C_digitOf hL ck (show 97 ≤ 97 + i by omega) (by omega), Option.bind_some, C_mix, Option.bind_some, nI_add, mxs_succ, show 97 + i - 97 = i by omega]
    rfl
theorem D_let (hL : Lay h) (cn : CN v ea h) (vo : VOK v) {k : Nat} (hk : k < vN v) (l5 : Nat) (K : Int64 → Option (Int64 × Hp)) (a : Int64) : f_X9_mixNames_L49 0 l5 (nI k) (nI (vl v k)) h K FU a (nI 0) = K (mxs (fun i => nI (vt v k i)) (vl v k) a) := by
  have hl := vo.2.1 k hk
  refine lp_up (W := fun f i => f_X9_mixNames_L49 0 l5 (nI k) (nI (vl v k)) h K f (mxs (fun i => nI (vt v k i)) i a) (nI i)) (N := vl v k) (fun f => ?_) (fun f i hi => ?_) FU 0 (Nat.zero_le _) (FU_gt (by omega))
  · show f_X9_mixNames_L49 _ _ _ _ _ _ _ _ _ = _
    unfold f_X9_mixNames_L49
    rw [if_pos (nI_le (Nat.le_refl _) (by omega))]
  · show f_X9_mixNames_L49 _ _ _ _ _ _ _ _ _ = f_X9_mixNames_L49 _ _ _ _ _ _ _ _ _
    conv => lhs; unfold f_X9_mixNames_L49
    rw [if_neg (nI_ge hi (by omega))]
    simp only [CG hL, Option.bind_some, R_letter hL cn vo hk hi, C_mix, nI_add, mxs_succ]
theorem D_dig (hL : Lay h) (cn : CN v ea h) (vo : VOK v) {k : Nat} (hk : k < vN v) (l5 : Nat) (K : Int64 → Option (Int64 × Hp)) (a : Int64) : f_X9_mixNames_L122 0 l5 (nI k) (nI (vl v k)) h K FU a (nI 0) = K (mxs (fun i => nI (vd v k i)) (vl v k) a) := by
  have hl := vo.2.1 k hk
  refine lp_up (W := fun f i => f_X9_mixNames_L122 0 l5 (nI k) (nI (vl v k)) h K f (mxs (fun i => nI (vd v k i)) i a) (nI i)) (N := vl v k) (fun f => ?_) (fun f i hi => ?_) FU 0 (Nat.zero_le _) (FU_gt (by omega))
  · show f_X9_mixNames_L122 _ _ _ _ _ _ _ _ _ = _
    unfold f_X9_mixNames_L122
    rw [if_pos (nI_le (Nat.le_refl _) (by omega))]
  · show f_X9_mixNames_L122 _ _ _ _ _ _ _ _ _ = f_X9_mixNames_L122 _ _ _ _ _ _ _ _ _
    conv => lhs; unfold f_X9_mixNames_L122
    rw [if_neg (nI_ge hi (by omega))]
    simp only [CG hL, Option.bind_some, R_digit hL cn vo hk hi, C_mix, nI_add, mxs_succ]
theorem D_nam (sc : SC pm v t p m c h) (vo : VOK v) {k : Nat} (hk : k < vN v) (l5 : Nat) (x : Int32) (K : Int64 → Hp → Option (Int64 × Hp)) (a : Int64) : f_X9_mixNames_L81 0 l5 (nI k) x K FU a (nI 0) h = K (mxs (nmx v m k) 7 a) h := by
  refine lp_up (W := fun f i => f_X9_mixNames_L81 0 l5 (nI k) x K f (mxs (nmx v m k) i a) (nI i) h) (N := 7) (fun f => ?_) (fun f i hi => ?_) FU 0 (Nat.zero_le _) (FU_gt (by omega))
  · show f_X9_mixNames_L81 _ _ _ _ _ _ _ _ _ = _
    unfold f_X9_mixNames_L81
    rw [if_pos (nI_lt (by decide) (by decide))]
  · show f_X9_mixNames_L81 _ _ _ _ _ _ _ _ _ = f_X9_mixNames_L81 _ _ _ _ _ _ _ _ _
    obtain ⟨g, q1, -, q3⟩ := C_nameX sc vo hk (show i ≤ 7 by omega)
    have e := q3 (by omega)
    subst e
    conv => lhs; unfold f_X9_mixNames_L81
    rw [if_neg (nI_nlt (by omega) (by omega)), q1, Option.bind_some, C_mix, Option.bind_some, nI_add, mxs_succ]
theorem D_names (sc : SC pm v t p m c h) (vo : VOK v) (a : Int64) : ∃ g, f_X9_mixNames 0 a h = some (fd (nmd v m) (vN v) a, g) ∧ OC pm h g := by
  have h14 := vo.1
  obtain ⟨g, q1, q2, q3⟩ := C_opt sc vo (b := 3) (by decide) (by decide)
  have sc1 := sc.oc q2
  obtain ⟨hL1, -, -, -, ⟨ea, cn⟩, -⟩ := id sc1
  refine ⟨g, ?_, q2⟩
  unfold f_X9_mixNames
  simp only [gd_0 sc.1, CG sc.1, q1, Option.bind_some]
  refine lp_up (W := fun f k => f_X9_mixNames_L23 0 (oth pm) (fun y24 h25 => some (y24, h25)) f (fd (nmd v m) k a) (nI k) g) (N := vN v) (fun f => ?_) (fun f k hk => ?_) FU 0 (Nat.zero_le _) (FU_gt (by omega))
  · show f_X9_mixNames_L23 _ _ _ _ _ _ _ = _
    unfold f_X9_mixNames_L23
    simp only [CG hL1, Option.bind_some, R_size hL1 cn, if_pos (nI_le (Nat.le_refl (vN v)) (show vN v < 2 ^ 31 by omega))]
  · show f_X9_mixNames_L23 _ _ _ _ _ _ _ = f_X9_mixNames_L23 _ _ _ _ _ _ _
    conv => lhs; unfold f_X9_mixNames_L23
    simp only [CG hL1, Option.bind_some, R_size hL1 cn, if_neg (nI_ge hk (show vN v < 2 ^ 31 by omega)), R_len hL1 cn vo hk]
    rw [D_let hL1 cn vo hk, D_nam sc1 vo hk, C_mlen hL1 (oth_two pm) q3 h14 hk, Option.bind_some, C_mix, Option.bind_some, D_dig hL1 cn vo hk, nI_add]
    rfl
theorem D_about (sc : SC pm v t p m c h) (vo : VOK v) (K : Int64 → Option (Int64 × Hp)) (a : Int64) : f_X9_digest_L40 0 h K FU a (nI 0) = K (mxs (ab v) 7 a) := by
  refine lp_up (W := fun f i => f_X9_digest_L40 0 h K f (mxs (ab v) i a) (nI i)) (N := 7) (fun f => ?_) (fun f i hi => ?_) FU 0 (Nat.zero_le _) (FU_gt (by omega))
  · show f_X9_digest_L40 _ _ _ _ _ _ = _
    unfold f_X9_digest_L40
    rw [if_pos (nI_lt (by decide) (by decide))]
  · show f_X9_digest_L40 _ _ _ _ _ _ = f_X9_digest_L40 _ _ _ _ _ _
    conv => lhs; unfold f_X9_digest_L40
    rw [if_neg (nI_nlt (by omega) (by omega)), C_about sc vo (show i ≤ 6 by omega), Option.bind_some, C_mix, Option.bind_some, nI_add, mxs_succ]
theorem D_sp (hL : Lay h) (hT : V4 18 19 20 21 (Dt v p p.1 0) 0 h) (K : Int64 → Option (Int64 × Hp)) (a : Int64) : f_X9_digest_L108 0 h K FU a (nI 0) = K (mxs (sp v p) 4 a) := by
  refine lp_up (W := fun f i => f_X9_digest_L108 0 h K f (mxs (sp v p) i a) (nI i)) (N := 4) (fun f => ?_) (fun f i hi => ?_) FU 0 (Nat.zero_le _) (FU_gt (by omega))
  · show f_X9_digest_L108 _ _ _ _ _ _ = _
    unfold f_X9_digest_L108
    rw [if_pos (nI_lt (by decide) (by decide))]
  · show f_X9_digest_L108 _ _ _ _ _ _ = f_X9_digest_L108 _ _ _ _ _ _
    conv => lhs; unfold f_X9_digest_L108
    rw [if_neg (nI_nlt (by omega) (by omega))]
    simp only [CG hL, Option.bind_some, C_number hL hT (show i ≤ 3 by omega), C_mix, nI_add, mxs_succ]
theorem C_cnt (sc : SC pm v t p m c h) (ht : TOK t) (hp : IOK p) {w : Nat} (hw : w ≤ 5) : f_X9_count 0 (nI w) h = some (cnv v t p c w) := by
  obtain ⟨hL, a1, a2, a3, ⟨ea, cn⟩, a5, a6⟩ := id sc
  have r1 := (row_text hL ht a1).size
  have r2 := (row_inp hL hp a2).size
  unfold f_X9_count cnv
  rw [gd_0 hL]
  have : w = 0 ∨ w = 1 ∨ w = 2 ∨ w = 3 ∨ w = 4 ∨ w = 5 := by omega
  rcases this with rfl | rfl | rfl | rfl | rfl | rfl <;> simp (disch := decide) only [nI_eq, CG hL, Option.bind_some, R_size hL cn, r1, r2, a6.1, a6.2.1, a6.2.2.1, if_true, if_false, show ¬ (1 : Nat) = 0 by decide, show ¬ (2 : Nat) = 0 by decide, show ¬ (2 : Nat) = 1 by decide, show ¬ (3 : Nat) = 0 by decide, show ¬ (3 : Nat) = 1 by decide, show ¬ (3 : Nat) = 2 by decide, show ¬ (4 : Nat) = 0 by decide, show ¬ (4 : Nat) = 1 by decide, show ¬ (4 : Nat) = 2 by decide, show ¬ (4 : Nat) = 3 by decide, show ¬ (5 : Nat) = 0 by decide, show ¬ (5 : Nat) = 1 by decide, show ¬ (5 : Nat) = 2 by decide, show ¬ (5 : Nat) = 3 by decide, show ¬ (5 : Nat) = 4 by decide]
theorem D_end (sc : SC pm v t p m c h) (ht : TOK t) (hp : IOK p) (a : Int64) : f_X9_digest_J181 0 a h = some (dg4 v t p c a, h) := by
  have r := row_text sc.1 ht sc.2.1
  unfold f_X9_digest_J181
  simp only [CG sc.1, Option.bind_some, D_row r (by decide)]
  rw [mxs_congr (g := fun i => nI (t.2 i)) a (fun i hi => sc.2.1.2 i hi)]
  refine lp_up (W := fun f i => f_X9_digest_L192 0 h (fun y36 => some (y36, h)) f (mxs (cnv v t p c) i (mxs (fun i => nI (t.2 i)) t.1 a)) (nI i)) (N := 6) (fun f => ?_) (fun f i hi => ?_) FU 0 (Nat.zero_le _) (FU_gt (by omega))
  · show f_X9_digest_L192 _ _ _ _ _ _ = _
    unfold f_X9_digest_L192
    rw [if_pos (nI_lt (by decide) (by decide))]
    rfl
  · show f_X9_digest_L192 _ _ _ _ _ _ = f_X9_digest_L192 _ _ _ _ _ _
    conv => lhs; unfold f_X9_digest_L192
    rw [if_neg (nI_nlt (by omega) (by omega)), C_cnt sc ht hp (show i ≤ 5 by omega), Option.bind_some, C_mix, Option.bind_some, nI_add, mxs_succ]
theorem D_path (sc : SC pm v t p m c h) (vo : VOK v) (mo : MOK m (vN v)) (c0 : m.1 ≠ 0) (a : Int64) : f_X9_mixPaths 0 a h = some (fd (pth m) (vN v) a) := by
  have h14 := vo.1
  have hL := sc.1
  have cm := sc.2.2.2.2.2.1
  have hpm := cm.two
  have cp := cm.cp c0
  have bd := mo.bd c0
  obtain ⟨-, -, -, -, ⟨ea, cn⟩, -⟩ := id sc
  unfold f_X9_mixPaths
  rw [gd_0 hL]
  have inner : ∀ (K : Int64 → Option Int64) (k : Nat) (b : Int64), k < vN v → f_X9_mixPaths_L31 0 (nI k) (nI (m.2.1 k)) h K FU b (nI 0) = K (pth m k b) := by
    intro K k b hk
    have bk := bd k hk
    refine lp_up (W := fun f i => f_X9_mixPaths_L31 0 (nI k) (nI (m.2.1 k)) h K f (mxs (fun i => nI (m.2.2.1 k i)) i b) (nI i)) (N := m.2.1 k) (fun f => ?_) (fun f i hi => ?_) FU 0 (Nat.zero_le _) (FU_gt (by omega))
    · show f_X9_mixPaths_L31 _ _ _ _ _ _ _ _ = _
      unfold f_X9_mixPaths_L31
      rw [if_pos (nI_le (Nat.le_refl _) (by omega))]
      rfl
    · show f_X9_mixPaths_L31 _ _ _ _ _ _ _ _ = f_X9_mixPaths_L31 _ _ _ _ _ _ _ _
      conv => lhs; unfold f_X9_mixPaths_L31
      rw [if_neg (nI_ge hi (by omega)), C_pres sc, Option.bind_some, C_mstep hL hpm cp h14 bd hk (by omega), Option.bind_some, C_mix, Option.bind_some, nI_add, mxs_succ]
      unfold so
      rw [if_pos hi]
  refine lp_up (W := fun f k => f_X9_mixPaths_L5 0 h (fun y11 => some y11) f (fd (pth m) k a) (nI k)) (N := vN v) (fun f => ?_) (fun f k hk => ?_) FU 0 (Nat.zero_le _) (FU_gt (by omega))
  · show f_X9_mixPaths_L5 _ _ _ _ _ _ = _
    unfold f_X9_mixPaths_L5
    simp only [CG hL, Option.bind_some, R_size hL cn, if_pos (nI_le (Nat.le_refl (vN v)) (show vN v < 2 ^ 31 by omega))]
  · show f_X9_mixPaths_L5 _ _ _ _ _ _ = f_X9_mixPaths_L5 _ _ _ _ _ _
    conv => lhs; unfold f_X9_mixPaths_L5
    simp only [CG hL, Option.bind_some, R_size hL cn, if_neg (nI_ge hk (show vN v < 2 ^ 31 by omega)), C_pres sc, C_mlen hL hpm cp h14 hk]
    rw [inner _ k _ hk, nI_add]
    rfl
theorem D_menu (sc : SC pm v t p m c h) (vo : VOK v) (mo : MOK m (vN v)) (c0 : m.1 ≠ 0) (K : Int64 → Hp → Option (Int64 × Hp)) (a : Int64) : ∃ g, OC pm h g ∧ f_X9_digest_L153 0 K FU a (nI 0) h = K (mxs (mv v m c) 7 a) g := by
  refine lpC (G := fun g => OC pm h g) (W := fun f b i g => f_X9_digest_L153 0 K f b (nI i) g) (N := 7) (st := fun i b => mx b (mv v m c i)) (K := K) (fun f b g hg => ?_) (fun f b i g hi hg => ?_) FU 0 a h (Nat.zero_le _) (FU_gt (by omega)) OC.rf
  · show f_X9_digest_L153 _ _ _ _ _ _ = _
    unfold f_X9_digest_L153
    rw [if_pos (nI_lt (by decide) (by decide))]
  · obtain ⟨g', q1, q2⟩ := C_menu (sc.oc hg) vo mo c0 (show i ≤ 6 by omega)
    refine ⟨g', hg.tr q2, ?_⟩
    show f_X9_digest_L153 _ _ _ _ _ _ = f_X9_digest_L153 _ _ _ _ _ _
    conv => lhs; unfold f_X9_digest_L153
    rw [if_neg (nI_nlt (by omega) (by omega)), q1, Option.bind_some, C_mix, Option.bind_some, nI_add]
theorem C_digest (sc : SC pm v t p m c h) (vo : VOK v) (ht : TOK t) (hp : IOK p) (mo : MOK m (vN v)) : ∃ n s q g, LI v p (vN v) n s ∧ n ≤ 14 ∧ NP v p q ∧ OC pm h g ∧ f_X9_digest 0 h = some (dg4 v t p c (dg3 v m c (dg2 v p n s q (dg1 v m))), g) := by
  have hpm := sc.2.2.2.2.2.1.two
  obtain ⟨g1, a1, a2⟩ := D_names sc vo (mxs (fun i => nI (vk v i)) 26 1571)
  have sc1 := sc.oc a2
  obtain ⟨n, s, g2, b1, b2, b3, b4, b5, b6⟩ := C_list sc1 vo hp
  have oc2 : OC pm g1 g2 := OC.of (b2.mono (fun q hq => by unfold scrC; omega))
  have sc2 := sc1.oc oc2
  obtain ⟨hL2, -, i2, -, ⟨ea, cn⟩, -⟩ := id sc2
  obtain ⟨q, g3, d1, d2, d3, d4, d5, d6⟩ := C_study hL2 cn vo hp i2
  have oc3 : OC pm g2 g3 := OC.r46 hpm d2
  have sc3 := sc2.oc oc3
  have cm := sc3.2.2.2.2.2.1
  have r3 := row_inp sc1.1 hp sc1.2.2.1
  have r15 : RowAt g2 15 16 14 n := ⟨hL2.o (by decide) rfl, hL2.r 17 rfl, hL2.a (by decide) rfl, b4, b3, by decide, by decide⟩
  have r22 : RowAt g3 22 23 10 q := ⟨sc3.1.o (by decide) rfl, sc3.1.r 23 rfl, sc3.1.a (by decide) rfl, d5, d4.1, by decide, by decide⟩
  have be : f_X6_best 17 g3 = some 22 := by
    unfold f_X6_best
    simp only [gd_17 sc3.1, CG sc3.1, Option.bind_some]
  have pre : f_X9_digest 0 h = if hI g3 0 10 = nI 0 then f_X9_digest_J181 0 (dg2 v p n s q (dg1 v m)) g3 else f_X9_digest_L153 0 (fun y40 h41 => (f_X9_mixPaths 0 y40 h41).bind fun x42 => f_X9_digest_J181 0 x42 h41) FU (dg2 v p n s q (dg1 v m)) (nI 0) g3 := by
    unfold f_X9_digest
    rw [gd_0 sc.1, D_keys sc.1 sc.2.2.2.1, a1, Option.bind_some, D_about sc1 vo]
    simp only [CG sc1.1, Option.bind_some, D_row r3 (by decide), b1, D_row r15 (by decide), CG hL2, d1]
    rw [D_sp sc3.1 (d3 0 (Nat.zero_le _))]
    simp only [CG sc3.1, Option.bind_some, be, D_row r22 (by decide)]
    rw [mxs_congr (f := fun i => hI g1 4 i) (g := fun i => nI (p.2 i)) _ (fun i hi => sc1.2.2.1.2 i hi), mxs_congr (f := fun i => hI g2 16 i) (g := fun i => nI (s i)) _ (fun i hi => b5 i hi), mxs_congr (f := fun i => hI g3 23 i) (g := fun j => pv v p (ps v p j)) _ (fun i hi => d6 i hi)]
    rfl
  rw [pre, cm.2.1]
  by_cases c0 : m.1 = 0
  · refine ⟨n, s, q, g3, b6, b3, d4, (a2.tr oc2).tr oc3, ?_⟩
    rw [b2_f (fun z => z c0), if_pos rfl, D_end sc3 ht hp]
    unfold dg3
    rw [if_pos c0]
  · obtain ⟨g4, e1, e2⟩ := D_menu sc3 vo mo c0 (fun y40 h41 => (f_X9_mixPaths 0 y40 h41).bind fun x42 => f_X9_digest_J181 0 x42 h41) (dg2 v p n s q (dg1 v m))
    have sc4 := sc3.oc e1
    refine ⟨n, s, q, g4, b6, b3, d4, ((a2.tr oc2).tr oc3).tr e1, ?_⟩
    rw [b2_t (show m.1 ≠ 0 from c0), if_neg nI01, e2, D_path sc4 vo mo c0, Option.bind_some, D_end sc4 ht hp]
    unfold dg3
    rw [if_neg c0]
end
