/-! DIGEST: the model -/
section
variable {pm : Nat} {v : Vw} {t p : Sq} {m : Mn} {c : Nat → Int32} {h g : Hp} {a : Int64}
theorem SC.setJ (s : SC pm v t p m c h) (x : Int64) : SC pm v t p m c (setJ h 77 32 x) := s
theorem SM.setJ (s : SM v t p m c h) (x : Int64) : SM v t p m c (setJ h 77 32 x) := s
def GG (pm : Nat) (v : Vw) (t p : Sq) (m : Mn) (c : Nat → Int32) (a : Int64) (g : Hp) : Prop := SC pm v t p m c g ∧ SM v t p m c g ∧ hJ g 77 32 = a
theorem GG.om {g' : Hp} (x : GG pm v t p m c a g) (o : OM g g') : GG pm v t p m c a g' := ⟨x.1.om o, x.2.1.om o, by rw [o.1.2.2.2]; exact x.2.2⟩
theorem M_mix (x : GG pm v t p m c a g) (y : Int32) : ∃ g', f_X10_mix 77 (Int32.toInt64 y) g = some g' ∧ GG pm v t p m c (mx a y) g' := by
  refine ⟨setJ g 77 32 (((31 : Int64) * a) + Int32.toInt64 y), ?_, x.1.setJ _, x.2.1.setJ _, hJ_setJ _ _ _ _⟩
  have hL := x.1.1
  unfold f_X10_mix
  rw [gd_77 hL, (MJ hL).1, Option.bind_some, x.2.2, (MJ hL).2, Option.bind_some]
/-- one step of a loop: a value, mixed in -/
theorem M_mixs {β : Type} (x : GG pm v t p m c a g) (y : Int32) (F : Hp → Option β) : ∃ g', GG pm v t p m c (mx a y) g' ∧ (f_X10_mix 77 (Int32.toInt64 y) g).bind F = F g' := by
  obtain ⟨g', q1, q2⟩ := M_mix x y
  exact ⟨g', q2, by rw [q1]; rfl⟩
theorem M_keys (K : Hp → Option (Int64 × Hp)) (x : GG pm v t p m c a g) : ∃ g', GG pm v t p m c (mxs (fun i => nI (vk v i)) 26 a) g' ∧ f_X10_digest_L9 77 K FU (nI 0) g = K g' := by
  refine lpG (G := GG pm v t p m c) (W := fun f i g => f_X10_digest_L9 77 K f (nI i) g) (N := 26) (st := fun i b => mx b (nI (vk v i))) (fun f b g hg => ?_) (fun f b i g hi hg => ?_) FU 0 a g (Nat.zero_le _) (FU_gt (by omega)) x
  · show f_X10_digest_L9 _ _ _ _ _ = _
    unfold f_X10_digest_L9
    rw [if_pos (nI_le (Nat.le_refl _) (by decide))]
  · obtain ⟨g', q1, q2⟩ := M_mixs hg (nI (vk v i)) (fun h4 => f_X10_digest_L9 77 K f (nI (i + 1)) h4)
    refine ⟨g', q1, ?_⟩
    show f_X10_digest_L9 _ _ _ _ _ = f_X10_digest_L9 _ _ _ _ _
    conv => lhs; unfold f_X10_digest_L9
    rw [if_neg (nI_ge hi (by decide))]
    simp (disch := omega) only [MG hg.1.1, Option.bind_some, hg.2.1.2.2.2.1 i hi, nI_add]
    exact q2
theorem M_mixName (vo : VOK v) (mo : MOK m (vN v)) {k : Nat} (hk : k < vN v) (x : GG pm v t p m c a g) : ∃ g', GG pm v t p m c (nmd v m k a) g' ∧ f_X10_mixName 77 (nI k) g = some g' := by
  have h14 := vo.1
  have hl := vo.2.1 k hk
  unfold f_X10_mixName
  rw [gd_77 x.1.1]
  have s1 : ∀ (K : Hp → Option Hp) (a : Int64) (g : Hp), GG pm v t p m c a g → ∃ g', GG pm v t p m c (mxs (fun i => nI (vt v k i)) (vl v k) a) g' ∧ f_X10_mixName_L2 77 (nI k) K FU (nI 0) g = K g' := by
    intro K a g x
    refine lpG (G := GG pm v t p m c) (W := fun f i g => f_X10_mixName_L2 77 (nI k) K f (nI i) g) (N := vl v k) (st := fun i b => mx b (nI (vt v k i))) (fun f b g hg => ?_) (fun f b i g hi hg => ?_) FU 0 a g (Nat.zero_le _) (FU_gt (by omega)) x
    · show f_X10_mixName_L2 _ _ _ _ _ _ = _
      unfold f_X10_mixName_L2
      simp (disch := omega) only [MG hg.1.1, Option.bind_some, MV hg.2.1.2.2.2.2.1, if_pos (nI_le (Nat.le_refl (vl v k)) (show vl v k < 2 ^ 31 by omega))]
    · obtain ⟨g', q1, q2⟩ := M_mixs hg (nI (vt v k i)) (fun h4 => f_X10_mixName_L2 77 (nI k) K f (nI (i + 1)) h4)
      refine ⟨g', q1, ?_⟩
      show f_X10_mixName_L2 _ _ _ _ _ _ = f_X10_mixName_L2 _ _ _ _ _ _
      conv => lhs; unfold f_X10_mixName_L2
      simp (disch := omega) only [MG hg.1.1, Option.bind_some, MV hg.2.1.2.2.2.2.1, if_neg (nI_ge hi (show vl v k < 2 ^ 31 by omega)), pk_mul, nI_add]
      exact q2
  have s2 : ∀ (K : Hp → Option Hp) (a : Int64) (g : Hp), GG pm v t p m c a g → ∃ g', GG pm v t p m c (mxs (nmx v m k) 8 a) g' ∧ f_X10_mixName_L36 77 (nI k) K FU (nI 0) g = K g' := by
    intro K a g x
    refine lpG (G := GG pm v t p m c) (W := fun f i g => f_X10_mixName_L36 77 (nI k) K f (nI i) g) (N := 8) (st := fun i b => mx b (nmx v m k i)) (fun f b g hg => ?_) (fun f b i g hi hg => ?_) FU 0 a g (Nat.zero_le _) (FU_gt (by omega)) x
    · show f_X10_mixName_L36 _ _ _ _ _ _ = _
      unfold f_X10_mixName_L36
      rw [if_pos (nI_le (Nat.le_refl _) (by decide))]
    · obtain ⟨g1, r1, r2⟩ := M_nameX hg.2.1 vo mo hk (show i ≤ 7 by omega)
      obtain ⟨g', q1, q2⟩ := M_mixs (hg.om r2) (nmx v m k i) (fun h4 => f_X10_mixName_L36 77 (nI k) K f (nI (i + 1)) h4)
      refine ⟨g', q1, ?_⟩
      show f_X10_mixName_L36 _ _ _ _ _ _ = f_X10_mixName_L36 _ _ _ _ _ _
      conv => lhs; unfold f_X10_mixName_L36
      rw [if_neg (nI_ge hi (by decide)), r1, Option.bind_some, nI_add]
      exact q2
  have s3 : ∀ (K : Hp → Option Hp) (a : Int64) (g : Hp), GG pm v t p m c a g → ∃ g', GG pm v t p m c (mxs (fun i => nI (vd v k i)) (vl v k) a) g' ∧ f_X10_mixName_L61 77 (nI k) K FU (nI 0) g = K g' := by
    intro K a g x
    refine lpG (G := GG pm v t p m c) (W := fun f i g => f_X10_mixName_L61 77 (nI k) K f (nI i) g) (N := vl v k) (st := fun i b => mx b (nI (vd v k i))) (fun f b g hg => ?_) (fun f b i g hi hg => ?_) FU 0 a g (Nat.zero_le _) (FU_gt (by omega)) x
    · show f_X10_mixName_L61 _ _ _ _ _ _ = _
      unfold f_X10_mixName_L61
      simp (disch := omega) only [MG hg.1.1, Option.bind_some, MV hg.2.1.2.2.2.2.1, if_pos (nI_le (Nat.le_refl (vl v k)) (show vl v k < 2 ^ 31 by omega))]
    · obtain ⟨g', q1, q2⟩ := M_mixs hg (nI (vd v k i)) (fun h4 => f_X10_mixName_L61 77 (nI k) K f (nI (i + 1)) h4)
      refine ⟨g', q1, ?_⟩
      show f_X10_mixName_L61 _ _ _ _ _ _ = f_X10_mixName_L61 _ _ _ _ _ _
      conv => lhs; unfold f_X10_mixName_L61
      simp (disch := omega) only [MG hg.1.1, Option.bind_some, MV hg.2.1.2.2.2.2.1, if_neg (nI_ge hi (show vl v k < 2 ^ 31 by omega)), M_code hg.1.1 hg.2.1.2.2.2.2.1 hg.2.1.2.2.2.1 vo hk hi, nI_add]
      exact q2
  obtain ⟨g1, a1, b1⟩ := s1 (fun h7 => f_X10_mixName_L36 77 (nI k) (fun h11 => f_X10_mixName_L61 77 (nI k) (fun h17 => some h17) FU (nI 0) h11) FU (nI 0) h7) a g x
  obtain ⟨g2, a2, b2⟩ := s2 (fun h11 => f_X10_mixName_L61 77 (nI k) (fun h17 => some h17) FU (nI 0) h11) _ g1 a1
  obtain ⟨g3, a3, b3⟩ := s3 (fun h17 => some h17) _ g2 a2
  exact ⟨g3, a3, b1.trans (b2.trans b3)⟩
theorem M_nms (vo : VOK v) (mo : MOK m (vN v)) (K : Hp → Option (Int64 × Hp)) (x : GG pm v t p m c a g) : ∃ g', GG pm v t p m c (fd (nmd v m) (vN v) a) g' ∧ f_X10_digest_L34 77 K FU (nI 0) g = K g' := by
  have h14 := vo.1
  refine lpG (G := GG pm v t p m c) (W := fun f i g => f_X10_digest_L34 77 K f (nI i) g) (N := vN v) (st := nmd v m) (fun f b g hg => ?_) (fun f b i g hi hg => ?_) FU 0 a g (Nat.zero_le _) (FU_gt (by omega)) x
  · show f_X10_digest_L34 _ _ _ _ _ = _
    unfold f_X10_digest_L34
    simp only [MG hg.1.1, hg.2.1.2.2.2.2.1.1, Option.bind_some, if_pos (nI_le (Nat.le_refl (vN v)) (show vN v < 2 ^ 31 by omega))]
  · obtain ⟨g', q1, q2⟩ := M_mixName vo mo hi hg
    refine ⟨g', q1, ?_⟩
    show f_X10_digest_L34 _ _ _ _ _ = f_X10_digest_L34 _ _ _ _ _
    conv => lhs; unfold f_X10_digest_L34
    simp only [MG hg.1.1, hg.2.1.2.2.2.2.1.1, Option.bind_some, if_neg (nI_ge hi (show vN v < 2 ^ 31 by omega)), q2, nI_add]
theorem M_abt (vo : VOK v) (K : Hp → Option (Int64 × Hp)) (x : GG pm v t p m c a g) : ∃ g', GG pm v t p m c (mxs (ab v) 7 a) g' ∧ f_X10_digest_L55 77 K FU (nI 0) g = K g' := by
  refine lpG (G := GG pm v t p m c) (W := fun f i g => f_X10_digest_L55 77 K f (nI i) g) (N := 7) (st := fun i b => mx b (ab v i)) (fun f b g hg => ?_) (fun f b i g hi hg => ?_) FU 0 a g (Nat.zero_le _) (FU_gt (by omega)) x
  · show f_X10_digest_L55 _ _ _ _ _ = _
    unfold f_X10_digest_L55
    rw [if_pos (nI_le (Nat.le_refl _) (by decide))]
  · obtain ⟨g', q1, q2⟩ := M_mixs hg (ab v i) (fun h4 => f_X10_digest_L55 77 K f (nI (i + 1)) h4)
    refine ⟨g', q1, ?_⟩
    show f_X10_digest_L55 _ _ _ _ _ = f_X10_digest_L55 _ _ _ _ _
    conv => lhs; unfold f_X10_digest_L55
    rw [if_neg (nI_ge hi (by decide)), M_about hg.2.1 vo (show i ≤ 6 by omega), Option.bind_some, nI_add]
    exact q2
theorem M_typ (vo : VOK v) (hp : IOK p) {n q : Nat} {s : Nat → Nat} (l : LI v p (vN v) n s) (np : NP v p q) (x : GG pm v t p m c a g) : ∃ g', GG pm v t p m c (dg2 v p n s q a) g' ∧ f_X10_mixTyped 77 g = some g' := by
  have h14 := vo.1
  have hp1 := hp.1
  have hn : n ≤ 14 := by have := l.1; have := cnt_le (ch v p) (vN v); omega
  unfold f_X10_mixTyped
  rw [gd_77 x.1.1]
  have s1 : ∀ (K : Hp → Option Hp) (a : Int64) (g : Hp), GG pm v t p m c a g → ∃ g', GG pm v t p m c (mxs (fun i => nI (p.2 i)) p.1 a) g' ∧ f_X10_mixTyped_L2 77 K FU (nI 0) g = K g' := by
    intro K a g x
    refine lpG (G := GG pm v t p m c) (W := fun f i g => f_X10_mixTyped_L2 77 K f (nI i) g) (N := p.1) (st := fun i b => mx b (nI (p.2 i))) (fun f b g hg => ?_) (fun f b i g hi hg => ?_) FU 0 a g (Nat.zero_le _) (FU_gt (by omega)) x
    · show f_X10_mixTyped_L2 _ _ _ _ _ = _
      unfold f_X10_mixTyped_L2
      simp only [MG hg.1.1, hg.2.1.2.2.1.1, Option.bind_some, if_pos (nI_le (Nat.le_refl p.1) (show p.1 < 2 ^ 31 by omega))]
    · obtain ⟨g', q1, q2⟩ := M_mixs hg (nI (p.2 i)) (fun h4 => f_X10_mixTyped_L2 77 K f (nI (i + 1)) h4)
      refine ⟨g', q1, ?_⟩
      show f_X10_mixTyped_L2 _ _ _ _ _ = f_X10_mixTyped_L2 _ _ _ _ _
      conv => lhs; unfold f_X10_mixTyped_L2
      simp (disch := omega) only [MG hg.1.1, hg.2.1.2.2.1.1, Option.bind_some, if_neg (nI_ge hi (show p.1 < 2 ^ 31 by omega)), hg.2.1.2.2.1.2 i hi, nI_add]
      exact q2
  have s2 : ∀ (K : Hp → Option Hp) (a : Int64) (g : Hp), GG pm v t p m c a g → ∃ g', GG pm v t p m c (mxs (fun i => nI (s i)) n a) g' ∧ f_X10_mixTyped_L29 77 K FU (nI 0) g = K g' := by
    intro K a g x
    refine lpG (G := GG pm v t p m c) (W := fun f i g => f_X10_mixTyped_L29 77 K f (nI i) g) (N := n) (st := fun i b => mx b (nI (s i))) (fun f b g hg => ?_) (fun f b i g hi hg => ?_) FU 0 a g (Nat.zero_le _) (FU_gt (by omega)) x
    · show f_X10_mixTyped_L29 _ _ _ _ _ = _
      unfold f_X10_mixTyped_L29
      rw [M_choice_out hg.2.1 vo hp l (Or.inr (nI_le (Nat.le_refl n) (by omega))), Option.bind_some, if_pos rfl]
    · obtain ⟨g', q1, q2⟩ := M_mixs hg (nI (s i)) (fun h4 => f_X10_mixTyped_L29 77 K f (nI (i + 1)) h4)
      refine ⟨g', q1, ?_⟩
      have si := (l.2.2 i hi).1
      show f_X10_mixTyped_L29 _ _ _ _ _ = f_X10_mixTyped_L29 _ _ _ _ _
      conv => lhs; unfold f_X10_mixTyped_L29
      rw [M_choice_in hg.2.1 vo hp l hi, Option.bind_some, if_neg (fun z => m101_ne (by omega) z.symm), Option.bind_some, nI_add]
      exact q2
  have s3 : ∀ (K : Hp → Option Hp) (a : Int64) (g : Hp), GG pm v t p m c a g → ∃ g', GG pm v t p m c (mxs (sp v p) 4 a) g' ∧ f_X10_mixTyped_L57 77 K FU (nI 0) g = K g' := by
    intro K a g x
    refine lpG (G := GG pm v t p m c) (W := fun f i g => f_X10_mixTyped_L57 77 K f (nI i) g) (N := 4) (st := fun i b => mx b (sp v p i)) (fun f b g hg => ?_) (fun f b i g hi hg => ?_) FU 0 a g (Nat.zero_le _) (FU_gt (by omega)) x
    · show f_X10_mixTyped_L57 _ _ _ _ _ = _
      unfold f_X10_mixTyped_L57
      rw [if_pos (nI_le (Nat.le_refl _) (by decide))]
    · obtain ⟨g1, r1, r2⟩ := M_spell hg.1.1 hg.2.1.2.2.2.2.1 hg.2.1.2.2.2.1 hg.2.1.2.2.1 vo hp (show i ≤ 3 by omega)
      obtain ⟨g', q1, q2⟩ := M_mixs (hg.om (OM.r4 r2)) (sp v p i) (fun h4 => f_X10_mixTyped_L57 77 K f (nI (i + 1)) h4)
      refine ⟨g', q1, ?_⟩
      show f_X10_mixTyped_L57 _ _ _ _ _ = f_X10_mixTyped_L57 _ _ _ _ _
      conv => lhs; unfold f_X10_mixTyped_L57
      rw [if_neg (nI_ge hi (by decide)), r1, Option.bind_some, nI_add]
      exact q2
  have s4 : ∀ (a : Int64) (g : Hp), GG pm v t p m c a g → ∃ g' g'', GG pm v t p m c (mxs (fun j => pv v p (ps v p j)) q a) g' ∧ OM g' g'' ∧ f_X10_mixTyped_L80 77 (fun h20 => some h20) FU (nI 0) g = some g'' := by
    intro a g x
    have key : ∀ f i g, i ≤ q → q - i < f → GG pm v t p m c (mxs (fun j => pv v p (ps v p j)) i a) g → ∃ g'', GG pm v t p m c (mxs (fun j => pv v p (ps v p j)) q a) g'' ∧ f_X10_mixTyped_L80 77 (fun h20 => some h20) f (nI i) g = some g'' := by
      intro f
      induction f with
      | zero => intro i g h1 h2; omega
      | succ f ih =>
        intro i g h1 h2 hg
        have q10 := np.1
        unfold f_X10_mixTyped_L80
        obtain ⟨g1, y1, r1, r2, r3, r4⟩ := M_piece hg.1.1 hg.2.1.2.2.2.2.1 hg.2.1.2.2.2.1 hg.2.1.2.2.1 vo hp np (nI i)
        have hg1 := hg.om (OM.r4 r2)
        by_cases e : i = q
        · subst e
          have ey := r4 (Or.inr (nI_le (Nat.le_refl _) (by omega)))
          rw [r1, Option.bind_some, ey, if_pos rfl]
          exact ⟨g1, hg1, rfl⟩
        · have hi : i < q := by omega
          have ey := r3 i hi rfl
          obtain ⟨g2, y2, t1, t2, t3, t4⟩ := M_piece hg1.1.1 hg1.2.1.2.2.2.2.1 hg1.2.1.2.2.2.1 hg1.2.1.2.2.1 vo hp np (nI i)
          have ey2 := t3 i hi rfl
          have hg2 := hg1.om (OM.r4 t2)
          obtain ⟨g', q1, q2⟩ := M_mixs hg2 (pv v p (ps v p i)) (fun h4 => f_X10_mixTyped_L80 77 (fun h20 => some h20) f (nI (i + 1)) h4)
          obtain ⟨g3, z1, z2⟩ := ih (i + 1) g' (by omega) (by omega) q1
          refine ⟨g3, z1, ?_⟩
          rw [r1, Option.bind_some, ey, if_neg (pv_ne hp vo (np.2.2 i hi)), t1, Option.bind_some, ey2, nI_add]
          exact q2.trans z2
    obtain ⟨g'', z1, z2⟩ := key FU 0 g (Nat.zero_le _) (FU_gt (by have := np.1; omega)) x
    exact ⟨g'', g'', z1, OM.rf, z2⟩
  obtain ⟨g1, a1, b1⟩ := s1 (fun h6 => f_X10_mixTyped_L29 77 (fun h11 => f_X10_mixTyped_L57 77 (fun h15 => f_X10_mixTyped_L80 77 (fun h20 => some h20) FU (nI 0) h15) FU (nI 0) h11) FU (nI 0) h6) a g x
  obtain ⟨g2, a2, b2⟩ := s2 (fun h11 => f_X10_mixTyped_L57 77 (fun h15 => f_X10_mixTyped_L80 77 (fun h20 => some h20) FU (nI 0) h15) FU (nI 0) h11) _ g1 a1
  obtain ⟨g3, a3, b3⟩ := s3 (fun h15 => f_X10_mixTyped_L80 77 (fun h20 => some h20) FU (nI 0) h15) _ g2 a2
  obtain ⟨g4, g5, a4, o4, b4⟩ := s4 _ g3 a3
  exact ⟨g5, a4.om o4, b1.trans (b2.trans (b3.trans b4))⟩
theorem M_mnu (vo : VOK v) (mo : MOK m (vN v)) (c0 : m.1 ≠ 0) (x : GG pm v t p m c a g) : ∃ g', GG pm v t p m c (fd (pth m) (vN v) (mxs (mv v m c) 7 a)) g' ∧ f_X10_mixMenu 77 g = some g' := by
  have h14 := vo.1
  have bd := mo.bd c0
  unfold f_X10_mixMenu
  rw [gd_77 x.1.1]
  have s1 : ∀ (K : Hp → Option Hp) (a : Int64) (g : Hp), GG pm v t p m c a g → ∃ g', GG pm v t p m c (mxs (mv v m c) 7 a) g' ∧ f_X10_mixMenu_L2 77 K FU (nI 0) g = K g' := by
    intro K a g x
    refine lpG (G := GG pm v t p m c) (W := fun f i g => f_X10_mixMenu_L2 77 K f (nI i) g) (N := 7) (st := fun i b => mx b (mv v m c i)) (fun f b g hg => ?_) (fun f b i g hi hg => ?_) FU 0 a g (Nat.zero_le _) (FU_gt (by omega)) x
    · show f_X10_mixMenu_L2 _ _ _ _ _ = _
      unfold f_X10_mixMenu_L2
      rw [if_pos (nI_le (Nat.le_refl _) (by decide))]
    · obtain ⟨g1, r1, r2⟩ := M_menuNow hg.2.1 vo mo c0 (show i ≤ 6 by omega)
      obtain ⟨g', q1, q2⟩ := M_mixs (hg.om r2) (mv v m c i) (fun h4 => f_X10_mixMenu_L2 77 K f (nI (i + 1)) h4)
      refine ⟨g', q1, ?_⟩
      show f_X10_mixMenu_L2 _ _ _ _ _ = f_X10_mixMenu_L2 _ _ _ _ _
      conv => lhs; unfold f_X10_mixMenu_L2
      rw [if_neg (nI_ge hi (by decide)), r1, Option.bind_some, nI_add]
      exact q2
  have s2 : ∀ (K : Hp → Option Hp) (a : Int64) (g : Hp) (k : Nat), k < vN v → GG pm v t p m c a g → ∃ g', GG pm v t p m c (pth m k a) g' ∧ f_X10_mixMenu_L36 77 (nI k) K FU (nI 0) g = K g' := by
    intro K a g k hk x
    have bk := bd k hk
    refine lpG (G := GG pm v t p m c) (W := fun f i g => f_X10_mixMenu_L36 77 (nI k) K f (nI i) g) (N := m.2.1 k) (st := fun i b => mx b (nI (m.2.2.1 k i))) (fun f b g hg => ?_) (fun f b i g hi hg => ?_) FU 0 a g (Nat.zero_le _) (FU_gt (by omega)) x
    · have ml := hg.2.1.2.2.2.2.2.1.2.1 c0 k hk
      show f_X10_mixMenu_L36 _ _ _ _ _ _ = _
      unfold f_X10_mixMenu_L36
      simp (disch := omega) only [MG hg.1.1, ml.1, Option.bind_some, if_pos (nI_le (Nat.le_refl (m.2.1 k)) (show m.2.1 k < 2 ^ 31 by omega))]
    · have ml := hg.2.1.2.2.2.2.2.1.2.1 c0 k hk
      obtain ⟨g', q1, q2⟩ := M_mixs hg (nI (m.2.2.1 k i)) (fun h4 => f_X10_mixMenu_L36 77 (nI k) K f (nI (i + 1)) h4)
      refine ⟨g', q1, ?_⟩
      show f_X10_mixMenu_L36 _ _ _ _ _ _ = f_X10_mixMenu_L36 _ _ _ _ _ _
      conv => lhs; unfold f_X10_mixMenu_L36
      simp (disch := omega) only [MG hg.1.1, ml.1, Option.bind_some, if_neg (nI_ge hi (show m.2.1 k < 2 ^ 31 by omega)), pk_mul, nI_add, ml.2 i hi]
      exact q2
  have s3 : ∀ (a : Int64) (g : Hp), GG pm v t p m c a g → ∃ g', GG pm v t p m c (fd (pth m) (vN v) a) g' ∧ f_X10_mixMenu_L26 77 (fun h14 => some h14) FU (nI 0) g = some g' := by
    intro a g x
    refine lpG (G := GG pm v t p m c) (W := fun f i g => f_X10_mixMenu_L26 77 (fun h14 => some h14) f (nI i) g) (K := fun h14 => some h14) (N := vN v) (st := pth m) (fun f b g hg => ?_) (fun f b i g hi hg => ?_) FU 0 a g (Nat.zero_le _) (FU_gt (by omega)) x
    · show f_X10_mixMenu_L26 _ _ _ _ _ = _
      unfold f_X10_mixMenu_L26
      simp only [MG hg.1.1, hg.2.1.2.2.2.2.1.1, Option.bind_some, if_pos (nI_le (Nat.le_refl (vN v)) (show vN v < 2 ^ 31 by omega))]
    · obtain ⟨g', q1, q2⟩ := s2 (fun h12 => f_X10_mixMenu_L26 77 (fun h14 => some h14) f (nI (i + 1)) h12) _ g i hi hg
      refine ⟨g', q1, ?_⟩
      show f_X10_mixMenu_L26 _ _ _ _ _ = f_X10_mixMenu_L26 _ _ _ _ _
      conv => lhs; unfold f_X10_mixMenu_L26
      simp only [MG hg.1.1, hg.2.1.2.2.2.2.1.1, Option.bind_some, if_neg (nI_ge hi (show vN v < 2 ^ 31 by omega)), nI_add]
      exact q2
  obtain ⟨g1, a1, b1⟩ := s1 (fun h4 => f_X10_mixMenu_L26 77 (fun h14 => some h14) FU (nI 0) h4) a g x
  obtain ⟨g2, a2, b2⟩ := s3 _ g1 a1
  exact ⟨g2, a2, b1.trans b2⟩
theorem M_cnt (sm : SM v t p m c h) {w : Nat} (hw : w ≤ 5) : f_X10_howMany 77 (nI w) h = some (cnv v t p c w) := by
  obtain ⟨hL, a1, a2, a3, a4, a5, a6⟩ := id sm
  unfold f_X10_howMany cnv
  rw [gd_77 hL]
  have : w = 0 ∨ w = 1 ∨ w = 2 ∨ w = 3 ∨ w = 4 ∨ w = 5 := by omega
  rcases this with rfl | rfl | rfl | rfl | rfl | rfl <;> simp (disch := decide) only [nI_eq, MG hL, Option.bind_some, a1.1, a2.1, a4.1, a6.1, a6.2.1, a6.2.2.1, if_true, if_false, show ¬ (1 : Nat) = 0 by decide, show ¬ (2 : Nat) = 0 by decide, show ¬ (2 : Nat) = 1 by decide, show ¬ (3 : Nat) = 0 by decide, show ¬ (3 : Nat) = 1 by decide, show ¬ (3 : Nat) = 2 by decide, show ¬ (4 : Nat) = 0 by decide, show ¬ (4 : Nat) = 1 by decide, show ¬ (4 : Nat) = 2 by decide, show ¬ (4 : Nat) = 3 by decide, show ¬ (5 : Nat) = 0 by decide, show ¬ (5 : Nat) = 1 by decide, show ¬ (5 : Nat) = 2 by decide, show ¬ (5 : Nat) = 3 by decide, show ¬ (5 : Nat) = 4 by decide]
theorem M_fin (ht : TOK t) (K : Hp → Option (Int64 × Hp)) (x : GG pm v t p m c a g) : ∃ g', GG pm v t p m c (dg4 v t p c a) g' ∧ f_X10_digest_L94 77 (fun h25 => f_X10_digest_L121 77 K FU (nI 0) h25) FU (nI 0) g = K g' := by
  have ht1 := ht.1
  have s1 : ∀ (K : Hp → Option (Int64 × Hp)) (a : Int64) (g : Hp), GG pm v t p m c a g → ∃ g', GG pm v t p m c (mxs (fun i => nI (t.2 i)) t.1 a) g' ∧ f_X10_digest_L94 77 K FU (nI 0) g = K g' := by
    intro K a g x
    refine lpG (G := GG pm v t p m c) (W := fun f i g => f_X10_digest_L94 77 K f (nI i) g) (N := t.1) (st := fun i b => mx b (nI (t.2 i))) (fun f b g hg => ?_) (fun f b i g hi hg => ?_) FU 0 a g (Nat.zero_le _) (FU_gt (by omega)) x
    · show f_X10_digest_L94 _ _ _ _ _ = _
      unfold f_X10_digest_L94
      simp only [MG hg.1.1, hg.2.1.2.1.1, Option.bind_some, if_pos (nI_le (Nat.le_refl t.1) (show t.1 < 2 ^ 31 by omega))]
    · obtain ⟨g', q1, q2⟩ := M_mixs hg (nI (t.2 i)) (fun h4 => f_X10_digest_L94 77 K f (nI (i + 1)) h4)
      refine ⟨g', q1, ?_⟩
      show f_X10_digest_L94 _ _ _ _ _ = f_X10_digest_L94 _ _ _ _ _
      conv => lhs; unfold f_X10_digest_L94
      simp (disch := omega) only [MG hg.1.1, hg.2.1.2.1.1, Option.bind_some, if_neg (nI_ge hi (show t.1 < 2 ^ 31 by omega)), hg.2.1.2.1.2 i hi, nI_add]
      exact q2
  have s2 : ∀ (K : Hp → Option (Int64 × Hp)) (a : Int64) (g : Hp), GG pm v t p m c a g → ∃ g', GG pm v t p m c (mxs (cnv v t p c) 6 a) g' ∧ f_X10_digest_L121 77 K FU (nI 0) g = K g' := by
    intro K a g x
    refine lpG (G := GG pm v t p m c) (W := fun f i g => f_X10_digest_L121 77 K f (nI i) g) (N := 6) (st := fun i b => mx b (cnv v t p c i)) (fun f b g hg => ?_) (fun f b i g hi hg => ?_) FU 0 a g (Nat.zero_le _) (FU_gt (by omega)) x
    · show f_X10_digest_L121 _ _ _ _ _ = _
      unfold f_X10_digest_L121
      rw [if_pos (nI_le (Nat.le_refl _) (by decide))]
    · obtain ⟨g', q1, q2⟩ := M_mixs hg (cnv v t p c i) (fun h4 => f_X10_digest_L121 77 K f (nI (i + 1)) h4)
      refine ⟨g', q1, ?_⟩
      show f_X10_digest_L121 _ _ _ _ _ = f_X10_digest_L121 _ _ _ _ _
      conv => lhs; unfold f_X10_digest_L121
      rw [if_neg (nI_ge hi (by decide)), M_cnt hg.2.1 (show i ≤ 5 by omega), Option.bind_some, nI_add]
      exact q2
  obtain ⟨g1, a1, b1⟩ := s1 (fun h25 => f_X10_digest_L121 77 K FU (nI 0) h25) a g x
  obtain ⟨g2, a2, b2⟩ := s2 K _ g1 a1
  exact ⟨g2, a2, b1.trans b2⟩
theorem M_digest (sc : SC pm v t p m c h) (sm : SM v t p m c h) (vo : VOK v) (ht : TOK t) (hp : IOK p) (mo : MOK m (vN v)) {n q : Nat} {s : Nat → Nat} (l : LI v p (vN v) n s) (np : NP v p q) : ∃ g, SC pm v t p m c g ∧ SM v t p m c g ∧ f_X10_digest 77 h = some (dg4 v t p c (dg3 v m c (dg2 v p n s q (dg1 v m))), g) := by
  have hL := sc.1
  have x0 : GG pm v t p m c 1571 (setJ h 77 32 (1571 : Int64)) := ⟨sc.setJ _, sm.setJ _, hJ_setJ _ _ _ _⟩
  unfold f_X10_digest
  rw [gd_77 hL, (MJ hL).2, Option.bind_some]
  obtain ⟨g1, a1, b1⟩ := M_keys (fun h6 => f_X10_digest_L34 77 (fun h10 => f_X10_digest_L55 77 (fun h14 => (f_X10_mixTyped 77 h14).bind fun h15 => (getI h15 10 77 12).bind fun x16 => (if x16 ≤ nI 0 then (some h15) else ((f_X10_mixMenu 77 h15).bind fun h18 => some h18)).bind fun (v17 : Hp) => f_X10_digest_L94 77 (fun h25 => f_X10_digest_L121 77 (fun h29 => (getJ h29 10 77 32).bind fun x30 => some (x30, h29)) FU (nI 0) h25) FU (nI 0) v17) FU (nI 0) h10) FU (nI 0) h6) x0
  obtain ⟨g2, a2, b2⟩ := M_nms vo mo (fun h10 => f_X10_digest_L55 77 (fun h14 => (f_X10_mixTyped 77 h14).bind fun h15 => (getI h15 10 77 12).bind fun x16 => (if x16 ≤ nI 0 then (some h15) else ((f_X10_mixMenu 77 h15).bind fun h18 => some h18)).bind fun (v17 : Hp) => f_X10_digest_L94 77 (fun h25 => f_X10_digest_L121 77 (fun h29 => (getJ h29 10 77 32).bind fun x30 => some (x30, h29)) FU (nI 0) h25) FU (nI 0) v17) FU (nI 0) h10) a1
  obtain ⟨g3, a3, b3⟩ := M_abt vo (fun h14 => (f_X10_mixTyped 77 h14).bind fun h15 => (getI h15 10 77 12).bind fun x16 => (if x16 ≤ nI 0 then (some h15) else ((f_X10_mixMenu 77 h15).bind fun h18 => some h18)).bind fun (v17 : Hp) => f_X10_digest_L94 77 (fun h25 => f_X10_digest_L121 77 (fun h29 => (getJ h29 10 77 32).bind fun x30 => some (x30, h29)) FU (nI 0) h25) FU (nI 0) v17) a2
  obtain ⟨g4, a4, b4⟩ := M_typ vo hp l np a3
  have mm : ∃ g5, GG pm v t p m c (dg3 v m c (dg2 v p n s q (dg1 v m))) g5 ∧ (if nI m.1 ≤ nI 0 then (some g4) else ((f_X10_mixMenu 77 g4).bind fun h18 => some h18)) = some g5 := by
    by_cases c0 : m.1 = 0
    · refine ⟨g4, ?_, ?_⟩
      · unfold dg3
        rw [if_pos c0]
        exact a4
      · rw [c0, if_pos (by decide)]
    · obtain ⟨g5, a5, b5⟩ := M_mnu vo mo c0 a4
      refine ⟨g5, ?_, ?_⟩
      · unfold dg3
        rw [if_neg c0]
        exact a5
      · have := (mo c0).1
        rw [if_neg (nI_ge (by omega) (by omega)), b5]
        rfl
  obtain ⟨g5, a5, b5⟩ := mm
  obtain ⟨g6, a6, b6⟩ := M_fin ht (fun h29 => (getJ h29 10 77 32).bind fun x30 => some (x30, h29)) a5
  refine ⟨g6, a6.1, a6.2.1, b1.trans (b2.trans (b3.trans ?_))⟩
  rw [b4, Option.bind_some, (MG a4.1.1).1, a4.2.1.2.2.2.2.2.1.1, Option.bind_some, b5, Option.bind_some, b6, (MJ a6.1.1).1, Option.bind_some, a6.2.2]
theorem op_digest (sc : SC pm v t p m c h) (sm : SM v t p m c h) (vo : VOK v) (ht : TOK t) (hp : IOK p) (mo : MOK m (vN v)) : ∃ r h1 h2, f_X9_digest 0 h = some (r, h1) ∧ f_X10_digest 77 h1 = some (r, h2) ∧ SC pm v t p m c h2 ∧ SM v t p m c h2 := by
  have hpm := sc.2.2.2.2.2.1.two
  obtain ⟨n, s, q, g, l, _, np, oc, e⟩ := C_digest sc vo ht hp mo
  obtain ⟨g2, s1, s2, e2⟩ := M_digest (sc.oc oc) (sm.oc hpm oc) vo ht hp mo l np
  exact ⟨_, g, g2, e, e2, s1, s2⟩
end
