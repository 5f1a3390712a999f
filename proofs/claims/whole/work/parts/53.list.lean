/-! reading a list of names -/
def updN (f : Nat → Nat) (k x : Nat) : Nat → Nat := fun j => if j = k then x else f j
theorem updN_same (f : Nat → Nat) (k x : Nat) : updN f k x k = x := if_pos rfl
theorem updN_ne (f : Nat → Nat) {k j : Nat} (x : Nat) (h : j ≠ k) : updN f k x j = f j := if_neg h
/-- items, where the name begins, 1 in a frequency; where items begin, their lengths, their frequencies -/
abbrev NS : Type := Nat × Nat × Nat × (Nat → Nat) × (Nat → Nat) × (Nat → Nat)
def zn (s : NS) : Nat := s.1
def zs (s : NS) : Nat := s.2.1
def zm (s : NS) : Nat := s.2.2.1
def zS (s : NS) : Nat → Nat := s.2.2.2.1
def zL (s : NS) : Nat → Nat := s.2.2.2.2.1
def zF (s : NS) : Nat → Nat := s.2.2.2.2.2
/-- no item so far is the name of l letters that begins now -/
abbrev unl (t : Sq) (s : NS) (l : Nat) : Prop := ∀ k, k < zn s → ¬ (zL s k = l ∧ ∀ i, i < l → t.2 (zS s k + i) = t.2 (zs s + i))
def nst (t : Sq) (a : Nat) (s : NS) : Option NS :=
  if zm s = 0 then
    (if t.2 a = 58 then (if a ≠ zs s ∧ unl t s (a - zs s) then some (zn s + 1, zs s, 1, updN (zS s) (zn s) (zs s), updN (zL s) (zn s) (a - zs s), updN (zF s) (zn s) 0) else none)
     else if (97 ≤ t.2 a ∧ t.2 a ≤ 122) ∧ a - zs s < 8 then some s else none)
  else
    (if t.2 a = 59 ∧ 0 < zF s (zn s - 1) then some (zn s, a + 1, 0, zS s, zL s, zF s)
     else if (48 ≤ t.2 a ∧ t.2 a ≤ 57) ∧ 1 ≤ 10 * zF s (zn s - 1) + (t.2 a - 48) ∧ 10 * zF s (zn s - 1) + (t.2 a - 48) ≤ 99 then some (zn s, zs s, 1, zS s, zL s, updN (zF s) (zn s - 1) (10 * zF s (zn s - 1) + (t.2 a - 48))) else none)
def nrn (t : Sq) : Nat → Option NS
  | 0 => some (0, 0, 0, fun _ => 0, fun _ => 0, fun _ => 0)
  | k + 1 => (nrn t k).bind (nst t k)
def NI (t : Sq) (a : Nat) (s : NS) : Prop := zs s ≤ a ∧
  (zm s = 0 → a - zs s ≤ 8 ∧ (∀ i, zs s ≤ i → i < a → 97 ≤ t.2 i ∧ t.2 i ≤ 122) ∧ 4 * zn s ≤ zs s ∧ ∀ k, k < zn s → 1 ≤ zF s k) ∧
  (zm s ≠ 0 → zm s = 1 ∧ 1 ≤ zn s ∧ 4 * (zn s - 1) ≤ zs s ∧ zS s (zn s - 1) = zs s ∧ zs s + zL s (zn s - 1) + 1 ≤ a ∧ (0 < zF s (zn s - 1) → zs s + zL s (zn s - 1) + 2 ≤ a) ∧ ∀ k, k < zn s - 1 → 1 ≤ zF s k) ∧
  (∀ k, k < zn s → (1 ≤ zL s k ∧ zL s k ≤ 8) ∧ zS s k + zL s k ≤ a ∧ (∀ i, i < zL s k → 97 ≤ t.2 (zS s k + i) ∧ t.2 (zS s k + i) ≤ 122) ∧ zF s k ≤ 99) ∧
  ∀ j k, j < k → k < zn s → ¬ (zL s j = zL s k ∧ ∀ i, i < zL s k → t.2 (zS s j + i) = t.2 (zS s k + i))
theorem NI.step {t : Sq} {a : Nat} {s s' : NS} (n : NI t a s) (h : nst t a s = some s') : NI t (a + 1) s' := by
  obtain ⟨n1, n2, n3, n4, n5⟩ := n
  unfold nst at h
  split at h
  · next c0 =>
    obtain ⟨x1, x2, x3, x4⟩ := n2 c0
    split at h
    · next c1 =>
      split at h
      · next c2 =>
        have e := Option.some.inj h
        subst e
        refine ⟨?_, ?_, ?_, ?_, ?_⟩
        · show zs s ≤ a + 1; omega
        · intro z; exact absurd z (show ¬ (1 : Nat) = 0 by decide)
        · intro _
          show (1 : Nat) = 1 ∧ 1 ≤ zn s + 1 ∧ 4 * (zn s + 1 - 1) ≤ zs s ∧ updN (zS s) (zn s) (zs s) (zn s + 1 - 1) = zs s ∧ zs s + updN (zL s) (zn s) (a - zs s) (zn s + 1 - 1) + 1 ≤ a + 1 ∧ (0 < updN (zF s) (zn s) 0 (zn s + 1 - 1) → zs s + updN (zL s) (zn s) (a - zs s) (zn s + 1 - 1) + 2 ≤ a + 1) ∧ ∀ k, k < zn s + 1 - 1 → 1 ≤ updN (zF s) (zn s) 0 k
          rw [Nat.add_sub_cancel, updN_same, updN_same, updN_same]
          refine ⟨rfl, by omega, x3, rfl, by omega, fun z => by omega, fun k hk => ?_⟩
          rw [updN_ne _ _ (by omega)]
          exact x4 k hk
        · intro k hk
          have hk' : k < zn s + 1 := hk
          show (1 ≤ updN (zL s) (zn s) (a - zs s) k ∧ updN (zL s) (zn s) (a - zs s) k ≤ 8) ∧ updN (zS s) (zn s) (zs s) k + updN (zL s) (zn s) (a - zs s) k ≤ a + 1 ∧ (∀ i, i < updN (zL s) (zn s) (a - zs s) k → 97 ≤ t.2 (updN (zS s) (zn s) (zs s) k + i) ∧ t.2 (updN (zS s) (zn s) (zs s) k + i) ≤ 122) ∧ updN (zF s) (zn s) 0 k ≤ 99
          by_cases e : k = zn s
          · rw [e, updN_same, updN_same, updN_same]
            exact ⟨by omega, by omega, fun i hi => x2 _ (by omega) (by omega), by omega⟩
          · rw [updN_ne _ _ e, updN_ne _ _ e, updN_ne _ _ e]
            obtain ⟨y1, y2, y3, y4⟩ := n4 k (by omega)
            exact ⟨y1, by omega, y3, y4⟩
        · intro j k hjk hk
          have hk' : k < zn s + 1 := hk
          show ¬ (updN (zL s) (zn s) (a - zs s) j = updN (zL s) (zn s) (a - zs s) k ∧ ∀ i, i < updN (zL s) (zn s) (a - zs s) k → t.2 (updN (zS s) (zn s) (zs s) j + i) = t.2 (updN (zS s) (zn s) (zs s) k + i))
          by_cases e : k = zn s
          · rw [e, updN_same, updN_same, updN_ne _ _ (by omega), updN_ne _ _ (by omega)]
            exact c2.2 j (by omega)
          · rw [updN_ne _ _ (by omega), updN_ne _ _ (by omega), updN_ne _ _ (by omega), updN_ne _ _ (by omega)]
            exact n5 j k hjk (by omega)
      · cases h
    · split at h
      · next c1 c2 =>
        have e := Option.some.inj h
        subst e
        refine ⟨by omega, fun _ => ⟨by omega, fun i h1 h2 => ?_, x3, x4⟩, fun z => absurd c0 z, fun k hk => ?_, n5⟩
        · by_cases ei : i = a
          · rw [ei]; exact c2.1
          · exact x2 i h1 (by omega)
        · obtain ⟨y1, y2, y3, y4⟩ := n4 k hk
          exact ⟨y1, by omega, y3, y4⟩
      · cases h
  · next c0 =>
    obtain ⟨x1, x2, x3, x4, x5, x6, x7⟩ := n3 c0
    split at h
    · next c1 =>
      have e := Option.some.inj h
      subst e
      have := x6 c1.2
      have l1 := (n4 (zn s - 1) (by omega)).1
      refine ⟨Nat.le_refl _, fun _ => ⟨?_, fun i h1 h2 => ?_, ?_, fun k hk => ?_⟩, fun z => absurd rfl z, fun k hk => ?_, n5⟩
      · show a + 1 - (a + 1) ≤ 8; omega
      · have h1' : a + 1 ≤ i := h1
        omega
      · show 4 * zn s ≤ a + 1; omega
      · have hk' : k < zn s := hk
        show 1 ≤ zF s k
        by_cases e : k = zn s - 1
        · rw [e]; exact c1.2
        · exact x7 k (by omega)
      · obtain ⟨y1, y2, y3, y4⟩ := n4 k hk
        exact ⟨y1, Nat.le_succ_of_le y2, y3, y4⟩
    · split at h
      · next c1 c2 =>
        have e := Option.some.inj h
        subst e
        refine ⟨by show zs s ≤ a + 1; omega, fun z => absurd z (show ¬ (1 : Nat) = 0 by decide), fun _ => ?_, fun k hk => ?_, n5⟩
        · show (1 : Nat) = 1 ∧ 1 ≤ zn s ∧ 4 * (zn s - 1) ≤ zs s ∧ zS s (zn s - 1) = zs s ∧ zs s + zL s (zn s - 1) + 1 ≤ a + 1 ∧ (0 < updN (zF s) (zn s - 1) (10 * zF s (zn s - 1) + (t.2 a - 48)) (zn s - 1) → zs s + zL s (zn s - 1) + 2 ≤ a + 1) ∧ ∀ k, k < zn s - 1 → 1 ≤ updN (zF s) (zn s - 1) (10 * zF s (zn s - 1) + (t.2 a - 48)) k
          refine ⟨rfl, x2, x3, x4, by omega, fun _ => by omega, fun k hk => ?_⟩
          rw [updN_ne _ _ (by omega)]
          exact x7 k hk
        · have hk' : k < zn s := hk
          obtain ⟨y1, y2, y3, y4⟩ := n4 k hk'
          show (1 ≤ zL s k ∧ zL s k ≤ 8) ∧ zS s k + zL s k ≤ a + 1 ∧ (∀ i, i < zL s k → 97 ≤ t.2 (zS s k + i) ∧ t.2 (zS s k + i) ≤ 122) ∧ updN (zF s) (zn s - 1) (10 * zF s (zn s - 1) + (t.2 a - 48)) k ≤ 99
          refine ⟨y1, by omega, y3, ?_⟩
          by_cases e : k = zn s - 1
          · rw [e, updN_same]; exact c2.2.2
          · rw [updN_ne _ _ e]; exact y4
      · cases h
theorem nrn_NI (t : Sq) : ∀ k s, nrn t k = some s → NI t k s := by
  intro k
  induction k with
  | zero =>
    intro s h
    have e := Option.some.inj h
    subst e
    exact ⟨Nat.le_refl _, fun _ => ⟨Nat.zero_le _, fun i h1 h2 => by omega, Nat.le_refl _, fun k hk => absurd hk (Nat.not_lt_zero k)⟩, fun z => absurd rfl z, fun k hk => absurd hk (Nat.not_lt_zero k), fun j k _ hk => absurd hk (Nat.not_lt_zero k)⟩
  | succ k ih =>
    intro s h
    have h' : (nrn t k).bind (nst t k) = some s := h
    cases e : nrn t k with
    | none => rw [e] at h'; cases h'
    | some s0 => rw [e] at h'; exact (ih s0 e).step h'
theorem nrn_none {t : Sq} {k : Nat} (h : nrn t k = none) : ∀ j, k ≤ j → nrn t j = none := by
  intro j
  induction j with
  | zero => intro hj; rw [show k = 0 by omega] at h; cases h
  | succ j ih =>
    intro hj
    by_cases e : k = j + 1
    · rw [← e]; exact h
    · show (nrn t j).bind _ = none
      rw [ih (by omega)]
      rfl
/-- where reading ends -/
def FE (t : Sq) (k : Nat) : Prop := (k = t.1 ∧ ∃ s, nrn t t.1 = some s) ∨ (k < t.1 ∧ (∃ s, nrn t k = some s) ∧ nrn t (k + 1) = none)
theorem FE_one {t : Sq} {j k : Nat} (h1 : FE t j) (h2 : FE t k) : j = k := by
  have key : ∀ {j k : Nat}, FE t j → FE t k → ¬ j < k := by
    intro j k h1 h2 hlt
    rcases h1 with ⟨a1, a2⟩ | ⟨a1, a2, a3⟩
    · rcases h2 with ⟨b1, b2⟩ | ⟨b1, b2, b3⟩ <;> omega
    · have hn := nrn_none a3 k (by omega)
      rcases h2 with ⟨b1, s, b2⟩ | ⟨b1, ⟨s, b2⟩, b3⟩
      · rw [b1] at hn; rw [hn] at b2; cases b2
      · rw [hn] at b2; cases b2
  have k1 := key h1 h2
  have k2 := key h2 h1
  omega
theorem NI.small {t : Sq} {a : Nat} {s : NS} (n : NI t a s) (ha : a ≤ 50) : zn s ≤ 13 := by
  obtain ⟨n1, n2, n3, n4, n5⟩ := n
  by_cases c : zm s = 0
  · have := (n2 c).2.2.1; omega
  · obtain ⟨x1, x2, x3, x4, x5, x6, x7⟩ := n3 c
    have := (n4 (zn s - 1) (by omega)).1
    omega
/-- the class holds it -/
def CR (s : NS) (h : Hp) : Prop := hI h 10 3 = nI (zn s) ∧ hI h 10 4 = nI (zs s) ∧ hI h 10 5 = nI (zm s) ∧ ∀ k, k < zn s → hI h 11 k = nI (zS s k) ∧ hI h 12 k = nI (zL s k) ∧ hI h 13 k = nI (zF s k)
abbrev R3 (q : Nat) : Prop := 10 ≤ q ∧ q ≤ 13
section
variable {h : Hp} {t : Sq} {s : NS}
theorem X3_freq (hL : Lay h) (cr : CR s h) (hn : zn s ≤ 13) {k : Nat} (hk : k < zn s) : f_X3_frequencyOf 10 (nI k) h = some (nI (zF s k)) := by
  unfold f_X3_frequencyOf
  simp (disch := omega) only [gd_10 hL, CG hL, cr.1, Option.bind_some, if_neg (nI_lt0 k (show k < 2 ^ 31 by omega)), if_neg (nI_ge hk (show zn s < 2 ^ 31 by omega)), (cr.2.2.2 k hk).2.2]
theorem X3_start (hL : Lay h) (cr : CR s h) (hn : zn s ≤ 13) {k : Nat} (hk : k < zn s) : f_X3_startOf 10 (nI k) h = some (nI (zS s k)) := by
  unfold f_X3_startOf
  simp (disch := omega) only [gd_10 hL, CG hL, cr.1, Option.bind_some, if_neg (nI_lt0 k (show k < 2 ^ 31 by omega)), if_neg (nI_ge hk (show zn s < 2 ^ 31 by omega)), (cr.2.2.2 k hk).1]
theorem X3_len (hL : Lay h) (cr : CR s h) (hn : zn s ≤ 13) {k : Nat} (hk : k < zn s) : f_X3_lengthOf 10 (nI k) h = some (nI (zL s k)) := by
  unfold f_X3_lengthOf
  simp (disch := omega) only [gd_10 hL, CG hL, cr.1, Option.bind_some, if_neg (nI_lt0 k (show k < 2 ^ 31 by omega)), if_neg (nI_ge hk (show zn s < 2 ^ 31 by omega)), (cr.2.2.2 k hk).2.1]
theorem X3_same (hL : Lay h) (ht : TOK t) (hc : CT t h) (cr : CR s h) {a l : Nat} (ha : a + l ≤ t.1) (hs : zs s + l ≤ t.1) : f_X3_isSameText 10 1 (nI a) (nI l) h = some (b2 (∀ i, i < l → t.2 (a + i) = t.2 (zs s + i))) := by
  have ht1 := ht.1
  have r := row_text hL ht hc
  unfold f_X3_isSameText
  rw [gd_10 hL]
  have q := lp_all0 (W := fun n i => f_X3_isSameText_L3 10 1 (nI a) (nI l) h ((rz (nI 1)).bind fun r => some r) n (nI i)) (N := l) (P := fun i => t.2 (a + i) = t.2 (zs s + i)) (r1 := some (nI 1)) (r0 := some (nI 0)) (fun n => ?_) (fun n i hi _ => ?_) (n := FU) (FU_gt (by omega))
  · refine q.trans ?_
    rw [ite_some, b2_def]
  · show f_X3_isSameText_L3 _ _ _ _ _ _ _ _ = _
    unfold f_X3_isSameText_L3
    rw [if_pos (nI_le (Nat.le_refl _) (by omega)), rz_1]
    rfl
  · have b1 := ht.2 (a + i) (by omega)
    have b2 := ht.2 (zs s + i) (by omega)
    constructor
    · intro z
      show f_X3_isSameText_L3 _ _ _ _ _ _ _ _ = f_X3_isSameText_L3 _ _ _ _ _ _ _ _
      conv => lhs; unfold f_X3_isSameText_L3
      rw [if_neg (nI_ge hi (by omega))]
      simp only [nI_add, r.get (show a + i < t.1 by omega), hc.2 (a + i) (by omega), CG hL, cr.2.1, r.get (show zs s + i < t.1 by omega), hc.2 (zs s + i) (by omega), Option.bind_some, z, if_true]
    · intro z
      show f_X3_isSameText_L3 _ _ _ _ _ _ _ _ = _
      unfold f_X3_isSameText_L3
      rw [if_neg (nI_ge hi (by omega))]
      simp only [nI_add, r.get (show a + i < t.1 by omega), hc.2 (a + i) (by omega), CG hL, cr.2.1, r.get (show zs s + i < t.1 by omega), hc.2 (zs s + i) (by omega), Option.bind_some]
      rw [if_neg (by rw [nI_eq (by omega) (by omega)]; exact z), rz_0]
      rfl
theorem X3_listed (hL : Lay h) (ht : TOK t) (hc : CT t h) (cr : CR s h) {a : Nat} (ni : NI t a s) (ha : a < t.1) (h0 : zm s = 0) : f_X3_isListed 10 1 (nI (a - zs s)) h = some (b2 (¬ unl t s (a - zs s))) := by
  have ht1 := ht.1
  have hn := ni.small (by omega)
  obtain ⟨n1, n2, n3, n4, n5⟩ := ni
  have x1 := (n2 h0).1
  unfold f_X3_isListed
  rw [gd_10 hL]
  have q := lp_all0 (W := fun n i => f_X3_isListed_L2 10 1 (nI (a - zs s)) h ((rz (nI 0)).bind fun r => some r) n (nI i)) (N := zn s) (P := fun k => ¬ (zL s k = a - zs s ∧ ∀ i, i < a - zs s → t.2 (zS s k + i) = t.2 (zs s + i))) (r1 := some (nI 0)) (r0 := some (nI 1)) (fun n => ?_) (fun n i hi _ => ?_) (n := FU) (FU_gt (by omega))
  · refine q.trans ?_
    rw [ite_some, b2_def']
  · show f_X3_isListed_L2 _ _ _ _ _ _ _ = _
    unfold f_X3_isListed_L2
    simp only [CG hL, cr.1, Option.bind_some, if_pos (nI_le (Nat.le_refl (zn s)) (show zn s < 2 ^ 31 by omega)), rz_0]
  · obtain ⟨y1, y2, y3, y4⟩ := n4 i hi
    constructor
    · intro z
      show f_X3_isListed_L2 _ _ _ _ _ _ _ = f_X3_isListed_L2 _ _ _ _ _ _ _
      conv => lhs; unfold f_X3_isListed_L2
      simp (disch := omega) only [CG hL, cr.1, Option.bind_some, if_neg (nI_ge hi (show zn s < 2 ^ 31 by omega)), (cr.2.2.2 i hi).1, (cr.2.2.2 i hi).2.1, nI_add]
      by_cases c : zL s i = a - zs s
      · rw [if_pos (by rw [c]), X3_same hL ht hc cr (a := zS s i) (l := a - zs s) (by omega) (by omega), b2_f (fun w => z ⟨c, w⟩), Option.bind_some, if_pos rfl]
      · rw [if_neg (by rw [nI_eq (by omega) (by omega)]; exact c)]
    · intro z
      have z' : zL s i = a - zs s ∧ ∀ x, x < a - zs s → t.2 (zS s i + x) = t.2 (zs s + x) := Classical.not_not.mp z
      show f_X3_isListed_L2 _ _ _ _ _ _ _ = _
      unfold f_X3_isListed_L2
      simp (disch := omega) only [CG hL, cr.1, Option.bind_some, if_neg (nI_ge hi (show zn s < 2 ^ 31 by omega)), (cr.2.2.2 i hi).1, (cr.2.2.2 i hi).2.1]
      rw [if_pos (by rw [z'.1]), X3_same hL ht hc cr (a := zS s i) (l := a - zs s) (by omega) (by omega), b2_t z'.2, Option.bind_some, if_neg nI01, rz_1]
      rfl
end
