/-! LOOPS, and what the roster answers -/
theorem FU_gt {N : Nat} (h : N < 256) : N < FU := h
theorem w1_in {k n : Nat} (hk : k ≤ n) (hn : n < 2 ^ 31) : ¬ nI k < nI 0 ∧ nI k ≤ nI n := ⟨nI_lt0 k (by omega), nI_le hk hn⟩
theorem w1_out {x : Int32} {n : Nat} (hn : n + 1 < 2 ^ 31) (hx : x < nI 0 ∨ nI (n + 1) ≤ x) : ¬ (¬ x < nI 0 ∧ x ≤ nI n) := by
  rintro ⟨z1, z2⟩
  have c1 := hx.resolve_left z1
  rw [le_toInt, nI_toInt (by omega)] at c1 z2
  omega
theorem lp_up {β : Type} {W : Nat → Nat → β} {N : Nat} {r : β} (hx : ∀ n, W (n + 1) N = r) (hs : ∀ n k, k < N → W (n + 1) k = W n (k + 1)) : ∀ n k, k ≤ N → N - k < n → W n k = r := by
  intro n
  induction n with
  | zero => intro k h1 h2; omega
  | succ n ih =>
    intro k h1 h2
    by_cases e : k = N
    · rw [e]; exact hx n
    · rw [hs n k (by omega)]
      exact ih (k + 1) (by omega) (by omega)
theorem lp_all {β : Type} {W : Nat → Nat → β} {N : Nat} {P : Nat → Prop} {r1 r0 : β} (hx : ∀ n, W (n + 1) N = r1) (hs : ∀ n k, k < N → 0 < n → (P k → W (n + 1) k = W n (k + 1)) ∧ (¬ P k → W (n + 1) k = r0)) :
    ∀ n k, k ≤ N → N - k < n → ((∀ i, k ≤ i → i < N → P i) → W n k = r1) ∧ ((∃ i, k ≤ i ∧ i < N ∧ ¬ P i) → W n k = r0) := by
  intro n
  induction n with
  | zero => intro k h1 h2; omega
  | succ n ih =>
    intro k h1 h2
    by_cases e : k = N
    · subst e
      exact ⟨fun _ => hx n, fun ⟨i, a, b, _⟩ => by omega⟩
    · have hk : k < N := by omega
      have hn : 0 < n := by omega
      have q := ih (k + 1) (by omega) (by omega)
      by_cases hp : P k
      · rw [(hs n k hk hn).1 hp]
        refine ⟨fun h => q.1 (fun i a b => h i (by omega) b), fun ⟨i, a, b, c⟩ => q.2 ⟨i, ?_, b, c⟩⟩
        by_cases ei : i = k
        · rw [ei] at c; exact absurd hp c
        · omega
      · exact ⟨fun h => absurd (h k (Nat.le_refl k) hk) hp, fun _ => (hs n k hk hn).2 hp⟩
theorem lp_all0 {β : Type} {W : Nat → Nat → β} {N : Nat} {P : Nat → Prop} {r1 r0 : β} [d : Decidable (∀ i, i < N → P i)] (hx : ∀ n, W (n + 1) N = r1) (hs : ∀ n k, k < N → 0 < n → (P k → W (n + 1) k = W n (k + 1)) ∧ (¬ P k → W (n + 1) k = r0)) {n : Nat} (hn : N < n) :
    W n 0 = if (∀ i, i < N → P i) then r1 else r0 := by
  have q := lp_all hx hs n 0 (Nat.zero_le _) (by omega)
  split
  · next h => exact q.1 (fun i _ b => h i b)
  · next h =>
    apply q.2
    by_cases z : ∃ i, 0 ≤ i ∧ i < N ∧ ¬ P i
    · exact z
    · exact absurd (fun i hi => Classical.byContradiction (fun c => z ⟨i, Nat.zero_le i, hi, c⟩)) h
/-- how many below k are so -/
def cnt (P : Nat → Prop) [DecidablePred P] : Nat → Nat
  | 0 => 0
  | k + 1 => cnt P k + if P k then 1 else 0
theorem cnt_succ (P : Nat → Prop) [DecidablePred P] (k : Nat) : cnt P (k + 1) = cnt P k + if P k then 1 else 0 := rfl
theorem cnt_le (P : Nat → Prop) [DecidablePred P] (k : Nat) : cnt P k ≤ k := by
  induction k with
  | zero => exact Nat.le_refl 0
  | succ k ih => unfold cnt; split <;> omega
theorem cnt_congr {P Q : Nat → Prop} [DecidablePred P] [DecidablePred Q] {k : Nat} (h : ∀ j, j < k → (P j ↔ Q j)) : cnt P k = cnt Q k := by
  induction k with
  | zero => rfl
  | succ k ih =>
    unfold cnt
    rw [ih (fun j hj => h j (by omega))]
    have := h k (by omega)
    by_cases z : P k
    · rw [if_pos z, if_pos (this.mp z)]
    · rw [if_neg z, if_neg (fun y => z (this.mpr y))]
theorem cnt_pos {P : Nat → Prop} [DecidablePred P] {k : Nat} : 0 < cnt P k ↔ ∃ j, j < k ∧ P j := by
  induction k with
  | zero => simp [cnt]
  | succ k ih =>
    unfold cnt
    by_cases z : P k
    · rw [if_pos z]; exact ⟨fun _ => ⟨k, by omega, z⟩, fun _ => by omega⟩
    · rw [if_neg z, Nat.add_zero, ih]
      refine ⟨fun ⟨j, a, b⟩ => ⟨j, by omega, b⟩, fun ⟨j, a, b⟩ => ⟨j, ?_, b⟩⟩
      by_cases e : j = k
      · rw [e] at b; exact absurd b z
      · omega
theorem nI_b2 (n : Nat) (c : Prop) [Decidable c] : nI n + b2 c = nI (n + if c then 1 else 0) := by
  unfold b2
  split <;> rw [nI_add]
theorem nI_b2' (n : Nat) (c : Prop) [Decidable c] : (if b2 c = nI 0 then nI n else nI (n + 1)) = nI (n + if c then 1 else 0) := by
  simp only [b2_eq0]
  by_cases h : c
  · simp [h]
  · simp [h]
theorem b2_ball {P : Nat → Prop} {k : Nat} [Decidable (∀ i, i < k → P i)] [Decidable (∀ i, i < k + 1 → P i)] [Decidable (P k)] : (if b2 (∀ i, i < k → P i) = nI 0 then nI 0 else b2 (P k)) = b2 (∀ i, i < k + 1 → P i) := by
  simp only [b2_eq0]
  by_cases h : ∀ i, i < k → P i
  · rw [if_neg (fun z => z h)]
    exact b2_of ⟨fun z i hi => by
      by_cases e : i = k
      · rw [e]; exact z
      · exact h i (by omega), fun z => z k (by omega)⟩
  · rw [if_pos h, b2_f (fun z => h (fun i hi => z i (by omega)))]
theorem b2_bex {P : Nat → Prop} {k : Nat} [Decidable (∃ i, i < k ∧ P i)] [Decidable (∃ i, i < k + 1 ∧ P i)] [Decidable (P k)] : (if b2 (∃ i, i < k ∧ P i) = nI 0 then b2 (P k) else nI 1) = b2 (∃ i, i < k + 1 ∧ P i) := by
  simp only [b2_eq0]
  by_cases h : ∃ i, i < k ∧ P i
  · rw [if_neg (fun z => z h), b2_t]
    obtain ⟨i, a, b⟩ := h
    exact ⟨i, by omega, b⟩
  · rw [if_pos h]
    exact b2_of ⟨fun z => ⟨k, by omega, z⟩, fun ⟨i, a, b⟩ => by
      by_cases e : i = k
      · rw [e] at b; exact b
      · exact absurd ⟨i, by omega, b⟩ h⟩
theorem b2_bnd (c : Prop) [Decidable c] : (if b2 c = nI 0 then (nI 0) else (nI 1)) = b2 c := by simp only [b2_eq0]; unfold b2; by_cases h : c <;> simp [h]
theorem b2_bnd' (c : Prop) [Decidable c] : (if b2 c = nI 0 then (nI 1) else (nI 0)) = b2 (¬ c) := by simp only [b2_eq0]; unfold b2; by_cases h : c <;> simp [h]
section
variable {v : Vw} {ea : Nat → Nat} {h : Hp}
theorem aln_of {a c len : Nat} (q : a < hN h ∧ hK h a = (c, len)) : aln h c a = some (nI len) := by
  unfold aln
  rw [if_pos ⟨q.1, by rw [q.2]⟩, q.2]
  rfl
/-- an entry's fields -/
theorem EG {k e : Nat} (ce : CE v k e h) (hl : vl v k < 2 ^ 31) : (∀ (α : Type) (o : Option α), gd h 1 e o = o) ∧ getR h 1 e 0 = some (e + 1) ∧ getR h 1 e 1 = some (e + 2) ∧ getI h 1 e 2 = some (nI (vu v k)) ∧ aln h 11 (e + 1) = some (nI (vl v k)) ∧ aln h 11 (e + 2) = some (nI (vl v k)) ∧
    (∀ i, i < vl v k → ald h (e + 1) (nI i) = some (nI (vt v k i))) ∧ ∀ i, i < vl v k → ald h (e + 2) (nI i) = some (nI (vd v k i)) := by
  obtain ⟨⟨h0, h1⟩, k0, k1, k2, r0, r1, u, t, d⟩ := ce
  have o : e < hN h ∧ (hK h e).1 = 1 := ⟨by omega, by rw [k0]⟩
  have o1 : e + 1 < hN h ∧ hK h (e + 1) = (11, vl v k) := ⟨by omega, k1⟩
  have o2 : e + 2 < hN h ∧ hK h (e + 2) = (11, vl v k) := ⟨by omega, k2⟩
  exact ⟨fun _ x => gd_of o x, getR_of o r0, getR_of o r1, by rw [getI_of o, u], aln_of o1, aln_of o2, fun i hi => by rw [ald_of o1 hl hi, t i hi], fun i hi => by rw [ald_of o2 hl hi, d i hi]⟩
theorem CN.ce (cn : CN v ea h) {k : Nat} (hk : k < vN v) : CE v k (ea k) h := (cn.2.2.1 k hk).2
theorem R_size (hL : Lay h) (cn : CN v ea h) : f_X7_size 8 h = some (nI (vN v)) := by
  unfold f_X7_size
  simp only [gd_8 hL, CG hL, Option.bind_some, cn.2.1]
theorem R_get (hL : Lay h) (cn : CN v ea h) {k : Nat} (hk : k < vN v) : f_X7_get 8 (nI k) h = some (some (ea k)) := by
  have hN := cn.1
  unfold f_X7_get
  simp only [gd_8 hL, CG hL, Option.bind_some, cn.2.1]
  rw [if_neg (nI_lt0 k (by omega)), if_neg (by rw [nI_leI (by omega) (by omega)]; omega), aldN_of (hL.a (by decide) rfl) (by decide) (show k < 14 by omega), (cn.2.2.1 k hk).1]
  rfl
theorem R_getN (hL : Lay h) (cn : CN v ea h) {x : Int32} (hx : x < nI 0 ∨ nI (vN v) ≤ x) : f_X7_get 8 x h = some none := by
  unfold f_X7_get
  simp only [gd_8 hL, CG hL, Option.bind_some, cn.2.1]
  by_cases c : x < nI 0
  · rw [if_pos c]; rfl
  · rw [if_neg c, if_pos (hx.resolve_left c)]; rfl
theorem R_aldN (hL : Lay h) (cn : CN v ea h) {k : Nat} (hk : k < 14) : aldN h 9 (nI k) = some (if k < vN v then some (ea k) else none) := by
  rw [aldN_of (hL.a (by decide) rfl) (by decide) hk]
  split
  · next c => rw [(cn.2.2.1 k c).1]
  · next c => rw [cn.2.2.2.1 k (by omega) hk]
theorem R_has (hL : Lay h) (cn : CN v ea h) {k : Nat} (hk : k < vN v) : f_X7_has 8 (nI k) h = some (nI 1) := by
  unfold f_X7_has
  simp only [gd_8 hL, R_get hL cn hk, Option.bind_some, Option.elim_some, rz_1]
theorem R_hasN (hL : Lay h) (cn : CN v ea h) {x : Int32} (hx : x < nI 0 ∨ nI (vN v) ≤ x) : f_X7_has 8 x h = some (nI 0) := by
  unfold f_X7_has
  simp only [gd_8 hL, R_getN hL cn hx, Option.bind_some, Option.elim_none, rz_0]
end
section
variable {v : Vw} {ea : Nat → Nat} {h : Hp}
theorem R_len (hL : Lay h) (cn : CN v ea h) (vo : VOK v) {k : Nat} (hk : k < vN v) : f_X7_lengthOf 8 (nI k) h = some (nI (vl v k)) := by
  have hl := vo.2.1 k hk
  unfold f_X7_lengthOf
  simp only [gd_8 hL, R_get hL cn hk, Option.bind_some, Option.elim_some, EG (cn.ce hk) (by omega)]
theorem R_freq (hL : Lay h) (cn : CN v ea h) (vo : VOK v) {k : Nat} (hk : k < vN v) : f_X7_frequencyOf 8 (nI k) h = some (nI (vu v k)) := by
  have hl := vo.2.1 k hk
  unfold f_X7_frequencyOf
  simp only [gd_8 hL, R_get hL cn hk, Option.bind_some, Option.elim_some, EG (cn.ce hk) (by omega)]
abbrev ah (v : Vw) (j k : Nat) : Prop := vu v k < vu v j ∨ (vu v j = vu v k ∧ j < k)
theorem R_ahead (hL : Lay h) (cn : CN v ea h) (vo : VOK v) {j k : Nat} (hj : j < vN v) (hk : k < vN v) : f_X7_isAhead 8 (nI j) (nI k) h = some (b2 (ah v j k)) := by
  have hl := vo.2.1 k hk
  have hl2 := vo.2.1 j hj
  have hN := cn.1
  have u1 := vo.2.2.2.1 k hk
  have u2 := vo.2.2.2.1 j hj
  unfold f_X7_isAhead
  simp only [gd_8 hL, R_get hL cn hk, R_get hL cn hj, Option.bind_some, Option.elim_some, EG (cn.ce hk) (by omega), EG (cn.ce hj) (by omega), ite_some, b2_def', b2_and, b2_or, rz_b2]
  rw [b2_of (d := ah v j k)]
  rw [nI_ltI (by omega) (by omega), nI_eq (by omega) (by omega), nI_leI (by omega) (by omega)]
  unfold ah
  omega
theorem E_letter {k e : Nat} (ce : CE v k e h) (hl : vl v k < 2 ^ 31) {i : Nat} (hi : i < vl v k) : f_X1_letterAt e (nI i) h = some (nI (vt v k i)) := by
  unfold f_X1_letterAt
  simp (disch := omega) only [EG ce hl, Option.bind_some, nI_ltI, nI_leI]
  rw [if_neg (by omega), if_neg (by omega)]
  rfl
theorem E_digit {k e : Nat} (ce : CE v k e h) (hl : vl v k < 2 ^ 31) {i : Nat} (hi : i < vl v k) : f_X1_digitAt e (nI i) h = some (nI (vd v k i)) := by
  unfold f_X1_digitAt
  simp (disch := omega) only [EG ce hl, Option.bind_some, nI_ltI, nI_leI]
  rw [if_neg (by omega), if_neg (by omega)]
  rfl
theorem E_letterN {k e : Nat} (ce : CE v k e h) (hl : vl v k < 2 ^ 31) {x : Int32} (hx : x < nI 0 ∨ nI (vl v k) ≤ x) : f_X1_letterAt e x h = some m101 := by
  unfold f_X1_letterAt
  simp only [EG ce hl, Option.bind_some]
  by_cases c : x < nI 0
  · rw [if_pos c]; rfl
  · rw [if_neg c, if_pos (hx.resolve_left c)]; rfl
theorem E_digitN {k e : Nat} (ce : CE v k e h) (hl : vl v k < 2 ^ 31) {x : Int32} (hx : x < nI 0 ∨ nI (vl v k) ≤ x) : f_X1_digitAt e x h = some m101 := by
  unfold f_X1_digitAt
  simp only [EG ce hl, Option.bind_some]
  by_cases c : x < nI 0
  · rw [if_pos c]; rfl
  · rw [if_neg c, if_pos (hx.resolve_left c)]; rfl
end
