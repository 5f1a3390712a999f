/-! SMALL ROWS -/
def b2 (c : Prop) [Decidable c] : Int32 := if c then nI 1 else nI 0
theorem nI01 : ¬ nI 1 = nI 0 := by decide
theorem b2_eq0 (c : Prop) [Decidable c] : (b2 c = nI 0) = ¬ c := by
  unfold b2
  split
  · next h => simp [h, nI01]
  · next h => simp [h]
theorem b2_t {c : Prop} [Decidable c] (h : c) : b2 c = nI 1 := if_pos h
theorem b2_f {c : Prop} [Decidable c] (h : ¬ c) : b2 c = nI 0 := if_neg h
theorem rz_b2 (c : Prop) [Decidable c] : rz (b2 c) = some (b2 c) := by
  unfold rz b2
  split <;> decide
theorem rz_0 : rz (nI 0) = some (nI 0) := by decide
theorem rz_1 : rz (nI 1) = some (nI 1) := by decide
theorem b2_of {c d : Prop} [Decidable c] [Decidable d] (h : c ↔ d) : b2 c = b2 d := by unfold b2; simp only [h]
theorem ite_some {α : Type} (c : Prop) [Decidable c] (a b : α) : (if c then some a else some b) = some (if c then a else b) := by split <;> rfl
theorem b2_def (c : Prop) [Decidable c] : (if c then nI 1 else nI 0) = b2 c := rfl
theorem b2_def' (c : Prop) [Decidable c] : (if c then nI 0 else nI 1) = b2 (¬ c) := by unfold b2; split <;> simp_all
theorem b2_or (c d : Prop) [Decidable c] [Decidable d] : (if c then nI 1 else b2 d) = b2 (c ∨ d) := by unfold b2; by_cases c <;> simp_all
theorem b2_and (c d : Prop) [Decidable c] [Decidable d] : (if c then b2 d else nI 0) = b2 (c ∧ d) := by unfold b2; by_cases c <;> simp_all
theorem b2_nor (c d : Prop) [Decidable c] [Decidable d] : (if c then nI 0 else b2 d) = b2 (¬ c ∧ d) := by unfold b2; by_cases c <;> simp_all
theorem b2_imp (c d : Prop) [Decidable c] [Decidable d] : (if c then b2 d else nI 1) = b2 (c → d) := by unfold b2; by_cases c <;> simp_all
theorem nI_m1 (n : Nat) : nI (n + 1) + m1 = nI n := pk_m1 n
theorem nI_lt0 (n : Nat) (h : n < 2 ^ 31) : ¬ nI n < nI 0 := nI_nlt (Nat.zero_le n) h
theorem neg_nI {x : Int32} {n : Nat} (h : x < nI 0) (hn : n < 2 ^ 31) : x < nI n := by
  have h1 := Int32.lt_iff_toInt_lt.mp h
  apply Int32.lt_iff_toInt_lt.mpr
  rw [nI_toInt hn]
  rw [nI_toInt (by decide)] at h1
  omega
/-- a number that the script gives: below 0, n at least, or a place below n -/
theorem ix_cases (x : Int32) {n : Nat} (hn : n < 2 ^ 31) : x < nI 0 ∨ (¬ x < nI 0 ∧ nI n ≤ x) ∨ ∃ j : Nat, j < n ∧ x = nI j := by
  by_cases h0 : x < nI 0
  · exact Or.inl h0
  · rcases pk_ix x hn with h | h | h
    · exact absurd h h0
    · exact Or.inr (Or.inl ⟨h0, h⟩)
    · exact Or.inr (Or.inr h)
theorem le_toInt {x y : Int32} : x ≤ y ↔ x.toInt ≤ y.toInt := Int32.le_iff_toInt_le
theorem lt_toInt {x y : Int32} : x < y ↔ x.toInt < y.toInt := Int32.lt_iff_toInt_lt
/-- x between two small numbers is a small number -/
theorem rng {x : Int32} {lo hi : Nat} (h1 : ¬ x < nI lo) (h2 : x ≤ nI hi) (hl : lo < 2 ^ 31) (hh : hi < 2 ^ 31) : ∃ k, lo ≤ k ∧ k ≤ hi ∧ x = nI k := by
  rw [lt_toInt, nI_toInt hl] at h1
  rw [le_toInt, nI_toInt hh] at h2
  refine ⟨x.toInt.toNat, by omega, by omega, ?_⟩
  apply Int32.toInt_inj.mp
  rw [nI_toInt (by omega)]
  omega
/-- rows that may change -/
def OnlyI (A : Nat → Prop) (h h' : Hp) : Prop := SS h h' ∧ ∀ q, ¬ A q → hI h' q = hI h q
theorem OnlyI.rf {A : Nat → Prop} {h : Hp} : OnlyI A h h := ⟨SS.rf, fun _ _ => rfl⟩
theorem OnlyI.tr {A : Nat → Prop} {a b c : Hp} (h1 : OnlyI A a b) (h2 : OnlyI A b c) : OnlyI A a c := ⟨h1.1.tr h2.1, fun q hq => (h2.2 q hq).trans (h1.2 q hq)⟩
theorem OnlyI.mono {A B : Nat → Prop} {a b : Hp} (h1 : OnlyI A a b) (h : ∀ q, A q → B q) : OnlyI B a b := ⟨h1.1, fun q hq => h1.2 q (fun z => hq (h q z))⟩
theorem OnlyI.set {A : Nat → Prop} {h : Hp} {a k : Nat} {v : Int32} (ha : A a) : OnlyI A h (setI h a k v) := ⟨SS.setI h a k v, fun q hq => hI_setI_ne h k v (fun e => hq (by rw [e]; exact ha))⟩
theorem OnlyI.put {A : Nat → Prop} {h h' : Hp} {a k : Nat} {v : Int32} (h1 : OnlyI A h h') (ha : A a) : OnlyI A h (setI h' a k v) := h1.tr (OnlyI.set ha)
theorem p_within (x : Int32) (lo hi : Int32) (h : Hp) : f_X10_within x lo hi h = some (b2 (¬ x < lo ∧ x ≤ hi)) := by
  unfold f_X10_within
  have e : (hi < x) = ¬ x ≤ hi := by simp [Int32.not_le]
  simp only [ite_some, b2_def', b2_nor, Option.bind_some, rz_b2, e, Classical.not_not]
