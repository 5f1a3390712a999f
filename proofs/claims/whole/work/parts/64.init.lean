/-! THE BEGINNING -/
def oA : Option Hp := f_X9_init 0 (newC h00 9 0 (fun _ => 0))
def hA : Hp := oA.getD h00
def oB : Option Hp := f_X10_init 77 (newC hA 10 0 (fun _ => 0))
def hB : Hp := oB.getD h00
theorem oA_some : oA.isSome = true := by decide +kernel
theorem hA_N : hN hA = 77 := by decide +kernel
theorem oB_some : oB.isSome = true := by decide +kernel
theorem getD_of {o : Option Hp} (h : o.isSome = true) : o = some (o.getD h00) := by
  cases o with
  | none => cases h
  | some x => rfl
def vk0 (c : Nat) : Nat := if c < 15 then 2 + c / 3 else if c < 19 then 7 else if c < 22 then 8 else 9
def v0 : Vw := (0, fun _ => 0, fun _ _ => 0, fun _ => 0, vk0)
theorem v0_ok : VOK v0 := ⟨by decide, fun k hk => absurd hk (Nat.not_lt_zero k), fun k hk => absurd hk (Nat.not_lt_zero k), fun k hk => absurd hk (Nat.not_lt_zero k), by decide, fun j k _ hk => absurd hk (Nat.not_lt_zero k)⟩
theorem B_lay : Lay hB := ⟨by decide +kernel, by decide +kernel, by decide +kernel⟩
theorem B_ck : ∀ c, c < 26 → hI hB 6 c = nI (vk0 c) := by decide +kernel
theorem B_mk : ∀ c, c < 26 → hI hB 82 c = nI (vk0 c) := by decide +kernel
theorem B_84 : ∀ k, k < 14 → hI hB 84 k = nI 0 := by decide +kernel
theorem B_9 : ∀ k, k < 14 → hR hB 9 k = none := by decide +kernel
theorem B_s : hI hB 1 1 = nI 0 ∧ hI hB 3 1 = nI 0 ∧ hI hB 8 1 = nI 0 ∧ hR hB 0 8 = some 39 ∧ hR hB 0 9 = some 58 ∧ hI hB 0 10 = nI 0 ∧ hI hB 25 0 = nI 0 ∧ hI hB 0 12 = 0 ∧ hI hB 0 13 = 0 ∧ hI hB 0 14 = 0 ∧ hI hB 0 11 = 0 := by decide +kernel
theorem B_m : hI hB 77 0 = nI 0 ∧ hI hB 77 10 = nI 0 ∧ hI hB 77 2 = nI 0 ∧ hI hB 77 12 = nI 0 ∧ hI hB 77 6 = 0 ∧ hI hB 77 7 = 0 ∧ hI hB 77 8 = 0 ∧ hI hB 77 15 = 0 := by decide +kernel
/-- both hold one state -/
def Sim (h : Hp) : Prop := ∃ pm v t p m c, VOK v ∧ TOK t ∧ IOK p ∧ MOK m (vN v) ∧ SC pm v t p m c h ∧ SM v t p m c h
theorem Sim_B : Sim hB := by
  obtain ⟨s1, s2, s3, s4, s5, s6, s7, s8, s9, s10, s11⟩ := B_s
  obtain ⟨m1, m2, m3, m4, m5, m6, m7, m8⟩ := B_m
  refine ⟨39, v0, (0, fun _ => 0), (0, fun _ => 0), (0, fun _ => 0, fun _ _ => 0, 0), fun _ => 0, v0_ok, ⟨Nat.zero_le _, fun i hi => absurd hi (Nat.not_lt_zero i)⟩, ⟨Nat.zero_le _, fun i hi => absurd hi (Nat.not_lt_zero i)⟩, fun z => absurd rfl z, ?_, ?_⟩
  · refine ⟨B_lay, ⟨s1, fun i hi => absurd hi (Nat.not_lt_zero i)⟩, ⟨s2, fun i hi => absurd hi (Nat.not_lt_zero i)⟩, B_ck, ⟨fun _ => 0, ⟨Nat.zero_le _, s3, fun k hk => absurd hk (Nat.not_lt_zero k), fun k _ hk => B_9 k hk, fun j k _ hk => absurd hk (Nat.not_lt_zero k)⟩⟩, ⟨Or.inl ⟨rfl, s4, s5⟩, ?_, fun z => absurd rfl z, s7⟩, s8, s9, s10, s11⟩
    rw [s6, b2_f (fun z : (0 : Nat) ≠ 0 => z rfl)]
  · exact ⟨B_lay, ⟨m1, fun i hi => absurd hi (Nat.not_lt_zero i)⟩, ⟨m2, fun i hi => absurd hi (Nat.not_lt_zero i)⟩, B_mk, ⟨m3, fun k hk => absurd hk (Nat.not_lt_zero k)⟩, ⟨m4, fun z => absurd rfl z, fun k hk => ⟨0, Nat.zero_le _, B_84 k hk⟩⟩, m5, m6, m7, m8⟩
