/-! what the class's menu answers -/
/-- bounds of a menu -/
def MBd (m : Mn) (N : Nat) : Prop := ∀ k, k < N → m.2.1 k ≤ 13 ∧ ∀ i, i < m.2.1 k → 1 ≤ m.2.2.1 k i ∧ m.2.2.1 k i ≤ 4
theorem MOK.bd {m : Mn} {N : Nat} (h : MOK m N) (h0 : m.1 ≠ 0) : MBd m N := (h h0).2.2.1
def so (m : Mn) (k i : Nat) : Int32 := if i < m.2.1 k then nI (m.2.2.1 k i) else m101
abbrev smp (m m' : Mn) (k : Nat) : Prop := m.2.1 k = m'.2.1 k ∧ ∀ i, i < m.2.1 k → m.2.2.1 k i = m'.2.2.1 k i
theorem fmn_bd (u : Nat → Nat) {b N : Nat} (hb : 2 ≤ b) (hb4 : b ≤ 4) (hN : N ≤ 14) : MBd (fmn u b N) N := fun k hk => ⟨by have := plen_lt (u := u) (b := b) (N := N) (k := k) hb hk; show plen u b N k ≤ 13; omega, fun i hi => by
  have := pstep_rng (u := u) hb hk hN hi
  exact ⟨this.1, Nat.le_trans this.2 hb4⟩⟩
theorem so_iff {m m' : Mn} {N k : Nat} (h : MBd m N) (h' : MBd m' N) (hk : k < N) : (∀ i, i < m.2.1 k + 1 → so m k i = so m' k i) ↔ smp m m' k := by
  have a := h k hk
  have a' := h' k hk
  constructor
  · intro z
    have e1 : ¬ m.2.1 k < m'.2.1 k := by
      intro c
      have q := z (m.2.1 k) (by omega)
      unfold so at q
      rw [if_neg (by omega), if_pos c] at q
      exact m101_ne (by have := a'.2 _ c; omega) q
    have e2 : ¬ m'.2.1 k < m.2.1 k := by
      intro c
      have q := z (m'.2.1 k) (by omega)
      unfold so at q
      rw [if_pos c, if_neg (by omega)] at q
      exact m101_ne (by have := a.2 _ c; omega) q.symm
    refine ⟨by omega, fun i hi => ?_⟩
    have q := z i (by omega)
    unfold so at q
    rw [if_pos hi, if_pos (by omega)] at q
    have b1 := a.2 i hi
    have b2 := a'.2 i (by omega)
    exact (nI_eq (by omega) (by omega)).mp q
  · intro z i hi
    unfold so
    by_cases c : i < m.2.1 k
    · rw [if_pos c, if_pos (by rw [← z.1]; exact c), z.2 i c]
    · rw [if_neg c, if_neg (by rw [← z.1]; exact c)]
section
variable {v : Vw} {h : Hp} {ea : Nat → Nat} {a a' : Nat} {m m' : Mn} {N : Nat}
theorem C_mhas (hL : Lay h) (ha : a = 39 ∨ a = 58) (cp : CP_ m N a h) (hN : N ≤ 14) {k : Nat} (hk : k < N) : f_X4_has a (nI k) h = some (nI 1) := by
  unfold f_X4_has
  simp only [MA hL ha, Option.bind_some, if_neg (nI_lt0 k (by omega)), cp.2.1, if_neg (nI_ge hk (show N < 2 ^ 31 by omega)), rz_1]
theorem C_mhasN (hL : Lay h) (ha : a = 39 ∨ a = 58) (cp : CP_ m N a h) {x : Int32} (hx : x < nI 0 ∨ nI N ≤ x) : f_X4_has a x h = some (nI 0) := by
  unfold f_X4_has
  simp only [MA hL ha, Option.bind_some, cp.2.1]
  by_cases c : x < nI 0
  · rw [if_pos c]; rfl
  · rw [if_neg c, if_pos (hx.resolve_left c)]; rfl
theorem C_mlen (hL : Lay h) (ha : a = 39 ∨ a = 58) (cp : CP_ m N a h) (hN : N ≤ 14) {k : Nat} (hk : k < N) : f_X4_lengthOf a (nI k) h = some (nI (m.2.1 k)) := by
  unfold f_X4_lengthOf
  simp (disch := omega) only [MA hL ha, Option.bind_some, C_mhas hL ha cp hN hk, if_neg nI01, cp.2.2.2.1 k hk]
theorem C_mstep (hL : Lay h) (ha : a = 39 ∨ a = 58) (cp : CP_ m N a h) (hN : N ≤ 14) (bd : MBd m N) {k i : Nat} (hk : k < N) (hi : i < 2 ^ 31) : f_X4_stepOf a (nI k) (nI i) h = some (so m k i) := by
  have b1 := bd k hk
  unfold f_X4_stepOf so
  simp (disch := omega) only [MA hL ha, Option.bind_some, C_mhas hL ha cp hN hk, if_neg nI01, if_neg (nI_lt0 i hi), cp.2.2.2.1 k hk, nI_leI]
  by_cases c : i < m.2.1 k
  · rw [if_pos c, if_neg (by omega)]
    simp (disch := omega) only [MA hL ha, Option.bind_some, cp.2.2.2.2 k hk i c]
  · rw [if_neg c, if_pos (by omega)]
    rfl
theorem C_mstepN (hL : Lay h) (ha : a = 39 ∨ a = 58) (cp : CP_ m N a h) (hN : N ≤ 14) (bd : MBd m N) {k : Nat} (hk : k < N) {x : Int32} (hx : x < nI 0 ∨ nI (m.2.1 k) ≤ x) : f_X4_stepOf a (nI k) x h = some m101 := by
  unfold f_X4_stepOf
  simp (disch := omega) only [MA hL ha, Option.bind_some, C_mhas hL ha cp hN hk, if_neg nI01, cp.2.2.2.1 k hk]
  by_cases c : x < nI 0
  · rw [if_pos c]; rfl
  · rw [if_neg c, if_pos (hx.resolve_left c)]; rfl
theorem C_mcost (hL : Lay h) (cn : CN v ea h) (vo : VOK v) (ha : a = 39 ∨ a = 58) (cp : CP_ m (vN v) a h) : f_X4_cost a 8 h = some (nI (fsum (fun k => vu v k * m.2.1 k) (vN v))) := by
  have h14 := vo.1
  unfold f_X4_cost
  rw [(MA hL ha).1]
  refine lp_up (W := fun n i => f_X4_cost_L4 a 8 h (fun y6 => some y6) n (nI (fsum (fun k => vu v k * m.2.1 k) i)) (nI i)) (N := vN v) (fun n => ?_) (fun n i hi => ?_) FU 0 (Nat.zero_le _) (FU_gt (by omega))
  · show f_X4_cost_L4 _ _ _ _ _ _ _ = _
    unfold f_X4_cost_L4
    simp only [MA hL ha, cp.2.1, Option.bind_some, if_pos (nI_le (Nat.le_refl (vN v)) (show vN v < 2 ^ 31 by omega))]
  · show f_X4_cost_L4 _ _ _ _ _ _ _ = f_X4_cost_L4 _ _ _ _ _ _ _
    conv => lhs; unfold f_X4_cost_L4
    simp (disch := omega) only [MA hL ha, cp.2.1, Option.bind_some, if_neg (nI_ge hi (show vN v < 2 ^ 31 by omega)), R_freq hL cn vo hi, cp.2.2.2.1 i hi, pk_mul, nI_add]
    rfl
theorem C_mlongest (hL : Lay h) (ha : a = 39 ∨ a = 58) (cp : CP_ m N a h) (hN : N ≤ 14) (bd : MBd m N) : f_X4_longestPath a h = some (nI (fmax m.2.1 N)) := by
  unfold f_X4_longestPath
  rw [(MA hL ha).1]
  refine lp_up (W := fun n i => f_X4_longestPath_L4 a h (fun y5 => some y5) n (nI (fmax m.2.1 i)) (nI i)) (N := N) (fun n => ?_) (fun n i hi => ?_) FU 0 (Nat.zero_le _) (FU_gt (by omega))
  · show f_X4_longestPath_L4 _ _ _ _ _ _ = _
    unfold f_X4_longestPath_L4
    simp only [MA hL ha, cp.2.1, Option.bind_some, if_pos (nI_le (Nat.le_refl N) (show N < 2 ^ 31 by omega))]
  · show f_X4_longestPath_L4 _ _ _ _ _ _ = f_X4_longestPath_L4 _ _ _ _ _ _
    have b1 := (bd i hi).1
    have b2 : fmax m.2.1 i ≤ 13 := (fmax_le _ _ _).mpr (fun k hk => (bd k (by omega)).1)
    conv => lhs; unfold f_X4_longestPath_L4
    simp (disch := omega) only [MA hL ha, cp.2.1, Option.bind_some, if_neg (nI_ge hi (show N < 2 ^ 31 by omega)), cp.2.2.2.1 i hi, nI_add, imx_nI]
    rfl
theorem C_mwhole (hL : Lay h) (ha : a = 39 ∨ a = 58) (cp : CP_ m N a h) (hN : N ≤ 14) (hN1 : 1 ≤ N) (bd : MBd m N) : f_X4_partsOfWhole a h = some (nI (if 0 < m.2.1 (N - 1) then m.2.2.1 (N - 1) 0 else 0)) := by
  unfold f_X4_partsOfWhole
  simp only [MA hL ha, cp.2.1, Option.bind_some, pk_sub hN1, C_mstep hL ha cp hN bd (show N - 1 < N by omega) (show 0 < 2 ^ 31 by decide)]
  unfold so
  have b1 := bd (N - 1) (by omega)
  by_cases c : 0 < m.2.1 (N - 1)
  · have b2 := b1.2 0 c
    rw [if_pos c, if_pos c, imx_nI (by decide) (by omega), Nat.zero_max]
  · rw [if_neg c, if_neg c]
    congr 1
theorem C_msame (hL : Lay h) (ha : a = 39 ∨ a = 58) (ha' : a' = 39 ∨ a' = 58) (cp : CP_ m N a h) (cp' : CP_ m' N a' h) (hN : N ≤ 14) (bd : MBd m N) (bd' : MBd m' N) {k : Nat} (hk : k < N) : f_X4_hasSamePath a a' (nI k) h = some (b2 (smp m m' k)) := by
  have b1 := (bd k hk).1
  unfold f_X4_hasSamePath
  rw [(MA hL ha).1]
  have q := lp_all0 (W := fun n i => f_X4_hasSamePath_L2 a a' (nI k) h ((rz (nI 1)).bind fun r => some r) n (nI i)) (N := m.2.1 k + 1) (P := fun i => so m k i = so m' k i) (r1 := some (nI 1)) (r0 := some (nI 0)) (fun n => ?_) (fun n i hi _ => ?_) (n := FU) (FU_gt (by omega))
  · refine q.trans ?_
    rw [ite_some, b2_def]
    exact congrArg some (b2_of (so_iff bd bd' hk))
  · show f_X4_hasSamePath_L2 _ _ _ _ _ _ _ = _
    unfold f_X4_hasSamePath_L2
    simp (disch := omega) only [MA hL ha, cp.2.2.2.1 k hk, Option.bind_some, if_pos (nI_lt (show m.2.1 k < m.2.1 k + 1 by omega) (by omega)), rz_1]
  · constructor
    · intro z
      show f_X4_hasSamePath_L2 _ _ _ _ _ _ _ = f_X4_hasSamePath_L2 _ _ _ _ _ _ _
      conv => lhs; unfold f_X4_hasSamePath_L2
      simp (disch := omega) only [MA hL ha, cp.2.2.2.1 k hk, Option.bind_some, if_neg (nI_nlt (show i ≤ m.2.1 k by omega) (by omega)), C_mstep hL ha cp hN bd hk (show i < 2 ^ 31 by omega), C_mstep hL ha' cp' hN bd' hk (show i < 2 ^ 31 by omega), nI_add]
      rw [if_pos z]
    · intro z
      show f_X4_hasSamePath_L2 _ _ _ _ _ _ _ = _
      unfold f_X4_hasSamePath_L2
      simp (disch := omega) only [MA hL ha, cp.2.2.2.1 k hk, Option.bind_some, if_neg (nI_nlt (show i ≤ m.2.1 k by omega) (by omega)), C_mstep hL ha cp hN bd hk (show i < 2 ^ 31 by omega), C_mstep hL ha' cp' hN bd' hk (show i < 2 ^ 31 by omega)]
      rw [if_neg z, rz_0]
      rfl
theorem C_mdiff (hL : Lay h) (ha : a = 39 ∨ a = 58) (ha' : a' = 39 ∨ a' = 58) (cp : CP_ m N a h) (cp' : CP_ m' N a' h) (hN : N ≤ 14) (bd : MBd m N) (bd' : MBd m' N) : f_X4_differentPaths a a' h = some (nI (cnt (fun k => ¬ smp m m' k) N)) := by
  unfold f_X4_differentPaths
  rw [(MA hL ha).1]
  refine lp_up (W := fun n i => f_X4_differentPaths_L4 a a' h (fun y6 => some y6) n (nI (cnt (fun k => ¬ smp m m' k) i)) (nI i)) (N := N) (fun n => ?_) (fun n i hi => ?_) FU 0 (Nat.zero_le _) (FU_gt (by omega))
  · show f_X4_differentPaths_L4 _ _ _ _ _ _ _ = _
    unfold f_X4_differentPaths_L4
    simp only [MA hL ha, cp.2.1, Option.bind_some, if_pos (nI_le (Nat.le_refl N) (show N < 2 ^ 31 by omega))]
  · show f_X4_differentPaths_L4 _ _ _ _ _ _ _ = f_X4_differentPaths_L4 _ _ _ _ _ _ _
    conv => lhs; unfold f_X4_differentPaths_L4
    simp only [MA hL ha, cp.2.1, Option.bind_some, if_neg (nI_ge hi (show N < 2 ^ 31 by omega)), C_msame hL ha ha' cp cp' hN bd bd' hi, b2_eq0, ite_some, nI_add]
    congr 1
    rw [cnt_succ]
    by_cases z : smp m m' i
    · rw [if_neg (fun w => w z), if_neg (fun w => w z)]; rfl
    · rw [if_pos z, if_pos z]
end
