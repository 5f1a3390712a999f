/-! reading a list: the model -/
def MQn (t : Sq) (s : NS) (h : Hp) : Prop := ∀ k, k < zn s → hI h 86 k = nI (zL s k) ∧ (∀ i, i < zL s k → hI h 87 (8 * k + i) = nI (t.2 (zS s k + i))) ∧ (1 ≤ zF s k → hI h 88 k = nI (zF s k))
def MRd (t : Sq) (a : Nat) (s : NS) (h : Hp) : Prop :=
  (zm s = 0 → hI h 77 17 = nI (zn s) ∧ (a = zs s ∧ hI h 77 16 = nI 0 ∨ zs s < a ∧ hI h 77 16 = nI 1 ∧ hI h 86 (zn s) = nI (a - zs s) ∧ ∀ i, i < a - zs s → hI h 87 (8 * zn s + i) = nI (t.2 (zs s + i)))) ∧
  (zm s ≠ 0 → zF s (zn s - 1) = 0 ∧ hI h 77 16 = nI 2 ∧ hI h 77 17 = nI (zn s - 1) ∨ 0 < zF s (zn s - 1) ∧ hI h 77 16 = nI (if zF s (zn s - 1) ≤ 9 then 3 else 4) ∧ hI h 77 17 = nI (zn s)) ∧
  MQn t s h
/-- in a name: after the letter's row was begun -/
def MWn (t : Sq) (a : Nat) (s : NS) (h : Hp) : Prop := hI h 77 17 = nI (zn s) ∧ hI h 77 16 = nI (if a = zs s then 0 else 1) ∧ hI h 86 (zn s) = nI (a - zs s) ∧ (∀ i, i < a - zs s → hI h 87 (8 * zn s + i) = nI (t.2 (zs s + i))) ∧ MQn t s h
theorem sub48 {c lo hi : Nat} (hc : c < 1000) (hl : lo < 1000) (hh : hi < 1000) : (¬ nI c - nI 48 < nI lo ∧ nI c - nI 48 ≤ nI hi) ↔ (48 + lo ≤ c ∧ c ≤ 48 + hi) := by
  rw [lt_toInt, le_toInt, pk_sub_toInt (by omega) (by omega), nI_toInt (by omega), nI_toInt (by omega)]
  omega
section
variable {h : Hp} {t : Sq} {s : NS}
theorem M_goes1 (hL : Lay h) (y : Int32) : f_X10_goes 77 (nI 1) y h = some (nI 1, setI h 77 16 y) := by
  unfold f_X10_goes
  simp only [gd_77 hL, if_neg nI01, Option.bind_some, MP hL, rz_1]
theorem M_goes0 (hL : Lay h) (y : Int32) : f_X10_goes 77 (nI 0) y h = some (nI 0, setI h 77 16 (hI h 77 16)) := by
  unfold f_X10_goes
  simp only [gd_77 hL, if_true, MG hL, Option.bind_some, MP hL, rz_0]
theorem M_twice (hL : Lay h) {a : Nat} (ni : NI t a s) (h0 : zm s = 0) (ha : a < 50) (hb : ∀ i, i < a → t.2 i < 1000) (mw : MWn t a s h) : f_X10_isNewTwice 77 h = some (b2 (¬ unl t s (a - zs s))) := by
  have hn := ni.small (by omega)
  obtain ⟨n1, n2, n3, n4, n5⟩ := ni
  obtain ⟨x1, x2, x3, x4⟩ := n2 h0
  obtain ⟨w1, w2, w3, w4, w5⟩ := mw
  have inner : ∀ (K : Int32 → Option Int32) (x : Int32) (k : Nat), k < zn s → f_X10_isNewTwice_L39 77 x (nI k) h K FU (b2 (zL s k = a - zs s)) (nI 0) = K (b2 (zL s k = a - zs s ∧ ∀ i, i < a - zs s → t.2 (zS s k + i) = t.2 (zs s + i))) := by
    intro K x k hk
    obtain ⟨y1, y2, y3, y4⟩ := n4 k hk
    have q := lp_up (W := fun n i => f_X10_isNewTwice_L39 77 x (nI k) h K n (b2 (zL s k = a - zs s ∧ ∀ j, j < i → t.2 (zS s k + j) = t.2 (zs s + j))) (nI i)) (N := a - zs s) (r := K (b2 (zL s k = a - zs s ∧ ∀ i, i < a - zs s → t.2 (zS s k + i) = t.2 (zs s + i)))) (fun n => ?_) (fun n i hi => ?_) FU 0 (Nat.zero_le _) (FU_gt (by omega))
    · refine Eq.trans ?_ q
      show f_X10_isNewTwice_L39 _ _ _ _ _ _ _ _ = f_X10_isNewTwice_L39 _ _ _ _ _ _ _ _
      rw [b2_of (c := zL s k = a - zs s) (d := zL s k = a - zs s ∧ ∀ j, j < 0 → t.2 (zS s k + j) = t.2 (zs s + j)) ⟨fun z => ⟨z, fun j hj => absurd hj (Nat.not_lt_zero j)⟩, fun z => z.1⟩]
    · show f_X10_isNewTwice_L39 _ _ _ _ _ _ _ _ = _
      unfold f_X10_isNewTwice_L39
      simp (disch := omega) only [MG hL, w1, w3, Option.bind_some, if_pos (nI_le (Nat.le_refl (a - zs s)) (show a - zs s < 2 ^ 31 by omega))]
    · show f_X10_isNewTwice_L39 _ _ _ _ _ _ _ _ = f_X10_isNewTwice_L39 _ _ _ _ _ _ _ _
      conv => lhs; unfold f_X10_isNewTwice_L39
      simp (disch := omega) only [MG hL, w1, w3, Option.bind_some, if_neg (nI_ge hi (show a - zs s < 2 ^ 31 by omega)), pk_mul, nI_add]
      by_cases c : zL s k = a - zs s ∧ ∀ j, j < i → t.2 (zS s k + j) = t.2 (zs s + j)
      · rw [b2_t c, if_neg nI01, (w5 k hk).2.1 i (by omega), w4 i hi]
        have b1 := hb (zS s k + i) (by omega)
        have b3 := hb (zs s + i) (by omega)
        simp (disch := omega) only [nI_eq, ite_some, b2_def, Option.bind_some]
        rw [b2_of (c := t.2 (zS s k + i) = t.2 (zs s + i)) (d := zL s k = a - zs s ∧ ∀ j, j < i + 1 → t.2 (zS s k + j) = t.2 (zs s + j))]
        refine ⟨fun z => ⟨c.1, fun j hj => ?_⟩, fun z => z.2 i (by omega)⟩
        by_cases e : j = i
        · rw [e]; exact z
        · exact c.2 j (by omega)
      · rw [b2_f c, if_pos rfl, Option.bind_some, b2_f (show ¬ (zL s k = a - zs s ∧ ∀ j, j < i + 1 → t.2 (zS s k + j) = t.2 (zs s + j)) from fun z => c ⟨z.1, fun j hj => z.2 j (by omega)⟩)]
  unfold f_X10_isNewTwice
  rw [gd_77 hL]
  have q := lp_up (W := fun n i => f_X10_isNewTwice_L4 77 h (fun y26 => (rz y26).bind fun r => some r) n (b2 (∃ j, j < i ∧ (zL s j = a - zs s ∧ ∀ i, i < a - zs s → t.2 (zS s j + i) = t.2 (zs s + i)))) (nI i)) (N := zn s) (r := some (b2 (∃ j, j < zn s ∧ (zL s j = a - zs s ∧ ∀ i, i < a - zs s → t.2 (zS s j + i) = t.2 (zs s + i))))) (fun n => ?_) (fun n i hi => ?_) FU 0 (Nat.zero_le _) (FU_gt (by omega))
  · refine Eq.trans ?_ (q.trans ?_)
    · show f_X10_isNewTwice_L4 _ _ _ _ _ _ = f_X10_isNewTwice_L4 _ _ _ _ _ _
      rw [b2_f (show ¬ ∃ j, j < 0 ∧ (zL s j = a - zs s ∧ ∀ i, i < a - zs s → t.2 (zS s j + i) = t.2 (zs s + i)) from fun ⟨j, hj, _⟩ => absurd hj (Nat.not_lt_zero j))]
    · refine congrArg some (b2_of ⟨fun ⟨j, hj, e⟩ z => z j hj e, fun z => ?_⟩)
      refine Classical.byContradiction fun w => z (fun k hk e => w ⟨k, hk, e⟩)
  · show f_X10_isNewTwice_L4 _ _ _ _ _ _ = _
    unfold f_X10_isNewTwice_L4
    simp only [MG hL, w1, Option.bind_some, if_pos (nI_le (Nat.le_refl (zn s)) (show zn s < 2 ^ 31 by omega)), rz_b2]
  · show f_X10_isNewTwice_L4 _ _ _ _ _ _ = f_X10_isNewTwice_L4 _ _ _ _ _ _
    obtain ⟨y1, y2, y3, y4⟩ := n4 i hi
    conv => lhs; unfold f_X10_isNewTwice_L4
    simp (disch := omega) only [MG hL, w1, w3, Option.bind_some, if_neg (nI_ge hi (show zn s < 2 ^ 31 by omega)), (w5 i hi).1, nI_eq, ite_some, b2_def]
    rw [inner _ _ i hi]
    simp only [ite_some, b2_bnd, Option.bind_some, b2_bex, nI_add]
theorem M_name1 (hL : Lay h) (ht : TOK t) {a : Nat} (ni : NI t a s) (ha : a < t.1) (h0 : zm s = 0) (mr : MRd t a s h) : (∃ s' h', nst t a s = some s' ∧ f_X10_takesName 77 (nI (t.2 a)) h = some (nI 1, h') ∧ OM h h' ∧ MRd t (a + 1) s' h') ∨ (nst t a s = none ∧ ∃ h', f_X10_takesName 77 (nI (t.2 a)) h = some (nI 0, h') ∧ OM h h') := by
  have ht1 := ht.1
  have hn := ni.small (by omega)
  have ni' := ni
  obtain ⟨n1, n2, n3, n4, n5⟩ := ni
  obtain ⟨x1, x2, x3, x4⟩ := n2 h0
  have b := ht.2 a ha
  obtain ⟨m1, -, m3⟩ := mr
  have pre : ∃ v2, (if hI h 77 16 = nI 0 then (some (setI h 86 (zn s) (nI 0))) else some h) = some v2 ∧ OM h v2 ∧ MWn t a s v2 := by
    obtain ⟨z1, z2 | z2⟩ := m1 h0
    · refine ⟨_, if_pos z2.2, OM.set (by omega), ?_, ?_, ?_, ?_, ?_⟩
      · rw [hI_setI_ne _ _ _ (by decide)]; exact z1
      · rw [hI_setI_ne _ _ _ (by decide), if_pos z2.1]; exact z2.2
      · rw [hI_setI_eq, upd_same, z2.1, Nat.sub_self]
      · intro i hi; omega
      · intro k hk
        rw [hI_setI_eq, hI_setI_ne _ _ _ (by decide), hI_setI_ne _ _ _ (by decide), upd_ne _ _ (by omega)]
        exact m3 k hk
    · refine ⟨h, if_neg (by rw [z2.2.1]; exact nI01), OM.rf, z1, ?_, z2.2.2.1, z2.2.2.2, m3⟩
      rw [if_neg (by omega)]; exact z2.2.1
  obtain ⟨v2, pv, ov, mw⟩ := pre
  have hL2 : Lay v2 := hL.ss ov.1
  have tw := M_twice hL2 ni' h0 (by omega) (fun i hi => by have := (ht.2 i (by omega)).2; omega) mw
  obtain ⟨w1, w2, w3, w4, w5⟩ := mw
  have z1 := (m1 h0).1
  have p1 := (ast_of (h := h) (hL.a (a := 86) (by decide) rfl) (by decide) (show zn s < 14 by omega))
  have un : ∀ c, f_X10_takesName 77 c h = (some v2).bind fun (v2 : Hp) => if c = (nI 58) then ((getI v2 10 77 16).bind fun x7 => if x7 = (nI 1) then ((f_X10_isNewTwice 77 v2).bind fun x8 => (if x8 = nI 0 then (some (nI 1)) else (some (nI 0))).bind fun (v9 : Int32) => (f_X10_goes 77 v9 (nI 2) v2).bind fun p11 => (rz p11.1).bind fun r => some (r, p11.2)) else ((f_X10_within c (nI 97) (nI 122) v2).bind fun x12 => (if x12 = nI 0 then (some (nI 0)) else ((getR v2 10 77 18).bind fun x14 => (getI v2 10 77 17).bind fun x15 => (ald v2 x14 x15).bind fun x16 => if (nI 8) ≤ x16 then (some (nI 0)) else (some (nI 1)))).bind fun (v13 : Int32) => (if v13 = nI 0 then (some v2) else ((getR v2 10 77 19).bind fun x20 => (getI v2 10 77 17).bind fun x21 => (getR v2 10 77 18).bind fun x22 => (getI v2 10 77 17).bind fun x23 => (ald v2 x22 x23).bind fun x24 => (ast v2 x20 (((nI 8) * x21) + x24) c).bind fun h25 => (getR h25 10 77 18).bind fun x26 => (getI h25 10 77 17).bind fun x27 => (ald h25 x26 x27).bind fun x28 => (ast h25 x26 x27 (x28 + (nI 1))).bind fun h29 => some h29)).bind fun (v19 : Hp) => (f_X10_goes 77 v13 (nI 1) v19).bind fun p31 => (rz p31.1).bind fun r => some (r, p31.2))) else ((f_X10_within c (nI 97) (nI 122) v2).bind fun x33 => (if x33 = nI 0 then (some (nI 0)) else ((getR v2 10 77 18).bind fun x35 => (getI v2 10 77 17).bind fun x36 => (ald v2 x35 x36).bind fun x37 => if (nI 8) ≤ x37 then (some (nI 0)) else (some (nI 1)))).bind fun (v34 : Int32) => (if v34 = nI 0 then (some v2) else ((getR v2 10 77 19).bind fun x41 => (getI v2 10 77 17).bind fun x42 => (getR v2 10 77 18).bind fun x43 => (getI v2 10 77 17).bind fun x44 => (ald v2 x43 x44).bind fun x45 => (ast v2 x41 (((nI 8) * x42) + x45) c).bind fun h46 => (getR h46 10 77 18).bind fun x47 => (getI h46 10 77 17).bind fun x48 => (ald h46 x47 x48).bind fun x49 => (ast h46 x47 x48 (x49 + (nI 1))).bind fun h50 => some h50)).bind fun (v40 : Hp) => (f_X10_goes 77 v34 (nI 1) v40).bind fun p52 => (rz p52.1).bind fun r => some (r, p52.2)) := by
    intro c
    unfold f_X10_takesName
    rw [← pv]
    simp only [gd_77 hL, MG hL, Option.bind_some, z1, p1]
  rw [un]
  unfold nst
  rw [if_pos h0, Option.bind_some]
  by_cases c1 : t.2 a = 58
  · rw [if_pos c1, if_pos (show nI (t.2 a) = nI 58 by rw [c1]), (MG hL2).1, Option.bind_some, w2]
    by_cases c2 : a = zs s
    · right
      refine ⟨if_neg (fun z => z.1 c2), setI v2 77 16 (hI v2 77 16), ?_, ov.tr (OM.set77 (by decide))⟩
      rw [if_pos c2, if_neg (by decide), p_within, c1, b2_f (by decide)]
      simp only [Option.bind_some, if_true, M_goes0 hL2, rz_0]
    · rw [if_neg c2, if_pos (show nI 1 = nI 1 from rfl), tw]
      by_cases c3 : unl t s (a - zs s)
      · left
        rw [if_pos (show a ≠ zs s ∧ unl t s (a - zs s) from ⟨c2, c3⟩), b2_f (show ¬ ¬ unl t s (a - zs s) from fun z => z c3)]
        refine ⟨_, setI v2 77 16 (nI 2), rfl, ?_, ov.tr (OM.set77 (by decide)), ?_, ?_, ?_⟩
        · simp only [Option.bind_some, if_true, M_goes1 hL2, rz_1]
        · intro z; exact absurd z (show ¬ (1 : Nat) = 0 by decide)
        · intro _
          left
          show updN (zF s) (zn s) 0 (zn s + 1 - 1) = 0 ∧ _ ∧ _ = nI (zn s + 1 - 1)
          rw [Nat.add_sub_cancel, updN_same, hI_setI_eq, upd_same, upd_ne _ _ (by decide)]
          exact ⟨rfl, rfl, w1⟩
        · intro k hk
          have hk' : k < zn s + 1 := hk
          show _ = nI (updN (zL s) (zn s) (a - zs s) k) ∧ (∀ i, i < updN (zL s) (zn s) (a - zs s) k → _ = nI (t.2 (updN (zS s) (zn s) (zs s) k + i))) ∧ (1 ≤ updN (zF s) (zn s) 0 k → _ = nI (updN (zF s) (zn s) 0 k))
          rw [hI_setI_ne _ _ _ (by decide), hI_setI_ne _ _ _ (by decide), hI_setI_ne _ _ _ (by decide)]
          by_cases e : k = zn s
          · rw [e, updN_same, updN_same, updN_same]
            exact ⟨w3, w4, fun z => by omega⟩
          · rw [updN_ne _ _ e, updN_ne _ _ e, updN_ne _ _ e]
            exact w5 k (by omega)
      · right
        refine ⟨if_neg (fun z => c3 z.2), setI v2 77 16 (hI v2 77 16), ?_, ov.tr (OM.set77 (by decide))⟩
        rw [b2_t (show ¬ unl t s (a - zs s) from c3)]
        simp only [Option.bind_some, if_neg nI01, M_goes0 hL2, rz_0]
  · rw [if_neg c1, if_neg (show ¬ nI (t.2 a) = nI 58 by rw [nI_eq (by omega) (by omega)]; exact c1), p_within]
    have wi : (¬ nI (t.2 a) < nI 97 ∧ nI (t.2 a) ≤ nI 122) ↔ (97 ≤ t.2 a ∧ t.2 a ≤ 122) := by rw [nI_ltI (by omega) (by omega), nI_leI (by omega) (by omega)]; omega
    rw [b2_of wi]
    by_cases c2 : (97 ≤ t.2 a ∧ t.2 a ≤ 122) ∧ a - zs s < 8
    · left
      rw [if_pos c2, b2_t c2.1]
      have l1 := hL2.setI 87 (8 * zn s + (a - zs s)) (nI (t.2 a))
      have l2 := l1.setI 86 (zn s) (nI (a - zs s + 1))
      refine ⟨s, setI (setI (setI v2 87 (8 * zn s + (a - zs s)) (nI (t.2 a))) 86 (zn s) (nI (a - zs s + 1))) 77 16 (nI 1), rfl, ?_, ((ov.tr (OM.set (by omega))).tr (OM.set (by omega))).tr (OM.set77 (by decide)), ?_, ?_, ?_⟩
      · simp (disch := omega) only [Option.bind_some, if_neg nI01, MG hL2, MG l1, MP hL2, MP l1, w1, w3, if_neg (nI_ge c2.2 (by decide)), pk_mul, nI_add, hI_setI_ne, M_goes1 l2, rz_1]
      · intro _
        rw [hI_setI_eq, upd_ne _ _ (by decide), hI_setI_ne _ _ _ (by decide), hI_setI_ne _ _ _ (by decide), upd_same]
        refine ⟨w1, Or.inr ⟨by omega, rfl, ?_, ?_⟩⟩
        · rw [hI_setI_ne _ _ _ (by decide), hI_setI_eq, upd_same, show a + 1 - zs s = a - zs s + 1 by omega]
        · intro i hi
          rw [hI_setI_ne _ _ _ (by decide), hI_setI_ne _ _ _ (by decide), hI_setI_eq]
          by_cases e : i = a - zs s
          · rw [e, upd_same, show zs s + (a - zs s) = a by omega]
          · rw [upd_ne _ _ (by omega)]; exact w4 i (by omega)
      · intro z; exact absurd h0 z
      · intro k hk
        obtain ⟨y1, y2, y3, y4⟩ := n4 k hk
        obtain ⟨u1, u2, u3⟩ := w5 k hk
        refine ⟨?_, fun i hi => ?_, fun z => ?_⟩
        · rw [hI_setI_ne _ _ _ (by decide), hI_setI_eq, upd_ne _ _ (by omega), hI_setI_ne _ _ _ (by decide)]; exact u1
        · rw [hI_setI_ne _ _ _ (by decide), hI_setI_ne _ _ _ (by decide), hI_setI_eq, upd_ne _ _ (by omega)]; exact u2 i hi
        · rw [hI_setI_ne _ _ _ (by decide), hI_setI_ne _ _ _ (by decide), hI_setI_ne _ _ _ (by decide)]; exact u3 z
    · right
      refine ⟨if_neg c2, setI v2 77 16 (hI v2 77 16), ?_, ov.tr (OM.set77 (by decide))⟩
      by_cases c3 : 97 ≤ t.2 a ∧ t.2 a ≤ 122
      · rw [b2_t c3]
        simp (disch := omega) only [Option.bind_some, if_neg nI01, MG hL2, w1, w3]
        rw [if_pos (nI_le (show 8 ≤ a - zs s by omega) (by omega))]
        simp only [Option.bind_some, if_true, M_goes0 hL2, rz_0]
      · rw [b2_f c3]
        simp only [Option.bind_some, if_true, M_goes0 hL2, rz_0]
theorem M_use1 (hL : Lay h) (ht : TOK t) {a : Nat} (ni : NI t a s) (ha : a < t.1) (h0 : ¬ zm s = 0) (mr : MRd t a s h) : (∃ s' h', nst t a s = some s' ∧ f_X10_takesUse 77 (nI (t.2 a)) h = some (nI 1, h') ∧ OM h h' ∧ MRd t (a + 1) s' h') ∨ (nst t a s = none ∧ ∃ h', f_X10_takesUse 77 (nI (t.2 a)) h = some (nI 0, h') ∧ OM h h') := by
  have ht1 := ht.1
  have hn := ni.small (by omega)
  obtain ⟨n1, n2, n3, n4, n5⟩ := ni
  obtain ⟨x1, x2, x3, x4, x5, x6, x7⟩ := n3 h0
  have b := ht.2 a ha
  have y4 := (n4 (zn s - 1) (by omega)).2.2.2
  obtain ⟨-, m2, m3⟩ := mr
  have m3f := (m3 (zn s - 1) (by omega)).2.2
  have key : ∀ s', zm s' = 1 → zn s' = zn s → zL s' = zL s → zS s' = zS s → ∀ x h', zF s' = updN (zF s) (zn s - 1) x → hI h' 86 = hI h 86 → hI h' 87 = hI h 87 → (∀ k, k < zn s - 1 → hI h' 88 k = hI h 88 k) → hI h' 88 (zn s - 1) = nI x → MQn t s' h' := by
    intro s' e1 e2 e3 e4 x h' e5 e6 e7 e8 e9 k hk
    rw [e2] at hk
    rw [e3, e4, e5, e6, e7]
    refine ⟨(m3 k hk).1, (m3 k hk).2.1, fun z => ?_⟩
    by_cases e : k = zn s - 1
    · rw [e, updN_same]; exact e9
    · rw [updN_ne _ _ e] at z ⊢
      rw [e8 k (by omega)]
      exact (m3 k hk).2.2 z
  unfold nst
  rw [if_neg h0]
  generalize hf : zF s (zn s - 1) = f at *
  rcases m2 h0 with ⟨z1, z2, z3⟩ | ⟨z1, z2, z3⟩
  · have l1 := hL.setI 88 (zn s - 1) (nI (t.2 a) - nI 48)
    have wi : (¬ nI (t.2 a) - nI 48 < nI 1 ∧ nI (t.2 a) - nI 48 ≤ nI 9) ↔ (49 ≤ t.2 a ∧ t.2 a ≤ 57) := sub48 (by omega) (by omega) (by omega)
    have e0 : ∀ x, f_X10_takesUse 77 (nI (t.2 a)) h = x ↔ (f_X10_goes 77 (b2 (49 ≤ t.2 a ∧ t.2 a ≤ 57)) (nI 3) (setI (setI h 88 (zn s - 1) (nI (t.2 a) - nI 48)) 77 17 (nI (zn s - 1 + if (49 ≤ t.2 a ∧ t.2 a ≤ 57) then 1 else 0)))).bind (fun p11 => (rz p11.1).bind fun r => some (r, p11.2)) = x := by
      intro x
      unfold f_X10_takesUse
      simp (disch := omega) only [gd_77 hL, MG hL, MG l1, MP hL, MP l1, Option.bind_some, z2, z3, if_true, hI_setI_ne, p_within, b2_of wi, ite_some, b2_bnd, nI_b2]
    simp only [e0]
    by_cases c : 49 ≤ t.2 a ∧ t.2 a ≤ 57
    · left
      rw [if_neg (show ¬ (t.2 a = 59 ∧ 0 < f) by omega), if_pos (show (48 ≤ t.2 a ∧ t.2 a ≤ 57) ∧ 1 ≤ 10 * f + (t.2 a - 48) ∧ 10 * f + (t.2 a - 48) ≤ 99 by omega), b2_t c, if_pos c]
      have ex : 10 * f + (t.2 a - 48) = t.2 a - 48 := by omega
      refine ⟨_, setI (setI (setI h 88 (zn s - 1) (nI (t.2 a) - nI 48)) 77 17 (nI (zn s - 1 + 1))) 77 16 (nI 3), rfl, ?_, ((OM.set (by omega)).tr (OM.set77 (by decide))).tr (OM.set77 (by decide)), ?_, ?_, ?_⟩
      · rw [M_goes1 (l1.setI _ _ _), Option.bind_some, rz_1, Option.bind_some]
      · intro z; exact absurd z (show ¬ (1 : Nat) = 0 by decide)
      · intro _
        right
        show 0 < updN (zF s) (zn s - 1) (10 * f + (t.2 a - 48)) (zn s - 1) ∧ _ = nI (if updN (zF s) (zn s - 1) (10 * f + (t.2 a - 48)) (zn s - 1) ≤ 9 then 3 else 4) ∧ _ = nI (zn s)
        rw [updN_same, if_pos (by omega), hI_setI_eq, upd_same, upd_ne _ _ (by decide), hI_setI_eq, upd_same, show zn s - 1 + 1 = zn s by omega]
        exact ⟨by omega, rfl, rfl⟩
      · refine key (zn s, zs s, 1, zS s, zL s, updN (zF s) (zn s - 1) (10 * f + (t.2 a - 48))) rfl rfl rfl rfl (10 * f + (t.2 a - 48)) _ rfl ?_ ?_ (fun k hk => ?_) ?_
        · rw [hI_setI_ne _ _ _ (by decide), hI_setI_ne _ _ _ (by decide), hI_setI_ne _ _ _ (by decide)]
        · rw [hI_setI_ne _ _ _ (by decide), hI_setI_ne _ _ _ (by decide), hI_setI_ne _ _ _ (by decide)]
        · rw [hI_setI_ne _ _ _ (by decide), hI_setI_ne _ _ _ (by decide), hI_setI_eq, upd_ne _ _ (by omega)]
        · rw [hI_setI_ne _ _ _ (by decide), hI_setI_ne _ _ _ (by decide), hI_setI_eq, upd_same, pk_sub (by omega), ex]
    · right
      rw [if_neg (show ¬ (t.2 a = 59 ∧ 0 < f) by omega), if_neg (show ¬ ((48 ≤ t.2 a ∧ t.2 a ≤ 57) ∧ 1 ≤ 10 * f + (t.2 a - 48) ∧ 10 * f + (t.2 a - 48) ≤ 99) by omega), b2_f c]
      refine ⟨rfl, ?_⟩
      rw [M_goes0 (l1.setI _ _ _)]
      exact ⟨_, rfl, ((OM.set (by omega)).tr (OM.set77 (by decide))).tr (OM.set77 (by decide))⟩
  · have m3f' := m3f (by omega)
    have wi : (¬ nI (t.2 a) - nI 48 < nI 0 ∧ nI (t.2 a) - nI 48 ≤ nI 9) ↔ (48 ≤ t.2 a ∧ t.2 a ≤ 57) := sub48 (by omega) (by omega) (by omega)
    have st : ¬ nI (if f ≤ 9 then 3 else 4) = nI 2 := by split <;> decide
    have st3 : (nI (if f ≤ 9 then 3 else 4) = nI 3) ↔ f ≤ 9 := by
      by_cases c : f ≤ 9
      · rw [if_pos c]; exact ⟨fun _ => c, fun _ => rfl⟩
      · rw [if_neg c]; exact ⟨fun z => absurd z (by decide), fun z => absurd z c⟩
    have e0 : ∀ x, f_X10_takesUse 77 (nI (t.2 a)) h = x ↔ (if t.2 a = 59 then (f_X10_goes 77 (nI 1) (nI 0) h).bind (fun p15 => (rz p15.1).bind fun r => some (r, p15.2)) else ((if f ≤ 9 then (some (b2 (48 ≤ t.2 a ∧ t.2 a ≤ 57))) else some (nI 0)).bind fun (v17 : Int32) => (if v17 = nI 0 then (some h) else (some (setI h 88 (zn s - 1) (nI (10 * f) + (nI (t.2 a) - nI 48))))).bind fun (v21 : Hp) => (f_X10_goes 77 v17 (nI 4) v21).bind fun p29 => (rz p29.1).bind fun r => some (r, p29.2))) = x := by
      intro x
      unfold f_X10_takesUse
      simp (disch := omega) only [gd_77 hL, MG hL, MP hL, Option.bind_some, z2, z3, if_neg st, st3, nI_eq, if_neg (nI_ge (show zn s < 14 by omega) (by decide)), p_within, b2_of wi, ite_some, b2_bnd, pk_sub, pk_mul, m3f']
    simp only [e0]
    by_cases c1 : t.2 a = 59
    · left
      rw [if_pos (show t.2 a = 59 ∧ 0 < f from ⟨c1, z1⟩), if_pos c1]
      refine ⟨_, setI h 77 16 (nI 0), rfl, ?_, OM.set77 (by decide), ?_, ?_, ?_⟩
      · rw [M_goes1 hL, Option.bind_some, rz_1, Option.bind_some]
      · intro _
        refine ⟨?_, Or.inl ⟨rfl, ?_⟩⟩
        · rw [hI_setI_eq, upd_ne _ _ (by decide)]; exact z3
        · rw [hI_setI_eq, upd_same]
      · intro z; exact absurd rfl z
      · intro k hk
        rw [hI_setI_ne _ _ _ (by decide), hI_setI_ne _ _ _ (by decide), hI_setI_ne _ _ _ (by decide)]
        exact m3 k hk
    · rw [if_neg (show ¬ (t.2 a = 59 ∧ 0 < f) from fun z => c1 z.1), if_neg c1]
      by_cases c2 : (48 ≤ t.2 a ∧ t.2 a ≤ 57) ∧ f ≤ 9
      · left
        have l1 := hL.setI 88 (zn s - 1) (nI (10 * f) + (nI (t.2 a) - nI 48))
        rw [if_pos (show (48 ≤ t.2 a ∧ t.2 a ≤ 57) ∧ 1 ≤ 10 * f + (t.2 a - 48) ∧ 10 * f + (t.2 a - 48) ≤ 99 by omega), if_pos c2.2, b2_t c2.1]
        refine ⟨_, setI (setI h 88 (zn s - 1) (nI (10 * f) + (nI (t.2 a) - nI 48))) 77 16 (nI 4), rfl, ?_, (OM.set (by omega)).tr (OM.set77 (by decide)), ?_, ?_, ?_⟩
        · simp only [Option.bind_some, if_neg nI01, M_goes1 l1, rz_1]
        · intro z; exact absurd z (show ¬ (1 : Nat) = 0 by decide)
        · intro _
          right
          show 0 < updN (zF s) (zn s - 1) (10 * f + (t.2 a - 48)) (zn s - 1) ∧ _ = nI (if updN (zF s) (zn s - 1) (10 * f + (t.2 a - 48)) (zn s - 1) ≤ 9 then 3 else 4) ∧ _ = nI (zn s)
          rw [updN_same, if_neg (by omega), hI_setI_eq, upd_same, upd_ne _ _ (by decide), hI_setI_ne _ _ _ (by decide)]
          exact ⟨by omega, rfl, z3⟩
        · refine key (zn s, zs s, 1, zS s, zL s, updN (zF s) (zn s - 1) (10 * f + (t.2 a - 48))) rfl rfl rfl rfl (10 * f + (t.2 a - 48)) _ rfl ?_ ?_ (fun k hk => ?_) ?_
          · rw [hI_setI_ne _ _ _ (by decide), hI_setI_ne _ _ _ (by decide)]
          · rw [hI_setI_ne _ _ _ (by decide), hI_setI_ne _ _ _ (by decide)]
          · rw [hI_setI_ne _ _ _ (by decide), hI_setI_eq, upd_ne _ _ (by omega)]
          · rw [hI_setI_ne _ _ _ (by decide), hI_setI_eq, upd_same, pk_sub (by omega), nI_add]
      · right
        refine ⟨if_neg (show ¬ ((48 ≤ t.2 a ∧ t.2 a ≤ 57) ∧ 1 ≤ 10 * f + (t.2 a - 48) ∧ 10 * f + (t.2 a - 48) ≤ 99) by omega), setI h 77 16 (hI h 77 16), ?_, OM.set77 (by decide)⟩
        by_cases c3 : f ≤ 9
        · rw [if_pos c3, b2_f (fun z => c2 ⟨z, c3⟩)]
          simp only [Option.bind_some, if_true, M_goes0 hL, rz_0]
        · rw [if_neg c3]
          simp only [Option.bind_some, if_true, M_goes0 hL, rz_0]
theorem M_readL (hL : Lay h) (ht : TOK t) (mt : MT t h) (K : Int32 → Hp → Option (Int32 × Hp)) : ∀ f k s g, k ≤ t.1 → t.1 - k < f → nrn t k = some s → OM h g → MRd t k s g →
    ∃ j s' g', FE t j ∧ nrn t j = some s' ∧ OM h g' ∧ (j = t.1 → MRd t j s' g') ∧ f_X10_read_L12 77 K f (nI k) g = K (nI j) g' := by
  have ht1 := ht.1
  intro f
  induction f with
  | zero => intro k s g h1 h2; omega
  | succ f ih =>
    intro k s g h1 h2 h3 h4 h5
    have hLg : Lay g := hL.ss h4.1
    have mtg : MT t g := by unfold MT at *; rw [h4.2.2 0 (by decide), h4.2.1 78 (by omega)]; exact mt
    have d := nrn_NI t k s h3
    unfold f_X10_read_L12
    rw [(MG hLg).1, mtg.1, Option.bind_some]
    by_cases c : t.1 ≤ k
    · have e : k = t.1 := by omega
      rw [if_pos (nI_le c (by omega))]
      exact ⟨k, s, g, Or.inl ⟨e, s, by rw [← e]; exact h3⟩, h3, h4, fun _ => h5, rfl⟩
    · rw [if_neg (nI_ge (by omega) (by omega))]
      simp (disch := omega) only [Option.bind_some, MG hLg, mtg.2 k (by omega)]
      have hb : ∀ (x : Option NS), nst t k s = x → nrn t (k + 1) = x := by
        intro x hx
        show (nrn t k).bind (nst t k) = x
        rw [h3]; exact hx
      have main : (∃ s' h', nst t k s = some s' ∧ f_X10_takes 77 (nI (t.2 k)) g = some (nI 1, h') ∧ OM g h' ∧ MRd t (k + 1) s' h') ∨ (nst t k s = none ∧ ∃ h', f_X10_takes 77 (nI (t.2 k)) g = some (nI 0, h') ∧ OM g h') := by
        unfold f_X10_takes
        rw [gd_77 hLg, (MG hLg).1, Option.bind_some]
        by_cases w : zm s = 0
        · have e : ¬ nI 2 ≤ hI g 77 16 := by
            obtain ⟨_, z | z⟩ := h5.1 w
            · rw [z.2]; decide
            · rw [z.2.1]; decide
          rw [if_neg e]
          rcases M_name1 hLg ht d (by omega) w h5 with ⟨s', h', q1, q2, q3, q4⟩ | ⟨q1, h', q2, q3⟩
          · exact Or.inl ⟨s', h', q1, by rw [q2]; rfl, q3, q4⟩
          · exact Or.inr ⟨q1, h', by rw [q2]; rfl, q3⟩
        · have e : nI 2 ≤ hI g 77 16 := by
            rcases h5.2.1 w with z | z
            · rw [z.2.1]; decide
            · rw [z.2.1]; split <;> decide
          rw [if_pos e]
          rcases M_use1 hLg ht d (by omega) w h5 with ⟨s', h', q1, q2, q3, q4⟩ | ⟨q1, h', q2, q3⟩
          · exact Or.inl ⟨s', h', q1, by rw [q2]; rfl, q3, q4⟩
          · exact Or.inr ⟨q1, h', by rw [q2]; rfl, q3⟩
      rcases main with ⟨s', h', q1, q2, q3, q4⟩ | ⟨q1, h', q2, q3⟩
      · obtain ⟨j, s2, g2, z1, z2, z3, z4, z5⟩ := ih (k + 1) s' h' (by omega) (by omega) (hb _ q1) (h4.tr q3) q4
        refine ⟨j, s2, g2, z1, z2, z3, z4, ?_⟩
        rw [q2, Option.bind_some, if_neg nI01, nI_add]
        exact z5
      · refine ⟨k, s, h', Or.inr ⟨by omega, ⟨s, h3⟩, hb _ q1⟩, h3, h4.tr q3, fun z => by omega, ?_⟩
        rw [q2, Option.bind_some, if_pos rfl]
theorem M_read (hL : Lay h) (ht : TOK t) (mt : MT t h) : ∃ j s' g', FE t j ∧ nrn t j = some s' ∧ OM h g' ∧ (j = t.1 → MRd t j s' g') ∧ f_X10_read 77 h = some (nI j, g') := by
  have l1 := hL.setI 77 16 (nI 0)
  have o : OM h (setI (setI h 77 16 (nI 0)) 77 17 (nI 0)) := (OM.set77 (by decide)).tr (OM.set77 (by decide))
  obtain ⟨j, s', g', q1, q2, q3, q4, q5⟩ := M_readL hL ht mt (fun y9 h10 => some (y9, h10)) FU 0 (0, 0, 0, fun _ => 0, fun _ => 0, fun _ => 0) _ (Nat.zero_le _) (by have := ht.1; show t.1 - 0 < 256; omega) rfl o ⟨fun _ => ⟨by rw [hI_setI_eq, upd_same]; rfl, Or.inl ⟨rfl, by rw [hI_setI_eq, upd_ne _ _ (by decide), hI_setI_eq, upd_same]⟩⟩, fun z => absurd rfl z, fun k hk => absurd hk (Nat.not_lt_zero k)⟩
  refine ⟨j, s', g', q1, q2, q3, q4, ?_⟩
  unfold f_X10_read
  rw [gd_77 hL, (MP hL).1, Option.bind_some, (MP l1).1, Option.bind_some]
  exact q5
end
section
variable {pm : Nat} {v : Vw} {t p : Sq} {m : Mn} {c : Nat → Int32} {h : Hp}
theorem OC.r3 {h' : Hp} (hpm : pm = 39 ∨ pm = 58) (o : OnlyI R3 h h') : OC pm h h' := OC.of (o.mono (fun q hq => by unfold R3 at hq; unfold scrC; omega))
theorem op_fault (sc : SC pm v t p m c h) (sm : SM v t p m c h) (ht : TOK t) : Both (f_X9_fault 0) (f_X10_fault 77) h (fun h2 => SC pm v t p m c h2 ∧ SM v t p m c h2) := by
  have hpm := sc.2.2.2.2.2.1.two
  obtain ⟨j, s, g, q1, q2, q3, q4, q5⟩ := C_scan sc.1 ht sc.2.1
  have o1 : OC pm h g := OC.r3 hpm q3
  have sc1 := sc.oc o1
  have sm1 := sm.oc hpm o1
  obtain ⟨j', s', g', r1, r2, r3, r4, r5⟩ := M_read sc1.1 ht sm1.2.1
  have e := FE_one r1 q1
  refine ⟨nI j, g, g', ?_, ?_, sc1.om r3, sm1.om r3⟩
  · unfold f_X9_fault
    simp only [gd_0 sc.1, CG sc.1, Option.bind_some, q5]
  · unfold f_X10_fault
    rw [gd_77 sc1.1, r5, e]
    rfl
end
