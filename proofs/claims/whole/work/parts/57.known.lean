/-! which names of a list are known -/
def nmt (t : Sq) (s : NS) (i : Nat) : Nat → Nat := fun x => t.2 (zS s i + x)
abbrev kn (v : Vw) (t : Sq) (a l : Nat) : Prop := ∃ k, k < vN v ∧ (vl v k = l ∧ ∀ x, x < l → vt v k x = t.2 (a + x))
section
variable {v : Vw} {h : Hp} {t : Sq} {s : NS} {ea : Nat → Nat}
theorem E_written (hL : Lay h) (ht : TOK t) (hc : CT t h) (vo : VOK v) {k e a l : Nat} (ce : CE v k e h) (hk : k < vN v) (ha : a + l ≤ t.1) : f_X1_isWritten e 1 (nI a) (nI l) h = some (b2 (vl v k = l ∧ ∀ x, x < l → vt v k x = t.2 (a + x))) := by
  have ht1 := ht.1
  have hl := vo.2.1 k hk
  have ge := EG ce (by omega)
  have r := row_text hL ht hc
  unfold f_X1_isWritten
  rw [ge.1]
  simp only [ge, Option.bind_some]
  by_cases c : vl v k = l
  · rw [if_pos (by rw [c])]
    have q := lp_all0 (W := fun n i => f_X1_isWritten_L14 e 1 (nI a) (nI l) h ((rz (nI 1)).bind fun r => some r) n (nI i)) (N := l) (P := fun i => vt v k i = t.2 (a + i)) (r1 := some (nI 1)) (r0 := some (nI 0)) (fun n => ?_) (fun n i hi _ => ?_) (n := FU) (FU_gt (by omega))
    · refine q.trans ?_
      rw [ite_some, b2_def]
      exact congrArg some (b2_of ⟨fun z => ⟨c, z⟩, fun z => z.2⟩)
    · show f_X1_isWritten_L14 _ _ _ _ _ _ _ _ = _
      unfold f_X1_isWritten_L14
      rw [if_pos (nI_le (Nat.le_refl _) (by omega)), rz_1]
      rfl
    · have b1 := ht.2 (a + i) (by omega)
      have b3 := vo.2.2.1 k hk i (by omega)
      constructor
      · intro z
        show f_X1_isWritten_L14 _ _ _ _ _ _ _ _ = f_X1_isWritten_L14 _ _ _ _ _ _ _ _
        conv => lhs; unfold f_X1_isWritten_L14
        rw [if_neg (nI_ge hi (by omega))]
        simp only [nI_add, r.get (show a + i < t.1 by omega), hc.2 (a + i) (by omega), ge, ge.2.2.2.2.2.2.1 i (by omega), Option.bind_some, z, if_true]
      · intro z
        show f_X1_isWritten_L14 _ _ _ _ _ _ _ _ = _
        unfold f_X1_isWritten_L14
        rw [if_neg (nI_ge hi (by omega))]
        simp only [nI_add, r.get (show a + i < t.1 by omega), hc.2 (a + i) (by omega), ge, ge.2.2.2.2.2.2.1 i (by omega), Option.bind_some]
        rw [if_neg (by rw [nI_eq (by omega) (by omega)]; exact fun y => z y.symm), rz_0]
        rfl
  · rw [if_neg (by rw [nI_eq (by omega) (by omega)]; exact fun z => c z.symm), rz_0, b2_f (fun z => c z.1)]
    rfl
theorem R_contains (hL : Lay h) (ht : TOK t) (hc : CT t h) (vo : VOK v) (cn : CN v ea h) {a l : Nat} (ha : a + l ≤ t.1) : f_X7_contains 8 1 (nI a) (nI l) h = some (b2 (kn v t a l)) := by
  unfold f_X7_contains
  rw [gd_8 hL]
  simp only [CG hL, Option.bind_some, aln_of (hL.a (x := (12, 14)) (a := 9) (by decide) rfl)]
  have q := lp_all0 (W := fun n i => f_X7_contains_L14 1 (nI a) (nI l) 9 (nI 14) h ((rz (nI 0)).bind fun r => some r) n (nI i)) (N := 14) (P := fun k => ¬ (k < vN v ∧ (vl v k = l ∧ ∀ x, x < l → vt v k x = t.2 (a + x)))) (r1 := some (nI 0)) (r0 := some (nI 1)) (fun n => ?_) (fun n i hi _ => ?_) (n := FU) (FU_gt (by omega))
  · refine q.trans ?_
    rw [ite_some, b2_def']
    refine congrArg some (b2_of ⟨fun z => ?_, fun ⟨k, hk, e⟩ z => z k (by have := vo.1; omega) ⟨hk, e⟩⟩)
    exact Classical.byContradiction fun w => z (fun k _ e => w ⟨k, e.1, e.2⟩)
  · show f_X7_contains_L14 _ _ _ _ _ _ _ _ _ = _
    unfold f_X7_contains_L14
    rw [if_pos (nI_le (Nat.le_refl _) (by omega)), rz_0]
    rfl
  · constructor
    · intro z
      show f_X7_contains_L14 _ _ _ _ _ _ _ _ _ = f_X7_contains_L14 _ _ _ _ _ _ _ _ _
      conv => lhs; unfold f_X7_contains_L14
      rw [if_neg (nI_ge hi (by omega)), R_aldN hL cn hi, Option.bind_some]
      by_cases c : i < vN v
      · rw [if_pos c, Option.elim_some, E_written hL ht hc vo (cn.ce c) c ha, b2_f (fun y => z ⟨c, y⟩), Option.bind_some, if_pos rfl, nI_add]
      · rw [if_neg c, Option.elim_none, nI_add]
    · intro z
      have z' := Classical.not_not.mp z
      show f_X7_contains_L14 _ _ _ _ _ _ _ _ _ = _
      unfold f_X7_contains_L14
      rw [if_neg (nI_ge hi (by omega)), R_aldN hL cn hi, Option.bind_some, if_pos z'.1, Option.elim_some, E_written hL ht hc vo (cn.ce z'.1) z'.1 ha, b2_t z'.2, Option.bind_some, if_neg nI01, rz_1]
      rfl
theorem C_known (hL : Lay h) (ht : TOK t) (hc : CT t h) (vo : VOK v) (cn : CN v ea h) (cr : CR s h) {a : Nat} (ni : NI t a s) (ha : a ≤ t.1) : f_X9_isAnyItemKnown 0 h = some (b2 (∃ i, i < zn s ∧ kn v t (zS s i) (zL s i))) := by
  have ht1 := ht.1
  have hn := ni.small (by omega)
  unfold f_X9_isAnyItemKnown
  rw [gd_0 hL]
  have q := lp_all0 (W := fun n i => f_X9_isAnyItemKnown_L2 0 h ((rz (nI 0)).bind fun r => some r) n (nI i)) (N := zn s) (P := fun i => ¬ kn v t (zS s i) (zL s i)) (r1 := some (nI 0)) (r0 := some (nI 1)) (fun n => ?_) (fun n i hi _ => ?_) (n := FU) (FU_gt (by omega))
  · refine q.trans ?_
    rw [ite_some, b2_def']
    refine congrArg some (b2_of ⟨fun z => ?_, fun ⟨k, hk, e⟩ z => z k hk e⟩)
    exact Classical.byContradiction fun w => z (fun k hk e => w ⟨k, hk, e⟩)
  · show f_X9_isAnyItemKnown_L2 _ _ _ _ _ = _
    unfold f_X9_isAnyItemKnown_L2 f_X3_items
    simp only [CG hL, gd_10 hL, cr.1, Option.bind_some, if_pos (nI_le (Nat.le_refl (zn s)) (show zn s < 2 ^ 31 by omega)), rz_0]
  · obtain ⟨y1, y2, y3, y4⟩ := ni.2.2.2.1 i hi
    have un : f_X9_isAnyItemKnown_L2 0 h ((rz (nI 0)).bind fun r => some r) (n + 1) (nI i) = if b2 (kn v t (zS s i) (zL s i)) = nI 0 then f_X9_isAnyItemKnown_L2 0 h ((rz (nI 0)).bind fun r => some r) n (nI (i + 1)) else some (nI 1) := by
      conv => lhs; unfold f_X9_isAnyItemKnown_L2 f_X3_items
      simp only [CG hL, gd_10 hL, cr.1, Option.bind_some, if_neg (nI_ge hi (show zn s < 2 ^ 31 by omega)), X3_start hL cr hn hi, X3_len hL cr hn hi, R_contains hL ht hc vo cn (show zS s i + zL s i ≤ t.1 by omega), nI_add, rz_1]
    constructor
    · intro z
      show f_X9_isAnyItemKnown_L2 _ _ _ _ _ = f_X9_isAnyItemKnown_L2 _ _ _ _ _
      rw [un, b2_f z, if_pos rfl]
    · intro z
      show f_X9_isAnyItemKnown_L2 _ _ _ _ _ = _
      rw [un, b2_t (Classical.not_not.mp z), if_neg nI01]
theorem M_cmpP (hL : Lay h) (vo : VOK v) (mq : MQn t s h) {a : Nat} (ni : NI t a s) (ha : a ≤ 50) {k i : Nat} (hk : k < vN v) (hi : i < zn s) (w1 : hI h 79 k = nI (vl v k)) (w2 : ∀ x, x < vl v k → hI h 80 (8 * k + x) = nI (vt v k x)) :
    (plt (pd (vl v k) (vt v k)) (pd (zL s i) (nmt t s i)) → f_X10_compareNew 77 (nI k) (nI i) h = some m1) ∧ (plt (pd (zL s i) (nmt t s i)) (pd (vl v k) (vt v k)) → f_X10_compareNew 77 (nI k) (nI i) h = some (nI 1)) ∧ ((∀ x, x < 8 → pd (vl v k) (vt v k) x = pd (zL s i) (nmt t s i) x) → f_X10_compareNew 77 (nI k) (nI i) h = some (nI 0)) := by
  have hn := ni.small ha
  have h14 := vo.1
  have hl := vo.2.1 k hk
  obtain ⟨y1, y2, y3, y4⟩ := ni.2.2.2.1 i hi
  obtain ⟨u1, u2, u3⟩ := mq i hi
  have ef : ∀ x, pd (vl v k) (vt v k) x < 1000 := fun x => by
    unfold pd; split
    · next c => have := (vo.2.2.1 k hk x c).2; omega
    · omega
  have eg : ∀ x, pd (zL s i) (nmt t s i) x < 1000 := fun x => by
    unfold pd nmt; split
    · next c => have := (y3 x c).2; omega
    · omega
  have o8f : ∀ x, 8 ≤ x → pd (vl v k) (vt v k) x = 0 := fun x hx => pd_out (by omega)
  have o8g : ∀ x, 8 ≤ x → pd (zL s i) (nmt t s i) x = 0 := fun x hx => pd_out (by omega)
  have st : ∀ x, x < 8 → ((if vl v k ≤ x then nI 0 else hI h 80 (8 * k + x)) = nI (pd (vl v k) (vt v k) x)) ∧ ((if zL s i ≤ x then nI 0 else hI h 87 (8 * i + x)) = nI (pd (zL s i) (nmt t s i) x)) := by
    intro x hx
    constructor
    · by_cases c : x < vl v k
      · rw [if_neg (by omega), pd_in c, w2 x c]
      · rw [if_pos (by omega), pd_out c]
    · by_cases c : x < zL s i
      · rw [if_neg (by omega), pd_in c, u2 x c]
        rfl
      · rw [if_pos (by omega), pd_out c]
  generalize pd (vl v k) (vt v k) = f at *
  generalize pd (zL s i) (nmt t s i) = g at *
  unfold f_X10_compareNew
  rw [gd_77 hL]
  have key : ∀ n j, j ≤ 8 → 8 - j < n → (∀ x, x < j → f x = g x) → (plt f g → f_X10_compareNew_L2 77 (nI k) (nI i) h (some (nI 0)) n (nI j) = some m1) ∧ (plt g f → f_X10_compareNew_L2 77 (nI k) (nI i) h (some (nI 0)) n (nI j) = some (nI 1)) ∧ ((∀ x, x < 8 → f x = g x) → f_X10_compareNew_L2 77 (nI k) (nI i) h (some (nI 0)) n (nI j) = some (nI 0)) := by
    intro n
    induction n with
    | zero => intro j h1 h2; omega
    | succ n ih =>
      intro j h1 h2 h3
      by_cases c : j = 8
      · subst c
        have un : f_X10_compareNew_L2 77 (nI k) (nI i) h (some (nI 0)) (n + 1) (nI 8) = some (nI 0) := by
          unfold f_X10_compareNew_L2
          rw [if_pos (nI_le (Nat.le_refl 8) (by decide))]
        rw [un]
        have al : ∀ x, f x = g x := fun x => by
          by_cases d : x < 8
          · exact h3 x d
          · rw [o8f x (by omega), o8g x (by omega)]
        refine ⟨fun ⟨x, _, z⟩ => ?_, fun ⟨x, _, z⟩ => ?_, fun _ => rfl⟩ <;> (have := al x; omega)
      · have un : f_X10_compareNew_L2 77 (nI k) (nI i) h (some (nI 0)) (n + 1) (nI j) = if f j = g j then f_X10_compareNew_L2 77 (nI k) (nI i) h (some (nI 0)) n (nI (j + 1)) else if g j ≤ f j then some (nI 1) else some m1 := by
          conv => lhs; unfold f_X10_compareNew_L2
          rw [if_neg (nI_ge (show j < 8 by omega) (by decide))]
          have e1 := ef j
          have e2 := eg j
          simp (disch := omega) only [MG hL, w1, u1, Option.bind_some, pk_mul, nI_add, nI_leI, ite_some]
          simp (disch := omega) only [(st j (by omega)).1, (st j (by omega)).2, nI_eq, nI_leI]
        rw [un]
        by_cases d : f j = g j
        · rw [if_pos d]
          refine ih (j + 1) (by omega) (by omega) (fun x hx => ?_)
          by_cases ex : x = j
          · rw [ex]; exact d
          · exact h3 x (by omega)
        · rw [if_neg d]
          refine ⟨fun ⟨x, z1, z2⟩ => ?_, fun ⟨x, z1, z2⟩ => ?_, fun z => absurd (z j (by omega)) d⟩
          · rcases Nat.lt_trichotomy x j with y | y | y
            · have := h3 x y; omega
            · subst y; rw [if_neg (by omega)]
            · exact absurd (z1 j y) d
          · rcases Nat.lt_trichotomy x j with y | y | y
            · have := h3 x y; omega
            · subst y; rw [if_pos (by omega)]
            · exact absurd (z1 j y).symm d
  exact key FU 0 (Nat.zero_le _) (FU_gt (by decide)) (fun x hx => absurd hx (Nat.not_lt_zero x))
theorem M_cmp (hL : Lay h) (vo : VOK v) (mq : MQn t s h) {a : Nat} (ni : NI t a s) (ha : a ≤ 50) {k i : Nat} (hk : k < vN v) (hi : i < zn s) (w1 : hI h 79 k = nI (vl v k)) (w2 : ∀ x, x < vl v k → hI h 80 (8 * k + x) = nI (vt v k x)) :
    ∃ x, f_X10_compareNew 77 (nI k) (nI i) h = some x ∧ (x = nI 0 ↔ (vl v k = zL s i ∧ ∀ x, x < zL s i → vt v k x = t.2 (zS s i + x))) ∧ (x ≤ nI 0 ↔ ¬ nlt (zL s i) (nmt t s i) (vl v k) (vt v k)) := by
  have q := M_cmpP hL vo mq ni ha hk hi w1 w2
  obtain ⟨y1, y2, y3, y4⟩ := ni.2.2.2.1 i hi
  have p1 := vo.pos hk
  have p2 : ∀ x, x < zL s i → 0 < nmt t s i x := fun x hx => by have := (y3 x hx).1; show 0 < t.2 (zS s i + x); omega
  have e0 := pd_eq p1 p2 (vo.2.1 k hk).2 y1.2
  have e0' : (∀ x, x < 8 → pd (vl v k) (vt v k) x = pd (zL s i) (nmt t s i) x) ↔ (vl v k = zL s i ∧ ∀ x, x < zL s i → vt v k x = t.2 (zS s i + x)) := e0.trans ⟨fun z => ⟨z.1, fun x hx => z.2 x (by omega)⟩, fun z => ⟨z.1, fun x hx => z.2 x (by omega)⟩⟩
  rw [nlt_pd p2 p1, ← e0']
  rcases plt_pre (pd (vl v k) (vt v k)) (pd (zL s i) (nmt t s i)) 8 with c | c | c
  · refine ⟨nI 0, q.2.2 c, ⟨fun _ => c, fun _ => rfl⟩, ⟨fun _ ⟨x, _, z⟩ => ?_, fun _ => by decide⟩⟩
    by_cases d : x < 8
    · have := c x d; omega
    · rw [pd_out (show ¬ x < zL s i by omega)] at z
      have := (vo.2.1 k hk).2
      rw [pd_out (show ¬ x < vl v k by omega)] at z
      omega
  · refine ⟨m1, q.1 c, ⟨fun z => absurd z (m1_ne (by decide)), fun z => ?_⟩, ⟨fun _ z => plt_irr _ (plt_trans c z), fun _ => by decide⟩⟩
    obtain ⟨x, _, z2⟩ := c
    by_cases d : x < 8
    · have := z x d; omega
    · rw [pd_out (show ¬ x < zL s i by omega)] at z2
      omega
  · refine ⟨nI 1, q.2.1 c, ⟨fun z => absurd z nI01, fun z => ?_⟩, ⟨fun z => absurd z (by decide), fun z => absurd c z⟩⟩
    obtain ⟨x, _, z2⟩ := c
    by_cases d : x < 8
    · have := z x d; omega
    · have := (vo.2.1 k hk).2
      rw [pd_out (show ¬ x < vl v k by omega)] at z2
      omega
theorem M_there (hL : Lay h) (mn : MN v h) (vo : VOK v) (mq : MQn t s h) {a : Nat} (ni : NI t a s) (ha : a ≤ 50) {i : Nat} (hi : i < zn s) : f_X10_isThere 77 (nI i) h = some (b2 (kn v t (zS s i) (zL s i))) := by
  have h14 := vo.1
  unfold f_X10_isThere
  rw [gd_77 hL]
  have q := lp_up (W := fun n k => f_X10_isThere_L4 77 (nI i) h (fun y7 => (rz y7).bind fun r => some r) n (b2 (∃ j, j < k ∧ (vl v j = zL s i ∧ ∀ x, x < zL s i → vt v j x = t.2 (zS s i + x)))) (nI k)) (N := vN v) (r := some (b2 (kn v t (zS s i) (zL s i)))) (fun n => ?_) (fun n k hk => ?_) FU 0 (Nat.zero_le _) (FU_gt (by omega))
  · refine Eq.trans ?_ q
    show f_X10_isThere_L4 _ _ _ _ _ _ _ = f_X10_isThere_L4 _ _ _ _ _ _ _
    rw [b2_f (show ¬ ∃ j, j < 0 ∧ (vl v j = zL s i ∧ ∀ x, x < zL s i → vt v j x = t.2 (zS s i + x)) from fun ⟨j, hj, _⟩ => absurd hj (Nat.not_lt_zero j))]
  · show f_X10_isThere_L4 _ _ _ _ _ _ _ = _
    unfold f_X10_isThere_L4
    simp only [MG hL, mn.1, Option.bind_some, if_pos (nI_le (Nat.le_refl (vN v)) (show vN v < 2 ^ 31 by omega)), rz_b2]
  · show f_X10_isThere_L4 _ _ _ _ _ _ _ = f_X10_isThere_L4 _ _ _ _ _ _ _
    obtain ⟨x, x1, x2, -⟩ := M_cmp hL vo mq ni ha hk hi (mn.2 k hk).1 (mn.2 k hk).2.1
    conv => lhs; unfold f_X10_isThere_L4
    simp only [MG hL, mn.1, Option.bind_some, if_neg (nI_ge hk (show vN v < 2 ^ 31 by omega)), x1, x2, ite_some, b2_def, b2_bex, nI_add]
theorem M_names27 (hL : Lay h) (mn : MN v h) (vo : VOK v) (mq : MQn t s h) (e17 : hI h 77 17 = nI (zn s)) {a : Nat} (ni : NI t a s) (ha : a ≤ 50) (K : Int32 → Option (Int32 × Hp)) : f_X10_names_L27 77 h K FU (nI 1) (nI 0) = K (b2 (¬ ∃ i, i < zn s ∧ kn v t (zS s i) (zL s i))) := by
  have hn := ni.small ha
  have z0 : ∀ n x, f_X10_names_L27 77 h K (n + 1) (nI 0) x = K (nI 0) := by
    intro n x
    unfold f_X10_names_L27
    rw [(MG hL).1, Option.bind_some, if_pos (show nI 0 = nI 0 from rfl)]
    split <;> rfl
  have q := lp_all0 (W := fun n i => f_X10_names_L27 77 h K n (nI 1) (nI i)) (N := zn s) (P := fun i => ¬ kn v t (zS s i) (zL s i)) (r1 := K (nI 1)) (r0 := K (nI 0)) (fun n => ?_) (fun n i hi hn0 => ?_) (n := FU) (FU_gt (by omega))
  · refine q.trans ?_
    by_cases c : ∃ i, i < zn s ∧ kn v t (zS s i) (zL s i)
    · rw [b2_f (fun z => z c), if_neg (fun z => by obtain ⟨i, hi, e⟩ := c; exact z i hi e)]
    · rw [b2_t c, if_pos (fun i hi e => c ⟨i, hi, e⟩)]
  · show f_X10_names_L27 _ _ _ _ _ _ = _
    unfold f_X10_names_L27
    simp only [MG hL, e17, Option.bind_some, if_pos (nI_le (Nat.le_refl (zn s)) (show zn s < 2 ^ 31 by omega))]
  · constructor
    · intro z
      show f_X10_names_L27 _ _ _ _ _ _ = f_X10_names_L27 _ _ _ _ _ _
      conv => lhs; unfold f_X10_names_L27
      simp only [MG hL, e17, Option.bind_some, if_neg (nI_ge hi (show zn s < 2 ^ 31 by omega)), if_neg nI01, M_there hL mn vo mq ni ha hi, b2_f z, if_true, nI_add]
    · intro z
      obtain ⟨m, rfl⟩ : ∃ m, n = m + 1 := ⟨n - 1, by omega⟩
      show f_X10_names_L27 _ _ _ _ _ _ = _
      conv => lhs; unfold f_X10_names_L27
      simp only [MG hL, e17, Option.bind_some, if_neg (nI_ge hi (show zn s < 2 ^ 31 by omega)), if_neg nI01, M_there hL mn vo mq ni ha hi, b2_t (Classical.not_not.mp z), nI_add]
      exact z0 m _
end
