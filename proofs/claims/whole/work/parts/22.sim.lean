/-! THE STATE THAT BOTH HOLD -/
/-- names and keypad: how many, lengths, letters, frequencies; the digits of the letters -/
abbrev Vw : Type := Nat × (Nat → Nat) × (Nat → Nat → Nat) × (Nat → Nat) × (Nat → Nat)
def vN (v : Vw) : Nat := v.1
def vl (v : Vw) : Nat → Nat := v.2.1
def vt (v : Vw) : Nat → Nat → Nat := v.2.2.1
def vu (v : Vw) : Nat → Nat := v.2.2.2.1
def vk (v : Vw) : Nat → Nat := v.2.2.2.2
def vd (v : Vw) (k i : Nat) : Nat := vk v (vt v k i - 97)
/-- one name (length, letters) ahead of another -/
def nlt (l1 : Nat) (t1 : Nat → Nat) (l2 : Nat) (t2 : Nat → Nat) : Prop := (∃ i, i < l1 ∧ i < l2 ∧ (∀ j, j < i → t1 j = t2 j) ∧ t1 i < t2 i) ∨ (l1 < l2 ∧ ∀ j, j < l1 → t1 j = t2 j)
def VOK (v : Vw) : Prop := vN v ≤ 14 ∧ (∀ k, k < vN v → 1 ≤ vl v k ∧ vl v k ≤ 8) ∧ (∀ k, k < vN v → ∀ i, i < vl v k → 97 ≤ vt v k i ∧ vt v k i ≤ 122) ∧ (∀ k, k < vN v → 1 ≤ vu v k ∧ vu v k ≤ 99) ∧ (∀ c, c < 26 → 2 ≤ vk v c ∧ vk v c ≤ 9) ∧ (∀ j k, j < k → k < vN v → nlt (vl v j) (vt v j) (vl v k) (vt v k))
/-- a text, an input: how many, what -/
abbrev Sq : Type := Nat × (Nat → Nat)
/-- a menu: its width (0: none), lengths of paths, steps, number of menus in it -/
abbrev Mn : Type := Nat × (Nat → Nat) × (Nat → Nat → Nat) × Nat
-- the class
def CT (t : Sq) (h : Hp) : Prop := hI h 1 1 = nI t.1 ∧ ∀ i, i < t.1 → hI h 2 i = nI (t.2 i)
def CI (p : Sq) (h : Hp) : Prop := hI h 3 1 = nI p.1 ∧ ∀ i, i < p.1 → hI h 4 i = nI (p.2 i)
def CK (v : Vw) (h : Hp) : Prop := ∀ c, c < 26 → hI h 6 c = nI (vk v c)
/-- an entry of the roster, at its address -/
def CE (v : Vw) (k e : Nat) (h : Hp) : Prop := (99 ≤ e ∧ e + 3 ≤ hN h) ∧ hK h e = (1, 0) ∧ hK h (e + 1) = (11, vl v k) ∧ hK h (e + 2) = (11, vl v k) ∧ hR h e 0 = some (e + 1) ∧ hR h e 1 = some (e + 2) ∧ hI h e 2 = nI (vu v k) ∧ (∀ i, i < vl v k → hI h (e + 1) i = nI (vt v k i)) ∧ ∀ i, i < vl v k → hI h (e + 2) i = nI (vd v k i)
def CN (v : Vw) (ea : Nat → Nat) (h : Hp) : Prop := vN v ≤ 14 ∧ hI h 8 1 = nI (vN v) ∧ (∀ k, k < vN v → hR h 9 k = some (ea k) ∧ CE v k (ea k) h) ∧ (∀ k, vN v ≤ k → k < 14 → hR h 9 k = none) ∧ (∀ j k, j < k → k < vN v → ea j + 3 ≤ ea k ∨ ea k + 3 ≤ ea j)
/-- the menu's paths, at the menu's address -/
def CP_ (m : Mn) (N a : Nat) (h : Hp) : Prop := hI h a 3 = nI m.1 ∧ hI h a 4 = nI N ∧ hI h a 5 = nI m.2.2.2 ∧ (∀ k, k < N → hI h (a + 16) k = nI (m.2.1 k)) ∧ ∀ k, k < N → ∀ i, i < m.2.1 k → hI h (a + 2 + k) i = nI (m.2.2.1 k i)
def CM (m : Mn) (N pm : Nat) (h : Hp) : Prop := (pm = 39 ∧ hR h 0 8 = some 39 ∧ hR h 0 9 = some 58 ∨ pm = 58 ∧ hR h 0 8 = some 58 ∧ hR h 0 9 = some 39) ∧ hI h 0 10 = b2 (m.1 ≠ 0) ∧ (m.1 ≠ 0 → CP_ m N pm h) ∧ hI h 25 0 = nI 0
def CC (c : Nat → Int32) (h : Hp) : Prop := hI h 0 12 = c 0 ∧ hI h 0 13 = c 1 ∧ hI h 0 14 = c 2 ∧ hI h 0 11 = c 3
-- the model
def MT (t : Sq) (h : Hp) : Prop := hI h 77 0 = nI t.1 ∧ ∀ i, i < t.1 → hI h 78 i = nI (t.2 i)
def MI (p : Sq) (h : Hp) : Prop := hI h 77 10 = nI p.1 ∧ ∀ i, i < p.1 → hI h 83 i = nI (p.2 i)
def MK (v : Vw) (h : Hp) : Prop := ∀ c, c < 26 → hI h 82 c = nI (vk v c)
def MN (v : Vw) (h : Hp) : Prop := hI h 77 2 = nI (vN v) ∧ ∀ k, k < vN v → hI h 79 k = nI (vl v k) ∧ (∀ i, i < vl v k → hI h 80 (8 * k + i) = nI (vt v k i)) ∧ hI h 81 k = nI (vu v k)
def MM (m : Mn) (N : Nat) (h : Hp) : Prop := hI h 77 12 = nI m.1 ∧ (m.1 ≠ 0 → ∀ k, k < N → hI h 84 k = nI (m.2.1 k) ∧ ∀ i, i < m.2.1 k → hI h 85 (14 * k + i) = nI (m.2.2.1 k i)) ∧ ∀ k, k < 14 → ∃ l, l ≤ 13 ∧ hI h 84 k = nI l
def MC (c : Nat → Int32) (h : Hp) : Prop := hI h 77 6 = c 0 ∧ hI h 77 7 = c 1 ∧ hI h 77 8 = c 2 ∧ hI h 77 15 = c 3
def TOK (t : Sq) : Prop := t.1 ≤ 50 ∧ ∀ i, i < t.1 → 32 ≤ t.2 i ∧ t.2 i ≤ 126
def IOK (p : Sq) : Prop := p.1 ≤ 10 ∧ ∀ i, i < p.1 → 2 ≤ p.2 i ∧ p.2 i ≤ 9
/-- the class holds it; the model holds it -/
def SC (pm : Nat) (v : Vw) (t p : Sq) (m : Mn) (c : Nat → Int32) (h : Hp) : Prop := Lay h ∧ CT t h ∧ CI p h ∧ CK v h ∧ (∃ ea, CN v ea h) ∧ CM m (vN v) pm h ∧ CC c h
def SM (v : Vw) (t p : Sq) (m : Mn) (c : Nat → Int32) (h : Hp) : Prop := Lay h ∧ MT t h ∧ MI p h ∧ MK v h ∧ MN v h ∧ MM m (vN v) h ∧ MC c h
/-- the class's own rows for work: all that no later call reads -/
def scrC (pm q : Nat) : Prop := q = 7 ∨ (10 ≤ q ∧ q ≤ 38) ∨ (39 ≤ q ∧ q ≤ 76 ∧ ¬ (pm ≤ q ∧ q ≤ pm + 16))
/-- only the class's rows for work have changed -/
def OC (pm : Nat) (h h' : Hp) : Prop := SS h h' ∧ (∀ q, ¬ scrC pm q → hI h' q = hI h q) ∧ hI h' 25 0 = hI h 25 0
def pj : List Nat := [0, 2, 6, 7, 8, 10, 12, 15]
/-- only the model's rows for work have changed -/
def OM (h h' : Hp) : Prop := SS h h' ∧ (∀ q, q < 77 ∨ 99 ≤ q ∨ (78 ≤ q ∧ q ≤ 85) → hI h' q = hI h q) ∧ ∀ j ∈ pj, hI h' 77 j = hI h 77 j
section
variable {pm : Nat} {v : Vw} {t p : Sq} {m : Mn} {c : Nat → Int32} {h h' : Hp}
theorem OC.rf : OC pm h h := ⟨SS.rf, fun _ _ => rfl, rfl⟩
theorem OC.tr {a b d : Hp} (h1 : OC pm a b) (h2 : OC pm b d) : OC pm a d := ⟨h1.1.tr h2.1, fun q hq => (h2.2.1 q hq).trans (h1.2.1 q hq), h2.2.2.trans h1.2.2⟩
theorem OC.set {a k : Nat} {x : Int32} (ha : scrC pm a) (h25 : a ≠ 25 ∨ k ≠ 0) : OC pm h (setI h a k x) := ⟨SS.setI h a k x, fun q hq => hI_setI_ne h k x (fun e => hq (by rw [e]; exact ha)), by
  rw [hI_setI]
  split
  · next e =>
    rcases h25 with z | z
    · exact absurd e.symm z
    · rw [← e, upd_ne _ _ (Ne.symm z)]
  · rfl⟩
theorem OC.put {a k : Nat} {x : Int32} (h1 : OC pm h h') (ha : scrC pm a) (h25 : a ≠ 25 ∨ k ≠ 0) : OC pm h (setI h' a k x) := h1.tr (OC.set ha h25)
theorem OC.of (o : OnlyI (fun q => scrC pm q ∧ q ≠ 25) h h') : OC pm h h' := ⟨o.1, fun q hq => o.2 q (fun z => hq z.1), by rw [o.2 25 (fun z => z.2 rfl)]⟩
theorem OM.rf : OM h h := ⟨SS.rf, fun _ _ => rfl, fun _ _ => rfl⟩
theorem OM.tr {a b d : Hp} (h1 : OM a b) (h2 : OM b d) : OM a d := ⟨h1.1.tr h2.1, fun q hq => (h2.2.1 q hq).trans (h1.2.1 q hq), fun j hj => (h2.2.2 j hj).trans (h1.2.2 j hj)⟩
theorem OM.set {a k : Nat} {x : Int32} (ha : 86 ≤ a ∧ a < 99) : OM h (setI h a k x) := ⟨SS.setI h a k x, fun q hq => hI_setI_ne h k x (by omega), fun j _ => by rw [hI_setI_ne h k x (by omega)]⟩
theorem OM.set77 {k : Nat} {x : Int32} (hk : k ∉ pj) : OM h (setI h 77 k x) := ⟨SS.setI h 77 k x, fun q hq => hI_setI_ne h k x (by omega), fun j hj => by rw [hI_setI_eq, upd_ne _ _ (fun e => hk (by rw [← e]; exact hj))]⟩
theorem OM.of (o : OnlyI (fun q => 86 ≤ q ∧ q < 99) h h') : OM h h' := ⟨o.1, fun q hq => o.2 q (fun z => by omega), fun j _ => by rw [o.2 77 (fun z => by omega)]⟩
theorem CE.fr {k e : Nat} (s : CE v k e h) (o : SS h h') (e1 : hI h' e = hI h e) (e2 : hI h' (e + 1) = hI h (e + 1)) (e3 : hI h' (e + 2) = hI h (e + 2)) : CE v k e h' := by
  unfold CE at *
  rw [o.1, o.2.1, o.2.2.1, e1, e2, e3]
  exact s
theorem CN.fr {ea : Nat → Nat} (s : CN v ea h) (o : SS h h') (e8 : hI h' 8 = hI h 8) (e : ∀ q, 99 ≤ q → hI h' q = hI h q) : CN v ea h' := by
  unfold CN at *
  rw [e8, o.2.2.1]
  refine ⟨s.1, s.2.1, fun k hk => ⟨(s.2.2.1 k hk).1, ?_⟩, s.2.2.2⟩
  have q := (s.2.2.1 k hk).2
  have hq := q.1.1
  exact q.fr o (e _ hq) (e _ (by omega)) (e _ (by omega))
theorem CM.two {N : Nat} (s : CM m N pm h) : pm = 39 ∨ pm = 58 := by rcases s.1 with z | z <;> omega
theorem CM.fr {N : Nat} (s : CM m N pm h) (hN : N ≤ 14) (o : SS h h') (e0 : hI h' 0 = hI h 0) (e25 : hI h' 25 0 = hI h 25 0) (e : ∀ q, pm ≤ q → q ≤ pm + 16 → hI h' q = hI h q) : CM m N pm h' := by
  have hpm := s.two
  unfold CM at *
  rw [o.2.2.1, e0, e25]
  refine ⟨s.1, s.2.1, fun hm => ?_, s.2.2.2⟩
  have q := s.2.2.1 hm
  unfold CP_ at *
  rw [e pm (by omega) (by omega), e (pm + 16) (by omega) (by omega)]
  refine ⟨q.1, q.2.1, q.2.2.1, q.2.2.2.1, fun k hk i hi => ?_⟩
  rw [e (pm + 2 + k) (by omega) (by omega)]
  exact q.2.2.2.2 k hk i hi
theorem SC.oc (s : SC pm v t p m c h) (o : OC pm h h') : SC pm v t p m c h' := by
  obtain ⟨hL, h1, h2, h3, ⟨ea, h4⟩, h5, h6⟩ := s
  have hpm := h5.two
  have e : ∀ q, ¬ scrC pm q → hI h' q = hI h q := o.2.1
  refine ⟨hL.ss o.1, ?_, ?_, ?_, ⟨ea, ?_⟩, ?_, ?_⟩
  · unfold CT at *; rw [e 1 (by unfold scrC; omega), e 2 (by unfold scrC; omega)]; exact h1
  · unfold CI at *; rw [e 3 (by unfold scrC; omega), e 4 (by unfold scrC; omega)]; exact h2
  · unfold CK at *; rw [e 6 (by unfold scrC; omega)]; exact h3
  · exact h4.fr o.1 (e 8 (by unfold scrC; omega)) (fun q hq => e q (by unfold scrC; omega))
  · exact h5.fr h4.1 o.1 (e 0 (by unfold scrC; omega)) o.2.2 (fun q h1 h2 => e q (by unfold scrC; omega))
  · unfold CC at *; rw [e 0 (by unfold scrC; omega)]; exact h6
theorem SC.om (s : SC pm v t p m c h) (o : OM h h') : SC pm v t p m c h' := by
  obtain ⟨hL, h1, h2, h3, ⟨ea, h4⟩, h5, h6⟩ := s
  have hpm := h5.two
  have e : ∀ q, q < 77 ∨ 99 ≤ q → hI h' q = hI h q := fun q hq => o.2.1 q (by omega)
  refine ⟨hL.ss o.1, ?_, ?_, ?_, ⟨ea, ?_⟩, ?_, ?_⟩
  · unfold CT at *; rw [e 1 (by omega), e 2 (by omega)]; exact h1
  · unfold CI at *; rw [e 3 (by omega), e 4 (by omega)]; exact h2
  · unfold CK at *; rw [e 6 (by omega)]; exact h3
  · exact h4.fr o.1 (e 8 (by omega)) (fun q hq => e q (by omega))
  · exact h5.fr h4.1 o.1 (e 0 (by omega)) (by rw [e 25 (by omega)]) (fun q h1 h2 => e q (by omega))
  · unfold CC at *; rw [e 0 (by omega)]; exact h6
theorem SM.fr (s : SM v t p m c h) (hL' : Lay h') (e77 : ∀ j ∈ pj, hI h' 77 j = hI h 77 j) (e : ∀ q, 78 ≤ q → q ≤ 85 → hI h' q = hI h q) : SM v t p m c h' := by
  obtain ⟨hL, h1, h2, h3, h4, h5, h6⟩ := s
  refine ⟨hL', ?_, ?_, ?_, ?_, ?_, ?_⟩
  · unfold MT at *; rw [e77 0 (by decide), e 78 (by omega) (by omega)]; exact h1
  · unfold MI at *; rw [e77 10 (by decide), e 83 (by omega) (by omega)]; exact h2
  · unfold MK at *; rw [e 82 (by omega) (by omega)]; exact h3
  · unfold MN at *; rw [e77 2 (by decide), e 79 (by omega) (by omega), e 80 (by omega) (by omega), e 81 (by omega) (by omega)]; exact h4
  · unfold MM at *; rw [e77 12 (by decide), e 84 (by omega) (by omega), e 85 (by omega) (by omega)]; exact h5
  · unfold MC at *; rw [e77 6 (by decide), e77 7 (by decide), e77 8 (by decide), e77 15 (by decide)]; exact h6
theorem SM.om (s : SM v t p m c h) (o : OM h h') : SM v t p m c h' := s.fr (s.1.ss o.1) o.2.2 (fun q h1 h2 => o.2.1 q (by omega))
theorem SM.oc (s : SM v t p m c h) (hpm : pm = 39 ∨ pm = 58) (o : OC pm h h') : SM v t p m c h' := s.fr (s.1.ss o.1) (fun j _ => by rw [o.2.1 77 (by unfold scrC; omega)]) (fun q h1 h2 => o.2.1 q (by unfold scrC; omega))
end
