/-! NEW NAMES: the class -/
theorem hN_new (h : Hp) (c l : Nat) (f : Nat → Int32) : hN (newC h c l f) = hN h + 1 := rfl
theorem hK_new (h : Hp) (c l : Nat) (f : Nat → Int32) (q : Nat) : hK (newC h c l f) q = if q = hN h then (c, l) else hK h q := rfl
theorem hI_new (h : Hp) (c l : Nat) (f : Nat → Int32) (q j : Nat) : hI (newC h c l f) q j = if q = hN h then f j else hI h q j := rfl
theorem hR_new (h : Hp) (c l : Nat) (f : Nat → Int32) (q j : Nat) : hR (newC h c l f) q j = if q = hN h then none else hR h q j := rfl
/-- all old cells as they were -/
def Ext (h g : Hp) : Prop := hN h ≤ hN g ∧ (∀ q, q < hN h → hK g q = hK h q) ∧ (∀ q, q < hN h → hI g q = hI h q) ∧ ∀ q, q < hN h → ∀ j, hR g q j = hR h q j
section
variable {h g : Hp}
theorem Ext.rf : Ext h h := ⟨Nat.le_refl _, fun _ _ => rfl, fun _ _ => rfl, fun _ _ _ => rfl⟩
theorem Ext.new (x : Ext h g) (c l : Nat) (f : Nat → Int32) : Ext h (newC g c l f) := by
  obtain ⟨a, b, c', d⟩ := x
  refine ⟨by rw [hN_new]; omega, fun q hq => ?_, fun q hq => ?_, fun q hq j => ?_⟩
  · rw [hK_new, if_neg (by omega)]; exact b q hq
  · rw [← c' q hq]; funext j; rw [hI_new, if_neg (by omega)]
  · rw [hR_new, if_neg (by omega)]; exact d q hq j
theorem Ext.setR (x : Ext h g) {a : Nat} (ha : hN h ≤ a) (k : Nat) (v : Option Nat) : Ext h (setR g a k v) := ⟨x.1, x.2.1, x.2.2.1, fun q hq j => by rw [hR_setR, if_neg (by omega)]; exact x.2.2.2 q hq j⟩
theorem Ext.only (x : Ext h g) {A : Nat → Prop} {g' : Hp} (o : OnlyI A g g') (hA : ∀ q, A q → hN h ≤ q) : Ext h g' := ⟨by rw [o.1.1]; exact x.1, fun q hq => by rw [o.1.2.1]; exact x.2.1 q hq, fun q hq => by rw [o.2 q (fun z => by have := hA q z; omega)]; exact x.2.2.1 q hq, fun q hq j => by rw [o.1.2.2.1]; exact x.2.2.2 q hq j⟩
theorem Ext.lay (x : Ext h g) (hL : Lay h) : Lay g := by
  have h99 := hL.1
  refine ⟨by have := x.1; omega, fun q hq => by rw [x.2.1 q (by omega)]; exact hL.2.1 q hq, fun e he => ?_⟩
  have : e.1 < 99 := by
    have q : ∀ e ∈ rfL, e.1 < 99 := by decide
    exact q e he
  rw [x.2.2.2 e.1 (by omega)]
  exact hL.2.2 e he
theorem newA_of {l : Nat} (hl : l ≤ 8) : newA h 8 (nI l) = some (newC h 11 l (fun _ => 0)) := by
  unfold newA
  rw [nI_toInt (by omega), if_pos ⟨by omega, by omega⟩]
  rfl
end
def one (l : Nat) (t : Nat → Nat) (u : Nat) (d : Nat → Nat) : Vw := (1, fun _ => l, fun _ => t, fun _ => u, d)
section
variable {v : Vw} {h : Hp} {t : Sq} {s : NS} {ea : Nat → Nat}
theorem X1_alloc (a1 : Nat) (x2 x4 : Int32) {l : Nat} (hl : l ≤ 8) : ∃ g, f_X1_init (hN h) a1 x2 (nI l) x4 (newC h 1 0 (fun _ => 0)) = f_X1_init_L30 (hN h) a1 x2 x4 (nI l) (fun h9 => (putI h9 1 (hN h) 2 x4).bind fun h10 => some h10) FU (nI 0) g ∧ Ext h g ∧ hN g = hN h + 3 ∧ hK g (hN h) = (1, 0) ∧ hK g (hN h + 1) = (11, l) ∧ hK g (hN h + 2) = (11, l) ∧ hR g (hN h) 0 = some (hN h + 1) ∧ hR g (hN h) 1 = some (hN h + 2) ∧ ∀ j, hI g (hN h + 2) j = 0 := by
  have k1 : hN h < hN (newC h 1 0 (fun _ => 0)) ∧ (hK (newC h 1 0 (fun _ => 0)) (hN h)).1 = 1 := ⟨by rw [hN_new]; omega, by rw [hK_new, if_pos rfl]⟩
  have k2 : hN h < hN (newC (newC h 1 0 (fun _ => 0)) 11 l (fun _ => 0)) ∧ (hK (newC (newC h 1 0 (fun _ => 0)) 11 l (fun _ => 0)) (hN h)).1 = 1 := ⟨by rw [hN_new, hN_new]; omega, by rw [hK_new, hN_new, if_neg (by omega), hK_new, if_pos rfl]⟩
  have k3 : hN h < hN (newC (setR (newC (newC h 1 0 (fun _ => 0)) 11 l (fun _ => 0)) (hN h) 0 (some (hN h + 1))) 11 l (fun _ => 0)) ∧ (hK (newC (setR (newC (newC h 1 0 (fun _ => 0)) 11 l (fun _ => 0)) (hN h) 0 (some (hN h + 1))) 11 l (fun _ => 0)) (hN h)).1 = 1 := ⟨by rw [hN_new, hN_setR, hN_new, hN_new]; omega, by rw [hK_new, hN_setR, hN_new, hN_new, if_neg (by omega), hK_setR]; exact k2.2⟩
  refine ⟨setR (newC (setR (newC (newC h 1 0 (fun _ => 0)) 11 l (fun _ => 0)) (hN h) 0 (some (hN h + 1))) 11 l (fun _ => 0)) (hN h) 1 (some (hN h + 2)), ?_, ?_, ?_, ?_, ?_, ?_, ?_, ?_, ?_⟩
  · unfold f_X1_init
    rw [gd_of k1, imx_nI (by omega) (by omega), Nat.max_eq_left (Nat.zero_le l), newA_of hl, Option.bind_some, hN_new, putR_of k2, Option.bind_some, newA_of hl, Option.bind_some, hN_setR, hN_new, hN_new, putR_of k3, Option.bind_some]
  · exact (((((Ext.rf (h := h)).new _ _ _).new _ _ _).setR (Nat.le_refl _) _ _).new _ _ _).setR (Nat.le_refl _) _ _
  · rw [hN_setR, hN_new, hN_setR, hN_new, hN_new]
  · rw [hK_setR, hK_new, hN_setR, hN_new, hN_new, if_neg (by omega), hK_setR, hK_new, hN_new, if_neg (by omega), hK_new, if_pos rfl]
  · rw [hK_setR, hK_new, hN_setR, hN_new, hN_new, if_neg (by omega), hK_setR, hK_new, hN_new, if_pos rfl]
  · rw [hK_setR, hK_new, hN_setR, hN_new, hN_new, if_pos rfl]
  · rw [hR_setR, if_neg (by omega), hR_new, hN_setR, hN_new, hN_new, if_neg (by omega), hR_setR, if_pos ⟨rfl, rfl⟩]
  · rw [hR_setR, if_pos ⟨rfl, rfl⟩]
  · intro j
    rw [hI_setR, hI_new, hN_setR, hN_new, hN_new, if_pos rfl]
theorem X1_init (hL : Lay h) (ht : TOK t) (hc : CT t h) {a l u : Nat} (hl : l ≤ 8) (ha : a + l ≤ t.1) : ∃ g, f_X1_init (hN h) 1 (nI a) (nI l) (nI u) (newC h 1 0 (fun _ => 0)) = some g ∧ Ext h g ∧ hN g = hN h + 3 ∧ CE (one l (fun x => t.2 (a + x)) u (fun _ => 0)) 0 (hN h) g := by
  obtain ⟨g, q1, q2, q3, q4, q5, q6, q7, q8, q9⟩ := X1_alloc (h := h) 1 (nI a) (nI u) hl
  have h99 := hL.1
  have hLg : Lay g := q2.lay hL
  have key : ∀ (K : Hp → Option Hp) f i g', i ≤ l → l - i < f → OnlyI (fun q => q = hN h + 1) g g' → (∀ j, j < i → hI g' (hN h + 1) j = nI (t.2 (a + j))) → ∃ g'', f_X1_init_L30 (hN h) 1 (nI a) (nI u) (nI l) K f (nI i) g' = K g'' ∧ OnlyI (fun q => q = hN h + 1) g g'' ∧ ∀ j, j < l → hI g'' (hN h + 1) j = nI (t.2 (a + j)) := by
    intro K f
    induction f with
    | zero => intro i g' h1 h2; omega
    | succ f ih =>
      intro i g' h1 h2 h3 h4
      unfold f_X1_init_L30
      by_cases c : i = l
      · subst c
        rw [if_pos (nI_le (Nat.le_refl _) (by omega))]
        exact ⟨g', rfl, h3, h4⟩
      · rw [if_neg (nI_ge (by omega) (by omega))]
        have hL' : Lay g' := hLg.ss h3.1
        have hc' : CT t g' := by unfold CT at *; rw [h3.2 1 (by omega), h3.2 2 (by omega), q2.2.2.1 1 (by omega), q2.2.2.1 2 (by omega)]; exact hc
        have r := row_text hL' ht hc'
        have o : hN h < hN g' ∧ (hK g' (hN h)).1 = 1 := by rw [h3.1.1, h3.1.2.1, q3, q4]; exact ⟨by omega, rfl⟩
        have o1 : hN h + 1 < hN g' ∧ hK g' (hN h + 1) = (11, l) := by rw [h3.1.1, h3.1.2.1, q3, q5]; exact ⟨by omega, rfl⟩
        rw [getR_of o (by rw [h3.1.2.2.1]; exact q7), Option.bind_some, nI_add, r.get (show a + i < t.1 by omega), hc'.2 (a + i) (by omega), Option.bind_some, ast_of o1 (by omega) (show i < l by omega), Option.bind_some, nI_add]
        refine ih (i + 1) _ (by omega) (by omega) (h3.put rfl) (fun j hj => ?_)
        rw [hI_setI_eq]
        by_cases ej : j = i
        · rw [ej, upd_same]
        · rw [upd_ne _ _ ej]; exact h4 j (by omega)
  obtain ⟨g1, r1, r2, r3⟩ := key (fun h9 => (putI h9 1 (hN h) 2 (nI u)).bind fun h10 => some h10) FU 0 g (Nat.zero_le _) (FU_gt (by omega)) OnlyI.rf (fun j hj => absurd hj (Nat.not_lt_zero j))
  have o : hN h < hN g1 ∧ (hK g1 (hN h)).1 = 1 := by rw [r2.1.1, r2.1.2.1, q3, q4]; exact ⟨by omega, rfl⟩
  have o2 : OnlyI (fun q => q = hN h) g1 (setI g1 (hN h) 2 (nI u)) := OnlyI.set rfl
  refine ⟨setI g1 (hN h) 2 (nI u), ?_, (q2.only r2 (fun q hq => by omega)).only o2 (fun q hq => by omega), by rw [hN_setI, r2.1.1, q3], ?_⟩
  · rw [q1, r1, putI_of o]; rfl
  · unfold CE
    rw [hN_setI, hK_setI, o2.1.2.2.1, r2.1.1, r2.1.2.1, r2.1.2.2.1, q3]
    refine ⟨⟨h99, Nat.le_refl _⟩, q4, q5, q6, q7, q8, by rw [hI_setI_eq, upd_same]; rfl, fun i hi => ?_, fun i hi => ?_⟩
    · rw [hI_setI_ne _ _ _ (by omega)]; exact r3 i hi
    · rw [hI_setI_ne _ _ _ (by omega), r2.2 (hN h + 2) (by omega), q9]; rfl
theorem C_entry (hL : Lay h) (ht : TOK t) (hc : CT t h) (ck : CK v h) (cr : CR s h) {a : Nat} (ni : NI t a s) (ha : a ≤ t.1) {i : Nat} (hi : i < zn s) : ∃ g1 g, f_X3_entryOf 10 1 (nI i) h = some (hN h, g1) ∧ Lay g1 ∧ f_X1_encode (hN h) 5 g1 = some g ∧ Ext h g ∧ hN g = hN h + 3 ∧ CE (one (zL s i) (nmt t s i) (zF s i) (vk v)) 0 (hN h) g := by
  have ht1 := ht.1
  have hn := ni.small (by omega)
  have h99 := hL.1
  obtain ⟨y1, y2, y3, y4⟩ := ni.2.2.2.1 i hi
  obtain ⟨g1, q1, q2, q3, q4⟩ := X1_init (h := h) (u := zF s i) hL ht hc y1.2 (show zS s i + zL s i ≤ t.1 by omega)
  have hL1 : Lay g1 := q2.lay hL
  have ck1 : ∀ c, c < 26 → hI g1 6 c = nI (vk v c) := fun c hc => by rw [q2.2.2.1 6 (by omega)]; exact ck c hc
  obtain ⟨g, r1, r2, r3⟩ := E_encode0 hL1 q4 y1 y3 ck1
  refine ⟨g1, g, ?_, hL1, r1, q2.only r2 (fun q hq => by omega), by rw [r2.1.1, q3], r3⟩
  have x0 : Ext h (newC h 1 0 (fun _ => 0)) := Ext.rf.new _ _ _
  have hL0 := x0.lay hL
  have cr0 : CR s (newC h 1 0 (fun _ => 0)) := by unfold CR at *; rw [x0.2.2.1 10 (by omega), x0.2.2.1 11 (by omega), x0.2.2.1 12 (by omega), x0.2.2.1 13 (by omega)]; exact cr
  unfold f_X3_entryOf
  rw [gd_10 hL, Option.bind_some, X3_start hL0 cr0 hn hi, Option.bind_some, X3_len hL0 cr0 hn hi, Option.bind_some, X3_freq hL0 cr0 hn hi, Option.bind_some, q1]
  rfl
end
