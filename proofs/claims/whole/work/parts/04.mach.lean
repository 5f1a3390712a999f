/-! THE MACHINE'S HEAP AGAINST THE ABSTRACT ONE -/
def vwCl : List vw_C := [(RX0, TX0, 1), (RX1, TX1, 3), (RX2, TX2, 2), (RX3, TX3, 6), (RX4, TX4, 6), (RX5, TX5, 4), (RX6, TX6, 5), (RX7, TX7, 2), (RX8, TX8, 2), (RX9, TX9, 15), (RX10, TX10, 33)]
def tyC (c : Nat) : Nat → FieldType := match c with
  | 0 => tyX0 | 1 => tyX1 | 2 => tyX2 | 3 => tyX3 | 4 => tyX4 | 5 => tyX5 | 6 => tyX6 | 7 => tyX7 | 8 => tyX8 | 9 => tyX9 | _ => tyX10
/-- launch, base, classes' numbers, slots, array classes (int[], Entry[], int[][]), the static array's address -/
abbrev EN : Type := Launch × Nat × (Nat → ClassId) × (Nat → Nat → Nat) × (Nat → ClassId) × Nat
def nB (en : EN) : Nat := en.2.1
def nC (en : EN) : Nat → ClassId := en.2.2.1
def nI_ (en : EN) : Nat → Nat → Nat := en.2.2.2.1
def nA (en : EN) : Nat → ClassId := en.2.2.2.2.1
def nK (en : EN) : Nat := en.2.2.2.2.2
def rl (b : Nat) (r : Option Nat) : Value := match r with
  | none => .null
  | some a => .ref (b + a)
def fv (b : Nat) (h : Hp) (q : Nat) (ty : FieldType) (j : Nat) : Value := match ty with
  | .int => .int (hI h q j)
  | .boolean => .int (hI h q j)
  | .long => .long (hJ h q j)
  | _ => rl b (hR h q j)
def cellAt (en : EN) (h : Hp) (q : Nat) (H : Heap) : Prop :=
  if (hK h q).1 = 11 then H[nB en + q]? = some (arrV (nA en 0) (hK h q).2 (fun j => .int (hI h q j)))
  else if (hK h q).1 = 12 then H[nB en + q]? = some (arrV (nA en 1) (hK h q).2 (fun j => rl (nB en) (hR h q j)))
  else if (hK h q).1 = 13 then H[nB en + q]? = some (arrV (nA en 2) (hK h q).2 (fun j => rl (nB en) (hR h q j)))
  else ∃ r : vw_C, vwCl[(hK h q).1]? = some r ∧ t_OB (nB en + q) (nC en (hK h q).1) r.2.2 (nI_ en (hK h q).1) H (fun j => fv (nB en) h q (tyC (hK h q).1 j) j)
def Rep (en : EN) (h : Hp) (H : Heap) : Prop := H.size = nB en + hN h ∧ ∀ q, q < hN h → cellAt en h q H
theorem cellAt.int {en : EN} {h : Hp} {q : Nat} {H : Heap} (hk : (hK h q).1 = 11) : cellAt en h q H ↔ H[nB en + q]? = some (arrV (nA en 0) (hK h q).2 (fun j => .int (hI h q j))) := by
  unfold cellAt; rw [if_pos hk]
theorem cellAt.ent {en : EN} {h : Hp} {q : Nat} {H : Heap} (hk : (hK h q).1 = 12) : cellAt en h q H ↔ H[nB en + q]? = some (arrV (nA en 1) (hK h q).2 (fun j => rl (nB en) (hR h q j))) := by
  unfold cellAt; rw [if_neg (by omega), if_pos hk]
theorem cellAt.row {en : EN} {h : Hp} {q : Nat} {H : Heap} (hk : (hK h q).1 = 13) : cellAt en h q H ↔ H[nB en + q]? = some (arrV (nA en 2) (hK h q).2 (fun j => rl (nB en) (hR h q j))) := by
  unfold cellAt; rw [if_neg (by omega), if_neg (by omega), if_pos hk]
theorem cellAt.obj {en : EN} {h : Hp} {q : Nat} {H : Heap} {c : Nat} (hk : (hK h q).1 = c) (hc : c < 11) : cellAt en h q H ↔ ∃ r : vw_C, vwCl[c]? = some r ∧ t_OB (nB en + q) (nC en c) r.2.2 (nI_ en c) H (fun j => fv (nB en) h q (tyC c j) j) := by
  unfold cellAt; rw [if_neg (by omega), if_neg (by omega), if_neg (by omega), hk]
theorem cellAt.kept {en : EN} {h h' : Hp} {q : Nat} {H H' : Heap} (hc : cellAt en h q H) (hk : hK h' q = hK h q) (hi : ∀ j, hI h' q j = hI h q j) (hr : ∀ j, hR h' q j = hR h q j) (hj : ∀ j, hJ h' q j = hJ h q j) (hq : H'[nB en + q]? = H[nB en + q]?) : cellAt en h' q H' := by
  have e1 : hI h' q = hI h q := funext hi
  have e2 : hR h' q = hR h q := funext hr
  have e3 : hJ h' q = hJ h q := funext hj
  unfold cellAt at hc ⊢
  rw [hk, hq]
  split
  · next g => rw [if_pos g] at hc; rw [hc, e1]
  · next g =>
    rw [if_neg g] at hc
    split
    · next g => rw [if_pos g] at hc; rw [hc, e2]
    · next g =>
      rw [if_neg g] at hc
      split
      · next g => rw [if_pos g] at hc; rw [hc, e2]
      · next g =>
        rw [if_neg g] at hc
        obtain ⟨r, h1, h2⟩ := hc
        refine ⟨r, h1, (h2.kept hq).to (fun j _ => ?_)⟩
        unfold fv
        rw [e1, e2, e3]
theorem cellAt.there {en : EN} {h : Hp} {q : Nat} {H : Heap} (hc : cellAt en h q H) : ∃ cell : Cell, H[nB en + q]? = some cell := by
  unfold cellAt at hc
  split at hc
  · exact ⟨_, hc⟩
  · split at hc
    · exact ⟨_, hc⟩
    · split at hc
      · exact ⟨_, hc⟩
      · obtain ⟨_, _, cell, h1, _⟩ := hc
        exact ⟨cell, h1⟩
/-- one cell is written, all others stay -/
theorem Rep.put {en : EN} {h h' : Hp} {H H' : Heap} {a : Nat} (hR0 : Rep en h H) (hn : hN h' = hN h) (hz : H'.size = H.size) (ho : ∀ q, q ≠ nB en + a → H'[q]? = H[q]?)
    (hk : ∀ q, q ≠ a → hK h' q = hK h q) (hi : ∀ q, q ≠ a → ∀ j, hI h' q j = hI h q j) (hr : ∀ q, q ≠ a → ∀ j, hR h' q j = hR h q j) (hj : ∀ q, q ≠ a → ∀ j, hJ h' q j = hJ h q j) (ha : cellAt en h' a H') : Rep en h' H' := by
  refine ⟨by rw [hz, hR0.1, hn], fun q hq => ?_⟩
  by_cases e : q = a
  · subst e; exact ha
  · exact (hR0.2 q (by rw [← hn]; exact hq)).kept (hk q e) (hi q e) (hr q e) (hj q e) (ho _ (by omega))
theorem Rep.setI {en : EN} {h : Hp} {H H' : Heap} {a k : Nat} {v : Int32} (hR0 : Rep en h H) (hz : H'.size = H.size) (ho : ∀ q, q ≠ nB en + a → H'[q]? = H[q]?) (ha : cellAt en (setI h a k v) a H') : Rep en (setI h a k v) H' :=
  hR0.put rfl hz ho (fun _ _ => rfl) (fun q e j => by show u2 _ _ _ _ q j = _; simp [u2, e, hI]) (fun _ _ _ => rfl) (fun _ _ _ => rfl) ha
theorem Rep.setR {en : EN} {h : Hp} {H H' : Heap} {a k : Nat} {v : Option Nat} (hR0 : Rep en h H) (hz : H'.size = H.size) (ho : ∀ q, q ≠ nB en + a → H'[q]? = H[q]?) (ha : cellAt en (setR h a k v) a H') : Rep en (setR h a k v) H' :=
  hR0.put rfl hz ho (fun _ _ => rfl) (fun _ _ _ => rfl) (fun q e j => by show u2 _ _ _ _ q j = _; simp [u2, e, hR]) (fun _ _ _ => rfl) ha
theorem Rep.setJ {en : EN} {h : Hp} {H H' : Heap} {a k : Nat} {v : Int64} (hR0 : Rep en h H) (hz : H'.size = H.size) (ho : ∀ q, q ≠ nB en + a → H'[q]? = H[q]?) (ha : cellAt en (setJ h a k v) a H') : Rep en (setJ h a k v) H' :=
  hR0.put rfl hz ho (fun _ _ => rfl) (fun _ _ _ => rfl) (fun _ _ _ => rfl) (fun q e j => by show u2 _ _ _ _ q j = _; simp [u2, e, hJ]) ha
theorem Rep.setA {en : EN} {h : Hp} {H H' : Heap} {a : Nat} {f : Nat → Int32} (hR0 : Rep en h H) (hz : H'.size = H.size) (ho : ∀ q, q ≠ nB en + a → H'[q]? = H[q]?) (ha : cellAt en (setA h a f) a H') : Rep en (setA h a f) H' :=
  hR0.put rfl hz ho (fun _ _ => rfl) (fun q e j => by show nr _ _ _ q j = _; simp [nr, e, hI]) (fun _ _ _ => rfl) (fun _ _ _ => rfl) ha
theorem Rep.newC {en : EN} {h : Hp} {H H' : Heap} {c len : Nat} {f : Nat → Int32} (hR0 : Rep en h H) (hz : H'.size = H.size + 1) (ho : ∀ q, q < H.size → H'[q]? = H[q]?) (ha : cellAt en (newC h c len f) (hN h) H') : Rep en (newC h c len f) H' := by
  refine ⟨by rw [hz, hR0.1]; rfl, fun q hq => ?_⟩
  by_cases e : q = hN h
  · subst e; exact ha
  · have hq' : q < hN h + 1 := hq
    have e' : ¬ q = h.1 := e
    refine (hR0.2 q (by omega)).kept ?_ (fun j => ?_) (fun j => ?_) (fun j => ?_) (ho _ (by rw [hR0.1]; omega))
    · show va_up _ _ _ q = _; simp [va_up, e', hK]
    · show nr _ _ _ q j = _; simp [nr, e', hI]
    · show nr _ _ (fun _ => none) q j = _; simp [nr, e', hR]
    · show nr _ _ (fun _ => 0) q j = _; simp [nr, e', hJ]
def RX1s : String := "DialMenus$Entry"
def tys0 (en : EN) : List (ClassId × FieldType) := [(nA en 0, .int), (nA en 1, .object "DialMenus$Entry"), (nA en 2, .array .int)]
def kpf (j : Nat) : Int32 := (([2, 2, 2, 3, 3, 3, 4, 4, 4, 5, 5, 5, 6, 6, 6, 7, 7, 7, 7, 8, 8, 8, 9, 9, 9, 9] : List Int32).getD j 0)
/-- the static array of the class's first keypad -/
def KPat (en : EN) (H : Heap) : Prop := nK en < nB en ∧ ∃ cell : Cell, H[nK en]? = some cell ∧ (∀ k, cell.vm ≠ .statics k) ∧ cell.vm ≠ .unknown ∧ cell.cls = nA en 0 ∧ cell.slots = (arrV (nA en 0) 26 (fun j => .int (kpf j))).slots
def okW : Cond → Bool
  | .arrayClass _ => true
  | .arrayOver _ => true
  | .fieldLinkNest _ _ _ _ _ _ => true
  | .methodLinkNest _ _ _ _ => true
  | .castable _ _ => true
  | w => w.onTables && w.keeps
/-- what holds of the machine's tables and of the static array in every state that the law reaches -/
def Env0 (en : EN) (U : State) (H : Heap) : Prop := (∀ w ∈ lw_tbl, okW w = true → w.before #[] U = true) ∧ va_K (nC en, nI_ en) vwCl (tys0 en) U ∧ va_Z "DialMenus" "FIRST_KEYPAD" "[I" (.ref (nK en)) (fun q => nB en ≤ q) U H ∧ KPat en H
theorem okW_args {w : Cond} (hw : okW w = true) {A A' : Array Value} {u U : State} (hv : u.vm = U.vm) (h : w.before A u = true) : w.before A' U = true := by
  cases w <;> first
    | exact va_tabs rfl hv h
    | (exact absurd hw (by decide))
    | (have hc := hw; simp only [okW, Bool.and_eq_true] at hc; exact va_tabs hc.1 hv h)
    | (have e : A = A := rfl; cases u; cases U; cases hv; exact h)
theorem okW_warm {w : Cond} (hw : okW w = true) {s U : State} (hW : s.WarmedH U.vm) (h : w.before #[] s = true) : w.before #[] U = true := by
  cases w <;> first
    | exact va_Nw.warmF hW h
    | exact va_Nw.warmM hW h
    | exact va_Nw.warmC hW h
    | exact word_at hW (Or.inr ⟨_, rfl⟩) h
    | (exact word_at hW (Or.inl hw) h)
    | (have e := Cond.arrayOver_setVmC (args := #[]) (s := s) (vm' := U.vm) hW.alike; exact okW_args (u := s.setVm U.vm) hw rfl ((e _).trans h))
