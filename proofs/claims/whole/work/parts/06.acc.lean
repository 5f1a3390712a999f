/-! FIELDS AND ARRAYS -/
/-- a class: its number, its name, its fields by their places -/
def CF (c : Nat) (C : String) (T : u_T) (N : Nat) : Prop := c < 11 ∧ vwCl[c]? = some (C, T, N) ∧ (∀ w ∈ u_ws C T N, w ∈ lw_tbl ∧ okW w = true) ∧ (∀ j, j < N → parseFieldDescriptor (T j).2.2.1 = some (tyC c j)) ∧ (∀ a, a < N → ∀ b, b < N → a ≠ b → (T a).2.1 ≠ (T b).2.1)
def okT : FieldType → Bool
  | .int => true
  | .boolean => true
  | .long => true
  | .object _ => true
  | .array _ => true
  | _ => false
section
variable {en : EN} {h h' : Hp} {H H' : Heap} {s : State} {c a j : Nat} {C : String} {T : u_T} {N : Nat}
theorem Rep.lt (hR : Rep en h H) (ha : a < hN h) : nB en + a < H.size := by rw [hR.1]; omega
theorem obj_of (hR : Rep en h H) (hO : a < hN h ∧ (hK h a).1 = c) (hc : CF c C T N) : t_OB (nB en + a) (nC en c) N (nI_ en c) H (fun j => fv (nB en) h a (tyC c j) j) := by
  obtain ⟨r, h1, h2⟩ := (cellAt.obj hO.2 hc.1).mp (hR.2 a hO.1)
  cases hc.2.1.symm.trans h1
  exact h2
theorem CF.ts (hc : CF c C T N) {A : Array Value} (hE : ∀ w ∈ lw_tbl, okW w = true → w.before #[] s = true) : ∀ w ∈ u_ws C T N, w.before A s = true := fun w hw => okW_args (hc.2.2.1 w hw).2 rfl (hE w (hc.2.2.1 w hw).1 (hc.2.2.1 w hw).2)
/-- a field is written: the abstract heap h' is h with that field at its new value -/
theorem rep_field {cell : Cell} {v : Value} (hP0 : Rep en h H) (hO : a < hN h ∧ (hK h a).1 = c) (hc : CF c C T N) (hap : ∀ x y, x < N → y < N → x ≠ y → nI_ en c x ≠ nI_ en c y) (hj : j < N) (q2 : cell.cls = nC en c) (q3 : cell.vm = .none) (q4 : ∀ k, k < N → cell.slots[nI_ en c k]? = some (fv (nB en) h a (tyC c k) k))
    (e1 : H'[nB en + a]? = some (cell.setSlot (nI_ en c j) v)) (e2 : H'.size = H.size) (e3 : ∀ q, q ≠ nB en + a → H'[q]? = H[q]?)
    (hn : hN h' = hN h) (hk : hK h' = hK h) (hi : ∀ q, q ≠ a → ∀ j, hI h' q j = hI h q j) (hr : ∀ q, q ≠ a → ∀ j, hR h' q j = hR h q j) (hjj : ∀ q, q ≠ a → ∀ j, hJ h' q j = hJ h q j)
    (hf : ∀ k, k < N → fv (nB en) h' a (tyC c k) k = if k = j then v else fv (nB en) h a (tyC c k) k) : Rep en h' H' := by
  refine hP0.put hn e2 e3 (fun q _ => by rw [hk]) hi hr hjj ?_
  rw [cellAt.obj (c := c) (by rw [hk]; exact hO.2) hc.1]
  refine ⟨_, hc.2.1, t_OB.to (V := updV (fun k => fv (nB en) h a (tyC c k) k) j v) ⟨_, e1, q2, q3, t_set q4 hap hj v⟩ (fun k hk' => ?_)⟩
  rw [hf k hk']
  rfl
theorem fv_setI {b : Nat} {ty : FieldType} (hty : ty = .int ∨ ty = .boolean) {v : Int32} (k : Nat) (tyk : FieldType) (hok : k = j → tyk = ty) : fv b (setI h a j v) a tyk k = if k = j then .int v else fv b h a tyk k := by
  by_cases e : k = j
  · rw [if_pos e, hok e]
    rcases hty with rfl | rfl <;> simp [fv, hI, setI, u2, e]
  · rw [if_neg e]
    unfold fv
    have e1 : hI (setI h a j v) a k = hI h a k := by show u2 _ _ _ _ _ _ = _; simp [u2, e, hI]
    rw [e1]
    rfl
theorem fv_setJ {b : Nat} {v : Int64} (k : Nat) (tyk : FieldType) (hok : k = j → tyk = .long) : fv b (setJ h a j v) a tyk k = if k = j then .long v else fv b h a tyk k := by
  by_cases e : k = j
  · rw [if_pos e, hok e]
    simp [fv, hJ, setJ, u2, e]
  · rw [if_neg e]
    unfold fv
    have e1 : hJ (setJ h a j v) a k = hJ h a k := by show u2 _ _ _ _ _ _ = _; simp [u2, e, hJ]
    rw [e1]
    rfl
theorem fv_setR {b : Nat} {ty : FieldType} (hty : (∃ n, ty = .object n) ∨ ∃ t, ty = .array t) {v : Nat} (k : Nat) (tyk : FieldType) (hok : k = j → tyk = ty) : fv b (setR h a j (some v)) a tyk k = if k = j then .ref (b + v) else fv b h a tyk k := by
  by_cases e : k = j
  · rw [if_pos e, hok e]
    rcases hty with ⟨n, rfl⟩ | ⟨t, rfl⟩ <;> simp [fv, hR, setR, u2, e, rl]
  · rw [if_neg e]
    unfold fv
    have e1 : hR (setR h a j (some v)) a k = hR h a k := by show u2 _ _ _ _ _ _ = _; simp [u2, e, hR]
    rw [e1]
    rfl
theorem inA_vp {i : Int32} {n : Nat} (hi : inA i n) : vp_in i n := vp_in_iff.mpr hi
end
section
variable {α : Type} {g : XC} {x0 : α} {own : String} {cc : ByteArray} {nL fr lo mc ms k n pc : Nat} {lv lv' : List (Nat × Value)} {st : List Value} {h : Hp} {c a j idx : Nat} {C : String} {T : u_T} {N : Nat}
/-- a field is read -/
theorem X_getV (hg : XG g own cc nL fr lo mc ms) (hc : CF c C T N) (hj : j < N) (hO : a < hN h ∧ (hK h a).1 = c) (hm : Cond.fieldLink own idx (T j).1 (T j).2.1 (T j).2.2.1 ∈ lw_tbl) (d : decode cc pc = .ok (.getfield idx, 3)) {o : Option α}
    (kk : Xo g x0 nL k n (pc + 3) lv (fv (nB g.1) h a (tyC c j) j :: st) h o) : Xo g x0 nL k n pc lv (.ref (nB g.1 + a) :: st) h o := fun ho ls H locs hl hR hS => by
  obtain ⟨cell, q1, q2, q3, q4⟩ := obj_of hR hO hc
  obtain ⟨hSl, hfc, kC, hkC, hkind⟩ := hg.2.2.2.2.1.2.1.1 c _ hc.2.1
  obtain ⟨cf, kf, fi, f, hi, hsl⟩ := hSl j hj
  exact W.getf hg.1 hg.2.1 hg.2.2.2.1 (hg.w hm rfl) hi (u_facts hfc hkC (u_lays (hc.ts (A := #[]) hg.2.2.2.2.1.1) (fun _ h => h) hj) hi).1 q1 (by rw [q3]; exact fun h => by cases h) (by show cell.slots[f.slot]? = some (fv (nB g.1) h a (tyC c j) j); rw [hsl, q4 j hj]) rfl rfl d (kk ho ls H locs hl hR hS)
theorem X_getVN (hg : XG g own cc nL fr lo mc ms) {host : String} (hc : CF c C T N) (hj : j < N) (hO : a < hN h ∧ (hK h a).1 = c) (hm : Cond.fieldLinkNest own idx (T j).1 (T j).2.1 (T j).2.2.1 host ∈ lw_tbl) (d : decode cc pc = .ok (.getfield idx, 3)) {o : Option α}
    (kk : Xo g x0 nL k n (pc + 3) lv (fv (nB g.1) h a (tyC c j) j :: st) h o) : Xo g x0 nL k n pc lv (.ref (nB g.1 + a) :: st) h o := fun ho ls H locs hl hR hS => by
  obtain ⟨cell, q1, q2, q3, q4⟩ := obj_of hR hO hc
  obtain ⟨hSl, hfc, kC, hkC, hkind⟩ := hg.2.2.2.2.1.2.1.1 c _ hc.2.1
  obtain ⟨cf, kf, fi, f, hi, hsl⟩ := hSl j hj
  exact va_Wgetf hg.1 hg.2.1 hg.2.2.2.1 (hg.w hm rfl) hi (u_facts hfc hkC (u_lays (hc.ts (A := #[]) hg.2.2.2.2.1.1) (fun _ h => h) hj) hi).1 q1 (by rw [q3]; exact fun h => by cases h) (by show cell.slots[f.slot]? = some (fv (nB g.1) h a (tyC c j) j); rw [hsl, q4 j hj]) rfl rfl d (kk ho ls H locs hl hR hS)
theorem getI_some {x : Int32} (e : getI h c a j = some x) : (a < hN h ∧ (hK h a).1 = c) ∧ x = hI h a j := by
  unfold getI at e
  split at e
  · next q => exact ⟨q, (Option.some.inj e).symm⟩
  · cases e
theorem getJ_some {x : Int64} (e : getJ h c a j = some x) : (a < hN h ∧ (hK h a).1 = c) ∧ x = hJ h a j := by
  unfold getJ at e
  split at e
  · next q => exact ⟨q, (Option.some.inj e).symm⟩
  · cases e
theorem getR_some {x : Nat} (e : getR h c a j = some x) : (a < hN h ∧ (hK h a).1 = c) ∧ hR h a j = some x := by
  unfold getR at e
  split at e
  · next q => exact ⟨q, e⟩
  · cases e
theorem X_bd {β : Type} {o : Option β} {K : β → Option α} (kk : ∀ x, o = some x → Xo g x0 nL k n pc lv st h (K x)) : Xo g x0 nL k n pc lv st h (o.bind K) := fun ho => by
  cases e : o with
  | none => rw [e] at ho; cases ho
  | some x => exact kk x e (by rw [e] at ho; exact ho)
theorem X_getI (hg : XG g own cc nL fr lo mc ms) (hc : CF c C T N) (hj : j < N) (hty : tyC c j = .int ∨ tyC c j = .boolean) (hm : Cond.fieldLink own idx (T j).1 (T j).2.1 (T j).2.2.1 ∈ lw_tbl) (d : decode cc pc = .ok (.getfield idx, 3)) {K : Int32 → Option α}
    (kk : ∀ x, getI h c a j = some x → Xo g x0 nL k n (pc + 3) lv (.int x :: st) h (K x)) : Xo g x0 nL k n pc lv (.ref (nB g.1 + a) :: st) h ((getI h c a j).bind K) := X_bd fun x e => by
  obtain ⟨q, e2⟩ := getI_some e
  refine X_getV hg hc hj q hm d ?_
  have : fv (nB g.1) h a (tyC c j) j = .int x := by rcases hty with z | z <;> rw [z, e2] <;> rfl
  rw [this]
  exact kk x e
theorem X_getIN (hg : XG g own cc nL fr lo mc ms) {host : String} (hc : CF c C T N) (hj : j < N) (hty : tyC c j = .int ∨ tyC c j = .boolean) (hm : Cond.fieldLinkNest own idx (T j).1 (T j).2.1 (T j).2.2.1 host ∈ lw_tbl) (d : decode cc pc = .ok (.getfield idx, 3)) {K : Int32 → Option α}
    (kk : ∀ x, getI h c a j = some x → Xo g x0 nL k n (pc + 3) lv (.int x :: st) h (K x)) : Xo g x0 nL k n pc lv (.ref (nB g.1 + a) :: st) h ((getI h c a j).bind K) := X_bd fun x e => by
  obtain ⟨q, e2⟩ := getI_some e
  refine X_getVN hg hc hj q hm d ?_
  have : fv (nB g.1) h a (tyC c j) j = .int x := by rcases hty with z | z <;> rw [z, e2] <;> rfl
  rw [this]
  exact kk x e
theorem X_getJ (hg : XG g own cc nL fr lo mc ms) (hc : CF c C T N) (hj : j < N) (hty : tyC c j = .long) (hm : Cond.fieldLink own idx (T j).1 (T j).2.1 (T j).2.2.1 ∈ lw_tbl) (d : decode cc pc = .ok (.getfield idx, 3)) {K : Int64 → Option α}
    (kk : ∀ x, getJ h c a j = some x → Xo g x0 nL k n (pc + 3) lv (.long x :: st) h (K x)) : Xo g x0 nL k n pc lv (.ref (nB g.1 + a) :: st) h ((getJ h c a j).bind K) := X_bd fun x e => by
  obtain ⟨q, e2⟩ := getJ_some e
  refine X_getV hg hc hj q hm d ?_
  have : fv (nB g.1) h a (tyC c j) j = .long x := by rw [hty, e2]; rfl
  rw [this]
  exact kk x e
theorem X_getR (hg : XG g own cc nL fr lo mc ms) (hc : CF c C T N) (hj : j < N) (hty : (∃ n, tyC c j = .object n) ∨ ∃ t, tyC c j = .array t) (hm : Cond.fieldLink own idx (T j).1 (T j).2.1 (T j).2.2.1 ∈ lw_tbl) (d : decode cc pc = .ok (.getfield idx, 3)) {K : Nat → Option α}
    (kk : ∀ x, getR h c a j = some x → Xo g x0 nL k n (pc + 3) lv (.ref (nB g.1 + x) :: st) h (K x)) : Xo g x0 nL k n pc lv (.ref (nB g.1 + a) :: st) h ((getR h c a j).bind K) := X_bd fun x e => by
  obtain ⟨q, e2⟩ := getR_some e
  refine X_getV hg hc hj q hm d ?_
  have : fv (nB g.1) h a (tyC c j) j = .ref (nB g.1 + x) := by rcases hty with ⟨z, hz⟩ | ⟨z, hz⟩ <;> rw [hz] <;> simp [fv, e2, rl]
  rw [this]
  exact kk x e
theorem X_getRN (hg : XG g own cc nL fr lo mc ms) {host : String} (hc : CF c C T N) (hj : j < N) (hty : (∃ n, tyC c j = .object n) ∨ ∃ t, tyC c j = .array t) (hm : Cond.fieldLinkNest own idx (T j).1 (T j).2.1 (T j).2.2.1 host ∈ lw_tbl) (d : decode cc pc = .ok (.getfield idx, 3)) {K : Nat → Option α}
    (kk : ∀ x, getR h c a j = some x → Xo g x0 nL k n (pc + 3) lv (.ref (nB g.1 + x) :: st) h (K x)) : Xo g x0 nL k n pc lv (.ref (nB g.1 + a) :: st) h ((getR h c a j).bind K) := X_bd fun x e => by
  obtain ⟨q, e2⟩ := getR_some e
  refine X_getVN hg hc hj q hm d ?_
  have : fv (nB g.1) h a (tyC c j) j = .ref (nB g.1 + x) := by rcases hty with ⟨z, hz⟩ | ⟨z, hz⟩ <;> rw [hz] <;> simp [fv, e2, rl]
  rw [this]
  exact kk x e
/-- a field that isn't final is written -/
theorem X_putV (hg : XG g own cc nL fr lo mc ms) (hc : CF c C T N) (hj : j < N) (hO : a < hN h ∧ (hK h a).1 = c) (hfin : (T j).2.2.2 = false) {v : Value} (hn : narrow (tyC c j) v = v) (hfit : fits (tyC c j) v = true) (hm : Cond.fieldLink own idx (T j).1 (T j).2.1 (T j).2.2.1 ∈ lw_tbl) (d : decode cc pc = .ok (.putfield idx, 3)) {o : Option α} {h' : Hp}
    (hn' : hN h' = hN h) (hk : hK h' = hK h) (hi' : ∀ q, q ≠ a → ∀ j, hI h' q j = hI h q j) (hr : ∀ q, q ≠ a → ∀ j, hR h' q j = hR h q j) (hjj : ∀ q, q ≠ a → ∀ j, hJ h' q j = hJ h q j) (hf : ∀ k, k < N → fv (nB g.1) h' a (tyC c k) k = if k = j then v else fv (nB g.1) h a (tyC c k) k)
    (kk : Xo g x0 nL k n (pc + 3) lv st h' o) : Xo g x0 nL k n pc lv (v :: .ref (nB g.1 + a) :: st) h o := fun ho ls H locs hl hR hS => by
  have hts := hc.ts (A := #[]) hg.2.2.2.2.1.1
  have hap := va_apart (own := own) hts (fun _ h => h) (tyC c) hc.2.2.2.1 hc.2.2.2.2 hg.2.2.2.2.1.2.1 hc.2.1
  obtain ⟨cell, q1, q2, q3, q4⟩ := obj_of hR hO hc
  obtain ⟨hSl, hfc, kC, hkC, hkind⟩ := hg.2.2.2.2.1.2.1.1 c _ hc.2.1
  obtain ⟨cf, kf, fi, f, hi, hsl⟩ := hSl j hj
  have hlay := hts _ (u_in_lay hj)
  unfold u_lay at hlay
  rw [if_neg (by rw [hfin]; decide)] at hlay
  have hst := (u_facts hfc hkC (u_lays hts (fun _ h => h) hj) hi).1
  have h6 := u_store hfc hkC hkind hlay hi (hc.2.2.2.1 j hj) hn hfit
  refine W.putK hg.1 hg.2.1 (f := f) ⟨hg.2.2.2.1, hg.w hm rfl, ⟨_, _, _, hi⟩, hst⟩ (by rw [q2]; exact h6) q1 q3 (by rw [hsl]; exact k2_hasslot (q4 j hj)) rfl rfl d fun H' e1 e2 e3 => ?_
  rw [hsl] at e1
  exact kk ho ls H' _ hl (rep_field hR hO hc hap hj q2 q3 q4 e1 e2 e3 hn' hk hi' hr hjj hf) (hS.put e2 e3 (Nat.le_add_right _ _))
/-- a final field is written, in its constructor -/
theorem X_putF (hg : XG g own cc nL fr lo mc ms) (hin : g.2.2.2.2.2.2.2.2.1.name = "<init>") (hc : CF c C T N) (hj : j < N) (hO : a < hN h ∧ (hK h a).1 = c) (hfin : (T j).2.2.2 = true) (hdecl : (T j).1 = own) {v : Value} (hn : narrow (tyC c j) v = v) (hfit : fits (tyC c j) v = true) (hm : Cond.fieldLink own idx (T j).1 (T j).2.1 (T j).2.2.1 ∈ lw_tbl) (d : decode cc pc = .ok (.putfield idx, 3)) {o : Option α} {h' : Hp}
    (hn' : hN h' = hN h) (hk : hK h' = hK h) (hi' : ∀ q, q ≠ a → ∀ j, hI h' q j = hI h q j) (hr : ∀ q, q ≠ a → ∀ j, hR h' q j = hR h q j) (hjj : ∀ q, q ≠ a → ∀ j, hJ h' q j = hJ h q j) (hf : ∀ k, k < N → fv (nB g.1) h' a (tyC c k) k = if k = j then v else fv (nB g.1) h a (tyC c k) k)
    (kk : Xo g x0 nL k n (pc + 3) lv st h' o) : Xo g x0 nL k n pc lv (v :: .ref (nB g.1 + a) :: st) h o := fun ho ls H locs hl hR hS => by
  have hts := hc.ts (A := #[]) hg.2.2.2.2.1.1
  have hap := va_apart (own := own) hts (fun _ h => h) (tyC c) hc.2.2.2.1 hc.2.2.2.2 hg.2.2.2.2.1.2.1 hc.2.1
  obtain ⟨cell, q1, q2, q3, q4⟩ := obj_of hR hO hc
  obtain ⟨hSl, hfc, kC, hkC, hkind⟩ := hg.2.2.2.2.1.2.1.1 c _ hc.2.1
  obtain ⟨cf, kf, fi, f, hi, hsl⟩ := hSl j hj
  have hlay := hts _ (u_in_lay hj)
  unfold u_lay at hlay
  rw [if_pos hfin] at hlay
  have hst := (u_facts hfc hkC (u_lays hts (fun _ h => h) hj) hi).1
  have hcf : g.2.2.2.2.2.1.cls = cf := by
    obtain ⟨_, _, c', _, _, _, -, -, hf', -, -, -, hown2, -⟩ := Cond.laysFinal_spec hlay
    have e1 : c' = cf := by have := hi.symm.trans hf'; simp at this; exact this.1.symm
    rw [hdecl] at hown2
    rw [← e1]; exact Option.some.inj (hg.2.2.2.1.symm.trans hown2)
  have h6 := u_fits hfc hkC hkind (Or.inr hlay) hi (hc.2.2.2.1 j hj) hn hfit
  refine W.putFinK hg.1 hg.2.1 hg.2.2.2.1 (hg.w hm rfl) hi hst hcf hin (by rw [q2]; exact h6) q1 q3 (by rw [hsl]; exact k2_hasslot (q4 j hj)) rfl rfl d fun H' e1 e2 e3 => ?_
  rw [hsl] at e1
  exact kk ho ls H' _ hl (rep_field hR hO hc hap hj q2 q3 q4 e1 e2 e3 hn' hk hi' hr hjj hf) (hS.put e2 e3 (Nat.le_add_right _ _))
theorem putI_some {v : Int32} {h' : Hp} (e : putI h c a j v = some h') : (a < hN h ∧ (hK h a).1 = c) ∧ h' = setI h a j v := by
  unfold putI at e
  split at e
  · next q => exact ⟨q, (Option.some.inj e).symm⟩
  · cases e
theorem putJ_some {v : Int64} {h' : Hp} (e : putJ h c a j v = some h') : (a < hN h ∧ (hK h a).1 = c) ∧ h' = setJ h a j v := by
  unfold putJ at e
  split at e
  · next q => exact ⟨q, (Option.some.inj e).symm⟩
  · cases e
theorem putR_some {v : Nat} {h' : Hp} (e : putR h c a j v = some h') : (a < hN h ∧ (hK h a).1 = c) ∧ h' = setR h a j (some v) := by
  unfold putR at e
  split at e
  · next q => exact ⟨q, (Option.some.inj e).symm⟩
  · cases e
theorem X_putI (hg : XG g own cc nL fr lo mc ms) (hc : CF c C T N) (hj : j < N) (hfin : (T j).2.2.2 = false) {v : Int32} (hty : tyC c j = .int ∨ tyC c j = .boolean ∧ (v = 0 ∨ v = 1)) (hm : Cond.fieldLink own idx (T j).1 (T j).2.1 (T j).2.2.1 ∈ lw_tbl) (d : decode cc pc = .ok (.putfield idx, 3)) {K : Hp → Option α}
    (kk : ∀ h', putI h c a j v = some h' → Xo g x0 nL k n (pc + 3) lv st h' (K h')) : Xo g x0 nL k n pc lv (.int v :: .ref (nB g.1 + a) :: st) h ((putI h c a j v).bind K) := X_bd fun h' e => by
  obtain ⟨q, e2⟩ := putI_some e
  have ht : tyC c j = .int ∨ tyC c j = .boolean := hty.imp id And.left
  refine X_putV hg hc hj q hfin (v := .int v) ?_ ?_ hm d (h' := h') (by rw [e2]; rfl) (by rw [e2]; rfl) (fun q hq j => ?_) (fun q hq j => by rw [e2]; rfl) (fun q hq j => by rw [e2]; rfl) (fun k' hk' => ?_) (kk h' e)
  · rcases hty with z | ⟨z, rfl | rfl⟩ <;> rw [z] <;> rfl
  · rcases hty with z | ⟨z, rfl | rfl⟩ <;> rw [z] <;> rfl
  · rw [e2]; show u2 _ _ _ _ q j = _; simp [u2, hq, hI]
  · rw [e2]; exact fv_setI ht k' _ (fun z => by rw [z])
theorem X_putJ (hg : XG g own cc nL fr lo mc ms) (hc : CF c C T N) (hj : j < N) (hfin : (T j).2.2.2 = false) {v : Int64} (hty : tyC c j = .long) (hm : Cond.fieldLink own idx (T j).1 (T j).2.1 (T j).2.2.1 ∈ lw_tbl) (d : decode cc pc = .ok (.putfield idx, 3)) {K : Hp → Option α}
    (kk : ∀ h', putJ h c a j v = some h' → Xo g x0 nL k n (pc + 3) lv st h' (K h')) : Xo g x0 nL k n pc lv (.long v :: .ref (nB g.1 + a) :: st) h ((putJ h c a j v).bind K) := X_bd fun h' e => by
  obtain ⟨q, e2⟩ := putJ_some e
  refine X_putV hg hc hj q hfin (v := .long v) (by rw [hty]; rfl) (by rw [hty]; rfl) hm d (h' := h') (by rw [e2]; rfl) (by rw [e2]; rfl) (fun q hq j => by rw [e2]; rfl) (fun q hq j => by rw [e2]; rfl) (fun q hq j => ?_) (fun k' hk' => ?_) (kk h' e)
  · rw [e2]; show u2 _ _ _ _ q j = _; simp [u2, hq, hJ]
  · rw [e2]; exact fv_setJ k' _ (fun z => by rw [z]; exact hty)
theorem ref_ok {ty : FieldType} (hty : (∃ n, ty = .object n) ∨ ∃ t, ty = .array t) (b : Nat) : narrow ty (.ref b) = .ref b ∧ fits ty (.ref b) = true := by
  rcases hty with ⟨z, rfl⟩ | ⟨z, rfl⟩ <;> exact ⟨rfl, rfl⟩
theorem X_putR (hg : XG g own cc nL fr lo mc ms) (hc : CF c C T N) (hj : j < N) (hfin : (T j).2.2.2 = false) {v : Nat} (hty : (∃ n, tyC c j = .object n) ∨ ∃ t, tyC c j = .array t) (hm : Cond.fieldLink own idx (T j).1 (T j).2.1 (T j).2.2.1 ∈ lw_tbl) (d : decode cc pc = .ok (.putfield idx, 3)) {K : Hp → Option α}
    (kk : ∀ h', putR h c a j v = some h' → Xo g x0 nL k n (pc + 3) lv st h' (K h')) : Xo g x0 nL k n pc lv (.ref (nB g.1 + v) :: .ref (nB g.1 + a) :: st) h ((putR h c a j v).bind K) := X_bd fun h' e => by
  obtain ⟨q, e2⟩ := putR_some e
  refine X_putV hg hc hj q hfin (v := .ref (nB g.1 + v)) (ref_ok hty _).1 (ref_ok hty _).2 hm d (h' := h') (by rw [e2]; rfl) (by rw [e2]; rfl) (fun q hq j => by rw [e2]; rfl) (fun q hq j => ?_) (fun q hq j => by rw [e2]; rfl) (fun k' hk' => ?_) (kk h' e)
  · rw [e2]; show u2 _ _ _ _ q j = _; simp [u2, hq, hR]
  · rw [e2]; exact fv_setR hty k' _ (fun z => by rw [z])
theorem X_putRF (hg : XG g own cc nL fr lo mc ms) (hin : g.2.2.2.2.2.2.2.2.1.name = "<init>") (hc : CF c C T N) (hj : j < N) (hfin : (T j).2.2.2 = true) (hdecl : (T j).1 = own) {v : Nat} (hty : (∃ n, tyC c j = .object n) ∨ ∃ t, tyC c j = .array t) (hm : Cond.fieldLink own idx (T j).1 (T j).2.1 (T j).2.2.1 ∈ lw_tbl) (d : decode cc pc = .ok (.putfield idx, 3)) {K : Hp → Option α}
    (kk : ∀ h', putR h c a j v = some h' → Xo g x0 nL k n (pc + 3) lv st h' (K h')) : Xo g x0 nL k n pc lv (.ref (nB g.1 + v) :: .ref (nB g.1 + a) :: st) h ((putR h c a j v).bind K) := X_bd fun h' e => by
  obtain ⟨q, e2⟩ := putR_some e
  refine X_putF hg hin hc hj q hfin hdecl (v := .ref (nB g.1 + v)) (ref_ok hty _).1 (ref_ok hty _).2 hm d (h' := h') (by rw [e2]; rfl) (by rw [e2]; rfl) (fun q hq j => by rw [e2]; rfl) (fun q hq j => ?_) (fun q hq j => by rw [e2]; rfl) (fun k' hk' => ?_) (kk h' e)
  · rw [e2]; show u2 _ _ _ _ q j = _; simp [u2, hq, hR]
  · rw [e2]; exact fv_setR hty k' _ (fun z => by rw [z])
end
