/-! ARRAYS, NEW CELLS -/
section
variable {α : Type} {g : XC} {x0 : α} {own : String} {cc : ByteArray} {nL fr lo mc ms k n pc : Nat} {lv lv' : List (Nat × Value)} {st : List Value} {h : Hp} {c a j idx : Nat} {C : String} {T : u_T} {N : Nat}
theorem ald_some {i x : Int32} (e : ald h a i = some x) : ((a < hN h ∧ (hK h a).1 = 11) ∧ inA i (hK h a).2) ∧ x = hI h a i.toInt.toNat := by
  unfold ald at e
  split at e
  · next q => exact ⟨q, (Option.some.inj e).symm⟩
  · cases e
theorem ast_some {i v : Int32} {h' : Hp} (e : ast h a i v = some h') : ((a < hN h ∧ (hK h a).1 = 11) ∧ inA i (hK h a).2) ∧ h' = setI h a i.toInt.toNat v := by
  unfold ast at e
  split at e
  · next q => exact ⟨q, (Option.some.inj e).symm⟩
  · cases e
theorem aldN_some {i : Int32} {x : Option Nat} (e : aldN h a i = some x) : ((a < hN h ∧ (hK h a).1 = 12) ∧ inA i (hK h a).2) ∧ x = hR h a i.toInt.toNat := by
  unfold aldN at e
  split at e
  · next q => exact ⟨q, (Option.some.inj e).symm⟩
  · cases e
theorem aldA_some {i : Int32} {x : Nat} (e : aldA h a i = some x) : ((a < hN h ∧ (hK h a).1 = 13) ∧ inA i (hK h a).2) ∧ hR h a i.toInt.toNat = some x := by
  unfold aldA at e
  split at e
  · next q => exact ⟨q, e⟩
  · cases e
theorem astN_some {i : Int32} {v : Option Nat} {h' : Hp} (e : astN h a i v = some h') : (((a < hN h ∧ (hK h a).1 = 12) ∧ inA i (hK h a).2) ∧ (∀ x ∈ v, x < hN h ∧ (hK h x).1 = 1)) ∧ h' = setR h a i.toInt.toNat v := by
  unfold astN at e
  split at e
  · next q => exact ⟨q, (Option.some.inj e).symm⟩
  · cases e
theorem aln_some {x : Int32} (e : aln h c a = some x) : (a < hN h ∧ (hK h a).1 = c) ∧ x = Int32.ofNat (hK h a).2 := by
  unfold aln at e
  split at e
  · next q => exact ⟨q, (Option.some.inj e).symm⟩
  · cases e
theorem X_ald (hg : XG g own cc nL fr lo mc ms) {i : Int32} (d : decode cc pc = .ok (.iaload, 1)) {K : Int32 → Option α} (kk : ∀ x, ald h a i = some x → Xo g x0 nL k n (pc + 1) lv (.int x :: st) h (K x)) : Xo g x0 nL k n pc lv (.int i :: .ref (nB g.1 + a) :: st) h ((ald h a i).bind K) := X_bd fun x e ho ls H locs hl hP hS => by
  obtain ⟨⟨q, hi⟩, e2⟩ := ald_some e
  have hcell := (cellAt.int q.2).mp (hP.2 a q.1)
  have hlt : i.toNatClampNeg < (hK h a).2 := Nat.not_le.mp fun z => inA_vp hi (Or.inr z)
  exact W.iald hg.1 hg.2.1 hcell ((hg.2.2.2.2.1.2.1.2 0 _ rfl).1 _ _) (fun z => by cases z) (by rw [arrV_size]; exact inA_vp hi) (by show (arrV _ _ _).slots[_]? = some (Value.int x); rw [arrV_read _ _ hlt, e2]; rfl) rfl rfl d (kk x e ho ls H locs hl hP hS)
theorem X_ast (hg : XG g own cc nL fr lo mc ms) {i v : Int32} (d : decode cc pc = .ok (.iastore, 1)) {K : Hp → Option α} (kk : ∀ h', ast h a i v = some h' → Xo g x0 nL k n (pc + 1) lv st h' (K h')) : Xo g x0 nL k n pc lv (.int v :: .int i :: .ref (nB g.1 + a) :: st) h ((ast h a i v).bind K) := X_bd fun h' e ho ls H locs hl hP hS => by
  obtain ⟨⟨q, hi⟩, e2⟩ := ast_some e
  have hcell := (cellAt.int q.2).mp (hP.2 a q.1)
  refine W.iast hg.1 hg.2.1 hcell ((hg.2.2.2.2.1.2.1.2 0 _ rfl).1 _ _) (fun z => by cases z) (by rw [arrV_size]; exact inA_vp hi) rfl rfl d fun H' e1 z1 o1 => ?_
  refine kk h' e ho ls H' _ hl ?_ (hS.put z1 o1 (Nat.le_add_right _ _))
  rw [e2]
  refine hP.setI z1 o1 ((cellAt.int (h := setI h a i.toInt.toNat v) q.2).mpr ?_)
  rw [e1, arrV_store]
  refine congrArg some (congrArg (arrV _ _) (funext fun z => ?_))
  show updV _ _ _ _ = Value.int (u2 _ _ _ _ _ _)
  unfold updV u2
  by_cases hz : z = i.toInt.toNat
  · rw [if_pos (show z = i.toNatClampNeg from hz), if_pos ⟨rfl, hz⟩]
  · rw [if_neg (show ¬ z = i.toNatClampNeg from hz), if_neg (fun y => hz y.2)]; rfl
theorem X_aldN (hg : XG g own cc nL fr lo mc ms) {i : Int32} (d : decode cc pc = .ok (.aaload, 1)) {K : Option Nat → Option α} (kk : ∀ x, aldN h a i = some x → Xo g x0 nL k n (pc + 1) lv (rl (nB g.1) x :: st) h (K x)) : Xo g x0 nL k n pc lv (.int i :: .ref (nB g.1 + a) :: st) h ((aldN h a i).bind K) := X_bd fun x e ho ls H locs hl hP hS => by
  obtain ⟨⟨q, hi⟩, e2⟩ := aldN_some e
  have hcell := (cellAt.ent q.2).mp (hP.2 a q.1)
  have hlt : i.toNatClampNeg < (hK h a).2 := Nat.not_le.mp fun z => inA_vp hi (Or.inr z)
  exact W.aald (ty := .object "DialMenus$Entry") hg.1 hg.2.1 hcell ((hg.2.2.2.2.1.2.1.2 1 _ rfl).1 _ _) rfl (fun z => by cases z) (by rw [arrV_size]; exact inA_vp hi) (by show (arrV _ _ _).slots[_]? = some (rl (nB g.1) x); rw [arrV_read _ _ hlt, e2]; rfl) rfl rfl d (kk x e ho ls H locs hl hP hS)
theorem X_aldA (hg : XG g own cc nL fr lo mc ms) {i : Int32} (d : decode cc pc = .ok (.aaload, 1)) {K : Nat → Option α} (kk : ∀ x, aldA h a i = some x → Xo g x0 nL k n (pc + 1) lv (.ref (nB g.1 + x) :: st) h (K x)) : Xo g x0 nL k n pc lv (.int i :: .ref (nB g.1 + a) :: st) h ((aldA h a i).bind K) := X_bd fun x e ho ls H locs hl hP hS => by
  obtain ⟨⟨q, hi⟩, e2⟩ := aldA_some e
  have hcell := (cellAt.row q.2).mp (hP.2 a q.1)
  have hlt : i.toNatClampNeg < (hK h a).2 := Nat.not_le.mp fun z => inA_vp hi (Or.inr z)
  exact W.aald (ty := .array .int) hg.1 hg.2.1 hcell ((hg.2.2.2.2.1.2.1.2 2 _ rfl).1 _ _) rfl (fun z => by cases z) (by rw [arrV_size]; exact inA_vp hi) (by show (arrV _ _ _).slots[_]? = some (Value.ref (nB g.1 + x)); rw [arrV_read _ _ hlt]; show some (rl _ (hR h a i.toInt.toNat)) = _; rw [e2]; rfl) rfl rfl d (kk x e ho ls H locs hl hP hS)
theorem X_aln (hg : XG g own cc nL fr lo mc ms) (hc : c = 11 ∨ c = 12 ∨ c = 13) (d : decode cc pc = .ok (.arraylength, 1)) {K : Int32 → Option α} (kk : ∀ x, aln h c a = some x → Xo g x0 nL k n (pc + 1) lv (.int x :: st) h (K x)) : Xo g x0 nL k n pc lv (.ref (nB g.1 + a) :: st) h ((aln h c a).bind K) := X_bd fun x e ho ls H locs hl hP hS => by
  obtain ⟨q, e2⟩ := aln_some e
  rcases hc with rfl | rfl | rfl
  · exact W.alen hg.1 hg.2.1 ((cellAt.int q.2).mp (hP.2 a q.1)) ((hg.2.2.2.2.1.2.1.2 0 _ rfl).1 _ _) (by rw [arrV_size, e2]) rfl rfl d (kk x e ho ls H locs hl hP hS)
  · exact W.alen hg.1 hg.2.1 ((cellAt.ent q.2).mp (hP.2 a q.1)) ((hg.2.2.2.2.1.2.1.2 1 _ rfl).1 _ _) (by rw [arrV_size, e2]) rfl rfl d (kk x e ho ls H locs hl hP hS)
  · exact W.alen hg.1 hg.2.1 ((cellAt.row q.2).mp (hP.2 a q.1)) ((hg.2.2.2.2.1.2.1.2 2 _ rfl).1 _ _) (by rw [arrV_size, e2]) rfl rfl d (kk x e ho ls H locs hl hP hS)
theorem cellAt_setR {en : EN} {H' : Heap} {i : Int32} {v : Option Nat} (q : (hK h a).1 = 12) (e1 : H'[nB en + a]? = some ((arrV (nA en 1) (hK h a).2 (fun j => rl (nB en) (hR h a j))).setSlot i.toNatClampNeg (rl (nB en) v))) : cellAt en (setR h a i.toInt.toNat v) a H' := by
  refine (cellAt.ent (h := setR h a i.toInt.toNat v) q).mpr ?_
  rw [e1, arrV_store]
  refine congrArg some (congrArg (arrV _ _) (funext fun z => ?_))
  show updV _ _ _ _ = rl _ (u2 _ _ _ _ _ _)
  unfold updV u2
  by_cases hz : z = i.toInt.toNat
  · rw [if_pos (show z = i.toNatClampNeg from hz), if_pos ⟨rfl, hz⟩]
  · rw [if_neg (show ¬ z = i.toNatClampNeg from hz), if_neg (fun y => hz y.2)]; rfl
theorem X_astN (hg : XG g own cc nL fr lo mc ms) (hc : CF 1 "DialMenus$Entry" T N) {i : Int32} {v : Option Nat} (d : decode cc pc = .ok (.aastore, 1)) {K : Hp → Option α} (kk : ∀ h', astN h a i v = some h' → Xo g x0 nL k n (pc + 1) lv st h' (K h')) : Xo g x0 nL k n pc lv (rl (nB g.1) v :: .int i :: .ref (nB g.1 + a) :: st) h ((astN h a i v).bind K) := X_bd fun h' e ho ls H locs hl hP hS => by
  obtain ⟨⟨⟨q, hi⟩, hv⟩, e2⟩ := astN_some e
  have hcell := (cellAt.ent q.2).mp (hP.2 a q.1)
  have hlt : i.toNatClampNeg < (hK h a).2 := Nat.not_le.mp fun z => inA_vp hi (Or.inr z)
  have h0 : ¬ i < 0 := fun z => inA_vp hi (Or.inl z)
  cases v with
  | none =>
    refine va_WaastN (C := "DialMenus$Entry") hg.1 hg.2.1 hcell ((hg.2.2.2.2.1.2.1.2 1 _ rfl).1 _ _) (fun z => by cases z) (by rw [arrV_size]; exact inA_vp hi) rfl rfl d fun H' e1 z1 o1 => ?_
    refine kk h' e ho ls H' _ hl ?_ (hS.put z1 o1 (Nat.le_add_right _ _))
    rw [e2]
    exact hP.setR z1 o1 (cellAt_setR q.2 e1)
  | some x =>
    obtain ⟨cellV, g1, g2, g3, -⟩ := obj_of hP (hv x rfl) hc
    have hcls := (hg.2.2.2.2.1.2.1.1 1 _ hc.2.1).2
    obtain ⟨kA, comp, k1, k2, k3, -⟩ := (hg.2.2.2.2.1.2.1.2 1 _ rfl).2
    have hcomp : comp = nC g.1 1 := Option.some.inj (k3.symm.trans hcls.1)
    subst hcomp
    obtain ⟨kC, hkC, -⟩ := hcls.2
    refine W.aast hg.1 hg.2.1 hcell (fun z y => by cases y) (fun y => by cases y) k1 k2 rfl hkC ⟨h0, by rw [arrV_size]; exact hlt⟩ g1 (fun z y => by rw [g3] at y; cases y) (by rw [g2]; exact hkC) (by rw [g2]; exact va_assign hcls) rfl rfl d fun H' e1 z1 o1 => ?_
    refine kk h' e ho ls H' _ hl ?_ (hS.put z1 o1 (Nat.le_add_right _ _))
    rw [e2]
    exact hP.setR z1 o1 (cellAt_setR q.2 e1)
theorem S_grow {en : EN} {H0 H H' : Heap} {locs : List Loc} (hS : va_S (fun q => nB en ≤ q) H0 H locs) (hz : H.size ≤ H'.size) (ho : ∀ q, q < H.size → H'[q]? = H[q]?) : va_S (fun q => nB en ≤ q) H0 H' locs :=
  ⟨Nat.le_trans hS.1 hz, fun q h1 h2 => (ho q (Nat.lt_of_lt_of_le h1 hS.1)).trans (hS.2.1 q h1 h2), hS.2.2⟩
/-- a new object -/
theorem X_new (hg : XG g own cc nL fr lo mc ms) (hc : CF c C T N) (hok : ∀ j, j < N → okT (tyC c j) = true) (hm : Cond.classLink own idx C ∈ lw_tbl) (hm2 : Cond.instantiable C N ∈ lw_tbl) (hm3 : Cond.initialized C ∈ lw_tbl) (hk1 : k + 1 ≤ mc) (hn1 : n + N ≤ ms) (d : decode cc pc = .ok (.new idx, 3)) {o : Option α}
    (kk : Xo g x0 nL (k + 1) (n + N) (pc + 3) lv (.ref (nB g.1 + hN h) :: st) (newC h c 0 (fun _ => 0)) o) : Xo g x0 nL k n pc lv st h o := fun ho ls H locs hl hP hS => by
  have hKn := hg.2.2.2.2.1.2.1.1 c _ hc.2.1
  have hRm := hg.2.2.2.2.2.2
  refine W.newcK hg.1 hg.2.1 hg.2.2.2.1 (hg.w hm rfl) (hg.w hm2 rfl) (hg.w hm3 rfl) rfl d (by rw [hRm]; exact hk1) (by rw [hRm]; exact hn1) hKn.2.1 hP.1 fun H1 kC hkC e1 z1 o1 => ?_
  have hz : H1.size = H.size + 1 := by rw [z1, hP.1]
  have ho1 : ∀ q, q < H.size → H1[q]? = H[q]? := fun q hq => o1 q (by rw [← hP.1]; exact hq)
  refine kk ho ls H1 locs hl (hP.newC hz ho1 ?_) (S_grow hS (by omega) ho1)
  have ek0 : hK (newC h c 0 (fun _ => 0)) (hN h) = (c, 0) := by show va_up _ _ _ _ = _; rw [show h.1 = hN h from rfl, va_up_self]
  have ek : (hK (newC h c 0 (fun _ => 0)) (hN h)).1 = c := by rw [ek0]
  refine (cellAt.obj ek hc.1).mpr ⟨_, hc.2.1, (u_born (tyC c) (hc.ts (A := #[]) hg.2.2.2.2.1.1) (fun _ h => h) hKn hkC e1 hc.2.2.2.1).to (fun j hj => ?_)⟩
  have hj2 := hok j hj
  have i1 : hI (newC h c 0 (fun _ => 0)) (hN h) j = 0 := by show nr _ _ (fun _ => (0 : Int32)) _ _ = _; simp [nr, hN]
  have i2 : hR (newC h c 0 (fun _ => 0)) (hN h) j = none := by show nr _ _ (fun _ => none) _ _ = _; simp [nr, hN]
  have i3 : hJ (newC h c 0 (fun _ => 0)) (hN h) j = 0 := by show nr _ _ (fun _ => (0 : Int64)) _ _ = _; simp [nr, hN]
  unfold fv
  rw [i1, i2, i3]
  cases hty : tyC c j <;> rw [hty] at hj2 <;> first | rfl | cases hj2
theorem newA_some {B : Nat} {i : Int32} {h' : Hp} (e : newA h B i = some h') : (0 ≤ i.toInt ∧ i.toInt ≤ (B : Int)) ∧ h' = newC h 11 i.toInt.toNat (fun _ => 0) := by
  unfold newA at e
  split at e
  · next q => exact ⟨q, (Option.some.inj e).symm⟩
  · cases e
theorem newE_some {B : Nat} {i : Int32} {h' : Hp} (e : newE h B i = some h') : (0 ≤ i.toInt ∧ i.toInt ≤ (B : Int)) ∧ h' = newC h 12 i.toInt.toNat (fun _ => 0) := by
  unfold newE at e
  split at e
  · next q => exact ⟨q, (Option.some.inj e).symm⟩
  · cases e
theorem cellAt_newI {en : EN} {H' : Heap} {c len : Nat} {f : Nat → Int32} (hc : c = 11) (e1 : H'[nB en + hN h]? = some (arrV (nA en 0) len (fun j => .int (f j)))) : cellAt en (newC h c len f) (hN h) H' := by
  have ek : hK (newC h c len f) (hN h) = (c, len) := by show va_up _ _ _ _ = _; rw [show h.1 = hN h from rfl, va_up_self]
  refine (cellAt.int (by rw [ek]; exact hc)).mpr ?_
  rw [ek, e1]
  refine congrArg some (congrArg (arrV _ _) (funext fun z => ?_))
  show _ = Value.int (nr _ _ _ _ _)
  simp [nr, hN]
theorem X_newA (hg : XG g own cc nL fr lo mc ms) {B : Nat} {i : Int32} (hm : Cond.arrayClass .int ∈ lw_tbl) (hB : B ≤ 100000) (hk1 : k + 1 ≤ mc) (hn1 : n + B ≤ ms) (d : decode cc pc = .ok (.newarray .int, 2)) {K : Hp → Option α}
    (kk : ∀ h', newA h B i = some h' → Xo g x0 nL (k + 1) (n + B) (pc + 2) lv (.ref (nB g.1 + hN h) :: st) h' (K h')) : Xo g x0 nL k n pc lv (.int i :: st) h ((newA h B i).bind K) := X_bd fun h' e ho ls H locs hl hP hS => by
  obtain ⟨⟨q1, q2⟩, e2⟩ := newA_some e
  have hRm := hg.2.2.2.2.2.2
  have hlen : i.toNatClampNeg ≤ B := by show i.toInt.toNat ≤ B; omega
  refine va_newaK hg.1 hg.2.1 (atype := .int) (hg.w hm rfl) rfl d rfl (fun z => by have := Int32.lt_iff_toInt_lt.mp z; simp at this; omega) rfl (by show i.toNatClampNeg * 4 ≤ _; omega) (by rw [hRm]; exact hk1) (by rw [hRm]; show n + i.toNatClampNeg ≤ ms; omega) hP.1 fun H1 cA e1 z1 o1 hAr hfn => ?_
  have hz : H1.size = H.size + 1 := by rw [z1, hP.1]
  have ho1 : ∀ q, q < H.size → H1[q]? = H[q]? := fun q hq => o1 q (by rw [← hP.1]; exact hq)
  have hcA : cA = nA g.1 0 := Option.some.inj (hfn.symm.trans (hg.2.2.2.2.1.2.1.2 0 _ rfl).2)
  subst hcA
  refine W.widen (Nat.le_refl _) (by omega) (kk h' e ho ls H1 locs hl ?_ (S_grow hS (by omega) ho1))
  rw [e2]
  exact hP.newC hz ho1 (cellAt_newI rfl e1)
theorem X_newE (hg : XG g own cc nL fr lo mc ms) {B : Nat} {i : Int32} (hm : Cond.classLink own idx "DialMenus$Entry" ∈ lw_tbl) (hm2 : Cond.arrayOver (.object "DialMenus$Entry") ∈ lw_tbl) (hB : B ≤ 100000) (hk1 : k + 1 ≤ mc) (hn1 : n + B ≤ ms) (d : decode cc pc = .ok (.anewarray idx, 3)) {K : Hp → Option α}
    (kk : ∀ h', newE h B i = some h' → Xo g x0 nL (k + 1) (n + B) (pc + 3) lv (.ref (nB g.1 + hN h) :: st) h' (K h')) : Xo g x0 nL k n pc lv (.int i :: st) h ((newE h B i).bind K) := X_bd fun h' e ho ls H locs hl hP hS => by
  obtain ⟨⟨q1, q2⟩, e2⟩ := newE_some e
  have hRm := hg.2.2.2.2.2.2
  have hlen : i.toNatClampNeg ≤ B := by show i.toInt.toNat ≤ B; omega
  refine W.anew hg.1 hg.2.1 hg.2.2.2.1 (hg.w hm rfl) (hg.w hm2 rfl) rfl d rfl (fun z => by have := Int32.lt_iff_toInt_lt.mp z; simp at this; omega) (by omega) (by rw [hRm]; exact hk1) (by rw [hRm]; show n + i.toNatClampNeg ≤ ms; omega) fun cA kA comp f1 f2 f3 f4 => ?_
  obtain ⟨_, _, -, -, -, hf⟩ := (hg.2.2.2.2.1.2.1.2 1 _ rfl).2
  have hcA : cA = nA g.1 1 := Option.some.inj (f1.symm.trans hf)
  subst hcA
  have hz : (H.push ({ cls := nA g.1 1, slots := Array.replicate i.toNatClampNeg .null, vm := .none } : Cell)).size = H.size + 1 := by rw [Array.size_push]
  have ho1 : ∀ q, q < H.size → (H.push ({ cls := nA g.1 1, slots := Array.replicate i.toNatClampNeg .null, vm := .none } : Cell))[q]? = H[q]? := fun q hq => by rw [Array.getElem?_push, if_neg (Nat.ne_of_lt hq)]
  have K1 := kk h' e ho ls (H.push ({ cls := nA g.1 1, slots := Array.replicate i.toNatClampNeg .null, vm := .none } : Cell)) locs hl ?_ (S_grow hS (by omega) ho1)
  · refine W.widen (Nat.le_refl _) (by omega : n + i.toNatClampNeg ≤ n + B) (W.eq ?_ K1)
    show F0 _ _ _ _ = F0 _ _ _ _
    rw [hP.1]
  · rw [e2]
    refine hP.newC hz ho1 ?_
    have ek : hK (newC h 12 i.toInt.toNat (fun _ => 0)) (hN h) = (12, i.toInt.toNat) := by show va_up _ _ _ _ = _; rw [show h.1 = hN h from rfl, va_up_self]
    refine (cellAt.ent (by rw [ek])).mpr ?_
    rw [ek, ← hP.1, Array.getElem?_push_size, arrV_new]
    refine congrArg some (congrArg (arrV _ _) (funext fun z => ?_))
    have i2 : hR (newC h 12 i.toInt.toNat (fun _ => 0)) (hN h) z = none := by show nr _ _ (fun _ => none) _ _ = _; simp [nr, hN]
    rw [i2]
    rfl
end
