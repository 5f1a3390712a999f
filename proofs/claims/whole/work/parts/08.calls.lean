/-! WHAT THE LIBRARY DOES, CALLS, RETURNS -/
theorem outer_is (c : ClassId) (N b h0 : Nat) : ∀ i : Nat, Jvm.Free.Multi.outerC c N (b + h0) i = arrV c N (fun j => rl b (if j < i then some (h0 + 1 + j) else none))
  | 0 => by
    show ({ cls := c, slots := Array.replicate N .null, vm := .none } : Cell) = _
    rw [arrV_new]
    refine congrArg (arrV c N) (funext fun j => ?_)
    simp [rl]
  | i + 1 => by
    show (Jvm.Free.Multi.outerC c N (b + h0) i).setSlot i (.ref (b + h0 + 1 + i)) = _
    rw [outer_is c N b h0 i, arrV_store]
    refine congrArg (arrV c N) (funext fun j => ?_)
    by_cases e : j = i
    · subst e
      simp [updV, rl, Nat.add_assoc]
    · by_cases h : j < i
      · simp [updV, e, h, Nat.lt_succ_of_lt h]
      · simp [updV, e, h, show ¬ j < i + 1 by omega]
section
variable {α : Type} {g : XC} {x0 : α} {own : String} {cc : ByteArray} {nL fr lo mc ms k n pc : Nat} {lv lv' : List (Nat × Value)} {st : List Value} {h : Hp} {c a j idx : Nat} {C : String} {T : u_T} {N : Nat}
theorem X_newM (hg : XG g own cc nL fr lo mc ms) {N K' : Nat} {i1 i2 : Int32} (e1 : i1.toNatClampNeg = N) (e2 : i2.toNatClampNeg = K') (h1 : ¬ i1 < 0) (h2 : ¬ i2 < 0) (hN : N ≤ 10000) (hK' : K' ≤ 10000) (hm : Cond.classLink own idx "[[I" ∈ lw_tbl) (hm2 : Cond.arrayOver (.array .int) ∈ lw_tbl) (hm3 : Cond.arrayClass .int ∈ lw_tbl) (hk1 : k + (1 + N) ≤ mc) (hn1 : n + (N + N * K') ≤ ms) (d : decode cc pc = .ok (.multianewarray idx 2, 4)) {o : Option α}
    (kk : Xo g x0 nL (k + 1 + N) (n + N + N * K') (pc + 4) lv (.ref (nB g.1 + h.1) :: st) (newM h N K') o) : Xo g x0 nL k n pc lv (.int i2 :: .int i1 :: st) h o := fun ho ls H locs hl hP hS => by
  subst e1
  subst e2
  have hRm := hg.2.2.2.2.2.2
  intro Ts hT Xs
  obtain ⟨vm₁, cA, comp, -, fA, fC, hO, -, X', step⟩ := Jvm.Stand.multianewarray2F Xs hg.1 (own := own) (index := idx) (ty := .int) hg.2.2.2.1 (hg.w hm rfl) (hg.w hm2 rfl) (hg.w hm3 rfl) (g := F0 _ pc ls (.int i2 :: .int i1 :: st)) rfl (by rw [hg.2.1]; exact d) rfl h1 h2 (by omega) (by show i2.toNatClampNeg * 4 ≤ _; omega) (by omega) rfl rfl (by rw [hRm]; exact hk1) (by rw [hRm]; exact hn1)
  have hcA : cA = nA g.1 2 := Option.some.inj (fA.symm.trans (hg.2.2.2.2.1.2.1.2 2 _ rfl).2)
  have hcy : comp = nA g.1 0 := Option.some.inj (fC.symm.trans (hg.2.2.2.2.1.2.1.2 0 _ rfl).2)
  subst hcA
  subst hcy
  generalize hF : Jvm.Free.Multi.fill (Ts.setVm vm₁) (nA g.1 2) (nA g.1 0) i1.toNatClampNeg i2.toNatClampNeg (defaultValue FieldType.int) i1.toNatClampNeg = F at X' step
  have hTh : (Ts.setVm vm₁).heap = H := hT
  obtain ⟨f1, f2, -, -⟩ := Jvm.Free.Multi.fill_facts (Ts.setVm vm₁) (nA g.1 2) (nA g.1 0) i1.toNatClampNeg i2.toNatClampNeg (defaultValue FieldType.int) i1.toNatClampNeg
  rw [hF, hTh] at f1 f2
  have hold : ∀ x : Nat, x < H.size → F.heap[x]? = H[x]? := fun x hx => by
    have := Jvm.Free.Multi.fill_old (Ts.setVm vm₁) (nA g.1 2) (nA g.1 0) i1.toNatClampNeg i2.toNatClampNeg (defaultValue FieldType.int) (a := x) (by rw [hTh]; exact hx) i1.toNatClampNeg
    rw [hF, hTh] at this
    exact this
  have hrow : ∀ j : Nat, j < i1.toNatClampNeg → F.heap[H.size + 1 + j]? = some (Jvm.Free.Multi.innerC (nA g.1 0) i2.toNatClampNeg (defaultValue FieldType.int)) := fun j hj => by
    have := Jvm.Free.Multi.fill_inner (Ts.setVm vm₁) (nA g.1 2) (nA g.1 0) i1.toNatClampNeg i2.toNatClampNeg (defaultValue FieldType.int) i1.toNatClampNeg j hj
    rw [hF, hTh] at this
    exact this
  have hsz : H.size = nB g.1 + h.1 := hP.1
  have hout := outer_is (nA g.1 2) i1.toNatClampNeg (nB g.1) h.1 i1.toNatClampNeg
  rw [← hsz] at hout
  rw [hout] at f2
  have hRep : Rep g.1 (newM h i1.toNatClampNeg i2.toNatClampNeg) F.heap := by
    refine ⟨by rw [f1, hsz]; show _ = nB g.1 + (h.1 + 1 + i1.toNatClampNeg); omega, fun q hq => ?_⟩
    have hq' : q < h.1 + 1 + i1.toNatClampNeg := hq
    by_cases c1 : q < h.1
    · refine (hP.2 q c1).kept ?_ (fun j => ?_) (fun j => ?_) (fun j => ?_) (hold _ (by omega))
      · show (if q = h.1 then _ else if h.1 < q ∧ q < h.1 + 1 + _ then _ else _) = _
        rw [if_neg (by omega), if_neg (by omega)]; rfl
      · show (if h.1 ≤ q ∧ q < h.1 + 1 + _ then (0 : Int32) else _) = _
        rw [if_neg (by omega)]; rfl
      · show (if q = h.1 then (if j < i1.toNatClampNeg then some (h.1 + 1 + j) else none) else if h.1 < q ∧ q < h.1 + 1 + _ then none else _) = _
        rw [if_neg (by omega), if_neg (by omega)]; rfl
      · show (if h.1 ≤ q ∧ q < h.1 + 1 + _ then (0 : Int64) else _) = _
        rw [if_neg (by omega)]; rfl
    · by_cases c2 : q = h.1
      · have ek : hK (newM h i1.toNatClampNeg i2.toNatClampNeg) q = (13, i1.toNatClampNeg) := by
          show (if q = h.1 then _ else _) = _
          rw [if_pos c2]
        refine (cellAt.row (by rw [ek])).mpr ?_
        rw [ek, c2, ← hsz, f2]
        refine congrArg some (congrArg (arrV _ _) (funext fun z => ?_))
        show _ = rl _ (if h.1 = h.1 then (if z < i1.toNatClampNeg then some (h.1 + 1 + z) else none) else _)
        rw [if_pos rfl]
      · have ek : hK (newM h i1.toNatClampNeg i2.toNatClampNeg) q = (11, i2.toNatClampNeg) := by
          show (if q = h.1 then _ else if h.1 < q ∧ q < h.1 + 1 + _ then _ else _) = _
          rw [if_neg c2, if_pos (by omega)]
        refine (cellAt.int (by rw [ek])).mpr ?_
        have hr := hrow (q - h.1 - 1) (by omega)
        rw [ek, show nB g.1 + q = H.size + 1 + (q - h.1 - 1) by omega, hr]
        refine congrArg some ?_
        show ({ cls := nA g.1 0, slots := Array.replicate i2.toNatClampNeg (defaultValue FieldType.int), vm := .none } : Cell) = _
        rw [arrV_new]
        refine congrArg (arrV _ _) (funext fun z => ?_)
        show _ = Value.int (if h.1 ≤ q ∧ q < h.1 + 1 + _ then (0 : Int32) else _)
        rw [if_pos (by omega)]
        rfl
  obtain ⟨t, a1, b1⟩ := kk ho ls F.heap locs hl hRep (S_grow hS (by rw [f1]; omega) hold) F rfl X'
  refine ⟨t, step t ?_, b1⟩
  have e : Ts.heap.size = nB g.1 + h.1 := by rw [hT]; exact hsz
  rw [e]
  exact a1
theorem acpy_some {b : Nat} {sp dp m : Int32} {h' : Hp} (e : acpy h a sp b dp m = some h') : ((a < hN h ∧ (hK h a).1 = 11) ∧ (b < hN h ∧ (hK h b).1 = 11) ∧ 0 ≤ sp.toInt ∧ 0 ≤ dp.toInt ∧ 0 ≤ m.toInt ∧ sp.toInt + m.toInt ≤ ((hK h a).2 : Int) ∧ dp.toInt + m.toInt ≤ ((hK h b).2 : Int)) ∧ h' = setA h b (va_cpy (hI h a) (hI h b) sp.toInt.toNat dp.toInt.toNat m.toInt.toNat) := by
  unfold acpy at e
  split at e
  · next q => exact ⟨q, (Option.some.inj e).symm⟩
  · cases e
theorem X_acpy (hg : XG g own cc nL fr lo mc ms) {b : Nat} {sp dp m : Int32} (hm : Cond.methodLink own idx arraycopyName ∈ lw_tbl) (hm2 : Cond.native arraycopyName ∈ lw_tbl) (hm3 : Cond.static arraycopyName ∈ lw_tbl) (hm4 : Cond.initialized "java/lang/System" ∈ lw_tbl) (hfr : 1 ≤ fr) (hlo : (st.map fun v => v.category).sum + (nativeFrameWords "java/lang/System" "arraycopy" 5 + 11) ≤ lo) (d : decode cc pc = .ok (.invokestatic idx, 3)) {K : Hp → Option α}
    (kk : ∀ h', acpy h a sp b dp m = some h' → Xo g x0 nL k n (pc + 3) lv st h' (K h')) : Xo g x0 nL k n pc lv (.int m :: .int dp :: .ref (nB g.1 + b) :: .int sp :: .ref (nB g.1 + a) :: st) h ((acpy h a sp b dp m).bind K) := X_bd fun h' e ho ls H locs hl hP hS => by
  obtain ⟨⟨q1, q2, z1, z2, z3, z4, z5⟩, e2⟩ := acpy_some e
  have hRm := hg.2.2.2.2.2.2
  have nn : ∀ z : Int32, 0 ≤ z.toInt → z.toInt = (z.toNatClampNeg : Int) := fun z hz => by
    show z.toInt = ((z.toInt.toNat : Nat) : Int)
    omega
  have nl : ∀ z : Int32, 0 ≤ z.toInt → ¬ z < 0 := fun z hz y => by have := Int32.lt_iff_toInt_lt.mp y; simp at this; omega
  have hc0 := (cellAt.int q1.2).mp (hP.2 a q1.1)
  have hc1 := (cellAt.int q2.2).mp (hP.2 b q2.1)
  obtain ⟨-, k0, hk0, cm0, hkk0⟩ := (hg.2.2.2.2.1.2.1.2 0 _ rfl).1 0 (fun _ => .null)
  intro Ts hT Xs
  obtain ⟨vm', X', step⟩ := Xs.arraycopy hg.1 hg.2.2.2.1 (hg.w hm rfl) (hg.w hm2 rfl) (hg.w hm3 rfl) (hg.w hm4 rfl) (src := nB g.1 + a) (dst := nB g.1 + b) (cs := arrV (nA g.1 0) (hK h a).2 (fun j => .int (hI h a j))) (cd := arrV (nA g.1 0) (hK h b).2 (fun j => .int (hI h b j))) (srcPos := sp) (destPos := dp) (n := m) (by rw [hT]; exact hc0) (by rw [hT]; exact hc1)
    (fun _ h => by cases h) (fun _ h => by cases h) (fun h => by cases h) (fun h => by cases h) hk0 hk0 hkk0 hkk0 (by simp) (nl sp z1) (nl dp z2) (nl m z3)
    (by rw [nn sp z1, nn m z3, arrV_size]; have := nn sp z1; have := nn m z3; omega)
    (by rw [nn dp z2, nn m z3, arrV_size]; have := nn dp z2; have := nn m z3; omega)
    (fun vm₁ _ i hi => by
      have e : (arrV (nA g.1 0) (hK h a).2 (fun j => Value.int (hI h a j))).slots.getD (sp.toNatClampNeg + i) .null = .int (hI h a (sp.toNatClampNeg + i)) := by
        have h9 := nn sp z1
        have h8 := nn m z3
        rw [Array.getD_eq_getD_getElem?, arrV_read _ _ (by omega)]
        rfl
      refine ⟨?_, ?_⟩
      · rw [e]
        rfl
      · rw [e]
        exact trivial)
    (g := F0 _ pc ls (.int m :: .int dp :: .ref (nB g.1 + b) :: .int sp :: .ref (nB g.1 + a) :: st)) rfl (by rw [hl.1, hg.2.2.1]) (rest := st) rfl (by rw [hg.2.1]; exact d) (by rw [hRm]; exact hfr) (by rw [hRm]; show 2 * 0 + _ + _ ≤ lo; have := hlo; omega)
  have e1 : copied (arrV (nA g.1 0) (hK h a).2 (fun j => Value.int (hI h a j))) (arrV (nA g.1 0) (hK h b).2 (fun j => Value.int (hI h b j))) sp dp m = arrV (nA g.1 0) (hK h b).2 (fun j => Value.int (va_cpy (hI h a) (hI h b) sp.toNatClampNeg dp.toNatClampNeg m.toNatClampNeg j)) := va_copied (fun z => Value.int z) (nA g.1 0) (nA g.1 0) (hI h a) (hI h b) (by have := nn sp z1; have := nn m z3; omega)
  rw [e1] at X' step
  have hlt : nB g.1 + b < H.size := (Array.getElem?_eq_some_iff.mp hc1).1
  generalize hcell : arrV (nA g.1 0) (hK h b).2 (fun j => Value.int (va_cpy (hI h a) (hI h b) sp.toNatClampNeg dp.toNatClampNeg m.toNatClampNeg j)) = cl at X' step
  have hheap : ((Ts.setVm vm').setCell (nB g.1 + b) cl).heap = H.setIfInBounds (nB g.1 + b) cl := by rw [← hT]; rfl
  have oq : ∀ q : Nat, q ≠ nB g.1 + b → (H.setIfInBounds (nB g.1 + b) cl)[q]? = H[q]? := fun q hq => by simp [Array.getElem?_setIfInBounds, Ne.symm hq]
  have hself : (H.setIfInBounds (nB g.1 + b) cl)[nB g.1 + b]? = some cl := by simp [Array.getElem?_setIfInBounds, hlt]
  have hRep : Rep g.1 h' (H.setIfInBounds (nB g.1 + b) cl) := by
    rw [e2]
    refine hP.setA (by simp) oq ((cellAt.int (h := setA h b _) q2.2).mpr ?_)
    rw [hself, ← hcell]
    refine congrArg some (congrArg (arrV _ _) (funext fun z => ?_))
    show _ = Value.int (nr _ _ _ _ _)
    simp [nr]
  obtain ⟨t, a1, b1⟩ := kk h' e ho ls _ _ hl hRep ⟨by simp; exact hS.1, fun q g1 g2 => by
      rw [oq q (fun e => g2 (by rw [e]; exact Nat.le_add_right _ _))]
      exact hS.2.1 q g1 g2, fun q hq => by
      rcases List.mem_append.mp hq with h | h
      · exact hS.2.2 q h
      · obtain ⟨z, -, hz⟩ := List.mem_map.mp h
        rw [← hz]
        exact Nat.le_add_right _ _⟩ _ hheap X'
  exact ⟨t, step t a1, b1⟩

theorem X_max (hg : XG g own cc nL fr lo mc ms) {x y : Int32} (hm : Cond.methodLink own idx Lib.Math.max.name ∈ lw_tbl) (hm2 : Cond.static Lib.Math.max.name ∈ lw_tbl) (hm3 : Cond.initialized "java/lang/Math" ∈ lw_tbl) (hm4 : Cond.code Lib.Math.max.name Lib.Math.max.code 2 (some .int) ∈ lw_tbl) (hfr : 1 ≤ fr) (hlo : (st.map fun v => v.category).sum + 13 ≤ lo) (hk1 : k ≤ mc) (hn1 : n ≤ ms) (d : decode cc pc = .ok (.invokestatic idx, 3)) {o : Option α}
    (kk : Xo g x0 nL k n (pc + 3) lv (.int (imx x y) :: st) h o) : Xo g x0 nL k n pc lv (.int y :: .int x :: st) h o := fun ho ls H locs hl hP hS => by
  have hRm := hg.2.2.2.2.2.2
  exact va_mmax hg.1 hg.2.1 (by rw [hg.2.2.1, hl.1]) hg.2.2.2.1 (hg.w hm rfl) (hg.w hm2 rfl) (hg.w hm3 rfl) (hg.w hm4 rfl) (by rw [hRm]; exact hfr) (by rw [hRm]; exact hlo) (by rw [hRm]; exact hk1) (by rw [hRm]; exact hn1) d (kk ho ls H locs hl hP hS)
theorem X_min (hg : XG g own cc nL fr lo mc ms) {x y : Int32} (hm : Cond.methodLink own idx Lib.Math.min.name ∈ lw_tbl) (hm2 : Cond.static Lib.Math.min.name ∈ lw_tbl) (hm3 : Cond.initialized "java/lang/Math" ∈ lw_tbl) (hm4 : Cond.code Lib.Math.min.name Lib.Math.min.code 2 (some .int) ∈ lw_tbl) (hfr : 1 ≤ fr) (hlo : (st.map fun v => v.category).sum + 13 ≤ lo) (hk1 : k ≤ mc) (hn1 : n ≤ ms) (d : decode cc pc = .ok (.invokestatic idx, 3)) {o : Option α}
    (kk : Xo g x0 nL k n (pc + 3) lv (.int (imn x y) :: st) h o) : Xo g x0 nL k n pc lv (.int y :: .int x :: st) h o := fun ho ls H locs hl hP hS => by
  have hRm := hg.2.2.2.2.2.2
  exact va_mmin hg.1 hg.2.1 (by rw [hg.2.2.1, hl.1]) hg.2.2.2.1 (hg.w hm rfl) (hg.w hm2 rfl) (hg.w hm3 rfl) (hg.w hm4 rfl) (by rw [hRm]; exact hfr) (by rw [hRm]; exact hlo) (by rw [hRm]; exact hk1) (by rw [hRm]; exact hn1) d (kk ho ls H locs hl hP hS)
theorem X_obji (hg : XG g own cc nL fr lo mc ms) {v : Nat} (hm : Cond.methodLink own idx objectInit ∈ lw_tbl) (hm2 : Cond.instanceMethod objectInit ∈ lw_tbl) (hm3 : Cond.code objectInit ⟨#[0xb1]⟩ 1 none ∈ lw_tbl) (hfr : 1 ≤ fr) (hlo : (st.map fun v => v.category).sum + 12 ≤ lo) (d : decode cc pc = .ok (.invokespecial idx, 3)) {o : Option α}
    (kk : Xo g x0 nL k n (pc + 3) lv st h o) : Xo g x0 nL k n pc lv (.ref v :: st) h o := fun ho ls H locs hl hP hS => by
  have hRm := hg.2.2.2.2.2.2
  exact W.objInit hg.1 hg.2.1 hg.2.2.2.1 (hg.w hm rfl) (hg.w hm2 rfl) (hg.w hm3 rfl) rfl (by rw [hg.2.2.1]; exact hl.1) rfl d (by rw [hRm]; exact hfr) (by rw [hRm]; show 2 * 0 + _ + 12 ≤ lo; omega) (kk ho ls H locs hl hP hS)
/-- the first keypad's clone: getstatic, clone(), checkcast -/
theorem X_keypad (hg : XG g own cc nL fr lo mc ms) {i1 i2 i3 : Nat} {host : String} (hm1 : Cond.fieldLinkNest own i1 "DialMenus" "FIRST_KEYPAD" "[I" host ∈ lw_tbl) (hm2 : Cond.methodLink own i2 ⟨"[I", "clone", "()Ljava/lang/Object;"⟩ ∈ lw_tbl) (hm3 : Cond.sameMethod "[I" "java/lang/Object" "clone" "()Ljava/lang/Object;" ∈ lw_tbl) (hm4 : Cond.native ⟨"java/lang/Object", "clone", "()Ljava/lang/Object;"⟩ ∈ lw_tbl) (hm5 : Cond.instanceMethod ⟨"java/lang/Object", "clone", "()Ljava/lang/Object;"⟩ ∈ lw_tbl)
    (hm6 : Cond.selects "[I" ⟨"[I", "clone", "()Ljava/lang/Object;"⟩ ⟨"java/lang/Object", "clone", "()Ljava/lang/Object;"⟩ ∈ lw_tbl) (hm7 : Cond.castable "[I" "java/lang/Cloneable" ∈ lw_tbl) (hm8 : Cond.classLink own i3 "[I" ∈ lw_tbl) (hfr : 1 ≤ fr) (hlo : (st.map fun v => v.category).sum + 14 ≤ lo) (hk1 : k + 1 ≤ mc) (hn1 : n + 26 ≤ ms) (d1 : decode cc pc = .ok (.getstatic i1, 3)) (d2 : decode cc (pc + 3) = .ok (.invokevirtual i2, 3)) (d3 : decode cc (pc + 3 + 3) = .ok (.checkcast i3, 3)) {o : Option α}
    (kk : Xo g x0 nL (k + 1) (n + 26) (pc + 3 + 3 + 3) lv (.ref (nB g.1 + h.1) :: st) (newC h 11 26 kpf) o) : Xo g x0 nL k n pc lv st h o := fun ho ls H locs hl hP hS => by
  have hRm := hg.2.2.2.2.2.2
  have hE := hg.2.2.2.2.1
  refine va_getsN hg.1 hg.2.1 hE.2.2.1 hS hg.2.2.2.1 (hg.w hm1 rfl) (fun _ h => h) d1 ?_
  obtain ⟨hlt, cell, k1, k2, k3, k4, k5⟩ := hE.2.2.2
  have hcell : H[nK g.1]? = some cell := by rw [hS.2.1 _ (Nat.lt_of_lt_of_le hlt hg.2.2.2.2.2.1) (by simp; exact hlt)]; exact k1
  have hnm : g.2.2.2.2.1.vm.findClass "[I" = some (nA g.1 0) := va_nm_int (hE.2.1.2 0 _ rfl).2
  obtain ⟨c0, t0', f1, f2, f3⟩ := Cond.castable_spec (hg.w hm7 rfl (A := g.2.2.2.2.2.2.1))
  cases hnm.symm.trans f1
  have hsz : cell.slots.size = 26 := by rw [k5, arrV_size]
  have hnew : ({ cls := cell.cls, slots := cell.slots } : Cell) = arrV (nA g.1 0) 26 (fun j => .int (kpf j)) := by rw [k4, k5]; rfl
  intro Ts hT Xs
  obtain ⟨-, kA, hkA, comp, hkind⟩ := State.isArrayOf_alike Xs.warmed.alike ((hE.2.1.2 0 _ rfl).1 0 (fun _ => .null))
  obtain ⟨-, kS, hkS, compS, hkindS⟩ := (hE.2.1.2 0 _ rfl).1 0 (fun _ => .null)
  obtain ⟨vm', X', stp⟩ := Xs.cloneArray hg.1 hg.2.2.2.1 (hg.w hm2 rfl) (hg.w hm3 rfl) (hg.w hm4 rfl) (hg.w hm5 rfl) (hg.w hm6 rfl) (a := nK g.1) (cell := cell) (by rw [hT]; exact hcell) k2 k3 (by rw [k4]; exact hnm) f2 (by rw [k4]; exact f3)
    (fun i v hv => by
      have hk' : Ts.vm.classes[nA g.1 0]? = some kA := hkA
      have hi : i < 26 := by rw [← hsz]; exact (Array.getElem?_eq_some_iff.mp hv).1
      have hv2 : v = .int (kpf i) := by rw [k5, arrV_read _ _ hi] at hv; exact (Option.some.inj hv).symm
      rw [k4, hv2]
      have hvm : cell.vm.isStatics = false := by cases hc : cell.vm <;> first | rfl | exact absurd hc (k2 _)
      cases hc : cell.vm <;> first | exact absurd hc (k2 _) | exact absurd hc k3 | simp [State.fitsSlot, State.slotType?, hk', hkind, fits])
    (g := F0 _ (pc + 3) ls (.ref (nK g.1) :: st)) rfl (by rw [hl.1, hg.2.2.1]) rfl (by rw [hg.2.1]; exact d2) (by rw [hRm]; exact hfr) (by rw [hRm]; show 2 * 0 + _ + 14 ≤ lo; omega) (by rw [hRm]; exact hk1) (by rw [hsz, hRm]; exact hn1) (hloader := by rw [k4]; exact Vm.clonesLoader_of_array hkS hkindS)
  rw [hnew, hsz] at X'
  rw [hnew] at stp
  generalize hcl : arrV (nA g.1 0) 26 (fun j => Value.int (kpf j)) = cl at X' stp
  have z1 : (H.push cl).size = H.size + 1 := Array.size_push ..
  have e1 : (H.push cl)[nB g.1 + hN h]? = some cl := by rw [← hP.1, Array.getElem?_push_size]
  have o1 : ∀ q : Nat, q < H.size → (H.push cl)[q]? = H[q]? := fun q hq => by rw [Array.getElem?_push, if_neg (Nat.ne_of_lt hq)]
  have hRep : Rep g.1 (newC h 11 26 kpf) (H.push cl) := hP.newC z1 o1 (cellAt_newI rfl (by rw [e1, hcl]))
  have K1 := kk ho ls (H.push cl) locs hl hRep (S_grow hS (by omega) o1)
  have K2 : W g.2.1 g.1.1 g.2.2.1 g.2.2.2.1 g.2.2.2.2.1 g.2.2.2.2.2.1 g.2.2.2.2.2.2.1 g.2.2.2.2.2.2.2.1 g.2.2.2.2.2.2.2.2.1 g.2.2.2.2.2.2.2.2.2.1 (H.push cl) locs (k + 1) (n + 26) g.2.2.2.2.2.2.2.2.2.2 (F0 g.2.2.2.2.2.1 (pc + 3 + 3) ls (.ref (nB g.1 + hN h) :: st)) :=
    va_castA (D := (nC g.1, nI_ g.1)) (cl := vwCl) (ws := [(nB g.1 + hN h, .inl (nA g.1 0, 26, .inl kpf))]) hg.1 hg.2.1 hg.2.2.2.1 (hg.w hm8 rfl) (fun q x hx => by
      have h0 : q < 1 := (List.getElem?_eq_some_iff.mp hx).1
      rw [show q = 0 by omega] at hx
      cases hx
      show (H.push cl)[nB g.1 + hN h]? = some (vp_cell _ _)
      rw [vp_cell_i, hcl, e1]) 0 rfl hnm d3 K1
  obtain ⟨t, b1, b2⟩ := K2 ((Ts.setVm vm').pushCell cl) (by rw [← hT]; rfl) X'
  refine ⟨t, stp t ?_, b2⟩
  have e9 : Ts.heap.size = nB g.1 + hN h := by rw [hT]; exact hP.1
  rw [e9]
  exact b1
end
