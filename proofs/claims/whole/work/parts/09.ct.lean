/-! CONTRACTS, RETURNS, CALLS -/
/-- the contract of a method at these arguments and this heap: its answer, its heap -/
def Ct (en : EN) (y : MethodName) (bytes : ByteArray) (maxL : Nat) (ret : Option FieldType) (fr lo mc ms : Nat) (As : List Value) (h : Hp) (r0 : Option Value) (h0 : Hp) : Prop :=
  Met en.1 y [Cond.code y bytes maxL ret] { frames := fr, cells := mc, slots := ms, locals := lo } (va_Pc As (fun U => Env0 en U U.heap ∧ Rep en h U.heap)) (QcM en r0 h0) mc ms (fun q => nB en ≤ q)
theorem Ct.of {α : Type} {x0 : α} {o : Option α} {en : EN} {y : MethodName} {bytes : ByteArray} {maxL : Nat} {ret : Option FieldType} {fr lo mc ms : Nat} {As : List Value} {h : Hp} {r0 : Option Value} {h0 : Hp} {lv : List (Nat × Value)} (hy : plainName y.cls = true) (hlv : lv_args 0 As = lv) (hlen : (lg_sl As).length ≤ maxL) (ho : o = some x0)
    (body : ∀ g : XC, g.1 = en → XG g y.cls bytes maxL fr lo mc ms → XR g ret y.name r0 h0 mc ms → Xo g x0 maxL 0 0 0 lv [] h o) : Ct en y bytes maxL ret fr lo mc ms As h r0 h0 := by
  refine Met.ofW (cc := bytes) (maxL := maxL) (ret := ret) hy rfl ?_
  intro p e s m args below meth c s₁ B hml hv
  obtain ⟨rfl, hE, hP⟩ := hv
  have hl := lv_entry As (n := maxL) hlen
  rw [hlv] at hl
  rw [lg_entry_eq]
  exact body (en, p, e, _, s, m, As.toArray, below, meth, c, _) rfl ⟨B.exec, B.bytes, hml, findClass_of_methodNamed B.named, hE, by rw [hP.1]; exact Nat.le_add_right _ _, rfl⟩ ⟨B.returns, B.notSynchronized, (name_of_methodNamed B.named B.method).1, rfl⟩ ho _ _ _ hl hP va_S.rf
section
variable {α : Type} {g : XC} {x0 : α} {own : String} {cc : ByteArray} {nL fr lo mc ms k n pc : Nat} {lv lv' : List (Nat × Value)} {st : List Value} {h : Hp} {c a j idx : Nat} {C : String} {T : u_T} {N : Nat} {nm : String} {r0 : Option Value} {h0 : Hp}
theorem rl_or (b : Nat) (r : Option Nat) : rl b r = .null ∨ ∃ a, rl b r = .ref a := by
  cases r with
  | none => exact Or.inl rfl
  | some a => exact Or.inr ⟨_, rfl⟩
theorem nar_b {v : Int32} (e : v = 0 ∨ v = 1) : narrow .boolean (.int v) = .int v := by rcases e with rfl | rfl <;> rfl
theorem qcm {H : Heap} {locs : List Loc} {v : Option Value} (e1 : v = r0) (e2 : h = h0) (hP : Rep g.1 h H) (hS : va_S (fun q => nB g.1 ≤ q) g.2.2.2.2.1.heap H locs) : ∀ t : State, t.heap = H → g.2.2.2.2.1.WarmedH t.vm → QcM g.1 r0 h0 g.2.2.2.2.2.2.1 g.2.2.2.2.1 (.returned v) t :=
  fun t ht _ => ⟨by rw [e1], by rw [ht, ← e2]; exact hP, hS.F ht⟩
theorem X_iret (hg : XG g own cc nL fr lo mc ms) {x0 : Int32} {v : Int32} (hr : XR g (some .int) nm (some (.int x0)) (h) mc ms) (hk : k ≤ mc) (hn : n ≤ ms) (d : decode cc pc = .ok (.ireturn, 1)) : Xo g x0 nL k n pc lv [.int v] h (some v) := fun ho ls H locs hl hP hS => by
  have hlocks := hr.2.1
  cases ho
  refine W.widen hk hn ?_
  rw [hr.2.2.2]
  exact W.iret hg.1 hg.2.1 hr.1 (qcm (g := g) rfl rfl hP hS) hS.2.2 d
theorem X_iretW (hg : XG g own cc nL fr lo mc ms) {x0 : Int32 × Hp} {v : Int32} (hr : XR g (some .int) nm (some (.int x0.1)) (x0.2) mc ms) (hk : k ≤ mc) (hn : n ≤ ms) (d : decode cc pc = .ok (.ireturn, 1)) : Xo g x0 nL k n pc lv [.int v] h (some (v, h)) := fun ho ls H locs hl hP hS => by
  have hlocks := hr.2.1
  cases ho
  refine W.widen hk hn ?_
  rw [hr.2.2.2]
  exact W.iret hg.1 hg.2.1 hr.1 (qcm (g := g) rfl rfl hP hS) hS.2.2 d
theorem X_lret (hg : XG g own cc nL fr lo mc ms) {x0 : Int64} {v : Int64} (hr : XR g (some .long) nm (some (.long x0)) (h) mc ms) (hk : k ≤ mc) (hn : n ≤ ms) (d : decode cc pc = .ok (.lreturn, 1)) : Xo g x0 nL k n pc lv [.long v] h (some v) := fun ho ls H locs hl hP hS => by
  have hlocks := hr.2.1
  cases ho
  refine W.widen hk hn ?_
  rw [hr.2.2.2]
  exact W.lret hg.1 hg.2.1 hr.1 (qcm (g := g) rfl rfl hP hS) hS.2.2 d
theorem X_lretW (hg : XG g own cc nL fr lo mc ms) {x0 : Int64 × Hp} {v : Int64} (hr : XR g (some .long) nm (some (.long x0.1)) (x0.2) mc ms) (hk : k ≤ mc) (hn : n ≤ ms) (d : decode cc pc = .ok (.lreturn, 1)) : Xo g x0 nL k n pc lv [.long v] h (some (v, h)) := fun ho ls H locs hl hP hS => by
  have hlocks := hr.2.1
  cases ho
  refine W.widen hk hn ?_
  rw [hr.2.2.2]
  exact W.lret hg.1 hg.2.1 hr.1 (qcm (g := g) rfl rfl hP hS) hS.2.2 d
theorem X_vret (hg : XG g own cc nL fr lo mc ms) {x0 : Hp}  (hr : XR g (none) nm (none) (x0) mc ms) (hk : k ≤ mc) (hn : n ≤ ms) (d : decode cc pc = .ok (.return_, 1)) : Xo g x0 nL k n pc lv [] h (some h) := fun ho ls H locs hl hP hS => by
  have hlocks := hr.2.1
  cases ho
  refine W.widen hk hn ?_
  rw [hr.2.2.2]
  exact W.vret hg.1 hg.2.1 hr.1 (qcm (g := g) rfl rfl hP hS) hS.2.2 d
theorem X_aret (hg : XG g own cc nL fr lo mc ms) {x0 : Nat} {v : Nat} {rt : FieldType} (hrt : (∃ n, rt = .object n) ∨ ∃ t, rt = .array t) (hr : XR g (some rt) nm (some (.ref (nB g.1 + x0))) (h) mc ms) (hk : k ≤ mc) (hn : n ≤ ms) (d : decode cc pc = .ok (.areturn, 1)) : Xo g x0 nL k n pc lv [.ref (nB g.1 + v)] h (some v) := fun ho ls H locs hl hP hS => by
  have hlocks := hr.2.1
  cases ho
  refine W.widen hk hn ?_
  rw [hr.2.2.2]
  exact W.aret hg.1 hg.2.1 hr.1 hrt (Or.inr ⟨_, rfl⟩) (qcm (g := g) rfl rfl hP hS) hS.2.2 d
theorem X_aretW (hg : XG g own cc nL fr lo mc ms) {x0 : Nat × Hp} {v : Nat} {rt : FieldType} (hrt : (∃ n, rt = .object n) ∨ ∃ t, rt = .array t) (hr : XR g (some rt) nm (some (.ref (nB g.1 + x0.1))) (x0.2) mc ms) (hk : k ≤ mc) (hn : n ≤ ms) (d : decode cc pc = .ok (.areturn, 1)) : Xo g x0 nL k n pc lv [.ref (nB g.1 + v)] h (some (v, h)) := fun ho ls H locs hl hP hS => by
  have hlocks := hr.2.1
  cases ho
  refine W.widen hk hn ?_
  rw [hr.2.2.2]
  exact W.aret hg.1 hg.2.1 hr.1 hrt (Or.inr ⟨_, rfl⟩) (qcm (g := g) rfl rfl hP hS) hS.2.2 d
theorem X_qret (hg : XG g own cc nL fr lo mc ms) {x0 : Option Nat} {v : Option Nat} {rt : FieldType} (hrt : (∃ n, rt = .object n) ∨ ∃ t, rt = .array t) (hr : XR g (some rt) nm (some (rl (nB g.1) x0)) (h) mc ms) (hk : k ≤ mc) (hn : n ≤ ms) (d : decode cc pc = .ok (.areturn, 1)) : Xo g x0 nL k n pc lv [rl (nB g.1) v] h (some v) := fun ho ls H locs hl hP hS => by
  have hlocks := hr.2.1
  cases ho
  refine W.widen hk hn ?_
  rw [hr.2.2.2]
  exact W.aret hg.1 hg.2.1 hr.1 hrt (rl_or _ _) (qcm (g := g) rfl rfl hP hS) hS.2.2 d
theorem rz_some {v x : Int32} (e : rz v = some x) : x = v ∧ (v = 0 ∨ v = 1) := by
  unfold rz at e
  split at e
  · next q => exact ⟨(Option.some.inj e).symm, q⟩
  · cases e
theorem X_zret (hg : XG g own cc nL fr lo mc ms) {x0 : Int32} {v : Int32} (hr : XR g (some .boolean) nm (some (.int x0)) h mc ms) (hk : k ≤ mc) (hn : n ≤ ms) (d : decode cc pc = .ok (.ireturn, 1)) : Xo g x0 nL k n pc lv [.int v] h ((rz v).bind fun r => some r) := X_bd fun x e ho ls H locs hl hP hS => by
  have hlocks := hr.2.1
  obtain ⟨e1, e2⟩ := rz_some e
  cases ho
  refine W.widen hk hn ?_
  rw [hr.2.2.2]
  subst e1
  exact W.zret (ty := .boolean) hg.1 hg.2.1 hr.1 (nar_b e2) (qcm (g := g) rfl rfl hP hS) hS.2.2 d
theorem X_zretW (hg : XG g own cc nL fr lo mc ms) {x0 : Int32 × Hp} {v : Int32} (hr : XR g (some .boolean) nm (some (.int x0.1)) x0.2 mc ms) (hk : k ≤ mc) (hn : n ≤ ms) (d : decode cc pc = .ok (.ireturn, 1)) : Xo g x0 nL k n pc lv [.int v] h ((rz v).bind fun r => some (r, h)) := X_bd fun x e ho ls H locs hl hP hS => by
  have hlocks := hr.2.1
  obtain ⟨e1, e2⟩ := rz_some e
  cases ho
  refine W.widen hk hn ?_
  rw [hr.2.2.2]
  subst e1
  exact W.zret (ty := .boolean) hg.1 hg.2.1 hr.1 (nar_b e2) (qcm (g := g) rfl rfl hP hS) hS.2.2 d
theorem gd_isO {β : Type} {o : Option β} {x : β} (e : gd h c a o = some x) : a < hN h ∧ (hK h a).1 = c := by
  unfold gd at e
  split at e
  · next q => exact q
  · cases e
theorem X_gd {o : Option α} (kk : Xo g x0 nL k n pc lv st h o) : Xo g x0 nL k n pc lv st h (gd h c a o) := fun ho => by
  unfold gd at ho
  split at ho
  · exact kk ho
  · cases ho
/-- a method that is called: its code, its class -/
def MF (y : MethodName) (bytes : ByteArray) (maxL : Nat) (ret : Option FieldType) (np : Nat) : Prop := Cond.code y bytes maxL ret ∈ lw_tbl ∧ Cond.initialized y.cls ∈ lw_tbl ∧ (y.cls ≠ "java/lang/invoke/MethodHandle" ∧ y.cls ≠ "java/lang/invoke/VarHandle") ∧ (parseMethodDescriptor y.desc).map (fun d => d.parameters.length) = some np
theorem env_warm {en : EN} {s U : State} {H0 : Heap} (hE : Env0 en s s.heap) (hb : nB en ≤ s.heap.size) (hW : s.WarmedH U.vm) {locs : List Loc} (hS : va_S (fun q => nB en ≤ q) s.heap H0 locs) : Env0 en U H0 := by
  refine ⟨fun w hw hk => okW_warm hk hW (hE.1 w hw hk), va_K.moved hW.alike hE.2.1, va_Z.kept (va_Z.moved hW.alike hE.2.2.1) (fun q h1 h2 => hS.2.1 q h1 h2), ?_⟩
  obtain ⟨hlt, cell, k1, k2⟩ := hE.2.2.2
  exact ⟨hlt, cell, by rw [hS.2.1 _ (Nat.lt_of_lt_of_le hlt hb) (by simp; exact hlt)]; exact k1, k2⟩
theorem pc_blind {en : EN} {As : List Value} : FrameBlind (va_Pc As (fun U => Env0 en U U.heap ∧ Rep en h U.heap)) := fun a U g mk q => by
  obtain ⟨e, ⟨h1, h2, h3, h4⟩, h5⟩ := q
  exact ⟨e, ⟨fun w hw hk => okW_args (u := U) hk rfl (h1 w hw hk), va_K.moved (u := U) (Vm.Alike.refl U.vm) h2, va_Z.moved (u := U) (Vm.Alike.refl U.vm) h3, h4⟩, h5⟩
theorem X_run {β : Type} {co : Option β} {K : β → Option α} {rv : β → Option Value} {hf : β → Hp} {y : MethodName} {bytes : ByteArray} {maxL : Nat} {ret : Option FieldType} {fr' lo' mc' ms' : Nat} {As st0 : List Value} {x : β} (e : co = some x)
    (hrun : ∀ (H : Heap) (locs : List Loc) (ls : Array Slot), lv_has ls nL lv → Rep g.1 h H → va_S (fun q => nB g.1 ≤ q) g.2.2.2.2.1.heap H locs → va_Run g.2.1 g.1.1 g.2.2.1 g.2.2.2.1 g.2.2.2.2.1 g.2.2.2.2.2.1 g.2.2.2.2.2.2.1 g.2.2.2.2.2.2.2.1 g.2.2.2.2.2.2.2.2.1 g.2.2.2.2.2.2.2.2.2.1 H locs k n mc' ms' (F0 g.2.2.2.2.2.1 pc ls st0) st (QcM g.1 (rv x) (hf x) As.toArray) (fun q => nB g.1 ≤ q))
    (kk : Xo g x0 nL (k + mc') (n + ms') (pc + 3) lv ((rv x).toList ++ st) (hf x) (K x)) : Xo g x0 nL k n pc lv st0 h (co.bind K) := fun ho ls H locs hl hP hS Ts hT Xs => by
  rw [e] at ho
  obtain ⟨v, st₀, t, T', L, q0, X', hL, e1, e2, ⟨hv, hP', hF⟩, stp⟩ := hrun H locs ls hl hP hS Ts hT Xs
  cases hv
  have hS' : va_S (fun q => nB g.1 ≤ q) g.2.2.2.2.1.heap t.heap (locs ++ L) := by
    refine ⟨Nat.le_trans hS.1 (by rw [← q0]; exact hF.1), fun q h1 h2 => ?_, fun q hq => ?_⟩
    · rw [hF.2 q (by rw [q0]; exact Nat.lt_of_lt_of_le h1 hS.1) h2, q0]
      exact hS.2.1 q h1 h2
    · rcases List.mem_append.mp hq with h | h
      · exact hS.2.2 q h
      · exact hL q h
  obtain ⟨t2, a1, b1⟩ := kk ho ls t.heap (locs ++ L) hl hP' hS' T' e1 X'
  exact ⟨t2, stp t2 a1, b1⟩
theorem X_callV (hg : XG g own cc nL fr lo mc ms) {β : Type} {co : Option β} {K : β → Option α} {rv : β → Option Value} {hf : β → Hp} {y : MethodName} {bytes : ByteArray} {maxL : Nat} {ret : Option FieldType} {fr' lo' mc' ms' np : Nat} {As st0 : List Value} (hy : MF y bytes maxL ret np) (hin : Cond.instanceMethod y ∈ lw_tbl) (hse : Cond.selects y.cls y y ∈ lw_tbl) (hln : Cond.methodLink own idx y ∈ lw_tbl) (hcf : CF c y.cls T N) (hO : ∀ x, co = some x → a < hN h ∧ (hK h a).1 = c) (hct : ∀ x, co = some x → Ct g.1 y bytes maxL ret fr' lo' mc' ms' (.ref (nB g.1 + a) :: As) h (rv x) (hf x)) (hst : st0 = As.reverse ++ .ref (nB g.1 + a) :: st) (hrm : (st.map fun v => v.category).sum ≤ 8) (hnp : As.length = np) (hfr : fr' + 1 ≤ fr) (hlo : 8 + (maxL + 11) + lo' ≤ lo) (hk : k + mc' ≤ mc) (hn : n + ms' ≤ ms) (d : decode cc pc = .ok (.invokevirtual idx, 3))
    (kk : ∀ x, co = some x → Xo g x0 nL (k + mc') (n + ms') (pc + 3) lv ((rv x).toList ++ st) (hf x) (K x)) : Xo g x0 nL k n pc lv st0 h (co.bind K) := X_bd fun x e => by
  have hRm := hg.2.2.2.2.2.2
  refine X_eq (o' := co.bind K) (by rw [e]; rfl) (X_run (y := y) (bytes := bytes) (maxL := maxL) (ret := ret) (fr' := fr') (lo' := lo') (As := .ref (nB g.1 + a) :: As) (rv := rv) (hf := hf) e (fun H locs ls hl hP hS => ?_) (kk x e))
  obtain ⟨cell, q1, q2, q3, q4⟩ := obj_of hP (hO x e) hcf
  exact va_runV (C := y.cls) (n := np) (Ts := []) ⟨hg.1, hg.2.1, hg.2.2.1, hg.2.2.2.1, fun w (hw : w ∈ ([] : List Cond)) => by cases hw⟩ (hct x e) ⟨⟨rfl, rfl, by rw [hRm]; exact hfr, by rw [hRm]; exact hlo, fun w hw a' U hW => by
      rw [List.mem_singleton.mp hw]
      exact word_at hW (Or.inl rfl) (hg.w hy.1 rfl (A := #[])), List.mem_singleton.mpr rfl, hg.w hy.1 rfl, hg.w hy.2.1 rfl, hy.2.2.1, fun sig hs => by have h2 := hy.2.2.2; rw [hs] at h2; exact (Option.some.inj h2).symm, hg.w hln rfl⟩, hg.w hin rfl, hg.w hse rfl⟩ ⟨pc_blind, ⟨cell, q1, by rw [q3]; rfl, by rw [q2]; exact (hg.2.2.2.2.1.2.1.1 c _ hcf.2.1).2.1⟩, fun U hU hW => ⟨rfl, by rw [hU]; exact env_warm hg.2.2.2.2.1 hg.2.2.2.2.2.1 hW hS, by rw [hU]; exact hP⟩⟩ rfl hnp hl.1 hst (lv_room hrm) d (by rw [hRm]; exact ⟨hk, hn⟩)
theorem X_callS (hg : XG g own cc nL fr lo mc ms) {β : Type} {co : Option β} {K : β → Option α} {rv : β → Option Value} {hf : β → Hp} {y : MethodName} {bytes : ByteArray} {maxL : Nat} {ret : Option FieldType} {fr' lo' mc' ms' np : Nat} {As st0 : List Value} (hy : MF y bytes maxL ret np) (hss : Cond.static y ∈ lw_tbl) (hln : Cond.methodLink own idx y ∈ lw_tbl) (hct : ∀ x, co = some x → Ct g.1 y bytes maxL ret fr' lo' mc' ms' (As) h (rv x) (hf x)) (hst : st0 = As.reverse ++ st) (hrm : (st.map fun v => v.category).sum ≤ 8) (hnp : As.length = np) (hfr : fr' + 1 ≤ fr) (hlo : 8 + (maxL + 11) + lo' ≤ lo) (hk : k + mc' ≤ mc) (hn : n + ms' ≤ ms) (d : decode cc pc = .ok (.invokestatic idx, 3))
    (kk : ∀ x, co = some x → Xo g x0 nL (k + mc') (n + ms') (pc + 3) lv ((rv x).toList ++ st) (hf x) (K x)) : Xo g x0 nL k n pc lv st0 h (co.bind K) := X_bd fun x e => by
  have hRm := hg.2.2.2.2.2.2
  refine X_eq (o' := co.bind K) (by rw [e]; rfl) (X_run (y := y) (bytes := bytes) (maxL := maxL) (ret := ret) (fr' := fr') (lo' := lo') (As := As) (rv := rv) (hf := hf) e (fun H locs ls hl hP hS => ?_) (kk x e))
  exact va_runS (n := np) (Ts := []) ⟨hg.1, hg.2.1, hg.2.2.1, hg.2.2.2.1, fun w (hw : w ∈ ([] : List Cond)) => by cases hw⟩ (hct x e) ⟨⟨rfl, rfl, by rw [hRm]; exact hfr, by rw [hRm]; exact hlo, fun w hw a' U hW => by
      rw [List.mem_singleton.mp hw]
      exact word_at hW (Or.inl rfl) (hg.w hy.1 rfl (A := #[])), List.mem_singleton.mpr rfl, hg.w hy.1 rfl, hg.w hy.2.1 rfl, hy.2.2.1, fun sig hs => by have h2 := hy.2.2.2; rw [hs] at h2; exact (Option.some.inj h2).symm, hg.w hln rfl⟩, hg.w hss rfl⟩ ⟨pc_blind, fun U hU hW => ⟨rfl, by rw [hU]; exact env_warm hg.2.2.2.2.1 hg.2.2.2.2.2.1 hW hS, by rw [hU]; exact hP⟩⟩ rfl hnp hl.1 hst (lv_room hrm) d (by rw [hRm]; exact ⟨hk, hn⟩)
theorem X_callI (hg : XG g own cc nL fr lo mc ms) {β : Type} {co : Option β} {K : β → Option α} {rv : β → Option Value} {hf : β → Hp} {y : MethodName} {bytes : ByteArray} {maxL : Nat} {ret : Option FieldType} {fr' lo' mc' ms' np : Nat} {As st0 : List Value} (hy : MF y bytes maxL none np) (hyi : y.name = "<init>") (hret : ret = none) (hin : Cond.instanceMethod y ∈ lw_tbl) (hln : Cond.methodLink own idx y ∈ lw_tbl) (hct : ∀ x, co = some x → Ct g.1 y bytes maxL ret fr' lo' mc' ms' (.ref (nB g.1 + a) :: As) h (rv x) (hf x)) (hst : st0 = As.reverse ++ .ref (nB g.1 + a) :: st) (hrm : (st.map fun v => v.category).sum ≤ 8) (hnp : As.length = np) (hfr : fr' + 1 ≤ fr) (hlo : 8 + (maxL + 11) + lo' ≤ lo) (hk : k + mc' ≤ mc) (hn : n + ms' ≤ ms) (d : decode cc pc = .ok (.invokespecial idx, 3))
    (kk : ∀ x, co = some x → Xo g x0 nL (k + mc') (n + ms') (pc + 3) lv ((rv x).toList ++ st) (hf x) (K x)) : Xo g x0 nL k n pc lv st0 h (co.bind K) := X_bd fun x e => by
  have hRm := hg.2.2.2.2.2.2
  refine X_eq (o' := co.bind K) (by rw [e]; rfl) (X_run (y := y) (bytes := bytes) (maxL := maxL) (ret := ret) (fr' := fr') (lo' := lo') (As := .ref (nB g.1 + a) :: As) (rv := rv) (hf := hf) e (fun H locs ls hl hP hS => ?_) (kk x e))
  subst hret
  exact va_runI (n := np) (Ts := []) ⟨hg.1, hg.2.1, hg.2.2.1, hg.2.2.2.1, fun w (hw : w ∈ ([] : List Cond)) => by cases hw⟩ (hct x e) ⟨⟨rfl, rfl, by rw [hRm]; exact hfr, by rw [hRm]; exact hlo, fun w hw a' U hW => by
      rw [List.mem_singleton.mp hw]
      exact word_at hW (Or.inl rfl) (hg.w hy.1 rfl (A := #[])), List.mem_singleton.mpr rfl, hg.w hy.1 rfl, hg.w hy.2.1 rfl, hy.2.2.1, fun sig hs => by have h2 := hy.2.2.2; rw [hs] at h2; exact (Option.some.inj h2).symm, hg.w hln rfl⟩, hyi, hg.w hin rfl⟩ ⟨pc_blind, fun U hU hW => ⟨rfl, by rw [hU]; exact env_warm hg.2.2.2.2.1 hg.2.2.2.2.2.1 hW hS, by rw [hU]; exact hP⟩⟩ rfl hnp hl.1 hst (lv_room hrm) d (by rw [hRm]; exact ⟨hk, hn⟩)
theorem X_callIN (hg : XG g own cc nL fr lo mc ms) {β : Type} {co : Option β} {K : β → Option α} {rv : β → Option Value} {hf : β → Hp} {y : MethodName} {bytes : ByteArray} {maxL : Nat} {ret : Option FieldType} {fr' lo' mc' ms' np : Nat} {As st0 : List Value} {host : String} (hy : MF y bytes maxL none np) (hyi : y.name = "<init>") (hret : ret = none) (hin : Cond.instanceMethod y ∈ lw_tbl) (hln : Cond.methodLinkNest own idx y host ∈ lw_tbl) (hct : ∀ x, co = some x → Ct g.1 y bytes maxL ret fr' lo' mc' ms' (.ref (nB g.1 + a) :: As) h (rv x) (hf x)) (hst : st0 = As.reverse ++ .ref (nB g.1 + a) :: st) (hrm : (st.map fun v => v.category).sum ≤ 8) (hnp : As.length = np) (hfr : fr' + 1 ≤ fr) (hlo : 8 + (maxL + 11) + lo' ≤ lo) (hk : k + mc' ≤ mc) (hn : n + ms' ≤ ms) (d : decode cc pc = .ok (.invokespecial idx, 3))
    (kk : ∀ x, co = some x → Xo g x0 nL (k + mc') (n + ms') (pc + 3) lv ((rv x).toList ++ st) (hf x) (K x)) : Xo g x0 nL k n pc lv st0 h (co.bind K) := X_bd fun x e => by
  have hRm := hg.2.2.2.2.2.2
  refine X_eq (o' := co.bind K) (by rw [e]; rfl) (X_run (y := y) (bytes := bytes) (maxL := maxL) (ret := ret) (fr' := fr') (lo' := lo') (As := .ref (nB g.1 + a) :: As) (rv := rv) (hf := hf) e (fun H locs ls hl hP hS => ?_) (kk x e))
  subst hret
  exact va_runIN (n := np) (Ts := []) ⟨hg.1, hg.2.1, hg.2.2.1, hg.2.2.2.1, fun w (hw : w ∈ ([] : List Cond)) => by cases hw⟩ (hct x e) ⟨⟨⟨rfl, rfl, by rw [hRm]; exact hfr, by rw [hRm]; exact hlo, fun w hw a' U hW => by
      rw [List.mem_singleton.mp hw]
      exact word_at hW (Or.inl rfl) (hg.w hy.1 rfl (A := #[])), List.mem_singleton.mpr rfl⟩, hg.w hy.1 rfl, hg.w hy.2.1 rfl, hy.2.2.1, fun sig hs => by have h2 := hy.2.2.2; rw [hs] at h2; exact (Option.some.inj h2).symm, hg.w hln rfl⟩, hyi, hg.w hin rfl⟩ ⟨pc_blind, fun U hU hW => ⟨rfl, by rw [hU]; exact env_warm hg.2.2.2.2.1 hg.2.2.2.2.2.1 hW hS, by rw [hU]; exact hP⟩⟩ rfl hnp hl.1 hst (lv_room hrm) d (by rw [hRm]; exact ⟨hk, hn⟩)
end
