theorem icc {x a b : Int32} (h : a = b) : x + a = x + b := by rw [h]
section
variable {α : Type} {g : XC} {x0 : α} {own : String} {cc : ByteArray} {nL fr lo mc ms k n pc : Nat} {lv lv' : List (Nat × Value)} {st : List Value} {h : Hp} {c a j idx : Nat} {C : String} {T : u_T} {N : Nat}
theorem X_putIN (hg : XG g own cc nL fr lo mc ms) {host : String} (hc : CF c C T N) (hj : j < N) (hfin : (T j).2.2.2 = false) {v : Int32} (hty : tyC c j = .int ∨ tyC c j = .boolean ∧ (v = 0 ∨ v = 1)) (hm : Cond.fieldLinkNest own idx (T j).1 (T j).2.1 (T j).2.2.1 host ∈ lw_tbl) (d : decode cc pc = .ok (.putfield idx, 3)) {K : Hp → Option α}
    (kk : ∀ h', putI h c a j v = some h' → Xo g x0 nL k n (pc + 3) lv st h' (K h')) : Xo g x0 nL k n pc lv (.int v :: .ref (nB g.1 + a) :: st) h ((putI h c a j v).bind K) := X_bd fun h' e ho ls H locs hl hP hS => by
  obtain ⟨hO, e2⟩ := putI_some e
  have ht : tyC c j = .int ∨ tyC c j = .boolean := hty.imp id And.left
  have hn : narrow (tyC c j) (.int v) = .int v := by rcases hty with z | ⟨z, rfl | rfl⟩ <;> rw [z] <;> rfl
  have hfit : fits (tyC c j) (.int v) = true := by rcases hty with z | ⟨z, rfl | rfl⟩ <;> rw [z] <;> rfl
  have hts := hc.ts (A := #[]) hg.2.2.2.2.1.1
  have hap := va_apart (own := own) hts (fun _ h => h) (tyC c) hc.2.2.2.1 hc.2.2.2.2 hg.2.2.2.2.1.2.1 hc.2.1
  obtain ⟨cell, q1, q2, q3, q4⟩ := obj_of hP hO hc
  obtain ⟨hSl, hfc, kC, hkC, hkind⟩ := hg.2.2.2.2.1.2.1.1 c _ hc.2.1
  obtain ⟨cf, kf, fi, f, hi, hsl⟩ := hSl j hj
  have hlay := hts _ (u_in_lay hj)
  unfold u_lay at hlay
  rw [if_neg (by rw [hfin]; decide)] at hlay
  have hst := (u_facts hfc hkC (u_lays hts (fun _ h => h) hj) hi).1
  have h6 := u_store hfc hkC hkind hlay hi (hc.2.2.2.1 j hj) hn hfit
  refine va_WputK hg.1 hg.2.1 (f := f) hg.2.2.2.1 (hg.w hm rfl) hi hst (by rw [q2]; exact h6) q1 q3 (by rw [hsl]; exact k2_hasslot (q4 j hj)) rfl rfl d fun H' e1 z2 z3 => ?_
  rw [hsl] at e1
  refine kk h' e ho ls H' _ hl (rep_field hP hO hc hap hj q2 q3 q4 e1 z2 z3 (by rw [e2]; rfl) (by rw [e2]; rfl) (fun q hq j => ?_) (fun q hq j => by rw [e2]; rfl) (fun q hq j => by rw [e2]; rfl) (fun k' hk' => ?_)) (hS.put z2 z3 (Nat.le_add_right _ _))
  · rw [e2]; show u2 _ _ _ _ q j = _; simp [u2, hq, hI]
  · rw [e2]; exact fv_setI ht k' _ (fun z => by rw [z])
theorem X_ifnullA (hg : XG g own cc nL fr lo mc ms) {o : Option α} {b : Nat} {off : Int} (d : decode cc pc = .ok (.ifnull off, 3)) (kk : Xo g x0 nL k n (pc + 3) lv st h o) : Xo g x0 nL k n pc lv (.ref b :: st) h o := fun ho ls H locs hl hR hS => lv_ifnull hg.1 hg.2.1 d (kk ho ls H locs hl hR hS)
theorem X_ifnonnullA (hg : XG g own cc nL fr lo mc ms) {o : Option α} {b : Nat} {off : Int} {tgt : Nat} (d : decode cc pc = .ok (.ifnonnull off, 3)) (ht : (pc : Int) + off = (tgt : Int)) (kk : Xo g x0 nL k n tgt lv st h o) : Xo g x0 nL k n pc lv (.ref b :: st) h o := fun ho ls H locs hl hR hS => lv_ifnonnull hg.1 hg.2.1 d ht (kk ho ls H locs hl hR hS)
end
