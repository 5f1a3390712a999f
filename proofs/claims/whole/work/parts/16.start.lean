/-! THE LAW'S START, OUT OF WHAT ITS FUNCTION ANSWERS -/
def h00 : Hp := (0, fun _ => (0, 0), fun _ _ => 0, fun _ _ => none, fun _ _ => 0)
theorem arr_exact {args : Array Value} {s : State} {t : Term} {N : Nat} {f : Nat → Int32} (hN : N < 2 ^ 31) (harr : (Cond.arrayOf t .int).before args s = true) (hlen : (Term.length t).eval args s none [] s = some (.int (Int32.ofNat N))) (hel : ∀ j : Nat, j < N → (Term.elem t (.int (Int32.ofNat j))).eval args s none [] s = some (.int (f j))) :
    ∃ (b : Nat) (cell : Cell), t.eval args s none [] s = some (.ref b) ∧ s.heap[b]? = some cell ∧ cell.vm ≠ .unknown ∧ cell.vm.isStatics = false ∧ ∀ cA : ClassId, cell.slots = (arrV cA N (fun j => .int (f j))).slots := by
  obtain ⟨b, cell, ht, hat, hv⟩ := Term.length_spec hlen
  have hsz : cell.slots.size < 2 ^ 31 := by
    have hv := hlen
    simp only [Term.eval, ht, hat, Option.bind_eq_bind, Option.bind_some] at hv
    by_cases hlt : cell.slots.size < 2147483648
    · exact hlt
    · simp [hlt] at hv
  have hN2 : cell.slots.size = N := by
    have e := Value.int.inj hv
    have e2 := congrArg Int32.toInt e
    rw [show cell.slots.size.toInt32 = Int32.ofNat cell.slots.size from rfl, Int32.toInt_ofNat_small hN, Int32.toInt_ofNat_small hsz] at e2
    omega
  obtain ⟨hcell, hkn, hst, -⟩ := State.arrayAt?_spec hat
  refine ⟨b, cell, ht, hcell, hkn, hst, fun cA => ?_⟩
  apply Array.ext_getElem?
  intro j
  by_cases hj : j < N
  · rw [arrV_read _ _ hj]
    obtain ⟨a, i, cell2, h1, h2, h3, h4, h5⟩ := Term.elem_spec (hel j hj)
    cases ht.symm.trans h1
    cases hat.symm.trans h3
    have hi : i = Int32.ofNat j := by
      have e : (Term.int (Int32.ofNat j)).eval args s none [] s = some (.int (Int32.ofNat j)) := rfl
      cases h2.symm.trans e
      rfl
    have hc : i.toNatClampNeg = j := by rw [hi]; exact Int32.toNatClampNeg_ofNat_of_lt (Nat.lt_trans hj hN)
    rw [hc] at h5
    exact h5
  · rw [Array.getElem?_eq_none (by omega), Array.getElem?_eq_none (by rw [arrV_size]; omega)]
set_option maxRecDepth 100000 in
set_option maxHeartbeats 4000000 in
theorem whole_start_of {p : Program} {e : Env} {s : State} {m : MethodId} {below : List Frame} {meth : Method} {c : Code} (l : Launch) {b L : Nat} {xs : Nat → Int32} (C0 : lw_At p s m meth c b L xs) (hpure : f_L_law b L xs h00 = some (nI 1)) : W p l e room_1 s m #[Value.ref b] below meth c s.heap [] 0 0 (lw_Z below #[Value.ref b] s) (entryFrame m ([Value.ref b] : List Value).toArray 4) := by
  obtain ⟨hx, hb, hr, hml, hown, hts, hX, hbl, hlocks, hgv⟩ := C0
  have hs := flat_of_before _ hgv
  have hw : ∀ w ∈ lw_tbl, okW w = true → w.before #[] s = true := fun w h1 h2 => okW_args h2 rfl (hts w h1)
  -- classes
  have kn : ∀ {ci : Nat} {C : String} {T : u_T} {N : Nat}, CF ci C T N → Cond.instantiable C N ∈ lw_tbl → ∃ (cC : ClassId) (iS : Nat → Nat), u_Kn s C T N cC iS := fun hc hi => u_known (args := #[]) (fun w h1 => hc.ts (A := #[]) hw w h1) (fun _ h => h) (okW_args (A := #[Value.ref b]) rfl rfl (hts _ hi))
  obtain ⟨c0, i0, k0⟩ := kn cf_0 (by decide +kernel)
  obtain ⟨c1, i1, k1⟩ := kn cf_1 (by decide +kernel)
  obtain ⟨c2, i2, k2⟩ := kn cf_2 (by decide +kernel)
  obtain ⟨c3, i3, k3⟩ := kn cf_3 (by decide +kernel)
  obtain ⟨c4, i4, k4⟩ := kn cf_4 (by decide +kernel)
  obtain ⟨c5, i5, k5⟩ := kn cf_5 (by decide +kernel)
  obtain ⟨c6, i6, k6⟩ := kn cf_6 (by decide +kernel)
  obtain ⟨c7, i7, k7⟩ := kn cf_7 (by decide +kernel)
  obtain ⟨c8, i8, k8⟩ := kn cf_8 (by decide +kernel)
  obtain ⟨c9, i9, k9⟩ := kn cf_9 (by decide +kernel)
  obtain ⟨c10, i10, k10⟩ := kn cf_10 (by decide +kernel)
  -- arrays' classes
  obtain ⟨cI, kI, compI, fI1, fI2, fI3⟩ := Cond.arrayClass_spec (hts _ m_arrI)
  obtain ⟨compE, cE, kE, fE1, -, fE2, fE3, fE4⟩ := Cond.arrayOver_spec (hts _ m_ovE)
  obtain ⟨compA, cA, kA, fA1, -, fA2, fA3, fA4⟩ := arrayOverA_spec (hts _ m_ovA)
  -- the static array
  have hel : ∀ j : Nat, j < 26 → (Term.elem (.static "DialMenus" "FIRST_KEYPAD" "[I") (.int (Int32.ofNat j))).eval #[Value.ref b] s none [] s = some (.int (kpf j)) := by
    intro j hj
    have h9 : ∀ j : Nat, j < 26 → Cond.eq (Term.elem (.static "DialMenus" "FIRST_KEYPAD" "[I") (.int (Int32.ofNat j))) (.int (kpf j)) ∈ flatC (Jvm.Cond.and given_1 narrow_1) := by decide +kernel
    exact va_eqt (hs _ (h9 j hj))
  obtain ⟨ka, cellK, hka, hcK, hkU, hkS, hslots⟩ := arr_exact (N := 26) (by decide) (hs (Cond.arrayOf (.static "DialMenus" "FIRST_KEYPAD" "[I") .int) (by decide +kernel)) (va_eqt (hs (Cond.eq (Term.length (.static "DialMenus" "FIRST_KEYPAD" "[I")) (.int 26)) (by decide +kernel))) hel
  obtain ⟨ka', cI', cellK', kI', q1, q2, q3, q4, q5, q6, -⟩ := Cond.exactly_spec (hs (Cond.exactly (.static "DialMenus" "FIRST_KEYPAD" "[I") "[I") (by decide +kernel))
  cases hka.symm.trans q1
  cases hcK.symm.trans q3
  have hcI : cI' = cI := Option.some.inj (q2.symm.trans fI1)
  have hkalt : ka < s.heap.size := (Array.getElem?_eq_some_iff.mp hcK).1
  let en : EN := (l, s.heap.size, (fun k => match k with | 0 => c0 | 1 => c1 | 2 => c2 | 3 => c3 | 4 => c4 | 5 => c5 | 6 => c6 | 7 => c7 | 8 => c8 | 9 => c9 | _ => c10), (fun k => match k with | 0 => i0 | 1 => i1 | 2 => i2 | 3 => i3 | 4 => i4 | 5 => i5 | 6 => i6 | 7 => i7 | 8 => i8 | 9 => i9 | _ => i10), (fun k => match k with | 0 => cI | 1 => cE | _ => cA), ka)
  have hE : Env0 en s s.heap := by
    refine ⟨hw, ⟨fun k q hq => ?_, fun k q hq => ?_⟩, va_Zof (args := #[Value.ref b]) (hts _ (by decide +kernel)) (hts _ (by decide +kernel)) hka (fun a ha h9 => ?_), hkalt, cellK, hcK, ?_, hkU, ?_, hslots _⟩
    · match k, hq with
      | 0, hq => cases hq; exact k0
      | 1, hq => cases hq; exact k1
      | 2, hq => cases hq; exact k2
      | 3, hq => cases hq; exact k3
      | 4, hq => cases hq; exact k4
      | 5, hq => cases hq; exact k5
      | 6, hq => cases hq; exact k6
      | 7, hq => cases hq; exact k7
      | 8, hq => cases hq; exact k8
      | 9, hq => cases hq; exact k9
      | 10, hq => cases hq; exact k10
      | k + 11, hq => simp [vwCl] at hq
    · match k, hq with
      | 0, hq => cases hq; exact ⟨fun n z => ⟨fun k h => (by cases h), kI, fI2, compI, fI3⟩, fI1⟩
      | 1, hq => cases hq; exact ⟨fun n z => ⟨fun k h => (by cases h), kE, fE2, compE, fE3⟩, kE, compE, fE2, fE3, fE1, fE4⟩
      | 2, hq => cases hq; exact ⟨fun n z => ⟨fun k h => (by cases h), kA, fA2, compA, fA3⟩, fA4⟩
      | k + 3, hq => simp [tys0] at hq
    · have : s.heap.size ≤ a := h9
      omega
    · intro k hk
      rw [hk] at hkS
      cases hkS
    · rw [q6, hcI]
      rfl
  have hl := lv_entry ([.ref b]) (n := 4) (Nat.le_of_ble_eq_true rfl)
  rw [lg_entry_eq]
  have hg : XG (en, p, e, room_1, s, m, #[Value.ref b], below, meth, c, lw_Z below #[Value.ref b] s) RL code 4 10 372 600000 7302250 := ⟨hx, hb, hml, hown, hE, Nat.le_refl _, rfl⟩
  exact t_L_law (h := h00) hg ⟨rfl, hr, hlocks, rfl, rfl, hX, hbl⟩ hpure _ s.heap [] hl ⟨rfl, fun q hq => absurd hq (Nat.not_lt_zero q)⟩ va_S.rf
