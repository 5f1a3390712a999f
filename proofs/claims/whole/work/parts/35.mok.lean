/-! WHAT IS TRUE OF EVERY MENU -/
def MOK (m : Mn) (N : Nat) : Prop := m.1 ≠ 0 → (2 ≤ m.1 ∧ m.1 ≤ 4) ∧ 1 ≤ N ∧ (∀ k, k < N → m.2.1 k ≤ 13 ∧ ∀ i, i < m.2.1 k → 1 ≤ m.2.2.1 k i ∧ m.2.2.1 k i ≤ 4) ∧
  (m.2.2.2 = fsum (fun k => cnt (fun i => k = 0 ∨ ¬ agr m.2.1 m.2.2.1 (k - 1) k i) (m.2.1 k)) N) ∧
  (fmax (fun k => if 0 < m.2.1 k then m.2.2.1 k 0 else 0) N = if 0 < m.2.1 (N - 1) then m.2.2.1 (N - 1) 0 else 0) ∧
  (∀ k j, k < N → j < N → agr m.2.1 m.2.2.1 j k (m.2.1 k) → j = k) ∧ ∀ k i, k < N → i < m.2.1 k → ∃ j, j < N ∧ j ≠ k ∧ agr m.2.1 m.2.2.1 j k i
/-- how many menus a plan has: each is counted by its first name -/
def brs (u : Nat → Nat) (b N : Nat) : Nat := fsum (fun k => cnt (fun i => (nd u b k 0 N i).1 = k) (plen u b N k)) N
def fmn (u : Nat → Nat) (b N : Nat) : Mn := (b, plen u b N, pstep u b N, brs u b N)
theorem fsum_congr {f g : Nat → Nat} {n : Nat} (h : ∀ k, k < n → f k = g k) : fsum f n = fsum g n := by
  induction n with
  | zero => rfl
  | succ n ih => rw [fsum_succ, fsum_succ, ih (fun k hk => h k (by omega)), h n (by omega)]
theorem fmax_eq {f : Nat → Nat} {n x : Nat} (h1 : ∀ k, k < n → f k ≤ x) (h2 : x = 0 ∨ ∃ k, k < n ∧ f k = x) : fmax f n = x := by
  have a := (fmax_le f n x).mpr h1
  rcases h2 with z | ⟨k, hk, e⟩
  · omega
  · have := (fmax_le f n (fmax f n)).mp (Nat.le_refl _) k hk
    omega
section
variable {u : Nat → Nat} {b : Nat}
theorem MOK_fmn {N : Nat} (hb : 2 ≤ b) (hb4 : b ≤ 4) (hN1 : 1 ≤ N) (hN : N ≤ 14) : MOK (fmn u b N) N := by
  intro _
  refine ⟨⟨hb, hb4⟩, hN1, fun k hk => ⟨?_, fun i hi => ?_⟩, ?_, ?_, fun k j hk hj a => ?_, fun k i hk hi => ?_⟩
  · have := plen_lt (u := u) hb hk
    show plen u b N k ≤ 13
    omega
  · have := pstep_rng (u := u) hb hk hN hi
    exact ⟨this.1, Nat.le_trans this.2 hb4⟩
  · show fsum _ N = fsum _ N
    apply fsum_congr
    intro k hk
    show cnt (fun i => (nd u b k 0 N i).1 = k) (plen u b N k) = cnt (fun i => k = 0 ∨ ¬ agr (plen u b N) (pstep u b N) (k - 1) k i) (plen u b N k)
    apply cnt_congr
    intro i hi
    have r := nd_in (u := u) hb hk i
    have m := nd_more (u := u) hb hk hN hi
    by_cases c : k = 0
    · subst c
      exact ⟨fun _ => Or.inl rfl, fun _ => by omega⟩
    · have q := agr_iff (u := u) hb (show k - 1 < N by omega) hk hN i (by omega)
      constructor
      · intro e
        refine Or.inr (fun a => ?_)
        obtain ⟨e1, e2⟩ := q.2.1 a
        have r2 := nd_in (u := u) hb (show k - 1 < N by omega) i
        omega
      · intro e
        by_cases z : (nd u b k 0 N i).1 = k
        · exact z
        · exact absurd (q.2.2 ⟨by omega, by omega⟩) (e.resolve_left c)
  · show fmax (fun k => if 0 < plen u b N k then pstep u b N k 0 else 0) N = if 0 < plen u b N (N - 1) then pstep u b N (N - 1) 0 else 0
    by_cases c : N = 1
    · subst c
      have := plen_lt (u := u) (b := b) (N := 1) (k := 0) hb (by omega)
      show max 0 (if 0 < plen u b 1 0 then pstep u b 1 0 0 else 0) = _
      rw [if_neg (by omega)]
      rfl
    · have pos : ∀ k, k < N → 0 < plen u b N k := by
        intro k hk
        by_cases z : plen u b N k = 0
        · have := nd_end (u := u) hb hk hN
          rw [z] at this
          have e : (nd u b k 0 N 0).2.1 = N := rfl
          omega
        · omega
      have st : ∀ k, k < N → pstep u b N k 0 = (dsc u b k (BB u b 0 N) 0 N 1).2.2 := by
        intro k hk
        unfold pstep
        rw [nd_succ (by show 1 < N; omega)]
        rfl
      have rB := BB_rng (u := u) (b := b) (f := 0) hb (show 2 ≤ N by omega)
      rw [if_pos (pos (N - 1) (by omega))]
      apply fmax_eq
      · intro k hk
        show (if 0 < plen u b N k then pstep u b N k 0 else 0) ≤ _
        rw [if_pos (pos k hk), st k hk, st (N - 1) (by omega)]
        rcases dsc_two (u := u) (b := b) (show k ≤ N - 1 by omega) (BB u b 0 N) 0 N 1 (by omega) (by omega) (Nat.zero_le _) (by omega) with w | w
        · rw [w]; exact Nat.le_refl _
        · omega
      · exact Or.inr ⟨N - 1, by omega, by show (if 0 < plen u b N (N - 1) then pstep u b N (N - 1) 0 else 0) = _; rw [if_pos (pos (N - 1) (by omega))]⟩
  · have q := agr_iff (u := u) hb hj hk hN (plen u b N k) (Nat.le_refl _)
    obtain ⟨e1, e2⟩ := q.2.1 a
    have e := nd_end (u := u) hb hk hN
    have r := nd_in (u := u) hb hk (plen u b N k)
    have r2 := nd_in (u := u) hb hj (plen u b N k)
    omega
  · have hi' : i < plen u b N k := hi
    have m := nd_more (u := u) hb hk hN hi'
    have r := nd_in (u := u) hb hk i
    by_cases c : (nd u b k 0 N i).1 = k
    · exact ⟨k + 1, by omega, by omega, (agr_iff (u := u) hb (show k + 1 < N by omega) hk hN i (by omega)).2.2 ⟨by omega, by omega⟩⟩
    · exact ⟨(nd u b k 0 N i).1, by omega, c, (agr_iff (u := u) hb (show (nd u b k 0 N i).1 < N by omega) hk hN i (by omega)).2.2 ⟨Nat.le_refl _, by omega⟩⟩
/-- a sum over a run -/
def isum (g : Nat → Nat) (f s : Nat) : Nat := fsum (fun i => g (f + i)) s
theorem isum_split (g : Nat → Nat) (f a c : Nat) : isum g f (a + c) = isum g f a + isum g (f + a) c := by
  unfold isum
  induction c with
  | zero => rfl
  | succ c ih => rw [show a + (c + 1) = a + c + 1 by omega, fsum_succ, fsum_succ, ih, Nat.add_assoc, show f + a + c = f + (a + c) by omega]
theorem isum_congr {g g' : Nat → Nat} {f s : Nat} (h : ∀ k, f ≤ k → k < f + s → g k = g' k) : isum g f s = isum g' f s := fsum_congr (fun i hi => h (f + i) (by omega) (by omega))
theorem isum_add (g g' : Nat → Nat) (f s : Nat) : isum (fun k => g k + g' k) f s = isum g f s + isum g' f s := by
  unfold isum
  induction s with
  | zero => rfl
  | succ s ih => rw [fsum_succ, fsum_succ, fsum_succ, ih]; dsimp only; omega
theorem isum_fsum (g : Nat → Nat) (f s : Nat) : fsum g (f + s) = fsum g f + isum g f s := by
  unfold isum
  induction s with
  | zero => rfl
  | succ s ih => rw [show f + (s + 1) = f + s + 1 by omega, fsum_succ, fsum_succ, ih]; omega
theorem cost_parts {n : Nat} (ih : ∀ f s, 1 ≤ s → s ≤ n → isum (fun k => u k * dep u b k n f s) f s = TT u b 1 f s) : ∀ m f s q, 1 ≤ m → m ≤ s → s ≤ 14 → (m = 1 → s ≤ n) → s ≤ n + 1 →
    isum (fun k => u k * dep u b k n (dsc u b k m f s q).1 (dsc u b k m f s q).2.1) f s = TT u b m f s := by
  intro m
  induction m with
  | zero => intro f s q h; omega
  | succ m ihm =>
    intro f s q _ h2 h14 h3 h4
    have r := FF_rng (u := u) (b := b) (f := f) (show 1 ≤ m + 1 by omega) h2
    by_cases cm : m = 0
    · subst cm
      have e : FF u b (0 + 1) f s = s := by unfold FF; rw [if_pos rfl]
      rw [← ih f s (by omega) (h3 rfl)]
      apply isum_congr
      intro k h5 h6
      have ed : dsc u b k (0 + 1) f s q = (f, s, q) := by
        unfold dsc
        rw [e, if_pos h6]
      show u k * dep u b k n (dsc u b k (0 + 1) f s q).1 (dsc u b k (0 + 1) f s q).2.1 = _
      rw [ed]
    · rw [TT_m (by omega) h2 h14]
      unfold gT
      have e : s = FF u b (m + 1) f s + (s - FF u b (m + 1) f s) := by omega
      rw [show isum (fun k => u k * dep u b k n (dsc u b k (m + 1) f s q).1 (dsc u b k (m + 1) f s q).2.1) f s = isum (fun k => u k * dep u b k n (dsc u b k (m + 1) f s q).1 (dsc u b k (m + 1) f s q).2.1) f (FF u b (m + 1) f s + (s - FF u b (m + 1) f s)) by rw [← e], isum_split]
      congr 1
      · rw [← ih f (FF u b (m + 1) f s) (by omega) (by omega)]
        apply isum_congr
        intro k h5 h6
        unfold dsc
        rw [if_pos h6]
      · rw [Nat.add_sub_cancel, ← ihm (f + FF u b (m + 1) f s) (s - FF u b (m + 1) f s) (q + 1) (by omega) (by omega) (by omega) (by omega) (by omega)]
        apply isum_congr
        intro k h5 h6
        show u k * dep u b k n (dsc u b k (m + 1) f s q).1 (dsc u b k (m + 1) f s q).2.1 = _
        have ed : dsc u b k (m + 1) f s q = dsc u b k m (f + FF u b (m + 1) f s) (s - FF u b (m + 1) f s) (q + 1) := by
          conv => lhs; unfold dsc
          rw [if_neg (by omega)]
        rw [ed]
theorem cost_dep (hb : 2 ≤ b) : ∀ n, n ≤ 14 → ∀ f s, 1 ≤ s → s ≤ n → isum (fun k => u k * dep u b k n f s) f s = TT u b 1 f s := by
  intro n
  induction n with
  | zero => intro _ f s h1 h2; omega
  | succ n ih =>
    intro hn f s h1 h2
    by_cases c : s = 1
    · subst c
      rw [TT_one]
      have e : ∀ k, dep u b k (n + 1) f 1 = 0 := fun k => by unfold dep; rw [if_pos (Nat.le_refl 1)]
      show fsum _ (0 + 1) = 0
      rw [fsum_succ]
      show 0 + u (f + 0) * dep u b (f + 0) (n + 1) f 1 = 0
      rw [e]
      rfl
    · have rB := BB_rng (u := u) (b := b) (f := f) hb (show 2 ≤ s by omega)
      have q := cost_parts (u := u) (b := b) (n := n) (ih (by omega)) (BB u b f s) f s 1 (by omega) rB.2.2 (by omega) (by omega) h2
      rw [TT_w hb (by omega) (by omega), ← q, isum_fsum, Nat.add_sub_cancel_left, ← isum_add]
      apply isum_congr
      intro k h5 h6
      show u k * dep u b k (n + 1) f s = _
      have e : dep u b k (n + 1) f s = 1 + dep u b k n (dn u b k f s).1 (dn u b k f s).2.1 := by
        conv => lhs; unfold dep
        rw [if_neg (by omega)]
      rw [e, Nat.mul_add, Nat.mul_one, Nat.add_comm]
      rfl
theorem cost_plan {N : Nat} (hb : 2 ≤ b) (h1 : 1 ≤ N) (hN : N ≤ 14) : fsum (fun k => u k * plen u b N k) N = TT u b 1 0 N := by
  have q := cost_dep (u := u) hb 14 (Nat.le_refl _) 0 N h1 hN
  rw [← q]
  unfold isum
  exact fsum_congr (fun k _ => by show _ = u (0 + k) * dep u b (0 + k) 14 0 N; rw [Nat.zero_add]; rfl)
end
