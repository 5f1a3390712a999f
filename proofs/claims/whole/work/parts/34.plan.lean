/-! THE PLAN: the best menus of all runs, in numbers -/
/-- the first place of lo .. lo + n where g is least -/
def amF (g : Nat → Nat) (lo : Nat) : Nat → Nat
  | 0 => lo
  | n + 1 => if g (lo + (n + 1)) < g (amF g lo n) then lo + (n + 1) else amF g lo n
theorem amF_succ (g : Nat → Nat) (lo n : Nat) : amF g lo (n + 1) = if g (lo + (n + 1)) < g (amF g lo n) then lo + (n + 1) else amF g lo n := rfl
theorem amF_rng (g : Nat → Nat) (lo n : Nat) : lo ≤ amF g lo n ∧ amF g lo n ≤ lo + n := by
  induction n with
  | zero => exact ⟨Nat.le_refl _, Nat.le_refl _⟩
  | succ n ih => rw [amF_succ]; split <;> omega
theorem amF_min (g : Nat → Nat) (lo n : Nat) : ∀ j, lo ≤ j → j ≤ lo + n → g (amF g lo n) ≤ g j := by
  induction n with
  | zero => intro j h1 h2; rw [show j = lo by omega]; exact Nat.le_refl _
  | succ n ih =>
    intro j h1 h2
    rw [amF_succ]
    by_cases e : j = lo + (n + 1)
    · subst e
      split
      · exact Nat.le_refl _
      · next c => omega
    · have := ih j h1 (by omega)
      split
      · next c => omega
      · exact this
theorem amF_fst (g : Nat → Nat) (lo n : Nat) : ∀ j, lo ≤ j → j < amF g lo n → g (amF g lo n) < g j := by
  induction n with
  | zero => intro j h1 h2; have : amF g lo 0 = lo := rfl; omega
  | succ n ih =>
    intro j h1 h2
    rw [amF_succ] at h2 ⊢
    split at h2
    · next c =>
      rw [if_pos c]
      by_cases e : j < lo + (n + 1)
      · have := amF_min g lo n j h1 (by omega)
        omega
      · omega
    · next c => rw [if_neg c]; exact ih j h1 h2
theorem amF_congr {g g' : Nat → Nat} {lo : Nat} : ∀ n, (∀ j, lo ≤ j → j ≤ lo + n → g j = g' j) → amF g lo n = amF g' lo n := by
  intro n
  induction n with
  | zero => intro _; rfl
  | succ n ih =>
    intro h
    have e := ih (fun j a c => h j a (by omega))
    have r := amF_rng g' lo n
    rw [amF_succ, amF_succ, e, h _ (by omega) (Nat.le_refl _), h _ r.1 (by omega)]
def gT (T : Nat → Nat → Nat → Nat) (m f s c : Nat) : Nat := T 1 f c + T (m - 1) (f + c) (s - c)
def cmT (T : Nat → Nat → Nat → Nat) (m f s : Nat) : Nat := gT T m f s (amF (gT T m f s) 1 (s - m))
def stpT (u : Nat → Nat) (b : Nat) (T : Nat → Nat → Nat → Nat) (m f s : Nat) : Nat := if m = 1 then (if s ≤ 1 then 0 else cmT T (amF (fun m => cmT T m f s) 2 (min b s - 2)) f s + (fsum u (f + s) - fsum u f)) else cmT T m f s
def Tb (u : Nat → Nat) (b : Nat) : Nat → Nat → Nat → Nat → Nat
  | 0 => fun _ _ _ => 0
  | z + 1 => fun m f s => if s = z + 1 then stpT u b (Tb u b z) m f s else Tb u b z m f s
/-- the least cost of a run within m parts (1: the best menu of the run itself) -/
def TT (u : Nat → Nat) (b : Nat) : Nat → Nat → Nat → Nat := Tb u b 14
/-- the size of the first of m parts -/
def FF (u : Nat → Nat) (b m f s : Nat) : Nat := if m = 1 then s else amF (gT (TT u b) m f s) 1 (s - m)
/-- the number of parts of a run -/
def BB (u : Nat → Nat) (b f s : Nat) : Nat := if s ≤ 1 then 1 else amF (fun m => TT u b m f s) 2 (min b s - 2)
section
variable {u : Nat → Nat} {b : Nat}
theorem Tb_st {z z' m f s : Nat} (h1 : s ≤ z) (h2 : z ≤ z') : Tb u b z' m f s = Tb u b z m f s := by
  induction z' with
  | zero => rw [show z = 0 by omega]
  | succ z' ih =>
    by_cases e : z = z' + 1
    · rw [e]
    · show (if s = z' + 1 then _ else Tb u b z' m f s) = _
      rw [if_neg (by omega)]
      exact ih (by omega)
theorem gT_congr {T T' : Nat → Nat → Nat → Nat} {m f s c : Nat} (hc : 1 ≤ c) (hs : c < s) (h : ∀ m f s', s' < s → T m f s' = T' m f s') : gT T m f s c = gT T' m f s c := by
  unfold gT
  rw [h 1 f c hs, h (m - 1) (f + c) (s - c) (by omega)]
theorem cmT_congr {T T' : Nat → Nat → Nat → Nat} {m f s : Nat} (hm : 2 ≤ m) (hs : m ≤ s) (h : ∀ m f s', s' < s → T m f s' = T' m f s') : cmT T m f s = cmT T' m f s := by
  unfold cmT
  have r := amF_rng (gT T' m f s) 1 (s - m)
  rw [amF_congr (g := gT T m f s) (g' := gT T' m f s) (s - m) (fun j a c => gT_congr a (by omega) h), gT_congr r.1 (by omega) h]
theorem TT_eq {m f s : Nat} (h1 : 1 ≤ s) (h2 : s ≤ 14) : TT u b m f s = stpT u b (Tb u b (s - 1)) m f s := by
  unfold TT
  rw [Tb_st (z := s) (Nat.le_refl _) h2]
  obtain ⟨z, rfl⟩ : ∃ z, s = z + 1 := ⟨s - 1, by omega⟩
  show (if z + 1 = z + 1 then _ else _) = _
  rw [if_pos rfl]
  rfl
theorem Tb_lt {s m f s' : Nat} (h2 : s ≤ 14) (h : s' < s) : Tb u b (s - 1) m f s' = TT u b m f s' := (Tb_st (z := s - 1) (z' := 14) (by omega) (by omega)).symm
theorem TT_one {f : Nat} : TT u b 1 f 1 = 0 := by
  rw [TT_eq (Nat.le_refl _) (by decide)]
  rfl
theorem TT_cm {m f s : Nat} (hm : 2 ≤ m) (hs : m ≤ s) (h : s ≤ 14) : TT u b m f s = cmT (TT u b) m f s := by
  rw [TT_eq (by omega) h]
  unfold stpT
  rw [if_neg (by omega)]
  exact cmT_congr hm hs (fun m f s' z => Tb_lt h z)
theorem TT_m {m f s : Nat} (hm : 2 ≤ m) (hs : m ≤ s) (h : s ≤ 14) : TT u b m f s = gT (TT u b) m f s (FF u b m f s) := by
  rw [TT_cm hm hs h]
  unfold FF
  rw [if_neg (by omega)]
  rfl
theorem BB_rng {f s : Nat} (hb : 2 ≤ b) (hs : 2 ≤ s) : 2 ≤ BB u b f s ∧ BB u b f s ≤ b ∧ BB u b f s ≤ s := by
  unfold BB
  rw [if_neg (by omega)]
  have r := amF_rng (fun m => TT u b m f s) 2 (min b s - 2)
  omega
theorem FF_rng {m f s : Nat} (hm : 1 ≤ m) (hs : m ≤ s) : 1 ≤ FF u b m f s ∧ FF u b m f s + (m - 1) ≤ s := by
  unfold FF
  split
  · omega
  · have r := amF_rng (gT (TT u b) m f s) 1 (s - m)
    omega
theorem TT_w {f s : Nat} (hb : 2 ≤ b) (hs : 2 ≤ s) (h : s ≤ 14) : TT u b 1 f s = TT u b (BB u b f s) f s + (fsum u (f + s) - fsum u f) := by
  have r := BB_rng (u := u) (b := b) (f := f) hb hs
  have e : amF (fun m => cmT (Tb u b (s - 1)) m f s) 2 (min b s - 2) = BB u b f s := by
    unfold BB
    rw [if_neg (by omega)]
    apply amF_congr
    intro j a c
    show cmT (Tb u b (s - 1)) j f s = TT u b j f s
    rw [TT_cm a (by omega) h]
    exact cmT_congr a (by omega) (fun m f s' z => Tb_lt h z)
  rw [TT_eq (by omega) h]
  unfold stpT
  rw [if_pos rfl, if_neg (by omega), e, TT_cm r.1 r.2.2 h]
  congr 1
  exact cmT_congr r.1 r.2.2 (fun m f s' z => Tb_lt h z)
theorem fsum_le {N f : Nat} (hu : ∀ k, k < N → u k ≤ 99) : ∀ s, f + s ≤ N → fsum u f ≤ fsum u (f + s) ∧ fsum u (f + s) ≤ fsum u f + 99 * s := by
  intro s
  induction s with
  | zero => intro _; exact ⟨Nat.le_refl _, by rw [Nat.add_zero]; omega⟩
  | succ s ih =>
    intro h
    have q := ih (by omega)
    have := hu (f + s) (by omega)
    rw [show f + (s + 1) = f + s + 1 by omega, fsum_succ]
    omega
theorem TT_le {N : Nat} (hu : ∀ k, k < N → u k ≤ 99) (hb : 2 ≤ b) : ∀ s, s ≤ 14 → ∀ m f, 1 ≤ m → m ≤ s → f + s ≤ N → TT u b m f s ≤ 99 * (s * s) := by
  intro s
  induction s with
  | zero => intro _ m f h1 h2; omega
  | succ s ih =>
    intro hs m f h1 h2 h3
    have key : ∀ m, 2 ≤ m → m ≤ s + 1 → TT u b m f (s + 1) ≤ 99 * (s * s) := by
      intro m h1 h2
      rw [TT_cm h1 h2 hs]
      unfold cmT
      have q := amF_min (gT (TT u b) m f (s + 1)) 1 (s + 1 - m) 1 (Nat.le_refl 1) (by omega)
      have e : gT (TT u b) m f (s + 1) 1 = TT u b (m - 1) (f + 1) s := by
        unfold gT
        rw [TT_one, Nat.zero_add, Nat.add_sub_cancel]
      have := ih (by omega) (m - 1) (f + 1) (by omega) (by omega) (by omega)
      omega
    have sq : (s + 1) * (s + 1) = s * s + 2 * s + 1 := by rw [Nat.add_mul, Nat.mul_add]; omega
    by_cases c : m = 1
    · subst c
      by_cases c2 : s = 0
      · subst c2; rw [show (0 : Nat) + 1 = 1 from rfl, TT_one]; omega
      · rw [TT_w hb (by omega) hs]
        have r := BB_rng (u := u) (b := b) (f := f) hb (show 2 ≤ s + 1 by omega)
        have := key _ r.1 r.2.2
        have := (fsum_le hu (f := f) (s + 1) h3).2
        omega
    · have := key m (by omega) h2
      omega
theorem TT_far {N : Nat} (hu : ∀ k, k < N → u k ≤ 99) (hb : 2 ≤ b) {m f s : Nat} (hs : s ≤ 14) (h1 : 1 ≤ m) (h2 : m ≤ s) (h3 : f + s ≤ N) : TT u b m f s ≤ 20000 := by
  have := TT_le hu hb s hs m f h1 h2 h3
  have : s * s ≤ 14 * 14 := Nat.mul_le_mul hs hs
  omega
end
/-! the walk down to a name -/
/-- from m parts of the run (f, s) to the one with the name k in it: where it begins, its size, its number -/
def dsc (u : Nat → Nat) (b k : Nat) : Nat → Nat → Nat → Nat → Nat × Nat × Nat
  | 0, f, s, q => (f, s, q)
  | m + 1, f, s, q => if k < f + FF u b (m + 1) f s then (f, FF u b (m + 1) f s, q) else dsc u b k m (f + FF u b (m + 1) f s) (s - FF u b (m + 1) f s) (q + 1)
/-- one step down from a run of several names -/
def dn (u : Nat → Nat) (b k f s : Nat) : Nat × Nat × Nat := dsc u b k (BB u b f s) f s 1
/-- the run in which the name k is, i steps down from the run (f, s) -/
def nd (u : Nat → Nat) (b k f s : Nat) : Nat → Nat × Nat × Nat
  | 0 => (f, s, 0)
  | i + 1 => if (nd u b k f s i).2.1 ≤ 1 then ((nd u b k f s i).1, (nd u b k f s i).2.1, 0) else dn u b k (nd u b k f s i).1 (nd u b k f s i).2.1
/-- steps down to the name alone -/
def dep (u : Nat → Nat) (b k : Nat) : Nat → Nat → Nat → Nat
  | 0, _, _ => 0
  | n + 1, f, s => if s ≤ 1 then 0 else 1 + dep u b k n (dn u b k f s).1 (dn u b k f s).2.1
section
variable {u : Nat → Nat} {b : Nat}
theorem dsc_in {k : Nat} : ∀ m f s q, 1 ≤ m → m ≤ s → f ≤ k → k < f + s → f ≤ (dsc u b k m f s q).1 ∧ (dsc u b k m f s q).1 ≤ k ∧ k < (dsc u b k m f s q).1 + (dsc u b k m f s q).2.1 ∧ (dsc u b k m f s q).1 + (dsc u b k m f s q).2.1 ≤ f + s ∧ (dsc u b k m f s q).2.1 + (m - 1) ≤ s ∧ q ≤ (dsc u b k m f s q).2.2 ∧ (dsc u b k m f s q).2.2 + 1 ≤ q + m := by
  intro m
  induction m with
  | zero => intro f s q h; omega
  | succ m ih =>
    intro f s q _ h2 h3 h4
    have r := FF_rng (u := u) (b := b) (f := f) (show 1 ≤ m + 1 by omega) h2
    unfold dsc
    by_cases c : k < f + FF u b (m + 1) f s
    · rw [if_pos c]
      dsimp only
      omega
    · rw [if_neg c]
      by_cases cm : m = 0
      · subst cm
        have : FF u b (0 + 1) f s = s := by unfold FF; rw [if_pos rfl]
        omega
      · have := ih (f + FF u b (m + 1) f s) (s - FF u b (m + 1) f s) (q + 1) (by omega) (by omega) (by omega) (by omega)
        omega
/-- two names of a run: in one part, or in parts of different numbers -/
theorem dsc_two {j k : Nat} (hjk : j ≤ k) : ∀ m f s q, 1 ≤ m → m ≤ s → f ≤ j → k < f + s → (dsc u b j m f s q = dsc u b k m f s q) ∨ ((dsc u b j m f s q).2.2 < (dsc u b k m f s q).2.2 ∧ (dsc u b j m f s q).1 + (dsc u b j m f s q).2.1 ≤ (dsc u b k m f s q).1) := by
  intro m
  induction m with
  | zero => intro f s q h; omega
  | succ m ih =>
    intro f s q _ h2 h3 h4
    have r := FF_rng (u := u) (b := b) (f := f) (show 1 ≤ m + 1 by omega) h2
    unfold dsc
    by_cases c : j < f + FF u b (m + 1) f s
    · by_cases c2 : k < f + FF u b (m + 1) f s
      · rw [if_pos c, if_pos c2]
        exact Or.inl rfl
      · rw [if_pos c, if_neg c2]
        right
        by_cases cm : m = 0
        · subst cm
          have : FF u b (0 + 1) f s = s := by unfold FF; rw [if_pos rfl]
          omega
        · have := dsc_in (u := u) (b := b) (k := k) m (f + FF u b (m + 1) f s) (s - FF u b (m + 1) f s) (q + 1) (by omega) (by omega) (by omega) (by omega)
          dsimp only
          omega
    · rw [if_neg c, if_neg (by omega)]
      by_cases cm : m = 0
      · subst cm
        have : FF u b (0 + 1) f s = s := by unfold FF; rw [if_pos rfl]
        omega
      · exact ih _ _ _ (by omega) (by omega) (by omega) (by omega)
theorem dn_in {k f s : Nat} (hb : 2 ≤ b) (hs : 2 ≤ s) (h1 : f ≤ k) (h2 : k < f + s) : f ≤ (dn u b k f s).1 ∧ (dn u b k f s).1 ≤ k ∧ k < (dn u b k f s).1 + (dn u b k f s).2.1 ∧ (dn u b k f s).1 + (dn u b k f s).2.1 ≤ f + s ∧ (dn u b k f s).2.1 < s ∧ 1 ≤ (dn u b k f s).2.2 ∧ (dn u b k f s).2.2 ≤ b := by
  have r := BB_rng (u := u) (b := b) (f := f) hb hs
  have q := dsc_in (u := u) (b := b) (k := k) (BB u b f s) f s 1 (by omega) r.2.2 h1 h2
  unfold dn
  omega
theorem nd_succ {k f s i : Nat} (h : 1 < (nd u b k f s i).2.1) : nd u b k f s (i + 1) = dn u b k (nd u b k f s i).1 (nd u b k f s i).2.1 := by
  show (if (nd u b k f s i).2.1 ≤ 1 then _ else _) = _
  rw [if_neg (by omega)]
/-- along the way: the run holds the name, and shrinks -/
theorem nd_in {k N : Nat} (hb : 2 ≤ b) (hk : k < N) : ∀ i, (nd u b k 0 N i).1 ≤ k ∧ k < (nd u b k 0 N i).1 + (nd u b k 0 N i).2.1 ∧ (nd u b k 0 N i).1 + (nd u b k 0 N i).2.1 ≤ N ∧ ((nd u b k 0 N i).2.1 = 1 ∨ (nd u b k 0 N i).2.1 + i ≤ N) := by
  intro i
  induction i with
  | zero => exact ⟨Nat.zero_le k, by show k < 0 + N; omega, by show 0 + N ≤ N; omega, Or.inr (by show N + 0 ≤ N; omega)⟩
  | succ i ih =>
    by_cases c : (nd u b k 0 N i).2.1 ≤ 1
    · have e : nd u b k 0 N (i + 1) = ((nd u b k 0 N i).1, (nd u b k 0 N i).2.1, 0) := by
        show (if (nd u b k 0 N i).2.1 ≤ 1 then _ else _) = _
        rw [if_pos c]
      rw [e]
      dsimp only
      omega
    · rw [nd_succ (by omega)]
      have := dn_in (u := u) hb (show 2 ≤ (nd u b k 0 N i).2.1 by omega) ih.1 ih.2.1
      omega
theorem dep_le {k : Nat} (hb : 2 ≤ b) : ∀ n f s, 1 ≤ s → f ≤ k → k < f + s → dep u b k n f s + 1 ≤ s := by
  intro n
  induction n with
  | zero => intro f s h _ _; show 0 + 1 ≤ s; omega
  | succ n ih =>
    intro f s h h1 h2
    unfold dep
    split
    · omega
    · next c =>
      have q := dn_in (u := u) hb (show 2 ≤ s by omega) h1 h2
      have := ih (dn u b k f s).1 (dn u b k f s).2.1 (by omega) (by omega) (by omega)
      omega
/-- the length of the way -/
def plen (u : Nat → Nat) (b N k : Nat) : Nat := dep u b k 14 0 N
def pstep (u : Nat → Nat) (b N k i : Nat) : Nat := (nd u b k 0 N (i + 1)).2.2
theorem nd_dep {k N : Nat} (hb : 2 ≤ b) (hk : k < N) (hN : N ≤ 14) : ∀ i, i ≤ 14 → i ≤ plen u b N k → dep u b k (14 - i) (nd u b k 0 N i).1 (nd u b k 0 N i).2.1 + i = plen u b N k := by
  intro i
  induction i with
  | zero => intro _ _; rfl
  | succ i ih =>
    intro h14 hi
    have q := ih (by omega) (by omega)
    have r := nd_in (u := u) hb hk i
    obtain ⟨z, hz⟩ : ∃ z, 14 - i = z + 1 := ⟨14 - i - 1, by omega⟩
    rw [hz] at q
    unfold dep at q
    split at q
    · omega
    · next c =>
      rw [nd_succ (by omega), show 14 - (i + 1) = z by omega]
      omega
theorem plen_lt {k N : Nat} (hb : 2 ≤ b) (hk : k < N) : plen u b N k + 1 ≤ N := dep_le hb 14 0 N (by omega) (Nat.zero_le _) (by omega)
theorem nd_more {k N i : Nat} (hb : 2 ≤ b) (hk : k < N) (hN : N ≤ 14) (hi : i < plen u b N k) : 2 ≤ (nd u b k 0 N i).2.1 := by
  have h := plen_lt (u := u) hb hk
  have q := nd_dep (u := u) hb hk hN i (by omega) (by omega)
  obtain ⟨z, hz⟩ : ∃ z, 14 - i = z + 1 := ⟨14 - i - 1, by omega⟩
  rw [hz] at q
  unfold dep at q
  split at q <;> omega
theorem nd_end {k N : Nat} (hb : 2 ≤ b) (hk : k < N) (hN : N ≤ 14) : (nd u b k 0 N (plen u b N k)).2.1 = 1 := by
  have h := plen_lt (u := u) hb hk
  have q := nd_dep (u := u) hb hk hN (plen u b N k) (by omega) (Nat.le_refl _)
  have r := nd_in (u := u) hb hk (plen u b N k)
  obtain ⟨z, hz⟩ : ∃ z, 14 - plen u b N k = z + 1 := ⟨14 - plen u b N k - 1, by omega⟩
  rw [hz] at q
  unfold dep at q
  split at q <;> omega
theorem pstep_rng {k N i : Nat} (hb : 2 ≤ b) (hk : k < N) (hN : N ≤ 14) (hi : i < plen u b N k) : 1 ≤ pstep u b N k i ∧ pstep u b N k i ≤ b := by
  have m := nd_more (u := u) hb hk hN hi
  have r := nd_in (u := u) hb hk i
  have q := dn_in (u := u) hb m r.1 r.2.1
  unfold pstep
  rw [nd_succ (by omega)]
  omega
/-- j's path has the first i steps of k's -/
abbrev agr (l : Nat → Nat) (st : Nat → Nat → Nat) (j k i : Nat) : Prop := (i ≤ l j ∧ i ≤ l k) ∧ ∀ x, x < i → st j x = st k x
theorem agr_iff {j k N : Nat} (hb : 2 ≤ b) (hj : j < N) (hk : k < N) (hN : N ≤ 14) : ∀ i, i ≤ plen u b N k → ((agr (plen u b N) (pstep u b N) j k i → nd u b j 0 N i = nd u b k 0 N i ∨ i = 0) ∧ (agr (plen u b N) (pstep u b N) j k i → (nd u b j 0 N i).1 = (nd u b k 0 N i).1 ∧ (nd u b j 0 N i).2.1 = (nd u b k 0 N i).2.1) ∧ ((nd u b k 0 N i).1 ≤ j ∧ j < (nd u b k 0 N i).1 + (nd u b k 0 N i).2.1 → agr (plen u b N) (pstep u b N) j k i)) := by
  intro i
  induction i with
  | zero => intro _; exact ⟨fun _ => Or.inr rfl, fun _ => ⟨rfl, rfl⟩, fun _ => ⟨⟨Nat.zero_le _, Nat.zero_le _⟩, fun x hx => by omega⟩⟩
  | succ i ih =>
    intro hi
    obtain ⟨-, ih1, ih2⟩ := ih (by omega)
    have mk := nd_more (u := u) hb hk hN (show i < plen u b N k by omega)
    have rk := nd_in (u := u) hb hk i
    have rj := nd_in (u := u) hb hj i
    have ek := nd_succ (u := u) (b := b) (k := k) (f := 0) (s := N) (i := i) (by omega)
    have qk := dn_in (u := u) hb mk rk.1 rk.2.1
    have rB := BB_rng (u := u) (b := b) (f := (nd u b k 0 N i).1) hb mk
    have fwd : agr (plen u b N) (pstep u b N) j k (i + 1) → nd u b j 0 N (i + 1) = nd u b k 0 N (i + 1) := by
      intro a
      obtain ⟨e1, e2⟩ := ih1 ⟨⟨by have := a.1.1; omega, by omega⟩, fun x hx => a.2 x (by omega)⟩
      have ej := nd_succ (u := u) (b := b) (k := j) (f := 0) (s := N) (i := i) (by omega)
      have st := a.2 i (by omega)
      unfold pstep at st
      rw [ej, ek, e1, e2] at st ⊢
      unfold dn at st ⊢
      rcases Nat.le_total j k with z | z
      · rcases dsc_two (u := u) (b := b) z (BB u b (nd u b k 0 N i).1 (nd u b k 0 N i).2.1) (nd u b k 0 N i).1 (nd u b k 0 N i).2.1 1 (by omega) (by omega) (by omega) (by omega) with w | w
        · exact w
        · omega
      · rcases dsc_two (u := u) (b := b) z (BB u b (nd u b k 0 N i).1 (nd u b k 0 N i).2.1) (nd u b k 0 N i).1 (nd u b k 0 N i).2.1 1 (by omega) (by omega) (by omega) (by omega) with w | w
        · exact w.symm
        · omega
    refine ⟨fun a => Or.inl (fwd a), fun a => by rw [fwd a]; exact ⟨rfl, rfl⟩, fun ⟨h1, h2⟩ => ?_⟩
    rw [ek] at h1 h2
    have a := ih2 ⟨by omega, by omega⟩
    obtain ⟨e1, e2⟩ := ih1 a
    have ej := nd_succ (u := u) (b := b) (k := j) (f := 0) (s := N) (i := i) (by omega)
    have hlj : i < plen u b N j := by
      by_cases c : i = plen u b N j
      · have := nd_end (u := u) hb hj hN
        rw [← c] at this
        omega
      · have := a.1.1
        omega
    have same : nd u b j 0 N (i + 1) = nd u b k 0 N (i + 1) := by
      rw [ej, ek, e1, e2]
      unfold dn at h1 h2 ⊢
      rcases Nat.le_total j k with z | z
      · rcases dsc_two (u := u) (b := b) z (BB u b (nd u b k 0 N i).1 (nd u b k 0 N i).2.1) (nd u b k 0 N i).1 (nd u b k 0 N i).2.1 1 (by omega) (by omega) (by omega) (by omega) with w | w
        · exact w
        · have := dsc_in (u := u) (b := b) (k := j) (BB u b (nd u b k 0 N i).1 (nd u b k 0 N i).2.1) (nd u b k 0 N i).1 (nd u b k 0 N i).2.1 1 (by omega) (by omega) (by omega) (by omega)
          omega
      · rcases dsc_two (u := u) (b := b) z (BB u b (nd u b k 0 N i).1 (nd u b k 0 N i).2.1) (nd u b k 0 N i).1 (nd u b k 0 N i).2.1 1 (by omega) (by omega) (by omega) (by omega) with w | w
        · exact w.symm
        · have := dsc_in (u := u) (b := b) (k := j) (BB u b (nd u b k 0 N i).1 (nd u b k 0 N i).2.1) (nd u b k 0 N i).1 (nd u b k 0 N i).2.1 1 (by omega) (by omega) (by omega) (by omega)
          omega
    refine ⟨⟨by omega, hi⟩, fun x hx => ?_⟩
    by_cases c : x = i
    · rw [c]
      unfold pstep
      rw [same]
    · exact a.2 x (by omega)
end
