/-! choice -/
theorem lp_find {β : Type} {W : Nat → Nat → β} {N : Nat} {P : Nat → Prop} {r0 : β} {g : Nat → β} (hx : ∀ n, W (n + 1) N = r0) (hs : ∀ n k, k < N → (P k → W (n + 1) k = g k) ∧ (¬ P k → W (n + 1) k = W n (k + 1))) :
    ∀ n k, k ≤ N → N - k < n → ((∀ i, k ≤ i → i < N → ¬ P i) → W n k = r0) ∧ (∀ i, k ≤ i → i < N → P i → (∀ j, k ≤ j → j < i → ¬ P j) → W n k = g i) := by
  intro n
  induction n with
  | zero => intro k h1 h2; omega
  | succ n ih =>
    intro k h1 h2
    by_cases e : k = N
    · subst e
      exact ⟨fun _ => hx n, fun i a b => by omega⟩
    · have hk : k < N := by omega
      have q := ih (k + 1) (by omega) (by omega)
      by_cases hp : P k
      · refine ⟨fun h => absurd hp (h k (Nat.le_refl k) hk), fun i a b c d => ?_⟩
        by_cases ei : k = i
        · subst ei; exact (hs n k hk).1 hp
        · exact absurd hp (d k (Nat.le_refl k) (by omega))
      · rw [(hs n k hk).2 hp]
        refine ⟨fun h => q.1 (fun i a b => h i (by omega) b), fun i a b c d => q.2 i ?_ b c (fun j x y => d j (by omega) y)⟩
        by_cases ei : k = i
        · subst ei; exact absurd c hp
        · omega
theorem cnt_mono {P Q : Nat → Prop} [DecidablePred P] [DecidablePred Q] {k : Nat} (h : ∀ i, i < k → P i → Q i) : cnt P k ≤ cnt Q k := by
  induction k with
  | zero => exact Nat.le_refl 0
  | succ k ih =>
    have := ih (fun i hi => h i (by omega))
    rw [cnt_succ, cnt_succ]
    by_cases z : P k
    · rw [if_pos z, if_pos (h k (by omega) z)]; omega
    · rw [if_neg z]; omega
theorem cnt_lt {P Q : Nat → Prop} [DecidablePred P] [DecidablePred Q] {k j : Nat} (h : ∀ i, i < k → P i → Q i) (hj : j < k) (h1 : Q j) (h2 : ¬ P j) : cnt P k < cnt Q k := by
  induction k with
  | zero => omega
  | succ k ih =>
    rw [cnt_succ, cnt_succ]
    by_cases e : j = k
    · subst e
      have := cnt_mono (P := P) (Q := Q) (k := j) (fun i hi => h i (by omega))
      rw [if_neg h2, if_pos h1]
      omega
    · have := ih (fun i hi => h i (by omega)) (by omega)
      by_cases z : P k
      · rw [if_pos z, if_pos (h k (by omega) z)]; omega
      · rw [if_neg z]; omega
section
variable {h : Hp} {a b cap n : Nat}
theorem RowAt.ins (r : RowAt h a b cap n) (hn1 : n < cap) (hc : cap < 200) {q : Nat} (hq : q ≤ n) (x : Int32) : ∃ h', f_X8_insert a (nI q) x h = some h' ∧ OnlyI (fun z => z = a ∨ z = b) h h' ∧ hI h' a 1 = nI (n + 1) ∧ ∀ j, j ≤ n → hI h' b j = if j < q then hI h b j else if j = q then x else hI h b (j - 1) := by
  have hf := r.full
  obtain ⟨hO, hr, hb, hn, h1, h2, hab⟩ := r
  have key : ∀ (K : Hp → Option Hp) (f y : Nat) (g : Hp), q ≤ y → y ≤ n → y - q < f → OnlyI (fun z => z = b) h g → (∀ j, j ≤ n → hI g b j = if j ≤ y then hI h b j else hI h b (j - 1)) →
      ∃ g', f_X8_insert_L25 a (nI q) x K f (nI y) g = K g' ∧ OnlyI (fun z => z = b) h g' ∧ (∀ j, j ≤ n → hI g' b j = if j ≤ q then hI h b j else hI h b (j - 1)) := by
    intro K f
    induction f with
    | zero => intro y g p1 p2 p3; omega
    | succ f ih =>
      intro y g p1 p2 p3 p4 p5
      unfold f_X8_insert_L25
      by_cases c : y = q
      · subst c
        rw [if_pos (nI_le (Nat.le_refl y) (by omega))]
        exact ⟨g, rfl, p4, p5⟩
      · have hOg : a < hN g ∧ (hK g a).1 = 8 := by rw [p4.1.1, p4.1.2.1]; exact hO
        have hrg : hR g a 0 = some b := by rw [p4.1.2.2.1]; exact hr
        have hbg : b < hN g ∧ hK g b = (11, cap) := by rw [p4.1.1, p4.1.2.1]; exact hb
        obtain ⟨z, rfl⟩ : ∃ z, y = z + 1 := ⟨y - 1, by omega⟩
        rw [if_neg (nI_ge (by omega) (by omega))]
        simp only [getR_of hOg hrg, Option.bind_some, pk_sub (show 1 ≤ z + 1 by omega), ald_of hbg h2 (show z + 1 - 1 < cap by omega), ast_of hbg h2 (show z + 1 < cap by omega), nI_m1]
        refine ih z _ (by omega) (by omega) (by omega) (p4.put rfl) (fun j hj => ?_)
        rw [hI_setI_eq]
        by_cases e : j = z + 1
        · subst e
          rw [upd_same, if_neg (by omega), p5 _ (by omega), if_pos (by omega)]
        · rw [upd_ne _ _ e, p5 j hj]
          by_cases e2 : j ≤ z
          · rw [if_pos e2, if_pos (by omega)]
          · rw [if_neg e2, if_neg (by omega)]
  unfold f_X8_insert
  simp only [gd_of hO, hf, Option.bind_some, b2_f (show ¬ cap ≤ n by omega), if_true, getI_of hO, hn, if_neg (nI_lt0 q (by omega)), if_pos (nI_le hq (show n < 2 ^ 31 by omega))]
  obtain ⟨g, e1, e2, e3⟩ := key (fun h9 => (getR h9 8 a 0).bind fun x10 => (ast h9 x10 (nI q) x).bind fun h11 => (getI h11 8 a 1).bind fun x12 => (putI h11 8 a 1 (x12 + (nI 1))).bind fun h13 => some h13) FU n h hq (Nat.le_refl n) (FU_gt (by omega)) OnlyI.rf (fun j hj => by rw [if_pos hj])
  have hOg : a < hN g ∧ (hK g a).1 = 8 := by rw [e2.1.1, e2.1.2.1]; exact hO
  have hrg : hR g a 0 = some b := by rw [e2.1.2.2.1]; exact hr
  have hbg : b < hN g ∧ hK g b = (11, cap) := by rw [e2.1.1, e2.1.2.1]; exact hb
  have hOg1 : a < hN (setI g b q x) ∧ (hK (setI g b q x) a).1 = 8 := hOg
  have hn' : hI g a 1 = nI n := by rw [e2.2 a hab]; exact hn
  refine ⟨setI (setI g b q x) a 1 (nI (n + 1)), ?_, ?_, ?_, fun j hj => ?_⟩
  · rw [e1]
    simp only [getR_of hOg hrg, Option.bind_some, ast_of hbg h2 (show q < cap by omega), getI_of hOg1, putI_of hOg1, hI_setI_ne g q x hab, hn', nI_add]
  · exact ((e2.mono (fun z e => Or.inr e)).put (Or.inr rfl)).put (Or.inl rfl)
  · rw [hI_setI_eq, upd_same]
  · rw [hI_setI_ne _ _ _ (Ne.symm hab), hI_setI_eq]
    by_cases e : j = q
    · subst e
      rw [upd_same, if_neg (by omega), if_pos rfl]
    · rw [upd_ne _ _ e, e3 j hj]
      by_cases e4 : j < q
      · rw [if_pos e4, if_pos (by omega)]
      · rw [if_neg e4, if_neg (by omega), if_neg e]
end
/-- how many of the chosen below k are ahead of j -/
def rk (v : Vw) (p : Sq) (j k : Nat) : Nat := cnt (fun i => ch v p i ∧ ah v i j) k
theorem ah_tr {v : Vw} {a b c : Nat} (h1 : ah v a b) (h2 : ah v b c) : ah v a c := by unfold ah at *; omega
theorem ah_irr {v : Vw} {a : Nat} : ¬ ah v a a := by unfold ah; omega
theorem ah_tot {v : Vw} {a b : Nat} (h : a ≠ b) (h1 : ¬ ah v a b) : ah v b a := by unfold ah at *; omega
theorem ah_as {v : Vw} {a b : Nat} (h : ah v a b) : ¬ ah v b a := fun z => ah_irr (ah_tr h z)
/-- the list of the chosen below k -/
def LI (v : Vw) (p : Sq) (k n : Nat) (s : Nat → Nat) : Prop := n = cnt (ch v p) k ∧ (∀ j, j < k → ch v p j → rk v p j k < n ∧ s (rk v p j k) = j) ∧ ∀ q, q < n → s q < k ∧ ch v p (s q) ∧ rk v p (s q) k = q
theorem LI.zero {v : Vw} {p : Sq} {s : Nat → Nat} : LI v p 0 0 s := ⟨rfl, fun j hj => by omega, fun q hq => by omega⟩
theorem rk_succ (v : Vw) (p : Sq) (j k : Nat) : rk v p j (k + 1) = rk v p j k + if (ch v p k ∧ ah v k j) then 1 else 0 := rfl
theorem LI.skip {v : Vw} {p : Sq} {k n : Nat} {s : Nat → Nat} (l : LI v p k n s) (hc : ¬ ch v p k) : LI v p (k + 1) n s := by
  obtain ⟨h1, h2, h3⟩ := l
  have e : ∀ j, rk v p j (k + 1) = rk v p j k := fun j => by rw [rk_succ, if_neg (fun z => hc z.1)]; rfl
  refine ⟨by rw [cnt_succ, if_neg hc]; exact h1, fun j hj hcj => ?_, fun q hq => ?_⟩
  · rw [e]
    refine h2 j ?_ hcj
    by_cases z : j = k
    · rw [z] at hcj; exact absurd hcj hc
    · omega
  · rw [e]
    exact ⟨by have := (h3 q hq).1; omega, (h3 q hq).2⟩
theorem LI.bhd {v : Vw} {p : Sq} {k n : Nat} {s : Nat → Nat} (l : LI v p k n s) : ∀ q, q < n → (rk v p k k ≤ q ↔ ah v k (s q)) := by
  intro q hq
  obtain ⟨a, b, c⟩ := l.2.2 q hq
  constructor
  · intro z
    by_cases y : ah v k (s q)
    · exact y
    · have y2 := ah_tot (show k ≠ s q by omega) y
      have : rk v p (s q) k < rk v p k k := cnt_lt (j := s q) (fun i hi w => ⟨w.1, ah_tr w.2 y2⟩) a ⟨b, y2⟩ (fun w => ah_irr w.2)
      omega
  · intro z
    have : rk v p k k ≤ rk v p (s q) k := cnt_mono (fun i hi w => ⟨w.1, ah_tr w.2 z⟩)
    omega
theorem LI.place {v : Vw} {p : Sq} {k n : Nat} {s : Nat → Nat} (l : LI v p k n s) : rk v p k k ≤ n := by
  rw [l.1]
  exact cnt_mono (fun i hi w => w.1)
theorem LI.ins {v : Vw} {p : Sq} {k n : Nat} {s : Nat → Nat} (l : LI v p k n s) (hc : ch v p k) : LI v p (k + 1) (n + 1) (fun j => if j < rk v p k k then s j else if j = rk v p k k then k else s (j - 1)) := by
  have hb := l.bhd
  have hp := l.place
  obtain ⟨h1, h2, h3⟩ := l
  have ek : rk v p k (k + 1) = rk v p k k := by rw [rk_succ, if_neg (fun z => ah_irr z.2)]; rfl
  refine ⟨by rw [cnt_succ, if_pos hc, h1], fun j hj hcj => ?_, fun q hq => ?_⟩
  · by_cases z : j = k
    · subst z
      rw [ek]
      exact ⟨by omega, by show (if rk v p j j < rk v p j j then _ else if rk v p j j = rk v p j j then j else _) = j; rw [if_neg (by omega), if_pos rfl]⟩
    · obtain ⟨q1, q2⟩ := h2 j (by omega) hcj
      have hbq := hb _ q1
      rw [q2] at hbq
      rw [rk_succ]
      by_cases y : ah v k j
      · rw [if_pos ⟨hc, y⟩]
        have := hbq.mpr y
        refine ⟨by omega, ?_⟩
        show (if rk v p j k + 1 < rk v p k k then _ else if rk v p j k + 1 = rk v p k k then k else s (rk v p j k + 1 - 1)) = j
        rw [if_neg (by omega), if_neg (by omega), Nat.add_sub_cancel, q2]
      · rw [if_neg (fun w => y w.2)]
        have : ¬ rk v p k k ≤ rk v p j k := fun w => y (hbq.mp w)
        refine ⟨by omega, ?_⟩
        show (if rk v p j k < rk v p k k then s (rk v p j k) else _) = j
        rw [if_pos (by omega), q2]
  · show (if q < rk v p k k then s q else if q = rk v p k k then k else s (q - 1)) < k + 1 ∧ ch v p (if q < rk v p k k then s q else if q = rk v p k k then k else s (q - 1)) ∧ rk v p (if q < rk v p k k then s q else if q = rk v p k k then k else s (q - 1)) (k + 1) = q
    by_cases y : q < rk v p k k
    · rw [if_pos y]
      obtain ⟨a, b, c⟩ := h3 q (by omega)
      refine ⟨by omega, b, ?_⟩
      rw [rk_succ, if_neg (fun w => by have := (hb q (by omega)).mpr w.2; omega), c]; rfl
    · rw [if_neg y]
      by_cases z : q = rk v p k k
      · rw [if_pos z]
        exact ⟨by omega, hc, by rw [ek]; exact z.symm⟩
      · rw [if_neg z]
        obtain ⟨a, b, c⟩ := h3 (q - 1) (by omega)
        refine ⟨by omega, b, ?_⟩
        rw [rk_succ, if_pos ⟨hc, (hb (q - 1) (by omega)).mp (by omega)⟩, c]
        omega
section
variable {pm : Nat} {v : Vw} {t p : Sq} {m : Mn} {c : Nat → Int32} {h : Hp} {ea : Nat → Nat}
theorem CI.fr {h' : Hp} (hc : CI p h) (e3 : hI h' 3 = hI h 3) (e4 : hI h' 4 = hI h 4) : CI p h' := by unfold CI at *; rw [e3, e4]; exact hc
theorem C_place (hL : Lay h) (cn : CN v ea h) (vo : VOK v) {k n : Nat} {s : Nat → Nat} (hk : k < vN v) (l : LI v p k n s) (hn : hI h 15 1 = nI n) (hs : ∀ q, q < n → hI h 16 q = nI (s q)) : f_X0_placeInList 14 8 (nI k) h = some (nI (rk v p k k)) := by
  have h14 := vo.1
  have hn14 : n ≤ 14 := by have := cnt_le (ch v p) k; have := l.1; omega
  have r : RowAt h 15 16 14 n := ⟨hL.o (by decide) rfl, hL.r 17 rfl, hL.a (by decide) rfl, hn, hn14, by decide, by decide⟩
  have hp := l.place
  unfold f_X0_placeInList
  simp only [gd_14 hL, CG hL, Option.bind_some, r.size]
  have key : ∀ f y, rk v p k k ≤ y → y ≤ n → y - rk v p k k < f → f_X0_placeInList_L8 14 8 (nI k) h (fun y8 => some y8) f (nI y) = some (nI (rk v p k k)) := by
    intro f
    induction f with
    | zero => intro y p1 p2 p3; omega
    | succ f ih =>
      intro y p1 p2 p3
      unfold f_X0_placeInList_L8
      by_cases c0 : y = 0
      · subst c0
        rw [if_pos (nI_le (Nat.le_refl 0) (by decide)), show rk v p k k = 0 by omega]
      · obtain ⟨z, rfl⟩ : ∃ z, y = z + 1 := ⟨y - 1, by omega⟩
        obtain ⟨a, b, d⟩ := l.2.2 z (by omega)
        have hb := l.bhd z (by omega)
        rw [if_neg (nI_ge (by omega) (by omega))]
        simp only [CG hL, Option.bind_some, pk_sub (show 1 ≤ z + 1 by omega), Nat.add_sub_cancel, r.get (show z < n by omega), hs z (by omega), R_ahead hL cn vo hk (show s z < vN v by omega), b2_eq0, nI_m1]
        by_cases w : ah v k (s z)
        · rw [if_neg (fun x => x w)]
          exact ih z (hb.mpr w) (by omega) (by omega)
        · rw [if_pos w]
          have : ¬ rk v p k k ≤ z := fun x => w (hb.mp x)
          rw [show rk v p k k = z + 1 by omega]
  exact key FU n hp (Nat.le_refl n) (FU_gt (by omega))
theorem C_list (sc : SC pm v t p m c h) (vo : VOK v) (hp : IOK p) : ∃ n s h', f_X0_listFor 14 8 3 h = some (15, h') ∧ OnlyI (fun q => q = 15 ∨ q = 16) h h' ∧ n ≤ 14 ∧ hI h' 15 1 = nI n ∧ (∀ q, q < n → hI h' 16 q = nI (s q)) ∧ LI v p (vN v) n s := by
  have hL := sc.1
  obtain ⟨-, -, hc, -, ⟨ea, cn⟩, -⟩ := sc
  have h14 := vo.1
  have key : ∀ (K : Hp → Option (Nat × Hp)) (f k n : Nat) (s : Nat → Nat) (g : Hp), k ≤ vN v → vN v - k < f → OnlyI (fun q => q = 15 ∨ q = 16) h g → hI g 15 1 = nI n → (∀ q, q < n → hI g 16 q = nI (s q)) → LI v p k n s →
      ∃ n' s' g', f_X0_listFor_L10 14 8 3 K f (nI k) g = K g' ∧ OnlyI (fun q => q = 15 ∨ q = 16) h g' ∧ n' ≤ 14 ∧ hI g' 15 1 = nI n' ∧ (∀ q, q < n' → hI g' 16 q = nI (s' q)) ∧ LI v p (vN v) n' s' := by
    intro K f
    induction f with
    | zero => intro k n s g p1 p2; omega
    | succ f ih =>
      intro k n s g p1 p2 p3 p4 p5 p6
      have hn14 : n ≤ k := by have := cnt_le (ch v p) k; have := p6.1; omega
      have hLg : Lay g := hL.ss p3.1
      have cng : CN v ea g := cn.fr p3.1 (p3.2 8 (by omega)) (fun q hq => p3.2 q (by omega))
      have hcg : CI p g := hc.fr (p3.2 3 (by omega)) (p3.2 4 (by omega))
      unfold f_X0_listFor_L10
      by_cases c0 : k = vN v
      · subst c0
        simp only [R_size hLg cng, Option.bind_some, if_pos (nI_le (Nat.le_refl (vN v)) (show vN v < 2 ^ 31 by omega))]
        exact ⟨n, s, g, rfl, p3, by omega, p4, p5, p6⟩
      · have hk : k < vN v := by omega
        simp only [R_size hLg cng, Option.bind_some, if_neg (nI_ge hk (show vN v < 2 ^ 31 by omega)), R_begins hLg cng vo hp hcg hk, b2_eq0, nI_add]
        by_cases w : ch v p k
        · have r : RowAt g 15 16 14 n := ⟨hLg.o (by decide) rfl, hLg.r 17 rfl, hLg.a (by decide) rfl, p4, by omega, by decide, by decide⟩
          obtain ⟨g', q1, q2, q3, q4⟩ := r.ins (by omega) (by decide) p6.place (nI k)
          rw [if_neg (fun x => x w)]
          simp only [CG hLg, Option.bind_some, C_place hLg cng vo hk p6 p4 p5, q1]
          refine ih (k + 1) (n + 1) _ g' (by omega) (by omega) (p3.tr q2) q3 (fun q hq => ?_) (p6.ins w)
          rw [q4 q (by omega)]
          by_cases y : q < rk v p k k
          · rw [if_pos y, if_pos y]; exact p5 q (by have := p6.place; omega)
          · rw [if_neg y, if_neg y]
            by_cases z : q = rk v p k k
            · rw [if_pos z, if_pos z]
            · rw [if_neg z, if_neg z]; exact p5 (q - 1) (by omega)
        · rw [if_pos w]
          exact ih (k + 1) n s g (by omega) (by omega) p3 p4 p5 (p6.skip w)
  have r : RowAt (setI h 15 1 (nI 0)) 15 16 14 0 := ⟨hL.o (by decide) rfl, hL.r 17 rfl, hL.a (by decide) rfl, by rw [hI_setI_eq, upd_same], by omega, by decide, by decide⟩
  unfold f_X0_listFor f_X8_clear
  have o15 : 15 < hN h ∧ (hK h 15).1 = 8 := hL.o (by decide) rfl
  simp only [gd_14 hL, CG hL, Option.bind_some, gd_of o15, getI_of o15, putI_of o15]
  obtain ⟨n', s', g', q1, q2, q3, q4, q5, q6⟩ := key (fun h11 => (getR h11 0 14 0).bind fun x12 => some (x12, h11)) FU 0 0 (fun _ => 0) (setI h 15 1 (nI 0)) (Nat.zero_le _) (FU_gt (by omega)) (OnlyI.set (Or.inl rfl)) (by rw [hI_setI_eq, upd_same]) (fun q hq => by omega) LI.zero
  have hLg : Lay g' := hL.ss q2.1
  refine ⟨n', s', g', ?_, q2, q3, q4, q5, q6⟩
  rw [q1]
  simp only [CG hLg, Option.bind_some]
theorem M_chosen (sm : SM v t p m c h) (vo : VOK v) (hp : IOK p) {k : Nat} (hk : k < vN v) : f_X10_isChosen 77 (nI k) h = some (b2 (ch v p k)) := by
  have hL := sm.1
  have mn := sm.2.2.2.2.1
  have mk := sm.2.2.2.1
  have mi := sm.2.2.1
  have h14 := vo.1
  have hl := vo.2.1 k hk
  have hp1 := hp.1
  unfold f_X10_isChosen
  simp (disch := omega) only [gd_77 hL, MG hL, MV mn, mi.1, Option.bind_some, nI_ltI, ite_some]
  have k0 : ∀ n x, f_X10_isChosen_L21 77 (nI k) h (fun y11 => (rz y11).bind fun r => some r) (n + 1) (nI 0) x = some (nI 0) := by
    intro n x
    unfold f_X10_isChosen_L21
    simp only [MG hL, Option.bind_some]
    by_cases c : hI h 77 10 ≤ x
    · rw [if_pos c]; rfl
    · rw [if_neg c, if_pos trivial]; rfl
  by_cases c : vl v k < p.1
  · rw [if_pos c, b2_f (fun z => by have := z.1; omega)]
    exact k0 255 _
  · rw [if_neg c]
    have q := lp_all0 (W := fun n i => f_X10_isChosen_L21 77 (nI k) h (fun y11 => (rz y11).bind fun r => some r) n (nI 1) (nI i)) (N := p.1) (P := fun i => vd v k i = p.2 i) (r1 := some (nI 1)) (r0 := some (nI 0)) (fun n => ?_) (fun n i hi hn => ?_) (n := FU) (FU_gt (by omega))
    · refine q.trans ?_
      rw [ite_some, b2_def]
      exact congrArg some (b2_of ⟨fun z => ⟨by omega, z⟩, fun z => z.2⟩)
    · show f_X10_isChosen_L21 _ _ _ _ _ _ _ = _
      unfold f_X10_isChosen_L21
      simp only [MG hL, mi.1, Option.bind_some, if_pos (nI_le (Nat.le_refl p.1) (show p.1 < 2 ^ 31 by omega))]
      rfl
    · have e1 : ¬ nI p.1 ≤ nI i := nI_ge hi (by omega)
      have r1 := vd_rng vo hk (show i < vl v k by omega)
      have r2 := hp.2 i hi
      constructor
      · intro a
        show f_X10_isChosen_L21 _ _ _ _ _ _ _ = f_X10_isChosen_L21 _ _ _ _ _ _ _
        conv => lhs; unfold f_X10_isChosen_L21
        simp (disch := omega) only [MG hL, mi.1, if_neg e1, if_neg nI01, M_code hL mn mk vo hk (show i < vl v k by omega), mi.2 i hi, Option.bind_some, a, if_true, nI_add]
      · intro a
        show f_X10_isChosen_L21 _ _ _ _ _ _ _ = _
        obtain ⟨m, rfl⟩ : ∃ m, n = m + 1 := ⟨n - 1, by omega⟩
        unfold f_X10_isChosen_L21
        simp (disch := omega) only [MG hL, mi.1, if_neg e1, if_neg nI01, M_code hL mn mk vo hk (show i < vl v k by omega), mi.2 i hi, Option.bind_some, nI_eq, if_neg a, nI_add]
        exact k0 m _
theorem M_rank (sm : SM v t p m c h) (vo : VOK v) (hp : IOK p) {k : Nat} (hk : k < vN v) : f_X10_chosenAhead 77 (nI k) h = some (nI (rk v p k (vN v))) := by
  have hL := sm.1
  have mn := sm.2.2.2.2.1
  have h14 := vo.1
  unfold f_X10_chosenAhead
  rw [gd_77 hL]
  refine lp_up (W := fun n i => f_X10_chosenAhead_L4 77 (nI k) h (fun y8 => some y8) n (nI (rk v p k i)) (nI i)) (N := vN v) (fun n => ?_) (fun n i hi => ?_) FU 0 (Nat.zero_le _) (FU_gt (by omega))
  · show f_X10_chosenAhead_L4 _ _ _ _ _ _ _ = _
    unfold f_X10_chosenAhead_L4
    simp only [MG hL, mn.1, Option.bind_some, if_pos (nI_le (Nat.le_refl (vN v)) (show vN v < 2 ^ 31 by omega))]
  · show f_X10_chosenAhead_L4 _ _ _ _ _ _ _ = f_X10_chosenAhead_L4 _ _ _ _ _ _ _
    conv => lhs; unfold f_X10_chosenAhead_L4
    simp only [MG hL, mn.1, Option.bind_some, if_neg (nI_ge hi (show vN v < 2 ^ 31 by omega)), M_chosen sm vo hp hi, M_ahead hL mn vo hi hk, ite_some, b2_bnd, nI_add]
    rw [show (if b2 (ch v p i) = nI 0 then nI 0 else b2 (ah v i k)) = b2 (ch v p i ∧ ah v i k) from by simp only [b2_eq0, b2_nor, Classical.not_not], nI_b2]
    rfl
theorem M_choice_in (sm : SM v t p m c h) (vo : VOK v) (hp : IOK p) {n : Nat} {s : Nat → Nat} (l : LI v p (vN v) n s) {q : Nat} (hq : q < n) : f_X10_choice 77 (nI q) h = some (nI (s q)) := by
  have hL := sm.1
  have mn := sm.2.2.2.2.1
  have h14 := vo.1
  have hn14 : n ≤ vN v := by have := cnt_le (ch v p) (vN v); have := l.1; omega
  unfold f_X10_choice
  rw [gd_77 hL]
  have w := lp_find (W := fun n i => f_X10_choice_L2 77 (nI q) h (some m101) n (nI i)) (N := vN v) (P := fun i => ch v p i ∧ rk v p i (vN v) = q) (r0 := some m101) (g := fun i => some (nI i)) (fun n => ?_) (fun n i hi => ?_) FU 0 (Nat.zero_le _) (FU_gt (by omega))
  · obtain ⟨a, b, d⟩ := l.2.2 q hq
    exact w.2 (s q) (Nat.zero_le _) a ⟨b, d⟩ (fun j _ hj z => by
      have := (l.2.1 j (by omega) z.1).2
      rw [z.2] at this
      omega)
  · show f_X10_choice_L2 _ _ _ _ _ _ = _
    unfold f_X10_choice_L2
    simp only [MG hL, mn.1, Option.bind_some, if_pos (nI_le (Nat.le_refl (vN v)) (show vN v < 2 ^ 31 by omega))]
  · have hr := cnt_le (fun j => ch v p j ∧ ah v j i) (vN v)
    have hr' : rk v p i (vN v) ≤ vN v := hr
    constructor
    · intro z
      show f_X10_choice_L2 _ _ _ _ _ _ = _
      unfold f_X10_choice_L2
      simp (disch := omega) only [MG hL, mn.1, Option.bind_some, if_neg (nI_ge hi (show vN v < 2 ^ 31 by omega)), M_chosen sm vo hp hi, M_rank sm vo hp hi, b2_eq0, nI_eq]
      rw [if_neg (fun x => x z.1), if_pos z.2]
    · intro z
      show f_X10_choice_L2 _ _ _ _ _ _ = f_X10_choice_L2 _ _ _ _ _ _
      conv => lhs; unfold f_X10_choice_L2
      simp (disch := omega) only [MG hL, mn.1, Option.bind_some, if_neg (nI_ge hi (show vN v < 2 ^ 31 by omega)), M_chosen sm vo hp hi, M_rank sm vo hp hi, b2_eq0, nI_eq, nI_add]
      by_cases y : ch v p i
      · rw [if_neg (fun x => x y), if_neg (fun x => z ⟨y, x⟩)]
      · rw [if_pos y]
theorem M_choice_out (sm : SM v t p m c h) (vo : VOK v) (hp : IOK p) {n : Nat} {s : Nat → Nat} (l : LI v p (vN v) n s) {x : Int32} (hx : x < nI 0 ∨ nI n ≤ x) : f_X10_choice 77 x h = some m101 := by
  have hL := sm.1
  have mn := sm.2.2.2.2.1
  have h14 := vo.1
  have hn14 : n ≤ vN v := by have := cnt_le (ch v p) (vN v); have := l.1; omega
  unfold f_X10_choice
  rw [gd_77 hL]
  refine (lp_find (W := fun n i => f_X10_choice_L2 77 x h (some m101) n (nI i)) (N := vN v) (P := fun _ => False) (r0 := some m101) (g := fun i => some (nI i)) (fun n => ?_) (fun n i hi => ?_) FU 0 (Nat.zero_le _) (FU_gt (by omega))).1 (fun _ _ _ z => z)
  · show f_X10_choice_L2 _ _ _ _ _ _ = _
    unfold f_X10_choice_L2
    simp only [MG hL, mn.1, Option.bind_some, if_pos (nI_le (Nat.le_refl (vN v)) (show vN v < 2 ^ 31 by omega))]
  · refine ⟨fun z => z.elim, fun _ => ?_⟩
    show f_X10_choice_L2 _ _ _ _ _ _ = f_X10_choice_L2 _ _ _ _ _ _
    conv => lhs; unfold f_X10_choice_L2
    simp (disch := omega) only [MG hL, mn.1, Option.bind_some, if_neg (nI_ge hi (show vN v < 2 ^ 31 by omega)), M_chosen sm vo hp hi, M_rank sm vo hp hi, b2_eq0, nI_add]
    by_cases y : ch v p i
    · rw [if_neg (fun x => x y), if_neg]
      rintro rfl
      have := (l.2.1 i hi y).1
      rcases hx with z | z
      · exact nI_lt0 _ (by omega) z
      · rw [nI_leI (by omega) (by omega)] at z; omega
    · rw [if_pos y]
theorem op_choice (sc : SC pm v t p m c h) (sm : SM v t p m c h) (vo : VOK v) (hp : IOK p) (x : Int32) : Both (f_X9_choice 0 x) (fun h => (f_X10_choice 77 x h).bind fun y => some (y, h)) h (fun h2 => SC pm v t p m c h2 ∧ SM v t p m c h2) := by
  have hL := sc.1
  have hpm := sc.2.2.2.2.2.1.two
  obtain ⟨n, s, h', q1, q2, q3, q4, q5, q6⟩ := C_list sc vo hp
  have hL' : Lay h' := hL.ss q2.1
  have oc : OC pm h h' := OC.of (q2.mono (fun q z => by unfold scrC; omega))
  have sc' := sc.oc oc
  have sm' := sm.oc hpm oc
  have r : RowAt h' 15 16 14 n := ⟨hL'.o (by decide) rfl, hL'.r 17 rfl, hL'.a (by decide) rfl, q4, q3, by decide, by decide⟩
  have e : ∀ y, f_X8_get 15 x h' = some y → f_X9_choice 0 x h = some (y, h') := by
    intro y hy
    unfold f_X9_choice
    simp only [gd_0 hL, CG hL, Option.bind_some, q1, hy]
  rcases ix_cases x (n := n) (by omega) with c1 | ⟨c0, c1⟩ | ⟨k, hk, rfl⟩
  · exact ⟨m101, h', h', e _ (r.getN (Or.inl c1)), by simp only [M_choice_out sm' vo hp q6 (Or.inl c1), Option.bind_some], sc', sm'⟩
  · exact ⟨m101, h', h', e _ (r.getN (Or.inr c1)), by simp only [M_choice_out sm' vo hp q6 (Or.inr c1), Option.bind_some], sc', sm'⟩
  · exact ⟨nI (s k), h', h', e _ (by rw [r.get hk, q5 k hk]), by simp only [M_choice_in sm' vo hp q6 hk, Option.bind_some], sc', sm'⟩
end
