/-! THE ORDER OF NAMES -/
abbrev nltD (l1 : Nat) (t1 : Nat → Nat) (l2 : Nat) (t2 : Nat → Nat) : Prop := (∃ i, i < l1 ∧ (i < l2 ∧ (∀ j, j < i → t1 j = t2 j) ∧ t1 i < t2 i)) ∨ (l1 < l2 ∧ ∀ j, j < l1 → t1 j = t2 j)
theorem nltD_iff (l1 : Nat) (t1 : Nat → Nat) (l2 : Nat) (t2 : Nat → Nat) : nltD l1 t1 l2 t2 ↔ nlt l1 t1 l2 t2 := Iff.rfl
/-- letters, then zeros -/
def pd (l : Nat) (t : Nat → Nat) (i : Nat) : Nat := if i < l then t i else 0
theorem pd_in {l : Nat} {t : Nat → Nat} {i : Nat} (h : i < l) : pd l t i = t i := if_pos h
theorem pd_out {l : Nat} {t : Nat → Nat} {i : Nat} (h : ¬ i < l) : pd l t i = 0 := if_neg h
def plt (f g : Nat → Nat) : Prop := ∃ i, (∀ j, j < i → f j = g j) ∧ f i < g i
theorem plt_irr (f : Nat → Nat) : ¬ plt f f := fun ⟨_, _, h⟩ => Nat.lt_irrefl _ h
theorem plt_trans {f g k : Nat → Nat} (h1 : plt f g) (h2 : plt g k) : plt f k := by
  obtain ⟨i, a1, a2⟩ := h1
  obtain ⟨j, b1, b2⟩ := h2
  by_cases c : i < j
  · exact ⟨i, fun x hx => (a1 x hx).trans (b1 x (by omega)), by rw [← b1 i c]; exact a2⟩
  · by_cases d : i = j
    · subst d
      exact ⟨i, fun x hx => (a1 x hx).trans (b1 x hx), by omega⟩
    · exact ⟨j, fun x hx => (a1 x (by omega)).trans (b1 x hx), by rw [a1 j (by omega)]; exact b2⟩
theorem plt_pre (f g : Nat → Nat) : ∀ n, (∀ i, i < n → f i = g i) ∨ plt f g ∨ plt g f := by
  intro n
  induction n with
  | zero => exact Or.inl (fun i hi => absurd hi (Nat.not_lt_zero i))
  | succ n ih =>
    rcases ih with h | h
    · rcases Nat.lt_trichotomy (f n) (g n) with c | c | c
      · exact Or.inr (Or.inl ⟨n, h, c⟩)
      · refine Or.inl (fun i hi => ?_)
        by_cases e : i = n
        · rw [e]; exact c
        · exact h i (by omega)
      · exact Or.inr (Or.inr ⟨n, fun j hj => (h j hj).symm, c⟩)
    · exact Or.inr h
section
variable {l1 l2 : Nat} {t1 t2 : Nat → Nat}
theorem nlt_pd (h1 : ∀ i, i < l1 → 0 < t1 i) (h2 : ∀ i, i < l2 → 0 < t2 i) : nlt l1 t1 l2 t2 ↔ plt (pd l1 t1) (pd l2 t2) := by
  constructor
  · rintro (⟨i, a, b, c, d⟩ | ⟨a, b⟩)
    · exact ⟨i, fun j hj => by rw [pd_in (by omega), pd_in (by omega)]; exact c j hj, by rw [pd_in a, pd_in b]; exact d⟩
    · exact ⟨l1, fun j hj => by rw [pd_in hj, pd_in (by omega)]; exact b j hj, by rw [pd_out (Nat.lt_irrefl _), pd_in a]; exact h2 l1 a⟩
  · rintro ⟨i, a, b⟩
    have hi : i < l2 := by
      by_cases c : i < l2
      · exact c
      · rw [pd_out c] at b; omega
    rw [pd_in hi] at b
    by_cases c : i < l1
    · rw [pd_in c] at b
      refine Or.inl ⟨i, c, hi, fun j hj => ?_, b⟩
      have := a j hj
      rw [pd_in (by omega), pd_in (by omega)] at this
      exact this
    · refine Or.inr ⟨by omega, fun j hj => ?_⟩
      have := a j (by omega)
      rw [pd_in hj, pd_in (by omega)] at this
      exact this
theorem pd_eq (h1 : ∀ i, i < l1 → 0 < t1 i) (h2 : ∀ i, i < l2 → 0 < t2 i) (b1 : l1 ≤ 8) (b2 : l2 ≤ 8) : (∀ i, i < 8 → pd l1 t1 i = pd l2 t2 i) ↔ (l1 = l2 ∧ ∀ i, i < l1 → t1 i = t2 i) := by
  constructor
  · intro h
    have e : l1 = l2 := by
      by_cases c : l1 < l2
      · have := h l1 (by omega)
        rw [pd_out (Nat.lt_irrefl _), pd_in c] at this
        have := h2 l1 c
        omega
      · by_cases d : l2 < l1
        · have := h l2 (by omega)
          rw [pd_out (Nat.lt_irrefl l2), pd_in d] at this
          have := h1 l2 d
          omega
        · omega
    refine ⟨e, fun i hi => ?_⟩
    have := h i (by omega)
    rw [pd_in hi, pd_in (by omega)] at this
    exact this
  · rintro ⟨rfl, h⟩ i _
    unfold pd
    split
    · next c => exact h i c
    · rfl
theorem nlt_tri (h1 : ∀ i, i < l1 → 0 < t1 i) (h2 : ∀ i, i < l2 → 0 < t2 i) (b1 : l1 ≤ 8) (b2 : l2 ≤ 8) (hne : ¬ (l1 = l2 ∧ ∀ i, i < l1 → t1 i = t2 i)) : ¬ nlt l1 t1 l2 t2 → nlt l2 t2 l1 t1 := by
  intro h
  rw [nlt_pd h1 h2] at h
  rw [nlt_pd h2 h1]
  rcases plt_pre (pd l1 t1) (pd l2 t2) 8 with c | c | c
  · exact absurd ((pd_eq h1 h2 b1 b2).mp c) hne
  · exact absurd c h
  · exact c
theorem nlt_as (h1 : ∀ i, i < l1 → 0 < t1 i) (h2 : ∀ i, i < l2 → 0 < t2 i) : nlt l1 t1 l2 t2 → ¬ nlt l2 t2 l1 t1 := by
  rw [nlt_pd h1 h2, nlt_pd h2 h1]
  exact fun a b => plt_irr _ (plt_trans a b)
theorem nlt_tr {l3 : Nat} {t3 : Nat → Nat} (h1 : ∀ i, i < l1 → 0 < t1 i) (h2 : ∀ i, i < l2 → 0 < t2 i) (h3 : ∀ i, i < l3 → 0 < t3 i) : nlt l1 t1 l2 t2 → nlt l2 t2 l3 t3 → nlt l1 t1 l3 t3 := by
  rw [nlt_pd h1 h2, nlt_pd h2 h3, nlt_pd h1 h3]
  exact plt_trans
end
theorem cnt_down {P : Nat → Prop} [DecidablePred P] : ∀ N, (∀ j k, j < k → k < N → P k → P j) → ∀ k, k < N → (k < cnt P N ↔ P k) := by
  intro N
  induction N with
  | zero => intro _ k hk; omega
  | succ N ih =>
    intro h k hk
    have q := ih (fun j k a b => h j k a (by omega))
    rw [cnt_succ]
    by_cases c : P N
    · rw [if_pos c]
      have hN : cnt P N = N := by
        cases N with
        | zero => rfl
        | succ N =>
          have := (q N (by omega)).mpr (h N (N + 1) (by omega) (by omega) c)
          have := cnt_le P (N + 1)
          omega
      rw [hN]
      refine ⟨fun _ => ?_, fun _ => hk⟩
      by_cases e : k = N
      · rw [e]; exact c
      · exact h k N (by omega) (by omega) c
    · rw [if_neg c, Nat.add_zero]
      by_cases e : k = N
      · rw [e]
        have := cnt_le P N
        exact ⟨fun z => by omega, fun z => absurd z c⟩
      · exact q k (by omega)
/-- where a new name goes -/
def plc (v : Vw) (l : Nat) (t : Nat → Nat) : Nat := cnt (fun k => nltD (vl v k) (vt v k) l t) (vN v)
def insf {α : Type} (P : Nat) (x : α) (f : Nat → α) : Nat → α := fun j => if j < P then f j else if j = P then x else f (j - 1)
theorem ins_lt {α : Type} {P : Nat} {x : α} {f : Nat → α} {j : Nat} (h : j < P) : insf P x f j = f j := if_pos h
theorem ins_eq {α : Type} (P : Nat) (x : α) (f : Nat → α) : insf P x f P = x := by unfold insf; rw [if_neg (Nat.lt_irrefl _), if_pos rfl]
theorem ins_gt {α : Type} {P : Nat} {x : α} {f : Nat → α} {j : Nat} (h : P < j) : insf P x f j = f (j - 1) := by unfold insf; rw [if_neg (by omega), if_neg (by omega)]
def vins (v : Vw) (P l : Nat) (t : Nat → Nat) (u : Nat) : Vw := (vN v + 1, insf P l (vl v), insf P t (vt v), insf P u (vu v), vk v)
/-- a name that may come -/
def NOK (v : Vw) (l : Nat) (t : Nat → Nat) (u : Nat) : Prop := vN v < 14 ∧ (1 ≤ l ∧ l ≤ 8) ∧ (∀ i, i < l → 97 ≤ t i ∧ t i ≤ 122) ∧ (1 ≤ u ∧ u ≤ 99) ∧ ∀ k, k < vN v → ¬ (vl v k = l ∧ ∀ i, i < l → vt v k i = t i)
section
variable {v : Vw} {l u : Nat} {t : Nat → Nat}
theorem VOK.pos (vo : VOK v) {k : Nat} (hk : k < vN v) : ∀ i, i < vl v k → 0 < vt v k i := fun i hi => by have := (vo.2.2.1 k hk i hi).1; omega
theorem NOK.pos (n : NOK v l t u) : ∀ i, i < l → 0 < t i := fun i hi => by have := (n.2.2.1 i hi).1; omega
theorem plc_le : plc v l t ≤ vN v := cnt_le _ _
theorem plc_iff (vo : VOK v) (n : NOK v l t u) {k : Nat} (hk : k < vN v) : k < plc v l t ↔ nlt (vl v k) (vt v k) l t := by
  refine cnt_down (P := fun k => nltD (vl v k) (vt v k) l t) (vN v) (fun i j hij hj z => ?_) k hk
  exact nlt_tr (vo.pos (by omega)) (vo.pos hj) n.pos (vo.2.2.2.2.2 i j hij hj) z
theorem plc_ge (vo : VOK v) (n : NOK v l t u) {k : Nat} (hk : k < vN v) (h : ¬ k < plc v l t) : nlt l t (vl v k) (vt v k) := by
  rw [plc_iff vo n hk] at h
  exact nlt_tri (vo.pos hk) n.pos (vo.2.1 k hk).2 n.2.1.2 (fun z => n.2.2.2.2 k hk ⟨z.1, fun i hi => z.2 i (by omega)⟩) h
theorem VOK.insv (vo : VOK v) (n : NOK v l t u) : VOK (vins v (plc v l t) l t u) := by
  have h14 := vo.1
  have hP := plc_le (v := v) (l := l) (t := t)
  have lt := fun k (hk : k < vN v) => plc_iff vo n hk
  have ge := fun k (hk : k < vN v) => plc_ge vo n hk
  generalize plc v l t = P at *
  have cs : ∀ (Q : Nat → (Nat → Nat) → Nat → Prop), (∀ k, k < vN v → Q (vl v k) (vt v k) (vu v k)) → Q l t u → ∀ j, j < vN v + 1 → Q (insf P l (vl v) j) (insf P t (vt v) j) (insf P u (vu v) j) := by
    intro Q q1 q2 j hj
    rcases Nat.lt_trichotomy j P with c | c | c
    · rw [ins_lt c, ins_lt c, ins_lt c]; exact q1 j (by omega)
    · subst c; rw [ins_eq, ins_eq, ins_eq]; exact q2
    · rw [ins_gt c, ins_gt c, ins_gt c]; exact q1 (j - 1) (by omega)
  refine ⟨by show vN v + 1 ≤ 14; have := n.1; omega, ?_, ?_, ?_, vo.2.2.2.2.1, ?_⟩
  · exact cs (fun a b c => 1 ≤ a ∧ a ≤ 8) vo.2.1 n.2.1
  · exact cs (fun a b c => ∀ i, i < a → 97 ≤ b i ∧ b i ≤ 122) vo.2.2.1 n.2.2.1
  · exact cs (fun a b c => 1 ≤ c ∧ c ≤ 99) vo.2.2.2.1 n.2.2.2.1
  · intro j k hjk hk
    have hk' : k < vN v + 1 := hk
    show nlt (insf P l (vl v) j) (insf P t (vt v) j) (insf P l (vl v) k) (insf P t (vt v) k)
    rcases Nat.lt_trichotomy j P with c | c | c
    · rw [ins_lt c, ins_lt c]
      rcases Nat.lt_trichotomy k P with d | d | d
      · rw [ins_lt d, ins_lt d]; exact vo.2.2.2.2.2 j k hjk (by omega)
      · subst d; rw [ins_eq, ins_eq]; exact (lt j (by omega)).mp c
      · rw [ins_gt d, ins_gt d]; exact vo.2.2.2.2.2 j (k - 1) (by omega) (by omega)
    · subst c
      rw [ins_eq, ins_eq, ins_gt hjk, ins_gt hjk]
      exact ge (k - 1) (by omega) (by omega)
    · rw [ins_gt c, ins_gt c, ins_gt (show P < k by omega), ins_gt (show P < k by omega)]
      exact vo.2.2.2.2.2 (j - 1) (k - 1) (by omega) (by omega)
end
/-! who is ahead: the class and the model -/
section
variable {v w : Vw} {h : Hp} {t : Sq} {s : NS} {ea : Nat → Nat}
theorem E_before {j k e f : Nat} (ce : CE v j e h) (cf : CE w k f h) (b1 : vl v j ≤ 8) (b2' : vl w k ≤ 8) (t1 : ∀ i, i < vl v j → vt v j i < 1000) (t2 : ∀ i, i < vl w k → vt w k i < 1000) : f_X1_comesBefore e f h = some (b2 (nltD (vl v j) (vt v j) (vl w k) (vt w k))) := by
  have ge := EG ce (by omega)
  have gf := EG cf (by omega)
  unfold f_X1_comesBefore
  rw [ge.1]
  have fin : ((getR h 1 e 0).bind fun x18 => (aln h 11 x18).bind fun x19 => (getR h 1 f 0).bind fun x20 => (aln h 11 x20).bind fun x21 => (if x21 ≤ x19 then (some (nI 0)) else (some (nI 1))).bind fun (v22 : Int32) => (rz v22).bind fun r => some r) = some (b2 (vl v j < vl w k)) := by
    simp (disch := omega) only [ge, gf, Option.bind_some, nI_leI, ite_some, b2_def', rz_b2]
    exact congrArg some (b2_of (by omega))
  rw [fin]
  have key : ∀ n i, i ≤ vl v j → i ≤ vl w k → vl v j - i < n → (∀ x, x < i → vt v j x = vt w k x) → f_X1_comesBefore_L2 e f h (some (b2 (vl v j < vl w k))) n (nI i) = some (b2 (nltD (vl v j) (vt v j) (vl w k) (vt w k))) := by
    intro n
    induction n with
    | zero => intro i h1 h2 h3; omega
    | succ n ih =>
      intro i h1 h2 h3 h4
      unfold f_X1_comesBefore_L2
      simp (disch := omega) only [ge, gf, Option.bind_some]
      by_cases c1 : i = vl v j
      · rw [if_pos (nI_le (by omega) (by omega))]
        refine congrArg some (b2_of ⟨fun z => Or.inr ⟨z, fun x hx => h4 x (by omega)⟩, fun z => ?_⟩)
        rcases z with ⟨x, a, b, c, d⟩ | ⟨a, b⟩
        · have := h4 x (by omega); omega
        · exact a
      · rw [if_neg (nI_ge (by omega) (by omega))]
        by_cases c2 : i = vl w k
        · rw [if_pos (nI_le (by omega) (by omega))]
          refine congrArg some (b2_of ⟨fun z => by omega, fun z => ?_⟩)
          rcases z with ⟨x, a, b, c, d⟩ | ⟨a, b⟩
          · have := h4 x (by omega); omega
          · exact a
        · have g1 := t1 i (by omega)
          have g2 := t2 i (by omega)
          rw [if_neg (nI_ge (by omega) (by omega)), ge.2.2.2.2.2.2.1 i (by omega), gf.2.2.2.2.2.2.1 i (by omega)]
          simp (disch := omega) only [Option.bind_some, nI_eq, nI_leI, nI_add, ite_some, b2_def', rz_b2]
          by_cases c3 : vt v j i = vt w k i
          · rw [if_pos c3]
            refine ih (i + 1) (by omega) (by omega) (by omega) (fun x hx => ?_)
            by_cases ex : x = i
            · rw [ex]; exact c3
            · exact h4 x (by omega)
          · rw [if_neg c3]
            refine congrArg some (b2_of ⟨fun z => Or.inl ⟨i, by omega, by omega, h4, by omega⟩, fun z => ?_⟩)
            rcases z with ⟨x, a, b, c, d⟩ | ⟨a, b⟩
            · rcases Nat.lt_trichotomy x i with y | y | y
              · have := h4 x y; omega
              · subst y; omega
              · exact absurd (c i y) c3
            · exact absurd (b i (by omega)) c3
  exact key FU 0 (Nat.zero_le _) (Nat.zero_le _) (FU_gt (by omega)) (fun x hx => absurd hx (Nat.not_lt_zero x))
end
