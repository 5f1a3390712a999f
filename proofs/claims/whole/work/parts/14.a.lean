set_option maxRecDepth 10000 in
theorem c_X8_init (en : EN) (a0 : Nat) (a1 : Int32) (h : Hp) (x0 : Hp) (e : f_X8_init a0 a1 h = some x0) : Ct en yX8_init cX8_init 2 none 1 24 1 50 [.ref (nB en + a0), .int a1] h none x0 := by
  refine Ct.of (by decide) rfl (Nat.le_of_ble_eq_true rfl) e (fun g hen hg hr => ?_)
  subst hen
  unfold f_X8_init
  refine X_gd ?_
  refine X_aload_n hg 0 rfl dX8_init_0 ?_
  refine X_obji hg m_118 m_oi m_oc (Nat.le_of_ble_eq_true rfl) (Nat.le_of_ble_eq_true rfl) dX8_init_1 ?_
  refine X_aload_n hg 0 rfl dX8_init_4 ?_
  refine X_iload_n hg 1 rfl dX8_init_5 ?_
  refine X_iconst hg ic_i_0 dX8_init_6 ?_
  refine X_max hg m_119 m_stmax m_inM m_cdmax (Nat.le_of_ble_eq_true rfl) (Nat.le_of_ble_eq_true rfl) (Nat.le_of_ble_eq_true rfl) (Nat.le_of_ble_eq_true rfl) dX8_init_7 ?_
  refine X_newA hg m_arrI (Nat.le_of_ble_eq_true rfl) (Nat.le_of_ble_eq_true rfl) (Nat.le_of_ble_eq_true rfl) dX8_init_10 (fun h1 _ => ?_)
  refine X_putRF hg hr.2.2.1 (j := 0) cf_8 (Nat.le_of_ble_eq_true rfl) rfl rfl (Or.inr ⟨_, rfl⟩) m_122 dX8_init_12 (fun h2 _ => ?_)
  exact X_vret hg hr (Nat.le_of_ble_eq_true rfl) (Nat.le_of_ble_eq_true rfl) dX8_init_15
set_option maxRecDepth 10000 in
theorem c_X0_init (en : EN) (a0 : Nat) (h : Hp) (x0 : Hp) (e : f_X0_init a0 h = some x0) : Ct en yX0_init cX0_init 1 none 2 45 2 52 [.ref (nB en + a0)] h none x0 := by
  refine Ct.of (by decide) rfl (Nat.le_of_ble_eq_true rfl) e (fun g hen hg hr => ?_)
  subst hen
  unfold f_X0_init
  refine X_gd ?_
  refine X_aload_n hg 0 rfl dX0_init_0 ?_
  refine X_obji hg m_197 m_oi m_oc (Nat.le_of_ble_eq_true rfl) (Nat.le_of_ble_eq_true rfl) dX0_init_1 ?_
  refine X_aload_n hg 0 rfl dX0_init_4 ?_
  refine X_newO hg cf_8 ok_8 m_198 m_114 m_92 (Nat.le_of_ble_eq_true rfl) (Nat.le_of_ble_eq_true rfl) dX0_init_5 (fun h1 _ => ?_)
  refine X_dup hg rfl dX0_init_8 ?_
  refine X_bipush hg ic_b_14 dX0_init_9 ?_
  refine X_cIV hg mf_X8_init rfl rfl m_116 m_199 (fun y e => c_X8_init g.1 (hN h) (nI 14) h1 y e) (As := [.int (nI 14)]) rfl (Nat.le_of_ble_eq_true rfl) rfl (Nat.le_of_ble_eq_true rfl) (Nat.le_of_ble_eq_true rfl) (Nat.le_of_ble_eq_true rfl) (Nat.le_of_ble_eq_true rfl) dX0_init_11 (fun h2 _ => ?_)
  refine X_putRF hg hr.2.2.1 (j := 0) cf_0 (Nat.le_of_ble_eq_true rfl) rfl rfl (Or.inl ⟨_, rfl⟩) m_200 dX0_init_14 (fun h3 _ => ?_)
  exact X_vret hg hr (Nat.le_of_ble_eq_true rfl) (Nat.le_of_ble_eq_true rfl) dX0_init_17
set_option maxRecDepth 10000 in
theorem c_X7_get (en : EN) (a0 : Nat) (a1 : Int32) (h : Hp) (x0 : Option Nat) (e : f_X7_get a0 a1 h = some x0) : Ct en yX7_get cX7_get 2 (some (.object "DialMenus$Entry")) 0 0 0 0 [.ref (nB en + a0), .int a1] h (some (rl (nB en) x0)) h := by
  refine Ct.of (by decide) rfl (Nat.le_of_ble_eq_true rfl) e (fun g hen hg hr => ?_)
  subst hen
  unfold f_X7_get
  refine X_gd ?_
  refine X_iload_n hg 1 rfl dX7_get_0 ?_
  refine X_reg (fun (v1 : (Option Nat)) o => Xo g x0 2 0 0 22 [] [rl (nB g.1) v1] h o) (fun kv1 hk1 => ?_) (fun v1 => ?_)
  · refine X_ib ?_
    refine X_if_lt hg (tgt := 21) dX7_get_1 rfl (fun c6 => ?_) (fun c6 => ?_)
    · refine X_nullQ hg dX7_get_21 ?_
      refine X_lv [] rfl ?_
      exact hk1 (none : Option Nat)
    · refine X_iload_n hg 1 rfl dX7_get_4 ?_
      refine X_aload_n hg 0 rfl dX7_get_5 ?_
      refine X_as ?_
      refine X_getI hg (j := 1) cf_7 (Nat.le_of_ble_eq_true rfl) (Or.inl rfl) m_161 dX7_get_6 (fun x2 _ => ?_)
      refine X_ib ?_
      refine X_icmp_ge hg (tgt := 21) dX7_get_9 rfl (fun c5 => ?_) (fun c5 => ?_)
      · refine X_nullQ hg dX7_get_21 ?_
        refine X_lv [] rfl ?_
        exact hk1 (none : Option Nat)
      · refine X_aload_n hg 0 rfl dX7_get_12 ?_
        refine X_as ?_
        refine X_getR hg (j := 0) cf_7 (Nat.le_of_ble_eq_true rfl) (Or.inr ⟨_, rfl⟩) m_160 dX7_get_13 (fun x3 _ => ?_)
        refine X_iload_n hg 1 rfl dX7_get_16 ?_
        refine X_as ?_
        refine X_aldN hg dX7_get_17 (fun x4 _ => ?_)
        refine X_goto hg (tgt := 22) dX7_get_18 rfl ?_
        refine X_lv [] rfl ?_
        exact hk1 x4
  · exact X_qret hg (Or.inl ⟨_, rfl⟩) hr (Nat.le_of_ble_eq_true rfl) (Nat.le_of_ble_eq_true rfl) dX7_get_22
set_option maxRecDepth 10000 in
theorem c_X7_isAhead (en : EN) (a0 : Nat) (a1 : Int32) (a2 : Int32) (h : Hp) (x0 : Int32) (e : f_X7_isAhead a0 a1 a2 h = some x0) : Ct en yX7_isAhead cX7_isAhead 5 (some .boolean) 1 21 0 0 [.ref (nB en + a0), .int a1, .int a2] h (some (.int x0)) h := by
  refine Ct.of (by decide) rfl (Nat.le_of_ble_eq_true rfl) e (fun g hen hg hr => ?_)
  subst hen
  unfold f_X7_isAhead
  refine X_gd ?_
  refine X_aload_n hg 0 rfl dX7_isAhead_0 ?_
  refine X_iload_n hg 1 rfl dX7_isAhead_1 ?_
  refine X_cVQ0 hg mf_X7_get m_497 m_8 m_495 cf_7 (fun _ e => gd_isO e) (fun y e => c_X7_get g.1 a0 a1 h y e) (As := [.int a1]) rfl (Nat.le_of_ble_eq_true rfl) rfl (Nat.le_of_ble_eq_true rfl) (Nat.le_of_ble_eq_true rfl) (Nat.le_of_ble_eq_true rfl) (Nat.le_of_ble_eq_true rfl) dX7_isAhead_2 (fun x1 _ => ?_)
  refine X_astoreQ_n hg rfl (Nat.le_of_ble_eq_true rfl) (lv' := [(3, rl (nB g.1) x1), (0, .ref (nB g.1 + a0)), (1, .int a1), (2, .int a2)]) rfl dX7_isAhead_5 ?_
  refine X_aload_n hg 1 rfl dX7_isAhead_6 ?_
  refine X_iload_n hg 3 rfl dX7_isAhead_7 ?_
  refine X_cVQ0 hg mf_X7_get m_497 m_8 m_495 cf_7 (fun _ e => gd_isO e) (fun y e => c_X7_get g.1 a0 a2 h y e) (As := [.int a2]) rfl (Nat.le_of_ble_eq_true rfl) rfl (Nat.le_of_ble_eq_true rfl) (Nat.le_of_ble_eq_true rfl) (Nat.le_of_ble_eq_true rfl) (Nat.le_of_ble_eq_true rfl) dX7_isAhead_8 (fun x2 _ => ?_)
  refine X_astoreQ hg (Nat.le_of_ble_eq_true rfl) (lv' := [(4, rl (nB g.1) x2), (3, rl (nB g.1) x1), (0, .ref (nB g.1 + a0)), (1, .int a1), (2, .int a2)]) (by simp [rl_cat]) dX7_isAhead_11 ?_
  refine X_aloadQ_n hg 1 rfl dX7_isAhead_13 ?_
  refine X_ifnull hg (tgt := 22) dX7_isAhead_14 rfl (fun c14 => ?_) (fun q3 c14 => ?_)
  · refine X_iconst hg ic_i_0 dX7_isAhead_22 ?_
    exact X_zret hg hr (Nat.le_of_ble_eq_true rfl) (Nat.le_of_ble_eq_true rfl) dX7_isAhead_23
  · subst c14
    refine X_aloadQ hg 0 rfl dX7_isAhead_17 ?_
    refine X_ifnonnull hg (tgt := 24) dX7_isAhead_19 rfl (fun c13 => ?_) (fun q4 c13 => ?_)
    · refine X_iconst hg ic_i_0 dX7_isAhead_22 ?_
      exact X_zret hg hr (Nat.le_of_ble_eq_true rfl) (Nat.le_of_ble_eq_true rfl) dX7_isAhead_23
    · subst c13
      refine X_aload_n hg 1 rfl dX7_isAhead_24 ?_
      refine X_getIN hg (j := 2) cf_1 (Nat.le_of_ble_eq_true rfl) (Or.inl rfl) m_440 dX7_isAhead_25 (fun x5 _ => ?_)
      refine X_aload hg 0 rfl dX7_isAhead_28 ?_
      refine X_getIN hg (j := 2) cf_1 (Nat.le_of_ble_eq_true rfl) (Or.inl rfl) m_440 dX7_isAhead_30 (fun x6 _ => ?_)
      refine X_reg (fun (v7 : Int32) o => Xo g x0 5 0 0 58 [] [.int v7] h o) (fun kv7 hk7 => ?_) (fun v7 => ?_)
      · refine X_ib ?_
        refine X_icmp_gt hg (tgt := 53) dX7_isAhead_33 rfl (fun c12 => ?_) (fun c12 => ?_)
        · refine X_iconst hg ic_i_1 dX7_isAhead_53 ?_
          refine X_goto hg (tgt := 58) dX7_isAhead_54 rfl ?_
          refine X_lv [] rfl ?_
          exact hk7 (nI 1)
        · refine X_aload_n hg 1 rfl dX7_isAhead_36 ?_
          refine X_as ?_
          refine X_getIN hg (j := 2) cf_1 (Nat.le_of_ble_eq_true rfl) (Or.inl rfl) m_440 dX7_isAhead_37 (fun x8 _ => ?_)
          refine X_aload hg 0 rfl dX7_isAhead_40 ?_
          refine X_as ?_
          refine X_getIN hg (j := 2) cf_1 (Nat.le_of_ble_eq_true rfl) (Or.inl rfl) m_440 dX7_isAhead_42 (fun x9 _ => ?_)
          refine X_ib ?_
          refine X_icmp_ne hg (tgt := 57) dX7_isAhead_45 rfl (fun c11 => ?_) (fun c11 => ?_)
          · refine X_iload_n hg 3 rfl dX7_isAhead_48 ?_
            refine X_iload_n hg 4 rfl dX7_isAhead_49 ?_
            refine X_ib ?_
            refine X_icmp_ge hg (tgt := 57) dX7_isAhead_50 rfl (fun c10 => ?_) (fun c10 => ?_)
            · refine X_iconst hg ic_i_0 dX7_isAhead_57 ?_
              refine X_lv [] rfl ?_
              exact hk7 (nI 0)
            · refine X_iconst hg ic_i_1 dX7_isAhead_53 ?_
              refine X_goto hg (tgt := 58) dX7_isAhead_54 rfl ?_
              refine X_lv [] rfl ?_
              exact hk7 (nI 1)
          · refine X_iconst hg ic_i_0 dX7_isAhead_57 ?_
            refine X_lv [] rfl ?_
            exact hk7 (nI 0)
      · exact X_zret hg hr (Nat.le_of_ble_eq_true rfl) (Nat.le_of_ble_eq_true rfl) dX7_isAhead_58
set_option maxRecDepth 10000 in
theorem c_X8_get (en : EN) (a0 : Nat) (a1 : Int32) (h : Hp) (x0 : Int32) (e : f_X8_get a0 a1 h = some x0) : Ct en yX8_get cX8_get 2 (some .int) 0 0 0 0 [.ref (nB en + a0), .int a1] h (some (.int x0)) h := by
  refine Ct.of (by decide) rfl (Nat.le_of_ble_eq_true rfl) e (fun g hen hg hr => ?_)
  subst hen
  unfold f_X8_get
  refine X_gd ?_
  refine X_iload_n hg 1 rfl dX8_get_0 ?_
  refine X_reg (fun (v1 : Int32) o => Xo g x0 2 0 0 23 [] [.int v1] h o) (fun kv1 hk1 => ?_) (fun v1 => ?_)
  · refine X_ib ?_
    refine X_if_lt hg (tgt := 21) dX8_get_1 rfl (fun c6 => ?_) (fun c6 => ?_)
    · refine X_bipush hg ic_b_m101 dX8_get_21 ?_
      refine X_lv [] rfl ?_
      exact hk1 m101
    · refine X_iload_n hg 1 rfl dX8_get_4 ?_
      refine X_aload_n hg 0 rfl dX8_get_5 ?_
      refine X_as ?_
      refine X_getI hg (j := 1) cf_8 (Nat.le_of_ble_eq_true rfl) (Or.inl rfl) m_123 dX8_get_6 (fun x2 _ => ?_)
      refine X_ib ?_
      refine X_icmp_ge hg (tgt := 21) dX8_get_9 rfl (fun c5 => ?_) (fun c5 => ?_)
      · refine X_bipush hg ic_b_m101 dX8_get_21 ?_
        refine X_lv [] rfl ?_
        exact hk1 m101
      · refine X_aload_n hg 0 rfl dX8_get_12 ?_
        refine X_as ?_
        refine X_getR hg (j := 0) cf_8 (Nat.le_of_ble_eq_true rfl) (Or.inr ⟨_, rfl⟩) m_122 dX8_get_13 (fun x3 _ => ?_)
        refine X_iload_n hg 1 rfl dX8_get_16 ?_
        refine X_as ?_
        refine X_ald hg dX8_get_17 (fun x4 _ => ?_)
        refine X_goto hg (tgt := 23) dX8_get_18 rfl ?_
        refine X_lv [] rfl ?_
        exact hk1 x4
  · exact X_iret hg hr (Nat.le_of_ble_eq_true rfl) (Nat.le_of_ble_eq_true rfl) dX8_get_23
set_option maxRecDepth 10000 in
theorem c_X8_size (en : EN) (a0 : Nat) (h : Hp) (x0 : Int32) (e : f_X8_size a0 h = some x0) : Ct en yX8_size cX8_size 1 (some .int) 0 0 0 0 [.ref (nB en + a0)] h (some (.int x0)) h := by
  refine Ct.of (by decide) rfl (Nat.le_of_ble_eq_true rfl) e (fun g hen hg hr => ?_)
  subst hen
  unfold f_X8_size
  refine X_gd ?_
  refine X_aload_n hg 0 rfl dX8_size_0 ?_
  refine X_getI hg (j := 1) cf_8 (Nat.le_of_ble_eq_true rfl) (Or.inl rfl) m_123 dX8_size_1 (fun x1 _ => ?_)
  exact X_iret hg hr (Nat.le_of_ble_eq_true rfl) (Nat.le_of_ble_eq_true rfl) dX8_size_4
set_option maxRecDepth 10000 in
theorem l_X0_placeInList_8 {g : XC} {x0 : Int32} (hg : XG g RX0 cX0_placeInList 4 2 45 0 0) (l0 : Nat) (l1 : Nat) (l2 : Int32) (h : Hp) (hr : XR g (some .int) "placeInList" (some (.int x0)) h 0 0) (K : Int32 → Option (Int32)) (hK0 : ∀ (l3 : Int32), Xo g x0 4 0 0 36 [(3, .int l3)] [] h (K l3)) : ∀ (n : Nat) (l3 : Int32), Xo g x0 4 0 0 8 [(0, .ref (nB g.1 + l0)), (1, .ref (nB g.1 + l1)), (2, .int l2), (3, .int l3)] [] h (f_X0_placeInList_L8 l0 l1 l2 h K n l3) := by
  intro n
  induction n with
  | zero =>
    intro l3
    exact X_none
  | succ n ih =>
    intro l3
    unfold f_X0_placeInList_L8
    refine X_iload_n hg 3 rfl dX0_placeInList_8 ?_
    refine X_if_le hg (tgt := 36) dX0_placeInList_9 rfl (fun c7 => ?_) (fun c7 => ?_)
    · refine X_lv [3] rfl ?_
      exact hK0 _
    · refine X_aload_n hg 1 rfl dX0_placeInList_12 ?_
      refine X_iload_n hg 2 rfl dX0_placeInList_13 ?_
      refine X_aload_n hg 0 rfl dX0_placeInList_14 ?_
      refine X_getR hg (j := 0) cf_0 (Nat.le_of_ble_eq_true rfl) (Or.inl ⟨_, rfl⟩) m_200 dX0_placeInList_15 (fun x3 _ => ?_)
      refine X_iload_n hg 3 rfl dX0_placeInList_18 ?_
      refine X_iconst hg ic_i_1 dX0_placeInList_19 ?_
      refine X_isub hg dX0_placeInList_20 ?_
      refine X_cVI0 hg mf_X8_get m_358 m_359 m_728 cf_8 (fun _ e => gd_isO e) (fun y e => c_X8_get g.1 x3 (l3 - (nI 1)) h y e) (As := [.int (l3 - (nI 1))]) rfl (Nat.le_of_ble_eq_true rfl) rfl (Nat.le_of_ble_eq_true rfl) (Nat.le_of_ble_eq_true rfl) (Nat.le_of_ble_eq_true rfl) (Nat.le_of_ble_eq_true rfl) dX0_placeInList_21 (fun x4 _ => ?_)
      refine X_cVI0 hg mf_X7_isAhead m_560 m_561 m_559 cf_7 (fun _ e => gd_isO e) (fun y e => c_X7_isAhead g.1 l1 l2 x4 h y e) (As := [.int l2, .int x4]) rfl (Nat.le_of_ble_eq_true rfl) rfl (Nat.le_of_ble_eq_true rfl) (Nat.le_of_ble_eq_true rfl) (Nat.le_of_ble_eq_true rfl) (Nat.le_of_ble_eq_true rfl) dX0_placeInList_24 (fun x5 _ => ?_)
      refine X_if_eq hg (tgt := 36) dX0_placeInList_27 rfl (fun c6 => ?_) (fun c6 => ?_)
      · refine X_lv [3] rfl ?_
        exact hK0 _
      · refine X_iinc hg 3 rfl (v := (l3 + m1)) (icc ic_i_m1) (Nat.le_of_ble_eq_true rfl) (lv' := [(3, .int (l3 + m1)), (0, .ref (nB g.1 + l0)), (1, .ref (nB g.1 + l1)), (2, .int l2)]) rfl dX0_placeInList_30 ?_
        refine X_goto hg (tgt := 8) dX0_placeInList_33 rfl ?_
        refine X_lv [1, 2, 3, 0] rfl ?_
        exact ih _
set_option maxRecDepth 10000 in
theorem c_X0_placeInList (en : EN) (a0 : Nat) (a1 : Nat) (a2 : Int32) (h : Hp) (x0 : Int32) (e : f_X0_placeInList a0 a1 a2 h = some x0) : Ct en yX0_placeInList cX0_placeInList 4 (some .int) 2 45 0 0 [.ref (nB en + a0), .ref (nB en + a1), .int a2] h (some (.int x0)) h := by
  refine Ct.of (by decide) rfl (Nat.le_of_ble_eq_true rfl) e (fun g hen hg hr => ?_)
  subst hen
  unfold f_X0_placeInList
  refine X_gd ?_
  refine X_aload_n hg 0 rfl dX0_placeInList_0 ?_
  refine X_getR hg (j := 0) cf_0 (Nat.le_of_ble_eq_true rfl) (Or.inl ⟨_, rfl⟩) m_200 dX0_placeInList_1 (fun x1 _ => ?_)
  refine X_cVI0 hg mf_X8_size m_337 m_338 m_727 cf_8 (fun _ e => gd_isO e) (fun y e => c_X8_size g.1 x1 h y e) (As := []) rfl (Nat.le_of_ble_eq_true rfl) rfl (Nat.le_of_ble_eq_true rfl) (Nat.le_of_ble_eq_true rfl) (Nat.le_of_ble_eq_true rfl) (Nat.le_of_ble_eq_true rfl) dX0_placeInList_4 (fun x2 _ => ?_)
  refine X_istore_n hg rfl (Nat.le_of_ble_eq_true rfl) (lv' := [(3, .int x2), (0, .ref (nB g.1 + a0)), (1, .ref (nB g.1 + a1)), (2, .int a2)]) rfl dX0_placeInList_7 ?_
  refine X_lv [1, 2, 3, 0] rfl ?_
  refine l_X0_placeInList_8 hg _ _ _ _ hr _ (fun y8 => ?_) _ _
  refine X_iload_n hg 0 rfl dX0_placeInList_36 ?_
  exact X_iret hg hr (Nat.le_of_ble_eq_true rfl) (Nat.le_of_ble_eq_true rfl) dX0_placeInList_37
set_option maxRecDepth 10000 in
theorem c_X1_digitAt (en : EN) (a0 : Nat) (a1 : Int32) (h : Hp) (x0 : Int32) (e : f_X1_digitAt a0 a1 h = some x0) : Ct en yX1_digitAt cX1_digitAt 2 (some .int) 0 0 0 0 [.ref (nB en + a0), .int a1] h (some (.int x0)) h := by
  refine Ct.of (by decide) rfl (Nat.le_of_ble_eq_true rfl) e (fun g hen hg hr => ?_)
  subst hen
  unfold f_X1_digitAt
  refine X_gd ?_
  refine X_iload_n hg 1 rfl dX1_digitAt_0 ?_
  refine X_reg (fun (v1 : Int32) o => Xo g x0 2 0 0 24 [] [.int v1] h o) (fun kv1 hk1 => ?_) (fun v1 => ?_)
  · refine X_ib ?_
    refine X_if_lt hg (tgt := 22) dX1_digitAt_1 rfl (fun c7 => ?_) (fun c7 => ?_)
    · refine X_bipush hg ic_b_m101 dX1_digitAt_22 ?_
      refine X_lv [] rfl ?_
      exact hk1 m101
    · refine X_iload_n hg 1 rfl dX1_digitAt_4 ?_
      refine X_aload_n hg 0 rfl dX1_digitAt_5 ?_
      refine X_as ?_
      refine X_getR hg (j := 1) cf_1 (Nat.le_of_ble_eq_true rfl) (Or.inr ⟨_, rfl⟩) m_437 dX1_digitAt_6 (fun x2 _ => ?_)
      refine X_as ?_
      refine X_aln hg (Or.inl rfl) dX1_digitAt_9 (fun x3 _ => ?_)
      refine X_ib ?_
      refine X_icmp_ge hg (tgt := 22) dX1_digitAt_10 rfl (fun c6 => ?_) (fun c6 => ?_)
      · refine X_bipush hg ic_b_m101 dX1_digitAt_22 ?_
        refine X_lv [] rfl ?_
        exact hk1 m101
      · refine X_aload_n hg 0 rfl dX1_digitAt_13 ?_
        refine X_as ?_
        refine X_getR hg (j := 1) cf_1 (Nat.le_of_ble_eq_true rfl) (Or.inr ⟨_, rfl⟩) m_437 dX1_digitAt_14 (fun x4 _ => ?_)
        refine X_iload_n hg 1 rfl dX1_digitAt_17 ?_
        refine X_as ?_
        refine X_ald hg dX1_digitAt_18 (fun x5 _ => ?_)
        refine X_goto hg (tgt := 24) dX1_digitAt_19 rfl ?_
        refine X_lv [] rfl ?_
        exact hk1 x5
  · exact X_iret hg hr (Nat.le_of_ble_eq_true rfl) (Nat.le_of_ble_eq_true rfl) dX1_digitAt_24
set_option maxRecDepth 10000 in
theorem l_X1_beginsWith_2 {g : XC} {x0 : Int32} (hg : XG g RX1 cX1_beginsWith 3 1 21 0 0) (l0 : Nat) (l1 : Nat) (h : Hp) (hr : XR g (some .boolean) "beginsWith" (some (.int x0)) h 0 0) (K : Option (Int32)) (hK0 : Xo g x0 3 0 0 31 [] [] h K) : ∀ (n : Nat) (l2 : Int32), Xo g x0 3 0 0 2 [(0, .ref (nB g.1 + l0)), (1, .ref (nB g.1 + l1)), (2, .int l2)] [] h (f_X1_beginsWith_L2 l0 l1 h K n l2) := by
  intro n
  induction n with
  | zero =>
    intro l2
    exact X_none
  | succ n ih =>
    intro l2
    unfold f_X1_beginsWith_L2
    refine X_iload_n hg 2 rfl dX1_beginsWith_2 ?_
    refine X_aload_n hg 1 rfl dX1_beginsWith_3 ?_
    refine X_cVI0 hg mf_X8_size m_337 m_338 m_721 cf_8 (fun _ e => gd_isO e) (fun y e => c_X8_size g.1 l1 h y e) (As := []) rfl (Nat.le_of_ble_eq_true rfl) rfl (Nat.le_of_ble_eq_true rfl) (Nat.le_of_ble_eq_true rfl) (Nat.le_of_ble_eq_true rfl) (Nat.le_of_ble_eq_true rfl) dX1_beginsWith_4 (fun x1 _ => ?_)
    refine X_icmp_ge hg (tgt := 31) dX1_beginsWith_7 rfl (fun c5 => ?_) (fun c5 => ?_)
    · refine X_lv [] rfl ?_
      exact hK0 
    · refine X_aload_n hg 0 rfl dX1_beginsWith_10 ?_
      refine X_iload_n hg 2 rfl dX1_beginsWith_11 ?_
      refine X_cVI0 hg mf_X1_digitAt m_643 m_644 m_722 cf_1 (fun _ e => gd_isO e) (fun y e => c_X1_digitAt g.1 l0 l2 h y e) (As := [.int l2]) rfl (Nat.le_of_ble_eq_true rfl) rfl (Nat.le_of_ble_eq_true rfl) (Nat.le_of_ble_eq_true rfl) (Nat.le_of_ble_eq_true rfl) (Nat.le_of_ble_eq_true rfl) dX1_beginsWith_12 (fun x2 _ => ?_)
      refine X_aload_n hg 1 rfl dX1_beginsWith_15 ?_
      refine X_iload_n hg 2 rfl dX1_beginsWith_16 ?_
      refine X_cVI0 hg mf_X8_get m_358 m_359 m_417 cf_8 (fun _ e => gd_isO e) (fun y e => c_X8_get g.1 l1 l2 h y e) (As := [.int l2]) rfl (Nat.le_of_ble_eq_true rfl) rfl (Nat.le_of_ble_eq_true rfl) (Nat.le_of_ble_eq_true rfl) (Nat.le_of_ble_eq_true rfl) (Nat.le_of_ble_eq_true rfl) dX1_beginsWith_17 (fun x3 _ => ?_)
      refine X_icmp_eq hg (tgt := 25) dX1_beginsWith_20 rfl (fun c4 => ?_) (fun c4 => ?_)
      · refine X_iinc hg 2 rfl (v := (l2 + (nI 1))) (icc ic_i_1) (Nat.le_of_ble_eq_true rfl) (lv' := [(2, .int (l2 + (nI 1))), (0, .ref (nB g.1 + l0)), (1, .ref (nB g.1 + l1))]) rfl dX1_beginsWith_25 ?_
        refine X_goto hg (tgt := 2) dX1_beginsWith_28 rfl ?_
        refine X_lv [1, 2, 0] rfl ?_
        exact ih _
      · refine X_iconst hg ic_i_0 dX1_beginsWith_23 ?_
        exact X_zret hg hr (Nat.le_of_ble_eq_true rfl) (Nat.le_of_ble_eq_true rfl) dX1_beginsWith_24
set_option maxRecDepth 10000 in
theorem c_X1_beginsWith (en : EN) (a0 : Nat) (a1 : Nat) (h : Hp) (x0 : Int32) (e : f_X1_beginsWith a0 a1 h = some x0) : Ct en yX1_beginsWith cX1_beginsWith 3 (some .boolean) 1 21 0 0 [.ref (nB en + a0), .ref (nB en + a1)] h (some (.int x0)) h := by
  refine Ct.of (by decide) rfl (Nat.le_of_ble_eq_true rfl) e (fun g hen hg hr => ?_)
  subst hen
  unfold f_X1_beginsWith
  refine X_gd ?_
  refine X_iconst hg ic_i_0 dX1_beginsWith_0 ?_
  refine X_istore_n hg rfl (Nat.le_of_ble_eq_true rfl) (lv' := [(2, .int (nI 0)), (0, .ref (nB g.1 + a0)), (1, .ref (nB g.1 + a1))]) rfl dX1_beginsWith_1 ?_
  refine X_lv [1, 2, 0] rfl ?_
  refine l_X1_beginsWith_2 hg _ _ _ hr _ ?_ _ _
  refine X_iconst hg ic_i_1 dX1_beginsWith_31 ?_
  exact X_zret hg hr (Nat.le_of_ble_eq_true rfl) (Nat.le_of_ble_eq_true rfl) dX1_beginsWith_32
set_option maxRecDepth 10000 in
theorem c_X7_beginsWith (en : EN) (a0 : Nat) (a1 : Int32) (a2 : Nat) (h : Hp) (x0 : Int32) (e : f_X7_beginsWith a0 a1 a2 h = some x0) : Ct en yX7_beginsWith cX7_beginsWith 4 (some .boolean) 2 43 0 0 [.ref (nB en + a0), .int a1, .ref (nB en + a2)] h (some (.int x0)) h := by
  refine Ct.of (by decide) rfl (Nat.le_of_ble_eq_true rfl) e (fun g hen hg hr => ?_)
  subst hen
  unfold f_X7_beginsWith
  refine X_gd ?_
  refine X_aload_n hg 0 rfl dX7_beginsWith_0 ?_
  refine X_iload_n hg 1 rfl dX7_beginsWith_1 ?_
  refine X_cVQ0 hg mf_X7_get m_497 m_8 m_495 cf_7 (fun _ e => gd_isO e) (fun y e => c_X7_get g.1 a0 a1 h y e) (As := [.int a1]) rfl (Nat.le_of_ble_eq_true rfl) rfl (Nat.le_of_ble_eq_true rfl) (Nat.le_of_ble_eq_true rfl) (Nat.le_of_ble_eq_true rfl) (Nat.le_of_ble_eq_true rfl) dX7_beginsWith_2 (fun x1 _ => ?_)
  refine X_astoreQ_n hg rfl (Nat.le_of_ble_eq_true rfl) (lv' := [(3, rl (nB g.1) x1), (0, .ref (nB g.1 + a0)), (1, .int a1), (2, .ref (nB g.1 + a2))]) rfl dX7_beginsWith_5 ?_
  refine X_aloadQ_n hg 0 rfl dX7_beginsWith_6 ?_
  refine X_reg (fun (v2 : Int32) o => Xo g x0 4 0 0 23 [] [.int v2] h o) (fun kv2 hk2 => ?_) (fun v2 => ?_)
  · refine X_eb ?_
    refine X_ifnull hg (tgt := 22) dX7_beginsWith_7 rfl (fun c6 => ?_) (fun q3 c6 => ?_)
    · refine X_iconst hg ic_i_0 dX7_beginsWith_22 ?_
      refine X_lv [] rfl ?_
      exact hk2 (nI 0)
    · subst c6
      refine X_aload_n hg 0 rfl dX7_beginsWith_10 ?_
      refine X_aload_n hg 3 rfl dX7_beginsWith_11 ?_
      refine X_as ?_
      refine X_cVI0 hg mf_X1_beginsWith m_718 m_719 m_717 cf_1 (fun _ e => gd_isO e) (fun y e => c_X1_beginsWith g.1 q3 a2 h y e) (As := [.ref (nB g.1 + a2)]) rfl (Nat.le_of_ble_eq_true rfl) rfl (Nat.le_of_ble_eq_true rfl) (Nat.le_of_ble_eq_true rfl) (Nat.le_of_ble_eq_true rfl) (Nat.le_of_ble_eq_true rfl) dX7_beginsWith_12 (fun x4 _ => ?_)
      refine X_ib ?_
      refine X_if_eq hg (tgt := 22) dX7_beginsWith_15 rfl (fun c5 => ?_) (fun c5 => ?_)
      · refine X_iconst hg ic_i_0 dX7_beginsWith_22 ?_
        refine X_lv [] rfl ?_
        exact hk2 (nI 0)
      · refine X_iconst hg ic_i_1 dX7_beginsWith_18 ?_
        refine X_goto hg (tgt := 23) dX7_beginsWith_19 rfl ?_
        refine X_lv [] rfl ?_
        exact hk2 (nI 1)
  · exact X_zret hg hr (Nat.le_of_ble_eq_true rfl) (Nat.le_of_ble_eq_true rfl) dX7_beginsWith_23
set_option maxRecDepth 10000 in
theorem c_X7_size (en : EN) (a0 : Nat) (h : Hp) (x0 : Int32) (e : f_X7_size a0 h = some x0) : Ct en yX7_size cX7_size 1 (some .int) 0 0 0 0 [.ref (nB en + a0)] h (some (.int x0)) h := by
  refine Ct.of (by decide) rfl (Nat.le_of_ble_eq_true rfl) e (fun g hen hg hr => ?_)
  subst hen
  unfold f_X7_size
  refine X_gd ?_
  refine X_aload_n hg 0 rfl dX7_size_0 ?_
  refine X_getI hg (j := 1) cf_7 (Nat.le_of_ble_eq_true rfl) (Or.inl rfl) m_161 dX7_size_1 (fun x1 _ => ?_)
  exact X_iret hg hr (Nat.le_of_ble_eq_true rfl) (Nat.le_of_ble_eq_true rfl) dX7_size_4
set_option maxRecDepth 10000 in
theorem c_X8_clear (en : EN) (a0 : Nat) (h : Hp) (x0 : Int32 × Hp) (e : f_X8_clear a0 h = some x0) : Ct en yX8_clear cX8_clear 2 (some .int) 0 0 0 0 [.ref (nB en + a0)] h (some (.int x0.1)) x0.2 := by
  refine Ct.of (by decide) rfl (Nat.le_of_ble_eq_true rfl) e (fun g hen hg hr => ?_)
  subst hen
  unfold f_X8_clear
  refine X_gd ?_
  refine X_aload_n hg 0 rfl dX8_clear_0 ?_
  refine X_getI hg (j := 1) cf_8 (Nat.le_of_ble_eq_true rfl) (Or.inl rfl) m_123 dX8_clear_1 (fun x1 _ => ?_)
  refine X_istore_n hg rfl (Nat.le_of_ble_eq_true rfl) (lv' := [(1, .int x1), (0, .ref (nB g.1 + a0))]) rfl dX8_clear_4 ?_
  refine X_aload_n hg 1 rfl dX8_clear_5 ?_
  refine X_iconst hg ic_i_0 dX8_clear_6 ?_
  refine X_putI hg (j := 1) cf_8 (Nat.le_of_ble_eq_true rfl) rfl (Or.inl rfl) m_123 dX8_clear_7 (fun h2 _ => ?_)
  refine X_iload_n hg 0 rfl dX8_clear_10 ?_
  exact X_iretW hg hr (Nat.le_of_ble_eq_true rfl) (Nat.le_of_ble_eq_true rfl) dX8_clear_11
set_option maxRecDepth 10000 in
theorem c_X8_isFull (en : EN) (a0 : Nat) (h : Hp) (x0 : Int32) (e : f_X8_isFull a0 h = some x0) : Ct en yX8_isFull cX8_isFull 1 (some .boolean) 0 0 0 0 [.ref (nB en + a0)] h (some (.int x0)) h := by
  refine Ct.of (by decide) rfl (Nat.le_of_ble_eq_true rfl) e (fun g hen hg hr => ?_)
  subst hen
  unfold f_X8_isFull
  refine X_gd ?_
  refine X_aload_n hg 0 rfl dX8_isFull_0 ?_
  refine X_getI hg (j := 1) cf_8 (Nat.le_of_ble_eq_true rfl) (Or.inl rfl) m_123 dX8_isFull_1 (fun x1 _ => ?_)
  refine X_aload_n hg 0 rfl dX8_isFull_4 ?_
  refine X_getR hg (j := 0) cf_8 (Nat.le_of_ble_eq_true rfl) (Or.inr ⟨_, rfl⟩) m_122 dX8_isFull_5 (fun x2 _ => ?_)
  refine X_aln hg (Or.inl rfl) dX8_isFull_8 (fun x3 _ => ?_)
  refine X_reg (fun (v4 : Int32) o => Xo g x0 1 0 0 17 [] [.int v4] h o) (fun kv4 hk4 => ?_) (fun v4 => ?_)
  · refine X_ib ?_
    refine X_icmp_lt hg (tgt := 16) dX8_isFull_9 rfl (fun c5 => ?_) (fun c5 => ?_)
    · refine X_iconst hg ic_i_0 dX8_isFull_16 ?_
      refine X_lv [] rfl ?_
      exact hk4 (nI 0)
    · refine X_iconst hg ic_i_1 dX8_isFull_12 ?_
      refine X_goto hg (tgt := 17) dX8_isFull_13 rfl ?_
      refine X_lv [] rfl ?_
      exact hk4 (nI 1)
  · exact X_zret hg hr (Nat.le_of_ble_eq_true rfl) (Nat.le_of_ble_eq_true rfl) dX8_isFull_17
set_option maxRecDepth 10000 in
theorem l_X8_insert_25 {g : XC} {x0 : Hp} (hg : XG g RX8 cX8_insert 4 1 20 0 0) (l0 : Nat) (l1 : Int32) (l2 : Int32) (hr : XR g none "insert" none x0 0 0) (K : Hp → Option (Hp)) (hK0 : ∀ (h : Hp), Xo g x0 4 0 0 50 [(0, .ref (nB g.1 + l0)), (1, .int l1), (2, .int l2)] [] h (K h)) : ∀ (n : Nat) (l3 : Int32) (h : Hp), Xo g x0 4 0 0 25 [(0, .ref (nB g.1 + l0)), (1, .int l1), (2, .int l2), (3, .int l3)] [] h (f_X8_insert_L25 l0 l1 l2 K n l3 h) := by
  intro n
  induction n with
  | zero =>
    intro l3 h
    exact X_none
  | succ n ih =>
    intro l3 h
    unfold f_X8_insert_L25
    refine X_iload_n hg 3 rfl dX8_insert_25 ?_
    refine X_iload_n hg 1 rfl dX8_insert_26 ?_
    refine X_icmp_le hg (tgt := 50) dX8_insert_27 rfl (fun c8 => ?_) (fun c8 => ?_)
    · refine X_lv [0, 1, 2] rfl ?_
      exact hK0  _
    · refine X_aload_n hg 0 rfl dX8_insert_30 ?_
      refine X_getR hg (j := 0) cf_8 (Nat.le_of_ble_eq_true rfl) (Or.inr ⟨_, rfl⟩) m_122 dX8_insert_31 (fun x4 _ => ?_)
      refine X_iload_n hg 3 rfl dX8_insert_34 ?_
      refine X_aload_n hg 0 rfl dX8_insert_35 ?_
      refine X_getR hg (j := 0) cf_8 (Nat.le_of_ble_eq_true rfl) (Or.inr ⟨_, rfl⟩) m_122 dX8_insert_36 (fun x5 _ => ?_)
      refine X_iload_n hg 3 rfl dX8_insert_39 ?_
      refine X_iconst hg ic_i_1 dX8_insert_40 ?_
      refine X_isub hg dX8_insert_41 ?_
      refine X_ald hg dX8_insert_42 (fun x6 _ => ?_)
      refine X_ast hg dX8_insert_43 (fun h7 _ => ?_)
      refine X_iinc hg 3 rfl (v := (l3 + m1)) (icc ic_i_m1) (Nat.le_of_ble_eq_true rfl) (lv' := [(3, .int (l3 + m1)), (0, .ref (nB g.1 + l0)), (1, .int l1), (2, .int l2)]) rfl dX8_insert_44 ?_
      refine X_goto hg (tgt := 25) dX8_insert_47 rfl ?_
      refine X_lv [1, 2, 3, 0] rfl ?_
      exact ih _ _
set_option maxRecDepth 10000 in
theorem c_X8_insert (en : EN) (a0 : Nat) (a1 : Int32) (a2 : Int32) (h : Hp) (x0 : Hp) (e : f_X8_insert a0 a1 a2 h = some x0) : Ct en yX8_insert cX8_insert 4 none 1 20 0 0 [.ref (nB en + a0), .int a1, .int a2] h none x0 := by
  refine Ct.of (by decide) rfl (Nat.le_of_ble_eq_true rfl) e (fun g hen hg hr => ?_)
  subst hen
  unfold f_X8_insert
  refine X_gd ?_
  refine X_aload_n hg 0 rfl dX8_insert_0 ?_
  refine X_cVI0 hg mf_X8_isFull m_328 m_329 m_335 cf_8 (fun _ e => gd_isO e) (fun y e => c_X8_isFull g.1 a0 h y e) (As := []) rfl (Nat.le_of_ble_eq_true rfl) rfl (Nat.le_of_ble_eq_true rfl) (Nat.le_of_ble_eq_true rfl) (Nat.le_of_ble_eq_true rfl) (Nat.le_of_ble_eq_true rfl) dX8_insert_1 (fun x1 _ => ?_)
  refine X_if_ne hg (tgt := 19) dX8_insert_4 rfl (fun c16 => ?_) (fun c16 => ?_)
  · refine X_iload_n hg 1 rfl dX8_insert_7 ?_
    refine X_if_lt hg (tgt := 19) dX8_insert_8 rfl (fun c15 => ?_) (fun c15 => ?_)
    · exact X_vret hg hr (Nat.le_of_ble_eq_true rfl) (Nat.le_of_ble_eq_true rfl) dX8_insert_19
    · refine X_iload_n hg 1 rfl dX8_insert_11 ?_
      refine X_aload_n hg 0 rfl dX8_insert_12 ?_
      refine X_getI hg (j := 1) cf_8 (Nat.le_of_ble_eq_true rfl) (Or.inl rfl) m_123 dX8_insert_13 (fun x2 _ => ?_)
      refine X_icmp_le hg (tgt := 20) dX8_insert_16 rfl (fun c14 => ?_) (fun c14 => ?_)
      · refine X_aload_n hg 0 rfl dX8_insert_20 ?_
        refine X_getI hg (j := 1) cf_8 (Nat.le_of_ble_eq_true rfl) (Or.inl rfl) m_123 dX8_insert_21 (fun x3 _ => ?_)
        refine X_istore_n hg rfl (Nat.le_of_ble_eq_true rfl) (lv' := [(3, .int x3), (0, .ref (nB g.1 + a0)), (1, .int a1), (2, .int a2)]) rfl dX8_insert_24 ?_
        refine X_lv [1, 2, 3, 0] rfl ?_
        refine l_X8_insert_25 hg _ _ _ hr _ (fun h9 => ?_) _ _ _
        refine X_aload_n hg 0 rfl dX8_insert_50 ?_
        refine X_getR hg (j := 0) cf_8 (Nat.le_of_ble_eq_true rfl) (Or.inr ⟨_, rfl⟩) m_122 dX8_insert_51 (fun x10 _ => ?_)
        refine X_iload_n hg 1 rfl dX8_insert_54 ?_
        refine X_iload_n hg 2 rfl dX8_insert_55 ?_
        refine X_ast hg dX8_insert_56 (fun h11 _ => ?_)
        refine X_aload_n hg 0 rfl dX8_insert_57 ?_
        refine X_dup hg rfl dX8_insert_58 ?_
        refine X_getI hg (j := 1) cf_8 (Nat.le_of_ble_eq_true rfl) (Or.inl rfl) m_123 dX8_insert_59 (fun x12 _ => ?_)
        refine X_iconst hg ic_i_1 dX8_insert_62 ?_
        refine X_iadd hg dX8_insert_63 ?_
        refine X_putI hg (j := 1) cf_8 (Nat.le_of_ble_eq_true rfl) rfl (Or.inl rfl) m_123 dX8_insert_64 (fun h13 _ => ?_)
        exact X_vret hg hr (Nat.le_of_ble_eq_true rfl) (Nat.le_of_ble_eq_true rfl) dX8_insert_67
      · exact X_vret hg hr (Nat.le_of_ble_eq_true rfl) (Nat.le_of_ble_eq_true rfl) dX8_insert_19
  · exact X_vret hg hr (Nat.le_of_ble_eq_true rfl) (Nat.le_of_ble_eq_true rfl) dX8_insert_19
set_option maxRecDepth 10000 in
theorem l_X0_listFor_10 {g : XC} {x0 : Nat × Hp} (hg : XG g RX0 cX0_listFor 4 3 68 0 0) (l0 : Nat) (l1 : Nat) (l2 : Nat) (hr : XR g (some (.object "DialMenus$Row")) "listFor" (some (.ref (nB g.1 + x0.1))) x0.2 0 0) (K : Hp → Option (Nat × Hp)) (hK0 : ∀ (h : Hp), Xo g x0 4 0 0 47 [(0, .ref (nB g.1 + l0))] [] h (K h)) : ∀ (n : Nat) (l3 : Int32) (h : Hp), Xo g x0 4 0 0 10 [(0, .ref (nB g.1 + l0)), (1, .ref (nB g.1 + l1)), (2, .ref (nB g.1 + l2)), (3, .int l3)] [] h (f_X0_listFor_L10 l0 l1 l2 K n l3 h) := by
  intro n
  induction n with
  | zero =>
    intro l3 h
    exact X_none
  | succ n ih =>
    intro l3 h
    unfold f_X0_listFor_L10
    refine X_iload_n hg 3 rfl dX0_listFor_10 ?_
    refine X_aload_n hg 1 rfl dX0_listFor_11 ?_
    refine X_cVI0 hg mf_X7_size m_419 m_420 m_528 cf_7 (fun _ e => gd_isO e) (fun y e => c_X7_size g.1 l1 h y e) (As := []) rfl (Nat.le_of_ble_eq_true rfl) rfl (Nat.le_of_ble_eq_true rfl) (Nat.le_of_ble_eq_true rfl) (Nat.le_of_ble_eq_true rfl) (Nat.le_of_ble_eq_true rfl) dX0_listFor_12 (fun x3 _ => ?_)
    refine X_icmp_ge hg (tgt := 47) dX0_listFor_15 rfl (fun c10 => ?_) (fun c10 => ?_)
    · refine X_lv [0] rfl ?_
      exact hK0  _
    · refine X_aload_n hg 1 rfl dX0_listFor_18 ?_
      refine X_iload_n hg 3 rfl dX0_listFor_19 ?_
      refine X_aload_n hg 2 rfl dX0_listFor_20 ?_
      refine X_cVI0 hg mf_X7_beginsWith m_714 m_715 m_713 cf_7 (fun _ e => gd_isO e) (fun y e => c_X7_beginsWith g.1 l1 l3 l2 h y e) (As := [.int l3, .ref (nB g.1 + l2)]) rfl (Nat.le_of_ble_eq_true rfl) rfl (Nat.le_of_ble_eq_true rfl) (Nat.le_of_ble_eq_true rfl) (Nat.le_of_ble_eq_true rfl) (Nat.le_of_ble_eq_true rfl) dX0_listFor_21 (fun x4 _ => ?_)
      refine X_reg (fun (v5 : Hp) o => Xo g x0 4 0 0 41 [(0, .ref (nB g.1 + l0)), (1, .ref (nB g.1 + l1)), (2, .ref (nB g.1 + l2)), (3, .int l3)] [] v5 o) (fun kv5 hk5 => ?_) (fun v5 => ?_)
      · refine X_ib ?_
        refine X_if_eq hg (tgt := 41) dX0_listFor_24 rfl (fun c9 => ?_) (fun c9 => ?_)
        · exact hk5 h
        · refine X_aload_n hg 0 rfl dX0_listFor_27 ?_
          refine X_as ?_
          refine X_getR hg (j := 0) cf_0 (Nat.le_of_ble_eq_true rfl) (Or.inl ⟨_, rfl⟩) m_200 dX0_listFor_28 (fun x6 _ => ?_)
          refine X_aload_n hg 0 rfl dX0_listFor_31 ?_
          refine X_aload_n hg 1 rfl dX0_listFor_32 ?_
          refine X_iload_n hg 3 rfl dX0_listFor_33 ?_
          refine X_as ?_
          refine X_cVI0 hg mf_X0_placeInList m_725 m_16 m_723 cf_0 (fun _ e => gd_isO e) (fun y e => c_X0_placeInList g.1 l0 l1 l3 h y e) (As := [.ref (nB g.1 + l1), .int l3]) rfl (Nat.le_of_ble_eq_true rfl) rfl (Nat.le_of_ble_eq_true rfl) (Nat.le_of_ble_eq_true rfl) (Nat.le_of_ble_eq_true rfl) (Nat.le_of_ble_eq_true rfl) dX0_listFor_34 (fun x7 _ => ?_)
          refine X_iload_n hg 3 rfl dX0_listFor_37 ?_
          refine X_as ?_
          refine X_cVV0 hg mf_X8_insert m_730 m_731 m_729 cf_8 (fun _ e => gd_isO e) (fun y e => c_X8_insert g.1 x6 x7 l3 h y e) (As := [.int x7, .int l3]) rfl (Nat.le_of_ble_eq_true rfl) rfl (Nat.le_of_ble_eq_true rfl) (Nat.le_of_ble_eq_true rfl) (Nat.le_of_ble_eq_true rfl) (Nat.le_of_ble_eq_true rfl) dX0_listFor_38 (fun h8 _ => ?_)
          exact hk5 h8
      · refine X_iinc hg 3 rfl (v := (l3 + (nI 1))) (icc ic_i_1) (Nat.le_of_ble_eq_true rfl) (lv' := [(3, .int (l3 + (nI 1))), (0, .ref (nB g.1 + l0)), (1, .ref (nB g.1 + l1)), (2, .ref (nB g.1 + l2))]) rfl dX0_listFor_41 ?_
        refine X_goto hg (tgt := 10) dX0_listFor_44 rfl ?_
        refine X_lv [1, 2, 3, 0] rfl ?_
        exact ih _ _
set_option maxRecDepth 10000 in
theorem c_X0_listFor (en : EN) (a0 : Nat) (a1 : Nat) (a2 : Nat) (h : Hp) (x0 : Nat × Hp) (e : f_X0_listFor a0 a1 a2 h = some x0) : Ct en yX0_listFor cX0_listFor 4 (some (.object "DialMenus$Row")) 3 68 0 0 [.ref (nB en + a0), .ref (nB en + a1), .ref (nB en + a2)] h (some (.ref (nB en + x0.1))) x0.2 := by
  refine Ct.of (by decide) rfl (Nat.le_of_ble_eq_true rfl) e (fun g hen hg hr => ?_)
  subst hen
  unfold f_X0_listFor
  refine X_gd ?_
  refine X_aload_n hg 0 rfl dX0_listFor_0 ?_
  refine X_getR hg (j := 0) cf_0 (Nat.le_of_ble_eq_true rfl) (Or.inl ⟨_, rfl⟩) m_200 dX0_listFor_1 (fun x1 _ => ?_)
  refine X_cVIW0 hg mf_X8_clear m_345 m_346 m_712 cf_8 (fun _ e => gd_isO e) (fun y e => c_X8_clear g.1 x1 h y e) (As := []) rfl (Nat.le_of_ble_eq_true rfl) rfl (Nat.le_of_ble_eq_true rfl) (Nat.le_of_ble_eq_true rfl) (Nat.le_of_ble_eq_true rfl) (Nat.le_of_ble_eq_true rfl) dX0_listFor_4 (fun p2 _ => ?_)
  refine X_pop hg rfl dX0_listFor_7 ?_
  refine X_iconst hg ic_i_0 dX0_listFor_8 ?_
  refine X_istore_n hg rfl (Nat.le_of_ble_eq_true rfl) (lv' := [(3, .int (nI 0)), (0, .ref (nB g.1 + a0)), (1, .ref (nB g.1 + a1)), (2, .ref (nB g.1 + a2))]) rfl dX0_listFor_9 ?_
  refine X_lv [1, 2, 3, 0] rfl ?_
  refine l_X0_listFor_10 hg _ _ _ hr _ (fun h11 => ?_) _ _ _
  refine X_aload_n hg 0 rfl dX0_listFor_47 ?_
  refine X_getR hg (j := 0) cf_0 (Nat.le_of_ble_eq_true rfl) (Or.inl ⟨_, rfl⟩) m_200 dX0_listFor_48 (fun x12 _ => ?_)
  exact X_aretW hg (Or.inl ⟨_, rfl⟩) hr (Nat.le_of_ble_eq_true rfl) (Nat.le_of_ble_eq_true rfl) dX0_listFor_51
set_option maxRecDepth 10000 in
theorem l_X1_sharedDigits_2 {g : XC} {x0 : Int32} (hg : XG g RX1 cX1_sharedDigits 3 0 0 0 0) (l0 : Nat) (l1 : Nat) (h : Hp) (hr : XR g (some .int) "sharedDigits" (some (.int x0)) h 0 0) (K : Int32 → Option (Int32)) (hK0 : ∀ (l2 : Int32), Xo g x0 3 0 0 41 [(2, .int l2)] [] h (K l2)) : ∀ (n : Nat) (l2 : Int32), Xo g x0 3 0 0 2 [(0, .ref (nB g.1 + l0)), (1, .ref (nB g.1 + l1)), (2, .int l2)] [] h (f_X1_sharedDigits_L2 l0 l1 h K n l2) := by
  intro n
  induction n with
  | zero =>
    intro l2
    exact X_none
  | succ n ih =>
    intro l2
    unfold f_X1_sharedDigits_L2
    refine X_iload_n hg 2 rfl dX1_sharedDigits_2 ?_
    refine X_aload_n hg 0 rfl dX1_sharedDigits_3 ?_
    refine X_getR hg (j := 1) cf_1 (Nat.le_of_ble_eq_true rfl) (Or.inr ⟨_, rfl⟩) m_437 dX1_sharedDigits_4 (fun x1 _ => ?_)
    refine X_aln hg (Or.inl rfl) dX1_sharedDigits_7 (fun x2 _ => ?_)
    refine X_icmp_ge hg (tgt := 41) dX1_sharedDigits_8 rfl (fun c11 => ?_) (fun c11 => ?_)
    · refine X_lv [2] rfl ?_
      exact hK0 _
    · refine X_iload_n hg 2 rfl dX1_sharedDigits_11 ?_
      refine X_aload_n hg 1 rfl dX1_sharedDigits_12 ?_
      refine X_getR hg (j := 1) cf_1 (Nat.le_of_ble_eq_true rfl) (Or.inr ⟨_, rfl⟩) m_437 dX1_sharedDigits_13 (fun x3 _ => ?_)
      refine X_aln hg (Or.inl rfl) dX1_sharedDigits_16 (fun x4 _ => ?_)
      refine X_icmp_ge hg (tgt := 41) dX1_sharedDigits_17 rfl (fun c10 => ?_) (fun c10 => ?_)
      · refine X_lv [2] rfl ?_
        exact hK0 _
      · refine X_aload_n hg 0 rfl dX1_sharedDigits_20 ?_
        refine X_getR hg (j := 1) cf_1 (Nat.le_of_ble_eq_true rfl) (Or.inr ⟨_, rfl⟩) m_437 dX1_sharedDigits_21 (fun x5 _ => ?_)
        refine X_iload_n hg 2 rfl dX1_sharedDigits_24 ?_
        refine X_ald hg dX1_sharedDigits_25 (fun x6 _ => ?_)
        refine X_aload_n hg 1 rfl dX1_sharedDigits_26 ?_
        refine X_getR hg (j := 1) cf_1 (Nat.le_of_ble_eq_true rfl) (Or.inr ⟨_, rfl⟩) m_437 dX1_sharedDigits_27 (fun x7 _ => ?_)
        refine X_iload_n hg 2 rfl dX1_sharedDigits_30 ?_
        refine X_ald hg dX1_sharedDigits_31 (fun x8 _ => ?_)
        refine X_icmp_ne hg (tgt := 41) dX1_sharedDigits_32 rfl (fun c9 => ?_) (fun c9 => ?_)
        · refine X_iinc hg 2 rfl (v := (l2 + (nI 1))) (icc ic_i_1) (Nat.le_of_ble_eq_true rfl) (lv' := [(2, .int (l2 + (nI 1))), (0, .ref (nB g.1 + l0)), (1, .ref (nB g.1 + l1))]) rfl dX1_sharedDigits_35 ?_
          refine X_goto hg (tgt := 2) dX1_sharedDigits_38 rfl ?_
          refine X_lv [1, 2, 0] rfl ?_
          exact ih _
        · refine X_lv [2] rfl ?_
          exact hK0 _
set_option maxRecDepth 10000 in
theorem c_X1_sharedDigits (en : EN) (a0 : Nat) (a1 : Nat) (h : Hp) (x0 : Int32) (e : f_X1_sharedDigits a0 a1 h = some x0) : Ct en yX1_sharedDigits cX1_sharedDigits 3 (some .int) 0 0 0 0 [.ref (nB en + a0), .ref (nB en + a1)] h (some (.int x0)) h := by
  refine Ct.of (by decide) rfl (Nat.le_of_ble_eq_true rfl) e (fun g hen hg hr => ?_)
  subst hen
  unfold f_X1_sharedDigits
  refine X_gd ?_
  refine X_iconst hg ic_i_0 dX1_sharedDigits_0 ?_
  refine X_istore_n hg rfl (Nat.le_of_ble_eq_true rfl) (lv' := [(2, .int (nI 0)), (0, .ref (nB g.1 + a0)), (1, .ref (nB g.1 + a1))]) rfl dX1_sharedDigits_1 ?_
  refine X_lv [1, 2, 0] rfl ?_
  refine l_X1_sharedDigits_2 hg _ _ _ hr _ (fun y12 => ?_) _ _
  refine X_iload_n hg 0 rfl dX1_sharedDigits_41 ?_
  exact X_iret hg hr (Nat.le_of_ble_eq_true rfl) (Nat.le_of_ble_eq_true rfl) dX1_sharedDigits_42
set_option maxRecDepth 10000 in
theorem c_X7_sharedDigits (en : EN) (a0 : Nat) (a1 : Int32) (a2 : Int32) (h : Hp) (x0 : Int32) (e : f_X7_sharedDigits a0 a1 a2 h = some x0) : Ct en yX7_sharedDigits cX7_sharedDigits 5 (some .int) 1 22 0 0 [.ref (nB en + a0), .int a1, .int a2] h (some (.int x0)) h := by
  refine Ct.of (by decide) rfl (Nat.le_of_ble_eq_true rfl) e (fun g hen hg hr => ?_)
  subst hen
  unfold f_X7_sharedDigits
  refine X_gd ?_
  refine X_aload_n hg 0 rfl dX7_sharedDigits_0 ?_
  refine X_iload_n hg 1 rfl dX7_sharedDigits_1 ?_
  refine X_cVQ0 hg mf_X7_get m_497 m_8 m_495 cf_7 (fun _ e => gd_isO e) (fun y e => c_X7_get g.1 a0 a1 h y e) (As := [.int a1]) rfl (Nat.le_of_ble_eq_true rfl) rfl (Nat.le_of_ble_eq_true rfl) (Nat.le_of_ble_eq_true rfl) (Nat.le_of_ble_eq_true rfl) (Nat.le_of_ble_eq_true rfl) dX7_sharedDigits_2 (fun x1 _ => ?_)
  refine X_astoreQ_n hg rfl (Nat.le_of_ble_eq_true rfl) (lv' := [(3, rl (nB g.1) x1), (0, .ref (nB g.1 + a0)), (1, .int a1), (2, .int a2)]) rfl dX7_sharedDigits_5 ?_
  refine X_aload_n hg 1 rfl dX7_sharedDigits_6 ?_
  refine X_iload_n hg 3 rfl dX7_sharedDigits_7 ?_
  refine X_cVQ0 hg mf_X7_get m_497 m_8 m_495 cf_7 (fun _ e => gd_isO e) (fun y e => c_X7_get g.1 a0 a2 h y e) (As := [.int a2]) rfl (Nat.le_of_ble_eq_true rfl) rfl (Nat.le_of_ble_eq_true rfl) (Nat.le_of_ble_eq_true rfl) (Nat.le_of_ble_eq_true rfl) (Nat.le_of_ble_eq_true rfl) dX7_sharedDigits_8 (fun x2 _ => ?_)
  refine X_astoreQ hg (Nat.le_of_ble_eq_true rfl) (lv' := [(4, rl (nB g.1) x2), (3, rl (nB g.1) x1), (0, .ref (nB g.1 + a0)), (1, .int a1), (2, .int a2)]) (by simp [rl_cat]) dX7_sharedDigits_11 ?_
  refine X_aloadQ_n hg 1 rfl dX7_sharedDigits_13 ?_
  refine X_reg (fun (v3 : Int32) o => Xo g x0 5 0 0 33 [] [.int v3] h o) (fun kv3 hk3 => ?_) (fun v3 => ?_)
  · refine X_eb ?_
    refine X_ifnull hg (tgt := 22) dX7_sharedDigits_14 rfl (fun c8 => ?_) (fun q4 c8 => ?_)
    · refine X_bipush hg ic_b_m101 dX7_sharedDigits_22 ?_
      refine X_goto hg (tgt := 33) dX7_sharedDigits_24 rfl ?_
      refine X_lv [] rfl ?_
      exact hk3 m101
    · subst c8
      refine X_aloadQ hg 0 rfl dX7_sharedDigits_17 ?_
      refine X_eb ?_
      refine X_ifnonnull hg (tgt := 27) dX7_sharedDigits_19 rfl (fun c7 => ?_) (fun q5 c7 => ?_)
      · refine X_bipush hg ic_b_m101 dX7_sharedDigits_22 ?_
        refine X_goto hg (tgt := 33) dX7_sharedDigits_24 rfl ?_
        refine X_lv [] rfl ?_
        exact hk3 m101
      · subst c7
        refine X_aload_n hg 1 rfl dX7_sharedDigits_27 ?_
        refine X_aload hg 0 rfl dX7_sharedDigits_28 ?_
        refine X_as ?_
        refine X_cVI0 hg mf_X1_sharedDigits m_538 m_539 m_537 cf_1 (fun _ e => gd_isO e) (fun y e => c_X1_sharedDigits g.1 q4 q5 h y e) (As := [.ref (nB g.1 + q5)]) rfl (Nat.le_of_ble_eq_true rfl) rfl (Nat.le_of_ble_eq_true rfl) (Nat.le_of_ble_eq_true rfl) (Nat.le_of_ble_eq_true rfl) (Nat.le_of_ble_eq_true rfl) dX7_sharedDigits_30 (fun x6 _ => ?_)
        refine X_lv [] rfl ?_
        exact hk3 x6
  · exact X_iret hg hr (Nat.le_of_ble_eq_true rfl) (Nat.le_of_ble_eq_true rfl) dX7_sharedDigits_33
set_option maxRecDepth 10000 in
theorem l_X0_placeIn_6 {g : XC} {x0 : Int32} (hg : XG g RX0 cX0_placeIn 6 2 46 0 0) (l1 : Nat) (l2 : Int32) (l3 : Int32) (h : Hp) (hr : XR g (some .int) "placeIn" (some (.int x0)) h 0 0) (K : Int32 → Option (Int32)) (hK0 : ∀ (l4 : Int32), Xo g x0 6 0 0 45 [(4, .int l4)] [] h (K l4)) : ∀ (n : Nat) (l4 : Int32) (l5 : Int32), Xo g x0 6 0 0 6 [(1, .ref (nB g.1 + l1)), (2, .int l2), (3, .int l3), (4, .int l4), (5, .int l5)] [] h (f_X0_placeIn_L6 l1 l2 l3 h K n l4 l5) := by
  intro n
  induction n with
  | zero =>
    intro l4 l5
    exact X_none
  | succ n ih =>
    intro l4 l5
    unfold f_X0_placeIn_L6
    refine X_iload hg 4 rfl dX0_placeIn_6 ?_
    refine X_aload_n hg 0 rfl dX0_placeIn_8 ?_
    refine X_cVI0 hg mf_X7_size m_419 m_420 m_528 cf_7 (fun _ e => gd_isO e) (fun y e => c_X7_size g.1 l1 h y e) (As := []) rfl (Nat.le_of_ble_eq_true rfl) rfl (Nat.le_of_ble_eq_true rfl) (Nat.le_of_ble_eq_true rfl) (Nat.le_of_ble_eq_true rfl) (Nat.le_of_ble_eq_true rfl) dX0_placeIn_9 (fun x1 _ => ?_)
    refine X_icmp_ge hg (tgt := 45) dX0_placeIn_12 rfl (fun c7 => ?_) (fun c7 => ?_)
    · refine X_lv [3] rfl ?_
      exact hK0 _
    · refine X_aload_n hg 0 rfl dX0_placeIn_15 ?_
      refine X_iload hg 4 rfl dX0_placeIn_16 ?_
      refine X_iload_n hg 2 rfl dX0_placeIn_18 ?_
      refine X_cVI0 hg mf_X7_isAhead m_560 m_561 m_559 cf_7 (fun _ e => gd_isO e) (fun y e => c_X7_isAhead g.1 l1 l5 l3 h y e) (As := [.int l5, .int l3]) rfl (Nat.le_of_ble_eq_true rfl) rfl (Nat.le_of_ble_eq_true rfl) (Nat.le_of_ble_eq_true rfl) (Nat.le_of_ble_eq_true rfl) (Nat.le_of_ble_eq_true rfl) dX0_placeIn_19 (fun x2 _ => ?_)
      refine X_reg (fun (v3 : Int32) o => Xo g x0 6 0 0 39 [(1, .ref (nB g.1 + l1)), (2, .int l2), (3, .int l3), (4, .int v3), (5, .int l5)] [] h o) (fun kv3 hk3 => ?_) (fun v3 => ?_)
      · refine X_ib ?_
        refine X_if_eq hg (tgt := 39) dX0_placeIn_22 rfl (fun c6 => ?_) (fun c6 => ?_)
        · exact hk3 l4
        · refine X_aload_n hg 0 rfl dX0_placeIn_25 ?_
          refine X_iload hg 4 rfl dX0_placeIn_26 ?_
          refine X_iload_n hg 2 rfl dX0_placeIn_28 ?_
          refine X_as ?_
          refine X_cVI0 hg mf_X7_sharedDigits m_546 m_547 m_545 cf_7 (fun _ e => gd_isO e) (fun y e => c_X7_sharedDigits g.1 l1 l5 l3 h y e) (As := [.int l5, .int l3]) rfl (Nat.le_of_ble_eq_true rfl) rfl (Nat.le_of_ble_eq_true rfl) (Nat.le_of_ble_eq_true rfl) (Nat.le_of_ble_eq_true rfl) (Nat.le_of_ble_eq_true rfl) dX0_placeIn_29 (fun x4 _ => ?_)
          refine X_iload_n hg 1 rfl dX0_placeIn_32 ?_
          refine X_ib ?_
          refine X_icmp_lt hg (tgt := 39) dX0_placeIn_33 rfl (fun c5 => ?_) (fun c5 => ?_)
          · exact hk3 l4
          · refine X_iinc hg 3 rfl (v := (l4 + (nI 1))) (icc ic_i_1) (Nat.le_of_ble_eq_true rfl) (lv' := [(4, .int (l4 + (nI 1))), (1, .ref (nB g.1 + l1)), (2, .int l2), (3, .int l3), (5, .int l5)]) rfl dX0_placeIn_36 ?_
            refine X_lv [1, 2, 3, 0, 4] rfl ?_
            exact hk3 (l4 + (nI 1))
      · refine X_iinc hg 4 rfl (v := (l5 + (nI 1))) (icc ic_i_1) (Nat.le_of_ble_eq_true rfl) (lv' := [(5, .int (l5 + (nI 1))), (1, .ref (nB g.1 + l1)), (2, .int l2), (3, .int l3), (4, .int v3)]) rfl dX0_placeIn_39 ?_
        refine X_goto hg (tgt := 6) dX0_placeIn_42 rfl ?_
        refine X_lv [1, 2, 3, 4, 0] rfl ?_
        exact ih _ _
set_option maxRecDepth 10000 in
theorem c_X0_placeIn (en : EN) (a0 : Nat) (a1 : Nat) (a2 : Int32) (a3 : Int32) (h : Hp) (x0 : Int32) (e : f_X0_placeIn a0 a1 a2 a3 h = some x0) : Ct en yX0_placeIn cX0_placeIn 6 (some .int) 2 46 0 0 [.ref (nB en + a0), .ref (nB en + a1), .int a2, .int a3] h (some (.int x0)) h := by
  refine Ct.of (by decide) rfl (Nat.le_of_ble_eq_true rfl) e (fun g hen hg hr => ?_)
  subst hen
  unfold f_X0_placeIn
  refine X_gd ?_
  refine X_iconst hg ic_i_0 dX0_placeIn_0 ?_
  refine X_istore hg (Nat.le_of_ble_eq_true rfl) (lv' := [(4, .int (nI 0)), (0, .ref (nB g.1 + a0)), (1, .ref (nB g.1 + a1)), (2, .int a2), (3, .int a3)]) rfl dX0_placeIn_1 ?_
  refine X_iconst hg ic_i_0 dX0_placeIn_3 ?_
  refine X_istore hg (Nat.le_of_ble_eq_true rfl) (lv' := [(5, .int (nI 0)), (4, .int (nI 0)), (0, .ref (nB g.1 + a0)), (1, .ref (nB g.1 + a1)), (2, .int a2), (3, .int a3)]) rfl dX0_placeIn_4 ?_
  refine X_lv [3, 4, 5, 1, 0] rfl ?_
  refine l_X0_placeIn_6 hg _ _ _ _ hr _ (fun y8 => ?_) _ _ _
  refine X_iload hg 0 rfl dX0_placeIn_45 ?_
  exact X_iret hg hr (Nat.le_of_ble_eq_true rfl) (Nat.le_of_ble_eq_true rfl) dX0_placeIn_47
set_option maxRecDepth 10000 in
theorem c_X7_lengthOf (en : EN) (a0 : Nat) (a1 : Int32) (h : Hp) (x0 : Int32) (e : f_X7_lengthOf a0 a1 h = some x0) : Ct en yX7_lengthOf cX7_lengthOf 3 (some .int) 1 21 0 0 [.ref (nB en + a0), .int a1] h (some (.int x0)) h := by
  refine Ct.of (by decide) rfl (Nat.le_of_ble_eq_true rfl) e (fun g hen hg hr => ?_)
  subst hen
  unfold f_X7_lengthOf
  refine X_gd ?_
  refine X_aload_n hg 0 rfl dX7_lengthOf_0 ?_
  refine X_iload_n hg 1 rfl dX7_lengthOf_1 ?_
  refine X_cVQ0 hg mf_X7_get m_497 m_8 m_495 cf_7 (fun _ e => gd_isO e) (fun y e => c_X7_get g.1 a0 a1 h y e) (As := [.int a1]) rfl (Nat.le_of_ble_eq_true rfl) rfl (Nat.le_of_ble_eq_true rfl) (Nat.le_of_ble_eq_true rfl) (Nat.le_of_ble_eq_true rfl) (Nat.le_of_ble_eq_true rfl) dX7_lengthOf_2 (fun x1 _ => ?_)
  refine X_astoreQ_n hg rfl (Nat.le_of_ble_eq_true rfl) (lv' := [(2, rl (nB g.1) x1), (0, .ref (nB g.1 + a0)), (1, .int a1)]) rfl dX7_lengthOf_5 ?_
  refine X_aloadQ_n hg 0 rfl dX7_lengthOf_6 ?_
  refine X_reg (fun (v2 : Int32) o => Xo g x0 3 0 0 20 [] [.int v2] h o) (fun kv2 hk2 => ?_) (fun v2 => ?_)
  · refine X_eb ?_
    refine X_ifnonnull hg (tgt := 15) dX7_lengthOf_7 rfl (fun c6 => ?_) (fun q3 c6 => ?_)
    · refine X_bipush hg ic_b_m101 dX7_lengthOf_10 ?_
      refine X_goto hg (tgt := 20) dX7_lengthOf_12 rfl ?_
      refine X_lv [] rfl ?_
      exact hk2 m101
    · subst c6
      refine X_aload_n hg 0 rfl dX7_lengthOf_15 ?_
      refine X_as ?_
      refine X_getRN hg (j := 0) cf_1 (Nat.le_of_ble_eq_true rfl) (Or.inr ⟨_, rfl⟩) m_436 dX7_lengthOf_16 (fun x4 _ => ?_)
      refine X_as ?_
      refine X_aln hg (Or.inl rfl) dX7_lengthOf_19 (fun x5 _ => ?_)
      refine X_lv [] rfl ?_
      exact hk2 x5
  · exact X_iret hg hr (Nat.le_of_ble_eq_true rfl) (Nat.le_of_ble_eq_true rfl) dX7_lengthOf_20
set_option maxRecDepth 10000 in
theorem l_X0_presses_13 {g : XC} {x0 : Int32} (hg : XG g RX0 cX0_presses 5 3 71 0 0) (l0 : Nat) (l1 : Nat) (l2 : Int32) (h : Hp) (hr : XR g (some .int) "presses" (some (.int x0)) h 0 0) (K : Int32 → Option (Int32)) (hK0 : ∀ (l3 : Int32), Xo g x0 5 0 0 47 [(3, .int l3)] [] h (K l3)) : ∀ (n : Nat) (l3 : Int32) (l4 : Int32), Xo g x0 5 0 0 13 [(0, .ref (nB g.1 + l0)), (1, .ref (nB g.1 + l1)), (2, .int l2), (3, .int l3), (4, .int l4)] [] h (f_X0_presses_L13 l0 l1 l2 h K n l3 l4) := by
  intro n
  induction n with
  | zero =>
    intro l3 l4
    exact X_none
  | succ n ih =>
    intro l3 l4
    unfold f_X0_presses_L13
    refine X_iload hg 4 rfl dX0_presses_13 ?_
    refine X_aload_n hg 1 rfl dX0_presses_15 ?_
    refine X_iload_n hg 2 rfl dX0_presses_16 ?_
    refine X_cVI0 hg mf_X7_lengthOf m_517 m_518 m_550 cf_7 (fun _ e => gd_isO e) (fun y e => c_X7_lengthOf g.1 l1 l2 h y e) (As := [.int l2]) rfl (Nat.le_of_ble_eq_true rfl) rfl (Nat.le_of_ble_eq_true rfl) (Nat.le_of_ble_eq_true rfl) (Nat.le_of_ble_eq_true rfl) (Nat.le_of_ble_eq_true rfl) dX0_presses_17 (fun x2 _ => ?_)
    refine X_icmp_gt hg (tgt := 47) dX0_presses_20 rfl (fun c4 => ?_) (fun c4 => ?_)
    · refine X_lv [3] rfl ?_
      exact hK0 _
    · refine X_iload_n hg 3 rfl dX0_presses_23 ?_
      refine X_iload hg 4 rfl dX0_presses_24 ?_
      refine X_aload_n hg 0 rfl dX0_presses_26 ?_
      refine X_aload_n hg 1 rfl dX0_presses_27 ?_
      refine X_iload hg 4 rfl dX0_presses_28 ?_
      refine X_iload_n hg 2 rfl dX0_presses_30 ?_
      refine X_cVI0 hg mf_X0_placeIn m_556 m_557 m_555 cf_0 (fun _ e => gd_isO e) (fun y e => c_X0_placeIn g.1 l0 l1 l4 l2 h y e) (As := [.ref (nB g.1 + l1), .int l4, .int l2]) rfl (Nat.le_of_ble_eq_true rfl) rfl (Nat.le_of_ble_eq_true rfl) (Nat.le_of_ble_eq_true rfl) (Nat.le_of_ble_eq_true rfl) (Nat.le_of_ble_eq_true rfl) dX0_presses_31 (fun x3 _ => ?_)
      refine X_iadd hg dX0_presses_34 ?_
      refine X_iconst hg ic_i_1 dX0_presses_35 ?_
      refine X_iadd hg dX0_presses_36 ?_
      refine X_min hg m_563 m_stmin m_inM m_cdmin (Nat.le_of_ble_eq_true rfl) (Nat.le_of_ble_eq_true rfl) (Nat.le_of_ble_eq_true rfl) (Nat.le_of_ble_eq_true rfl) dX0_presses_37 ?_
      refine X_istore_n hg rfl (Nat.le_of_ble_eq_true rfl) (lv' := [(3, .int (imn l3 ((l4 + x3) + (nI 1)))), (0, .ref (nB g.1 + l0)), (1, .ref (nB g.1 + l1)), (2, .int l2), (4, .int l4)]) rfl dX0_presses_40 ?_
      refine X_iinc hg 4 rfl (v := (l4 + (nI 1))) (icc ic_i_1) (Nat.le_of_ble_eq_true rfl) (lv' := [(4, .int (l4 + (nI 1))), (3, .int (imn l3 ((l4 + x3) + (nI 1)))), (0, .ref (nB g.1 + l0)), (1, .ref (nB g.1 + l1)), (2, .int l2)]) rfl dX0_presses_41 ?_
      refine X_goto hg (tgt := 13) dX0_presses_44 rfl ?_
      refine X_lv [2, 3, 4, 1, 0] rfl ?_
      exact ih _ _
set_option maxRecDepth 10000 in
theorem c_X0_presses (en : EN) (a0 : Nat) (a1 : Nat) (a2 : Int32) (h : Hp) (x0 : Int32) (e : f_X0_presses a0 a1 a2 h = some x0) : Ct en yX0_presses cX0_presses 5 (some .int) 3 71 0 0 [.ref (nB en + a0), .ref (nB en + a1), .int a2] h (some (.int x0)) h := by
  refine Ct.of (by decide) rfl (Nat.le_of_ble_eq_true rfl) e (fun g hen hg hr => ?_)
  subst hen
  unfold f_X0_presses
  refine X_gd ?_
  refine X_aload_n hg 0 rfl dX0_presses_0 ?_
  refine X_aload_n hg 1 rfl dX0_presses_1 ?_
  refine X_iconst hg ic_i_0 dX0_presses_2 ?_
  refine X_iload_n hg 2 rfl dX0_presses_3 ?_
  refine X_cVI0 hg mf_X0_placeIn m_556 m_557 m_555 cf_0 (fun _ e => gd_isO e) (fun y e => c_X0_placeIn g.1 a0 a1 (nI 0) a2 h y e) (As := [.ref (nB g.1 + a1), .int (nI 0), .int a2]) rfl (Nat.le_of_ble_eq_true rfl) rfl (Nat.le_of_ble_eq_true rfl) (Nat.le_of_ble_eq_true rfl) (Nat.le_of_ble_eq_true rfl) (Nat.le_of_ble_eq_true rfl) dX0_presses_4 (fun x1 _ => ?_)
  refine X_iconst hg ic_i_1 dX0_presses_7 ?_
  refine X_iadd hg dX0_presses_8 ?_
  refine X_istore_n hg rfl (Nat.le_of_ble_eq_true rfl) (lv' := [(3, .int (x1 + (nI 1))), (0, .ref (nB g.1 + a0)), (1, .ref (nB g.1 + a1)), (2, .int a2)]) rfl dX0_presses_9 ?_
  refine X_iconst hg ic_i_1 dX0_presses_10 ?_
  refine X_istore hg (Nat.le_of_ble_eq_true rfl) (lv' := [(4, .int (nI 1)), (3, .int (x1 + (nI 1))), (0, .ref (nB g.1 + a0)), (1, .ref (nB g.1 + a1)), (2, .int a2)]) rfl dX0_presses_11 ?_
  refine X_lv [2, 3, 4, 1, 0] rfl ?_
  refine l_X0_presses_13 hg _ _ _ _ hr _ (fun y5 => ?_) _ _ _
  refine X_iload_n hg 0 rfl dX0_presses_47 ?_
  exact X_iret hg hr (Nat.le_of_ble_eq_true rfl) (Nat.le_of_ble_eq_true rfl) dX0_presses_48
set_option maxRecDepth 10000 in
theorem l_X0_distinguishingLength_5 {g : XC} {x0 : Int32} (hg : XG g RX0 cX0_distinguishingLength 5 2 46 0 0) (l1 : Nat) (l2 : Int32) (h : Hp) (hr : XR g (some .int) "distinguishingLength" (some (.int x0)) h 0 0) (K : Int32 → Option (Int32)) (hK0 : ∀ (l3 : Int32), Xo g x0 5 0 0 40 [(1, .ref (nB g.1 + l1)), (2, .int l2), (3, .int l3)] [] h (K l3)) : ∀ (n : Nat) (l3 : Int32) (l4 : Int32), Xo g x0 5 0 0 5 [(1, .ref (nB g.1 + l1)), (2, .int l2), (3, .int l3), (4, .int l4)] [] h (f_X0_distinguishingLength_L5 l1 l2 h K n l3 l4) := by
  intro n
  induction n with
  | zero =>
    intro l3 l4
    exact X_none
  | succ n ih =>
    intro l3 l4
    unfold f_X0_distinguishingLength_L5
    refine X_iload hg 3 rfl dX0_distinguishingLength_5 ?_
    refine X_aload_n hg 0 rfl dX0_distinguishingLength_7 ?_
    refine X_cVI0 hg mf_X7_size m_419 m_420 m_528 cf_7 (fun _ e => gd_isO e) (fun y e => c_X7_size g.1 l1 h y e) (As := []) rfl (Nat.le_of_ble_eq_true rfl) rfl (Nat.le_of_ble_eq_true rfl) (Nat.le_of_ble_eq_true rfl) (Nat.le_of_ble_eq_true rfl) (Nat.le_of_ble_eq_true rfl) dX0_distinguishingLength_8 (fun x1 _ => ?_)
    refine X_icmp_ge hg (tgt := 40) dX0_distinguishingLength_11 rfl (fun c5 => ?_) (fun c5 => ?_)
    · refine X_lv [0, 1, 2] rfl ?_
      exact hK0 _
    · refine X_iload hg 3 rfl dX0_distinguishingLength_14 ?_
      refine X_iload_n hg 1 rfl dX0_distinguishingLength_16 ?_
      refine X_reg (fun (v2 : Int32) o => Xo g x0 5 0 0 34 [(1, .ref (nB g.1 + l1)), (2, .int l2), (3, .int v2), (4, .int l4)] [] h o) (fun kv2 hk2 => ?_) (fun v2 => ?_)
      · refine X_ib ?_
        refine X_icmp_eq hg (tgt := 34) dX0_distinguishingLength_17 rfl (fun c4 => ?_) (fun c4 => ?_)
        · exact hk2 l3
        · refine X_iload_n hg 2 rfl dX0_distinguishingLength_20 ?_
          refine X_aload_n hg 0 rfl dX0_distinguishingLength_21 ?_
          refine X_iload hg 3 rfl dX0_distinguishingLength_22 ?_
          refine X_iload_n hg 1 rfl dX0_distinguishingLength_24 ?_
          refine X_as ?_
          refine X_cVI0 hg mf_X7_sharedDigits m_546 m_547 m_545 cf_7 (fun _ e => gd_isO e) (fun y e => c_X7_sharedDigits g.1 l1 l4 l2 h y e) (As := [.int l4, .int l2]) rfl (Nat.le_of_ble_eq_true rfl) rfl (Nat.le_of_ble_eq_true rfl) (Nat.le_of_ble_eq_true rfl) (Nat.le_of_ble_eq_true rfl) (Nat.le_of_ble_eq_true rfl) dX0_distinguishingLength_25 (fun x3 _ => ?_)
          refine X_iconst hg ic_i_1 dX0_distinguishingLength_28 ?_
          refine X_iadd hg dX0_distinguishingLength_29 ?_
          refine X_max hg m_549 m_stmax m_inM m_cdmax (Nat.le_of_ble_eq_true rfl) (Nat.le_of_ble_eq_true rfl) (Nat.le_of_ble_eq_true rfl) (Nat.le_of_ble_eq_true rfl) dX0_distinguishingLength_30 ?_
          refine X_istore_n hg rfl (Nat.le_of_ble_eq_true rfl) (lv' := [(3, .int (imx l3 (x3 + (nI 1)))), (1, .ref (nB g.1 + l1)), (2, .int l2), (4, .int l4)]) rfl dX0_distinguishingLength_33 ?_
          refine X_lv [1, 2, 0, 3] rfl ?_
          exact hk2 (imx l3 (x3 + (nI 1)))
      · refine X_iinc hg 3 rfl (v := (l4 + (nI 1))) (icc ic_i_1) (Nat.le_of_ble_eq_true rfl) (lv' := [(4, .int (l4 + (nI 1))), (1, .ref (nB g.1 + l1)), (2, .int l2), (3, .int v2)]) rfl dX0_distinguishingLength_34 ?_
        refine X_goto hg (tgt := 5) dX0_distinguishingLength_37 rfl ?_
        refine X_lv [1, 2, 3, 0] rfl ?_
        exact ih _ _
set_option maxRecDepth 10000 in
theorem c_X0_distinguishingLength (en : EN) (a0 : Nat) (a1 : Nat) (a2 : Int32) (h : Hp) (x0 : Int32) (e : f_X0_distinguishingLength a0 a1 a2 h = some x0) : Ct en yX0_distinguishingLength cX0_distinguishingLength 5 (some .int) 2 46 0 0 [.ref (nB en + a0), .ref (nB en + a1), .int a2] h (some (.int x0)) h := by
  refine Ct.of (by decide) rfl (Nat.le_of_ble_eq_true rfl) e (fun g hen hg hr => ?_)
  subst hen
  unfold f_X0_distinguishingLength
  refine X_gd ?_
  refine X_iconst hg ic_i_0 dX0_distinguishingLength_0 ?_
  refine X_istore_n hg rfl (Nat.le_of_ble_eq_true rfl) (lv' := [(3, .int (nI 0)), (0, .ref (nB g.1 + a0)), (1, .ref (nB g.1 + a1)), (2, .int a2)]) rfl dX0_distinguishingLength_1 ?_
  refine X_iconst hg ic_i_0 dX0_distinguishingLength_2 ?_
  refine X_istore hg (Nat.le_of_ble_eq_true rfl) (lv' := [(4, .int (nI 0)), (3, .int (nI 0)), (0, .ref (nB g.1 + a0)), (1, .ref (nB g.1 + a1)), (2, .int a2)]) rfl dX0_distinguishingLength_3 ?_
  refine X_lv [3, 4, 1, 0] rfl ?_
  refine l_X0_distinguishingLength_5 hg _ _ _ hr _ (fun y6 => ?_) _ _ _
  refine X_iload_n hg 2 rfl dX0_distinguishingLength_40 ?_
  refine X_aload_n hg 0 rfl dX0_distinguishingLength_41 ?_
  refine X_iload_n hg 1 rfl dX0_distinguishingLength_42 ?_
  refine X_cVI0 hg mf_X7_lengthOf m_517 m_518 m_550 cf_7 (fun _ e => gd_isO e) (fun y e => c_X7_lengthOf g.1 a1 a2 h y e) (As := [.int a2]) rfl (Nat.le_of_ble_eq_true rfl) rfl (Nat.le_of_ble_eq_true rfl) (Nat.le_of_ble_eq_true rfl) (Nat.le_of_ble_eq_true rfl) (Nat.le_of_ble_eq_true rfl) dX0_distinguishingLength_43 (fun x7 _ => ?_)
  refine X_reg (fun (v8 : Int32) o => Xo g x0 5 0 0 54 [] [.int v8] h o) (fun kv8 hk8 => ?_) (fun v8 => ?_)
  · refine X_ib ?_
    refine X_icmp_gt hg (tgt := 53) dX0_distinguishingLength_46 rfl (fun c9 => ?_) (fun c9 => ?_)
    · refine X_iconst hg ic_i_m1 dX0_distinguishingLength_53 ?_
      refine X_lv [] rfl ?_
      exact hk8 m1
    · refine X_iload_n hg 2 rfl dX0_distinguishingLength_49 ?_
      refine X_goto hg (tgt := 54) dX0_distinguishingLength_50 rfl ?_
      refine X_lv [] rfl ?_
      exact hk8 y6
  · exact X_iret hg hr (Nat.le_of_ble_eq_true rfl) (Nat.le_of_ble_eq_true rfl) dX0_distinguishingLength_54
set_option maxRecDepth 10000 in
theorem c_X7_areTwins (en : EN) (a0 : Nat) (a1 : Int32) (a2 : Int32) (h : Hp) (x0 : Int32) (e : f_X7_areTwins a0 a1 a2 h = some x0) : Ct en yX7_areTwins cX7_areTwins 6 (some .boolean) 1 22 0 0 [.ref (nB en + a0), .int a1, .int a2] h (some (.int x0)) h := by
  refine Ct.of (by decide) rfl (Nat.le_of_ble_eq_true rfl) e (fun g hen hg hr => ?_)
  subst hen
  unfold f_X7_areTwins
  refine X_gd ?_
  refine X_aload_n hg 0 rfl dX7_areTwins_0 ?_
  refine X_iload_n hg 1 rfl dX7_areTwins_1 ?_
  refine X_cVQ0 hg mf_X7_get m_497 m_8 m_495 cf_7 (fun _ e => gd_isO e) (fun y e => c_X7_get g.1 a0 a1 h y e) (As := [.int a1]) rfl (Nat.le_of_ble_eq_true rfl) rfl (Nat.le_of_ble_eq_true rfl) (Nat.le_of_ble_eq_true rfl) (Nat.le_of_ble_eq_true rfl) (Nat.le_of_ble_eq_true rfl) dX7_areTwins_2 (fun x1 _ => ?_)
  refine X_astoreQ_n hg rfl (Nat.le_of_ble_eq_true rfl) (lv' := [(3, rl (nB g.1) x1), (0, .ref (nB g.1 + a0)), (1, .int a1), (2, .int a2)]) rfl dX7_areTwins_5 ?_
  refine X_aload_n hg 1 rfl dX7_areTwins_6 ?_
  refine X_iload_n hg 3 rfl dX7_areTwins_7 ?_
  refine X_cVQ0 hg mf_X7_get m_497 m_8 m_495 cf_7 (fun _ e => gd_isO e) (fun y e => c_X7_get g.1 a0 a2 h y e) (As := [.int a2]) rfl (Nat.le_of_ble_eq_true rfl) rfl (Nat.le_of_ble_eq_true rfl) (Nat.le_of_ble_eq_true rfl) (Nat.le_of_ble_eq_true rfl) (Nat.le_of_ble_eq_true rfl) dX7_areTwins_8 (fun x2 _ => ?_)
  refine X_astoreQ hg (Nat.le_of_ble_eq_true rfl) (lv' := [(4, rl (nB g.1) x2), (3, rl (nB g.1) x1), (0, .ref (nB g.1 + a0)), (1, .int a1), (2, .int a2)]) (by simp [rl_cat]) dX7_areTwins_11 ?_
  refine X_aloadQ_n hg 1 rfl dX7_areTwins_13 ?_
  refine X_ifnull hg (tgt := 27) dX7_areTwins_14 rfl (fun c15 => ?_) (fun q3 c15 => ?_)
  · refine X_iconst hg ic_i_0 dX7_areTwins_27 ?_
    exact X_zret hg hr (Nat.le_of_ble_eq_true rfl) (Nat.le_of_ble_eq_true rfl) dX7_areTwins_28
  · subst c15
    refine X_aloadQ hg 0 rfl dX7_areTwins_17 ?_
    refine X_ifnull hg (tgt := 27) dX7_areTwins_19 rfl (fun c14 => ?_) (fun q4 c14 => ?_)
    · refine X_iconst hg ic_i_0 dX7_areTwins_27 ?_
      exact X_zret hg hr (Nat.le_of_ble_eq_true rfl) (Nat.le_of_ble_eq_true rfl) dX7_areTwins_28
    · subst c14
      refine X_iload_n hg 3 rfl dX7_areTwins_22 ?_
      refine X_iload_n hg 4 rfl dX7_areTwins_23 ?_
      refine X_icmp_ne hg (tgt := 29) dX7_areTwins_24 rfl (fun c13 => ?_) (fun c13 => ?_)
      · refine X_iconst hg ic_i_0 dX7_areTwins_27 ?_
        exact X_zret hg hr (Nat.le_of_ble_eq_true rfl) (Nat.le_of_ble_eq_true rfl) dX7_areTwins_28
      · refine X_aload_n hg 1 rfl dX7_areTwins_29 ?_
        refine X_getRN hg (j := 1) cf_1 (Nat.le_of_ble_eq_true rfl) (Or.inr ⟨_, rfl⟩) m_438 dX7_areTwins_30 (fun x5 _ => ?_)
        refine X_aln hg (Or.inl rfl) dX7_areTwins_33 (fun x6 _ => ?_)
        refine X_istore hg (Nat.le_of_ble_eq_true rfl) (lv' := [(5, .int x6), (4, .ref (nB g.1 + q4)), (3, .ref (nB g.1 + q3)), (0, .ref (nB g.1 + a0)), (1, .int a1), (2, .int a2)]) rfl dX7_areTwins_34 ?_
        refine X_aload hg 1 rfl dX7_areTwins_36 ?_
        refine X_getRN hg (j := 1) cf_1 (Nat.le_of_ble_eq_true rfl) (Or.inr ⟨_, rfl⟩) m_438 dX7_areTwins_38 (fun x7 _ => ?_)
        refine X_aln hg (Or.inl rfl) dX7_areTwins_41 (fun x8 _ => ?_)
        refine X_iload hg 0 rfl dX7_areTwins_42 ?_
        refine X_reg (fun (v9 : Int32) o => Xo g x0 6 0 0 63 [] [.int v9] h o) (fun kv9 hk9 => ?_) (fun v9 => ?_)
        · refine X_ib ?_
          refine X_icmp_ne hg (tgt := 62) dX7_areTwins_44 rfl (fun c12 => ?_) (fun c12 => ?_)
          · refine X_aload_n hg 2 rfl dX7_areTwins_47 ?_
            refine X_aload hg 1 rfl dX7_areTwins_48 ?_
            refine X_as ?_
            refine X_cVI0 hg mf_X1_sharedDigits m_538 m_539 m_537 cf_1 (fun _ e => gd_isO e) (fun y e => c_X1_sharedDigits g.1 q3 q4 h y e) (As := [.ref (nB g.1 + q4)]) rfl (Nat.le_of_ble_eq_true rfl) rfl (Nat.le_of_ble_eq_true rfl) (Nat.le_of_ble_eq_true rfl) (Nat.le_of_ble_eq_true rfl) (Nat.le_of_ble_eq_true rfl) dX7_areTwins_50 (fun x10 _ => ?_)
            refine X_iload hg 0 rfl dX7_areTwins_53 ?_
            refine X_ib ?_
            refine X_icmp_ne hg (tgt := 62) dX7_areTwins_55 rfl (fun c11 => ?_) (fun c11 => ?_)
            · refine X_iconst hg ic_i_1 dX7_areTwins_58 ?_
              refine X_goto hg (tgt := 63) dX7_areTwins_59 rfl ?_
              refine X_lv [] rfl ?_
              exact hk9 (nI 1)
            · refine X_iconst hg ic_i_0 dX7_areTwins_62 ?_
              refine X_lv [] rfl ?_
              exact hk9 (nI 0)
          · refine X_iconst hg ic_i_0 dX7_areTwins_62 ?_
            refine X_lv [] rfl ?_
            exact hk9 (nI 0)
        · exact X_zret hg hr (Nat.le_of_ble_eq_true rfl) (Nat.le_of_ble_eq_true rfl) dX7_areTwins_63
set_option maxRecDepth 10000 in
theorem l_X0_twinsBelow_6 {g : XC} {x0 : Int32} (hg : XG g RX0 cX0_twinsBelow 6 2 47 0 0) (l1 : Nat) (l2 : Int32) (l3 : Int32) (h : Hp) (hr : XR g (some .int) "twinsBelow" (some (.int x0)) h 0 0) (K : Int32 → Option (Int32)) (hK0 : ∀ (l4 : Int32), Xo g x0 6 0 0 31 [(4, .int l4)] [] h (K l4)) : ∀ (n : Nat) (l4 : Int32) (l5 : Int32), Xo g x0 6 0 0 6 [(1, .ref (nB g.1 + l1)), (2, .int l2), (3, .int l3), (4, .int l4), (5, .int l5)] [] h (f_X0_twinsBelow_L6 l1 l2 l3 h K n l4 l5) := by
  intro n
  induction n with
  | zero =>
    intro l4 l5
    exact X_none
  | succ n ih =>
    intro l4 l5
    unfold f_X0_twinsBelow_L6
    refine X_iload hg 4 rfl dX0_twinsBelow_6 ?_
    refine X_iload_n hg 1 rfl dX0_twinsBelow_8 ?_
    refine X_icmp_ge hg (tgt := 31) dX0_twinsBelow_9 rfl (fun c4 => ?_) (fun c4 => ?_)
    · refine X_lv [3] rfl ?_
      exact hK0 _
    · refine X_aload_n hg 0 rfl dX0_twinsBelow_12 ?_
      refine X_iload_n hg 2 rfl dX0_twinsBelow_13 ?_
      refine X_iload hg 4 rfl dX0_twinsBelow_14 ?_
      refine X_cVI0 hg mf_X7_areTwins m_534 m_535 m_533 cf_7 (fun _ e => gd_isO e) (fun y e => c_X7_areTwins g.1 l1 l3 l5 h y e) (As := [.int l3, .int l5]) rfl (Nat.le_of_ble_eq_true rfl) rfl (Nat.le_of_ble_eq_true rfl) (Nat.le_of_ble_eq_true rfl) (Nat.le_of_ble_eq_true rfl) (Nat.le_of_ble_eq_true rfl) dX0_twinsBelow_16 (fun x1 _ => ?_)
      refine X_reg (fun (v2 : Int32) o => Xo g x0 6 0 0 25 [(1, .ref (nB g.1 + l1)), (2, .int l2), (3, .int l3), (4, .int v2), (5, .int l5)] [] h o) (fun kv2 hk2 => ?_) (fun v2 => ?_)
      · refine X_ib ?_
        refine X_if_eq hg (tgt := 25) dX0_twinsBelow_19 rfl (fun c3 => ?_) (fun c3 => ?_)
        · exact hk2 l4
        · refine X_iinc hg 3 rfl (v := (l4 + (nI 1))) (icc ic_i_1) (Nat.le_of_ble_eq_true rfl) (lv' := [(4, .int (l4 + (nI 1))), (1, .ref (nB g.1 + l1)), (2, .int l2), (3, .int l3), (5, .int l5)]) rfl dX0_twinsBelow_22 ?_
          refine X_lv [1, 2, 3, 0, 4] rfl ?_
          exact hk2 (l4 + (nI 1))
      · refine X_iinc hg 4 rfl (v := (l5 + (nI 1))) (icc ic_i_1) (Nat.le_of_ble_eq_true rfl) (lv' := [(5, .int (l5 + (nI 1))), (1, .ref (nB g.1 + l1)), (2, .int l2), (3, .int l3), (4, .int v2)]) rfl dX0_twinsBelow_25 ?_
        refine X_goto hg (tgt := 6) dX0_twinsBelow_28 rfl ?_
        refine X_lv [1, 2, 3, 4, 0] rfl ?_
        exact ih _ _
set_option maxRecDepth 10000 in
theorem c_X0_twinsBelow (en : EN) (a0 : Nat) (a1 : Nat) (a2 : Int32) (a3 : Int32) (h : Hp) (x0 : Int32) (e : f_X0_twinsBelow a0 a1 a2 a3 h = some x0) : Ct en yX0_twinsBelow cX0_twinsBelow 6 (some .int) 2 47 0 0 [.ref (nB en + a0), .ref (nB en + a1), .int a2, .int a3] h (some (.int x0)) h := by
  refine Ct.of (by decide) rfl (Nat.le_of_ble_eq_true rfl) e (fun g hen hg hr => ?_)
  subst hen
  unfold f_X0_twinsBelow
  refine X_gd ?_
  refine X_iconst hg ic_i_0 dX0_twinsBelow_0 ?_
  refine X_istore hg (Nat.le_of_ble_eq_true rfl) (lv' := [(4, .int (nI 0)), (0, .ref (nB g.1 + a0)), (1, .ref (nB g.1 + a1)), (2, .int a2), (3, .int a3)]) rfl dX0_twinsBelow_1 ?_
  refine X_iconst hg ic_i_0 dX0_twinsBelow_3 ?_
  refine X_istore hg (Nat.le_of_ble_eq_true rfl) (lv' := [(5, .int (nI 0)), (4, .int (nI 0)), (0, .ref (nB g.1 + a0)), (1, .ref (nB g.1 + a1)), (2, .int a2), (3, .int a3)]) rfl dX0_twinsBelow_4 ?_
  refine X_lv [3, 4, 5, 1, 0] rfl ?_
  refine l_X0_twinsBelow_6 hg _ _ _ _ hr _ (fun y5 => ?_) _ _ _
  refine X_iload hg 0 rfl dX0_twinsBelow_31 ?_
  exact X_iret hg hr (Nat.le_of_ble_eq_true rfl) (Nat.le_of_ble_eq_true rfl) dX0_twinsBelow_33
set_option maxRecDepth 10000 in
theorem c_X0_twins (en : EN) (a0 : Nat) (a1 : Nat) (a2 : Int32) (h : Hp) (x0 : Int32) (e : f_X0_twins a0 a1 a2 h = some x0) : Ct en yX0_twins cX0_twins 3 (some .int) 3 72 0 0 [.ref (nB en + a0), .ref (nB en + a1), .int a2] h (some (.int x0)) h := by
  refine Ct.of (by decide) rfl (Nat.le_of_ble_eq_true rfl) e (fun g hen hg hr => ?_)
  subst hen
  unfold f_X0_twins
  refine X_gd ?_
  refine X_aload_n hg 0 rfl dX0_twins_0 ?_
  refine X_aload_n hg 1 rfl dX0_twins_1 ?_
  refine X_aload_n hg 1 rfl dX0_twins_2 ?_
  refine X_cVI0 hg mf_X7_size m_419 m_420 m_528 cf_7 (fun _ e => gd_isO e) (fun y e => c_X7_size g.1 a1 h y e) (As := []) rfl (Nat.le_of_ble_eq_true rfl) rfl (Nat.le_of_ble_eq_true rfl) (Nat.le_of_ble_eq_true rfl) (Nat.le_of_ble_eq_true rfl) (Nat.le_of_ble_eq_true rfl) dX0_twins_3 (fun x1 _ => ?_)
  refine X_iload_n hg 2 rfl dX0_twins_6 ?_
  refine X_cVI0 hg mf_X0_twinsBelow m_531 m_9 m_529 cf_0 (fun _ e => gd_isO e) (fun y e => c_X0_twinsBelow g.1 a0 a1 x1 a2 h y e) (As := [.ref (nB g.1 + a1), .int x1, .int a2]) rfl (Nat.le_of_ble_eq_true rfl) rfl (Nat.le_of_ble_eq_true rfl) (Nat.le_of_ble_eq_true rfl) (Nat.le_of_ble_eq_true rfl) (Nat.le_of_ble_eq_true rfl) dX0_twins_7 (fun x2 _ => ?_)
  exact X_iret hg hr (Nat.le_of_ble_eq_true rfl) (Nat.le_of_ble_eq_true rfl) dX0_twins_10
set_option maxRecDepth 10000 in
theorem l_X0_namesWithTwins_4 {g : XC} {x0 : Int32} (hg : XG g RX0 cX0_namesWithTwins 4 4 94 0 0) (l0 : Nat) (l1 : Nat) (h : Hp) (hr : XR g (some .int) "namesWithTwins" (some (.int x0)) h 0 0) (K : Int32 → Option (Int32)) (hK0 : ∀ (l2 : Int32), Xo g x0 4 0 0 30 [(2, .int l2)] [] h (K l2)) : ∀ (n : Nat) (l2 : Int32) (l3 : Int32), Xo g x0 4 0 0 4 [(0, .ref (nB g.1 + l0)), (1, .ref (nB g.1 + l1)), (2, .int l2), (3, .int l3)] [] h (f_X0_namesWithTwins_L4 l0 l1 h K n l2 l3) := by
  intro n
  induction n with
  | zero =>
    intro l2 l3
    exact X_none
  | succ n ih =>
    intro l2 l3
    unfold f_X0_namesWithTwins_L4
    refine X_iload_n hg 3 rfl dX0_namesWithTwins_4 ?_
    refine X_aload_n hg 1 rfl dX0_namesWithTwins_5 ?_
    refine X_cVI0 hg mf_X7_size m_419 m_420 m_528 cf_7 (fun _ e => gd_isO e) (fun y e => c_X7_size g.1 l1 h y e) (As := []) rfl (Nat.le_of_ble_eq_true rfl) rfl (Nat.le_of_ble_eq_true rfl) (Nat.le_of_ble_eq_true rfl) (Nat.le_of_ble_eq_true rfl) (Nat.le_of_ble_eq_true rfl) dX0_namesWithTwins_6 (fun x1 _ => ?_)
    refine X_icmp_ge hg (tgt := 30) dX0_namesWithTwins_9 rfl (fun c5 => ?_) (fun c5 => ?_)
    · refine X_lv [2] rfl ?_
      exact hK0 _
    · refine X_aload_n hg 0 rfl dX0_namesWithTwins_12 ?_
      refine X_aload_n hg 1 rfl dX0_namesWithTwins_13 ?_
      refine X_iload_n hg 3 rfl dX0_namesWithTwins_14 ?_
      refine X_cVI0 hg mf_X0_twins m_525 m_526 m_663 cf_0 (fun _ e => gd_isO e) (fun y e => c_X0_twins g.1 l0 l1 l3 h y e) (As := [.ref (nB g.1 + l1), .int l3]) rfl (Nat.le_of_ble_eq_true rfl) rfl (Nat.le_of_ble_eq_true rfl) (Nat.le_of_ble_eq_true rfl) (Nat.le_of_ble_eq_true rfl) (Nat.le_of_ble_eq_true rfl) dX0_namesWithTwins_15 (fun x2 _ => ?_)
      refine X_reg (fun (v3 : Int32) o => Xo g x0 4 0 0 24 [(0, .ref (nB g.1 + l0)), (1, .ref (nB g.1 + l1)), (2, .int v3), (3, .int l3)] [] h o) (fun kv3 hk3 => ?_) (fun v3 => ?_)
      · refine X_ib ?_
        refine X_if_le hg (tgt := 24) dX0_namesWithTwins_18 rfl (fun c4 => ?_) (fun c4 => ?_)
        · exact hk3 l2
        · refine X_iinc hg 2 rfl (v := (l2 + (nI 1))) (icc ic_i_1) (Nat.le_of_ble_eq_true rfl) (lv' := [(2, .int (l2 + (nI 1))), (0, .ref (nB g.1 + l0)), (1, .ref (nB g.1 + l1)), (3, .int l3)]) rfl dX0_namesWithTwins_21 ?_
          refine X_lv [1, 2, 0, 3] rfl ?_
          exact hk3 (l2 + (nI 1))
      · refine X_iinc hg 3 rfl (v := (l3 + (nI 1))) (icc ic_i_1) (Nat.le_of_ble_eq_true rfl) (lv' := [(3, .int (l3 + (nI 1))), (0, .ref (nB g.1 + l0)), (1, .ref (nB g.1 + l1)), (2, .int v3)]) rfl dX0_namesWithTwins_24 ?_
        refine X_goto hg (tgt := 4) dX0_namesWithTwins_27 rfl ?_
        refine X_lv [1, 2, 3, 0] rfl ?_
        exact ih _ _
set_option maxRecDepth 10000 in
theorem c_X0_namesWithTwins (en : EN) (a0 : Nat) (a1 : Nat) (h : Hp) (x0 : Int32) (e : f_X0_namesWithTwins a0 a1 h = some x0) : Ct en yX0_namesWithTwins cX0_namesWithTwins 4 (some .int) 4 94 0 0 [.ref (nB en + a0), .ref (nB en + a1)] h (some (.int x0)) h := by
  refine Ct.of (by decide) rfl (Nat.le_of_ble_eq_true rfl) e (fun g hen hg hr => ?_)
  subst hen
  unfold f_X0_namesWithTwins
  refine X_gd ?_
  refine X_iconst hg ic_i_0 dX0_namesWithTwins_0 ?_
  refine X_istore_n hg rfl (Nat.le_of_ble_eq_true rfl) (lv' := [(2, .int (nI 0)), (0, .ref (nB g.1 + a0)), (1, .ref (nB g.1 + a1))]) rfl dX0_namesWithTwins_1 ?_
  refine X_iconst hg ic_i_0 dX0_namesWithTwins_2 ?_
  refine X_istore_n hg rfl (Nat.le_of_ble_eq_true rfl) (lv' := [(3, .int (nI 0)), (2, .int (nI 0)), (0, .ref (nB g.1 + a0)), (1, .ref (nB g.1 + a1))]) rfl dX0_namesWithTwins_3 ?_
  refine X_lv [2, 3, 1, 0] rfl ?_
  refine l_X0_namesWithTwins_4 hg _ _ _ hr _ (fun y6 => ?_) _ _ _
  refine X_iload_n hg 0 rfl dX0_namesWithTwins_30 ?_
  exact X_iret hg hr (Nat.le_of_ble_eq_true rfl) (Nat.le_of_ble_eq_true rfl) dX0_namesWithTwins_31
set_option maxRecDepth 10000 in
theorem l_X0_differentCodes_4 {g : XC} {x0 : Int32} (hg : XG g RX0 cX0_differentCodes 4 3 72 0 0) (l0 : Nat) (l1 : Nat) (h : Hp) (hr : XR g (some .int) "differentCodes" (some (.int x0)) h 0 0) (K : Int32 → Option (Int32)) (hK0 : ∀ (l2 : Int32), Xo g x0 4 0 0 31 [(2, .int l2)] [] h (K l2)) : ∀ (n : Nat) (l2 : Int32) (l3 : Int32), Xo g x0 4 0 0 4 [(0, .ref (nB g.1 + l0)), (1, .ref (nB g.1 + l1)), (2, .int l2), (3, .int l3)] [] h (f_X0_differentCodes_L4 l0 l1 h K n l2 l3) := by
  intro n
  induction n with
  | zero =>
    intro l2 l3
    exact X_none
  | succ n ih =>
    intro l2 l3
    unfold f_X0_differentCodes_L4
    refine X_iload_n hg 3 rfl dX0_differentCodes_4 ?_
    refine X_aload_n hg 1 rfl dX0_differentCodes_5 ?_
    refine X_cVI0 hg mf_X7_size m_419 m_420 m_528 cf_7 (fun _ e => gd_isO e) (fun y e => c_X7_size g.1 l1 h y e) (As := []) rfl (Nat.le_of_ble_eq_true rfl) rfl (Nat.le_of_ble_eq_true rfl) (Nat.le_of_ble_eq_true rfl) (Nat.le_of_ble_eq_true rfl) (Nat.le_of_ble_eq_true rfl) dX0_differentCodes_6 (fun x1 _ => ?_)
    refine X_icmp_ge hg (tgt := 31) dX0_differentCodes_9 rfl (fun c5 => ?_) (fun c5 => ?_)
    · refine X_lv [2] rfl ?_
      exact hK0 _
    · refine X_aload_n hg 0 rfl dX0_differentCodes_12 ?_
      refine X_aload_n hg 1 rfl dX0_differentCodes_13 ?_
      refine X_iload_n hg 3 rfl dX0_differentCodes_14 ?_
      refine X_iload_n hg 3 rfl dX0_differentCodes_15 ?_
      refine X_cVI0 hg mf_X0_twinsBelow m_531 m_9 m_529 cf_0 (fun _ e => gd_isO e) (fun y e => c_X0_twinsBelow g.1 l0 l1 l3 l3 h y e) (As := [.ref (nB g.1 + l1), .int l3, .int l3]) rfl (Nat.le_of_ble_eq_true rfl) rfl (Nat.le_of_ble_eq_true rfl) (Nat.le_of_ble_eq_true rfl) (Nat.le_of_ble_eq_true rfl) (Nat.le_of_ble_eq_true rfl) dX0_differentCodes_16 (fun x2 _ => ?_)
      refine X_reg (fun (v3 : Int32) o => Xo g x0 4 0 0 25 [(0, .ref (nB g.1 + l0)), (1, .ref (nB g.1 + l1)), (2, .int v3), (3, .int l3)] [] h o) (fun kv3 hk3 => ?_) (fun v3 => ?_)
      · refine X_ib ?_
        refine X_if_ne hg (tgt := 25) dX0_differentCodes_19 rfl (fun c4 => ?_) (fun c4 => ?_)
        · refine X_iinc hg 2 rfl (v := (l2 + (nI 1))) (icc ic_i_1) (Nat.le_of_ble_eq_true rfl) (lv' := [(2, .int (l2 + (nI 1))), (0, .ref (nB g.1 + l0)), (1, .ref (nB g.1 + l1)), (3, .int l3)]) rfl dX0_differentCodes_22 ?_
          refine X_lv [1, 2, 0, 3] rfl ?_
          exact hk3 (l2 + (nI 1))
        · exact hk3 l2
      · refine X_iinc hg 3 rfl (v := (l3 + (nI 1))) (icc ic_i_1) (Nat.le_of_ble_eq_true rfl) (lv' := [(3, .int (l3 + (nI 1))), (0, .ref (nB g.1 + l0)), (1, .ref (nB g.1 + l1)), (2, .int v3)]) rfl dX0_differentCodes_25 ?_
        refine X_goto hg (tgt := 4) dX0_differentCodes_28 rfl ?_
        refine X_lv [1, 2, 3, 0] rfl ?_
        exact ih _ _
set_option maxRecDepth 10000 in
theorem c_X0_differentCodes (en : EN) (a0 : Nat) (a1 : Nat) (h : Hp) (x0 : Int32) (e : f_X0_differentCodes a0 a1 h = some x0) : Ct en yX0_differentCodes cX0_differentCodes 4 (some .int) 3 72 0 0 [.ref (nB en + a0), .ref (nB en + a1)] h (some (.int x0)) h := by
  refine Ct.of (by decide) rfl (Nat.le_of_ble_eq_true rfl) e (fun g hen hg hr => ?_)
  subst hen
  unfold f_X0_differentCodes
  refine X_gd ?_
  refine X_iconst hg ic_i_0 dX0_differentCodes_0 ?_
  refine X_istore_n hg rfl (Nat.le_of_ble_eq_true rfl) (lv' := [(2, .int (nI 0)), (0, .ref (nB g.1 + a0)), (1, .ref (nB g.1 + a1))]) rfl dX0_differentCodes_1 ?_
  refine X_iconst hg ic_i_0 dX0_differentCodes_2 ?_
  refine X_istore_n hg rfl (Nat.le_of_ble_eq_true rfl) (lv' := [(3, .int (nI 0)), (2, .int (nI 0)), (0, .ref (nB g.1 + a0)), (1, .ref (nB g.1 + a1))]) rfl dX0_differentCodes_3 ?_
  refine X_lv [2, 3, 1, 0] rfl ?_
  refine l_X0_differentCodes_4 hg _ _ _ hr _ (fun y6 => ?_) _ _ _
  refine X_iload_n hg 0 rfl dX0_differentCodes_31 ?_
  exact X_iret hg hr (Nat.le_of_ble_eq_true rfl) (Nat.le_of_ble_eq_true rfl) dX0_differentCodes_32
set_option maxRecDepth 10000 in
theorem l_X0_greatestDistinguishingLength_4 {g : XC} {x0 : Int32} (hg : XG g RX0 cX0_greatestDistinguishingLength 4 3 70 0 0) (l0 : Nat) (l1 : Nat) (h : Hp) (hr : XR g (some .int) "greatestDistinguishingLength" (some (.int x0)) h 0 0) (K : Int32 → Option (Int32)) (hK0 : ∀ (l2 : Int32), Xo g x0 4 0 0 29 [(2, .int l2)] [] h (K l2)) : ∀ (n : Nat) (l2 : Int32) (l3 : Int32), Xo g x0 4 0 0 4 [(0, .ref (nB g.1 + l0)), (1, .ref (nB g.1 + l1)), (2, .int l2), (3, .int l3)] [] h (f_X0_greatestDistinguishingLength_L4 l0 l1 h K n l2 l3) := by
  intro n
  induction n with
  | zero =>
    intro l2 l3
    exact X_none
  | succ n ih =>
    intro l2 l3
    unfold f_X0_greatestDistinguishingLength_L4
    refine X_iload_n hg 3 rfl dX0_greatestDistinguishingLength_4 ?_
    refine X_aload_n hg 1 rfl dX0_greatestDistinguishingLength_5 ?_
    refine X_cVI0 hg mf_X7_size m_419 m_420 m_528 cf_7 (fun _ e => gd_isO e) (fun y e => c_X7_size g.1 l1 h y e) (As := []) rfl (Nat.le_of_ble_eq_true rfl) rfl (Nat.le_of_ble_eq_true rfl) (Nat.le_of_ble_eq_true rfl) (Nat.le_of_ble_eq_true rfl) (Nat.le_of_ble_eq_true rfl) dX0_greatestDistinguishingLength_6 (fun x1 _ => ?_)
    refine X_icmp_ge hg (tgt := 29) dX0_greatestDistinguishingLength_9 rfl (fun c3 => ?_) (fun c3 => ?_)
    · refine X_lv [2] rfl ?_
      exact hK0 _
    · refine X_iload_n hg 2 rfl dX0_greatestDistinguishingLength_12 ?_
      refine X_aload_n hg 0 rfl dX0_greatestDistinguishingLength_13 ?_
      refine X_aload_n hg 1 rfl dX0_greatestDistinguishingLength_14 ?_
      refine X_iload_n hg 3 rfl dX0_greatestDistinguishingLength_15 ?_
      refine X_cVI0 hg mf_X0_distinguishingLength m_542 m_543 m_672 cf_0 (fun _ e => gd_isO e) (fun y e => c_X0_distinguishingLength g.1 l0 l1 l3 h y e) (As := [.ref (nB g.1 + l1), .int l3]) rfl (Nat.le_of_ble_eq_true rfl) rfl (Nat.le_of_ble_eq_true rfl) (Nat.le_of_ble_eq_true rfl) (Nat.le_of_ble_eq_true rfl) (Nat.le_of_ble_eq_true rfl) dX0_greatestDistinguishingLength_16 (fun x2 _ => ?_)
      refine X_max hg m_549 m_stmax m_inM m_cdmax (Nat.le_of_ble_eq_true rfl) (Nat.le_of_ble_eq_true rfl) (Nat.le_of_ble_eq_true rfl) (Nat.le_of_ble_eq_true rfl) dX0_greatestDistinguishingLength_19 ?_
      refine X_istore_n hg rfl (Nat.le_of_ble_eq_true rfl) (lv' := [(2, .int (imx l2 x2)), (0, .ref (nB g.1 + l0)), (1, .ref (nB g.1 + l1)), (3, .int l3)]) rfl dX0_greatestDistinguishingLength_22 ?_
      refine X_iinc hg 3 rfl (v := (l3 + (nI 1))) (icc ic_i_1) (Nat.le_of_ble_eq_true rfl) (lv' := [(3, .int (l3 + (nI 1))), (2, .int (imx l2 x2)), (0, .ref (nB g.1 + l0)), (1, .ref (nB g.1 + l1))]) rfl dX0_greatestDistinguishingLength_23 ?_
      refine X_goto hg (tgt := 4) dX0_greatestDistinguishingLength_26 rfl ?_
      refine X_lv [2, 3, 1, 0] rfl ?_
      exact ih _ _
set_option maxRecDepth 10000 in
theorem c_X0_greatestDistinguishingLength (en : EN) (a0 : Nat) (a1 : Nat) (h : Hp) (x0 : Int32) (e : f_X0_greatestDistinguishingLength a0 a1 h = some x0) : Ct en yX0_greatestDistinguishingLength cX0_greatestDistinguishingLength 4 (some .int) 3 70 0 0 [.ref (nB en + a0), .ref (nB en + a1)] h (some (.int x0)) h := by
  refine Ct.of (by decide) rfl (Nat.le_of_ble_eq_true rfl) e (fun g hen hg hr => ?_)
  subst hen
  unfold f_X0_greatestDistinguishingLength
  refine X_gd ?_
  refine X_iconst hg ic_i_m1 dX0_greatestDistinguishingLength_0 ?_
  refine X_istore_n hg rfl (Nat.le_of_ble_eq_true rfl) (lv' := [(2, .int m1), (0, .ref (nB g.1 + a0)), (1, .ref (nB g.1 + a1))]) rfl dX0_greatestDistinguishingLength_1 ?_
  refine X_iconst hg ic_i_0 dX0_greatestDistinguishingLength_2 ?_
  refine X_istore_n hg rfl (Nat.le_of_ble_eq_true rfl) (lv' := [(3, .int (nI 0)), (2, .int m1), (0, .ref (nB g.1 + a0)), (1, .ref (nB g.1 + a1))]) rfl dX0_greatestDistinguishingLength_3 ?_
  refine X_lv [2, 3, 1, 0] rfl ?_
  refine l_X0_greatestDistinguishingLength_4 hg _ _ _ hr _ (fun y4 => ?_) _ _ _
  refine X_iload_n hg 0 rfl dX0_greatestDistinguishingLength_29 ?_
  exact X_iret hg hr (Nat.le_of_ble_eq_true rfl) (Nat.le_of_ble_eq_true rfl) dX0_greatestDistinguishingLength_30
set_option maxRecDepth 10000 in
theorem c_X7_frequencyOf (en : EN) (a0 : Nat) (a1 : Int32) (h : Hp) (x0 : Int32) (e : f_X7_frequencyOf a0 a1 h = some x0) : Ct en yX7_frequencyOf cX7_frequencyOf 3 (some .int) 1 21 0 0 [.ref (nB en + a0), .int a1] h (some (.int x0)) h := by
  refine Ct.of (by decide) rfl (Nat.le_of_ble_eq_true rfl) e (fun g hen hg hr => ?_)
  subst hen
  unfold f_X7_frequencyOf
  refine X_gd ?_
  refine X_aload_n hg 0 rfl dX7_frequencyOf_0 ?_
  refine X_iload_n hg 1 rfl dX7_frequencyOf_1 ?_
  refine X_cVQ0 hg mf_X7_get m_497 m_8 m_495 cf_7 (fun _ e => gd_isO e) (fun y e => c_X7_get g.1 a0 a1 h y e) (As := [.int a1]) rfl (Nat.le_of_ble_eq_true rfl) rfl (Nat.le_of_ble_eq_true rfl) (Nat.le_of_ble_eq_true rfl) (Nat.le_of_ble_eq_true rfl) (Nat.le_of_ble_eq_true rfl) dX7_frequencyOf_2 (fun x1 _ => ?_)
  refine X_astoreQ_n hg rfl (Nat.le_of_ble_eq_true rfl) (lv' := [(2, rl (nB g.1) x1), (0, .ref (nB g.1 + a0)), (1, .int a1)]) rfl dX7_frequencyOf_5 ?_
  refine X_aloadQ_n hg 0 rfl dX7_frequencyOf_6 ?_
  refine X_reg (fun (v2 : Int32) o => Xo g x0 3 0 0 19 [] [.int v2] h o) (fun kv2 hk2 => ?_) (fun v2 => ?_)
  · refine X_eb ?_
    refine X_ifnonnull hg (tgt := 15) dX7_frequencyOf_7 rfl (fun c5 => ?_) (fun q3 c5 => ?_)
    · refine X_bipush hg ic_b_m101 dX7_frequencyOf_10 ?_
      refine X_goto hg (tgt := 19) dX7_frequencyOf_12 rfl ?_
      refine X_lv [] rfl ?_
      exact hk2 m101
    · subst c5
      refine X_aload_n hg 0 rfl dX7_frequencyOf_15 ?_
      refine X_as ?_
      refine X_getIN hg (j := 2) cf_1 (Nat.le_of_ble_eq_true rfl) (Or.inl rfl) m_440 dX7_frequencyOf_16 (fun x4 _ => ?_)
      refine X_lv [] rfl ?_
      exact hk2 x4
  · exact X_iret hg hr (Nat.le_of_ble_eq_true rfl) (Nat.le_of_ble_eq_true rfl) dX7_frequencyOf_19
set_option maxRecDepth 10000 in
theorem l_X0_sumOfPresses_4 {g : XC} {x0 : Int32} (hg : XG g RX0 cX0_sumOfPresses 4 4 95 0 0) (l0 : Nat) (l1 : Nat) (h : Hp) (hr : XR g (some .int) "sumOfPresses" (some (.int x0)) h 0 0) (K : Int32 → Option (Int32)) (hK0 : ∀ (l2 : Int32), Xo g x0 4 0 0 33 [(2, .int l2)] [] h (K l2)) : ∀ (n : Nat) (l2 : Int32) (l3 : Int32), Xo g x0 4 0 0 4 [(0, .ref (nB g.1 + l0)), (1, .ref (nB g.1 + l1)), (2, .int l2), (3, .int l3)] [] h (f_X0_sumOfPresses_L4 l0 l1 h K n l2 l3) := by
  intro n
  induction n with
  | zero =>
    intro l2 l3
    exact X_none
  | succ n ih =>
    intro l2 l3
    unfold f_X0_sumOfPresses_L4
    refine X_iload_n hg 3 rfl dX0_sumOfPresses_4 ?_
    refine X_aload_n hg 1 rfl dX0_sumOfPresses_5 ?_
    refine X_cVI0 hg mf_X7_size m_419 m_420 m_528 cf_7 (fun _ e => gd_isO e) (fun y e => c_X7_size g.1 l1 h y e) (As := []) rfl (Nat.le_of_ble_eq_true rfl) rfl (Nat.le_of_ble_eq_true rfl) (Nat.le_of_ble_eq_true rfl) (Nat.le_of_ble_eq_true rfl) (Nat.le_of_ble_eq_true rfl) dX0_sumOfPresses_6 (fun x1 _ => ?_)
    refine X_icmp_ge hg (tgt := 33) dX0_sumOfPresses_9 rfl (fun c4 => ?_) (fun c4 => ?_)
    · refine X_lv [2] rfl ?_
      exact hK0 _
    · refine X_iload_n hg 2 rfl dX0_sumOfPresses_12 ?_
      refine X_aload_n hg 1 rfl dX0_sumOfPresses_13 ?_
      refine X_iload_n hg 3 rfl dX0_sumOfPresses_14 ?_
      refine X_cVI0 hg mf_X7_frequencyOf m_521 m_522 m_677 cf_7 (fun _ e => gd_isO e) (fun y e => c_X7_frequencyOf g.1 l1 l3 h y e) (As := [.int l3]) rfl (Nat.le_of_ble_eq_true rfl) rfl (Nat.le_of_ble_eq_true rfl) (Nat.le_of_ble_eq_true rfl) (Nat.le_of_ble_eq_true rfl) (Nat.le_of_ble_eq_true rfl) dX0_sumOfPresses_15 (fun x2 _ => ?_)
      refine X_aload_n hg 0 rfl dX0_sumOfPresses_18 ?_
      refine X_aload_n hg 1 rfl dX0_sumOfPresses_19 ?_
      refine X_iload_n hg 3 rfl dX0_sumOfPresses_20 ?_
      refine X_cVI0 hg mf_X0_presses m_552 m_553 m_678 cf_0 (fun _ e => gd_isO e) (fun y e => c_X0_presses g.1 l0 l1 l3 h y e) (As := [.ref (nB g.1 + l1), .int l3]) rfl (Nat.le_of_ble_eq_true rfl) rfl (Nat.le_of_ble_eq_true rfl) (Nat.le_of_ble_eq_true rfl) (Nat.le_of_ble_eq_true rfl) (Nat.le_of_ble_eq_true rfl) dX0_sumOfPresses_21 (fun x3 _ => ?_)
      refine X_imul hg dX0_sumOfPresses_24 ?_
      refine X_iadd hg dX0_sumOfPresses_25 ?_
      refine X_istore_n hg rfl (Nat.le_of_ble_eq_true rfl) (lv' := [(2, .int (l2 + (x2 * x3))), (0, .ref (nB g.1 + l0)), (1, .ref (nB g.1 + l1)), (3, .int l3)]) rfl dX0_sumOfPresses_26 ?_
      refine X_iinc hg 3 rfl (v := (l3 + (nI 1))) (icc ic_i_1) (Nat.le_of_ble_eq_true rfl) (lv' := [(3, .int (l3 + (nI 1))), (2, .int (l2 + (x2 * x3))), (0, .ref (nB g.1 + l0)), (1, .ref (nB g.1 + l1))]) rfl dX0_sumOfPresses_27 ?_
      refine X_goto hg (tgt := 4) dX0_sumOfPresses_30 rfl ?_
      refine X_lv [2, 3, 1, 0] rfl ?_
      exact ih _ _
set_option maxRecDepth 10000 in
theorem c_X0_sumOfPresses (en : EN) (a0 : Nat) (a1 : Nat) (h : Hp) (x0 : Int32) (e : f_X0_sumOfPresses a0 a1 h = some x0) : Ct en yX0_sumOfPresses cX0_sumOfPresses 4 (some .int) 4 95 0 0 [.ref (nB en + a0), .ref (nB en + a1)] h (some (.int x0)) h := by
  refine Ct.of (by decide) rfl (Nat.le_of_ble_eq_true rfl) e (fun g hen hg hr => ?_)
  subst hen
  unfold f_X0_sumOfPresses
  refine X_gd ?_
  refine X_iconst hg ic_i_0 dX0_sumOfPresses_0 ?_
  refine X_istore_n hg rfl (Nat.le_of_ble_eq_true rfl) (lv' := [(2, .int (nI 0)), (0, .ref (nB g.1 + a0)), (1, .ref (nB g.1 + a1))]) rfl dX0_sumOfPresses_1 ?_
  refine X_iconst hg ic_i_0 dX0_sumOfPresses_2 ?_
  refine X_istore_n hg rfl (Nat.le_of_ble_eq_true rfl) (lv' := [(3, .int (nI 0)), (2, .int (nI 0)), (0, .ref (nB g.1 + a0)), (1, .ref (nB g.1 + a1))]) rfl dX0_sumOfPresses_3 ?_
  refine X_lv [2, 3, 1, 0] rfl ?_
  refine l_X0_sumOfPresses_4 hg _ _ _ hr _ (fun y5 => ?_) _ _ _
  refine X_iload_n hg 0 rfl dX0_sumOfPresses_33 ?_
  exact X_iret hg hr (Nat.le_of_ble_eq_true rfl) (Nat.le_of_ble_eq_true rfl) dX0_sumOfPresses_34
set_option maxRecDepth 10000 in
theorem l_X1_init_30 {g : XC} {x0 : Hp} (hg : XG g RX1 cX1_init 7 1 24 2 16) (l0 : Nat) (l1 : Nat) (l2 : Int32) (l4 : Int32) (l5 : Int32) (hr : XR g none "<init>" none x0 2 16) (K : Hp → Option (Hp)) (hK0 : ∀ (h : Hp), Xo g x0 7 2 16 58 [(0, .ref (nB g.1 + l0)), (4, .int l4)] [] h (K h)) : ∀ (n : Nat) (l6 : Int32) (h : Hp), Xo g x0 7 2 16 30 [(0, .ref (nB g.1 + l0)), (1, .ref (nB g.1 + l1)), (2, .int l2), (4, .int l4), (5, .int l5), (6, .int l6)] [] h (f_X1_init_L30 l0 l1 l2 l4 l5 K n l6 h) := by
  intro n
  induction n with
  | zero =>
    intro l6 h
    exact X_none
  | succ n ih =>
    intro l6 h
    unfold f_X1_init_L30
    refine X_iload hg 5 rfl dX1_init_30 ?_
    refine X_iload hg 4 rfl dX1_init_32 ?_
    refine X_icmp_ge hg (tgt := 58) dX1_init_34 rfl (fun c8 => ?_) (fun c8 => ?_)
    · refine X_lv [0, 3] rfl ?_
      exact hK0  _
    · refine X_aload_n hg 0 rfl dX1_init_37 ?_
      refine X_getR hg (j := 0) cf_1 (Nat.le_of_ble_eq_true rfl) (Or.inr ⟨_, rfl⟩) m_435 dX1_init_38 (fun x5 _ => ?_)
      refine X_iload hg 5 rfl dX1_init_41 ?_
      refine X_aload_n hg 1 rfl dX1_init_43 ?_
      refine X_iload_n hg 2 rfl dX1_init_44 ?_
      refine X_iload hg 5 rfl dX1_init_45 ?_
      refine X_iadd hg dX1_init_47 ?_
      refine X_cVI0 hg mf_X8_get m_358 m_359 m_417 cf_8 (fun _ e => gd_isO e) (fun y e => c_X8_get g.1 l1 (l2 + l6) h y e) (As := [.int (l2 + l6)]) rfl (Nat.le_of_ble_eq_true rfl) rfl (Nat.le_of_ble_eq_true rfl) (Nat.le_of_ble_eq_true rfl) (Nat.le_of_ble_eq_true rfl) (Nat.le_of_ble_eq_true rfl) dX1_init_48 (fun x6 _ => ?_)
      refine X_ast hg dX1_init_51 (fun h7 _ => ?_)
      refine X_iinc hg 5 rfl (v := (l6 + (nI 1))) (icc ic_i_1) (Nat.le_of_ble_eq_true rfl) (lv' := [(6, .int (l6 + (nI 1))), (0, .ref (nB g.1 + l0)), (1, .ref (nB g.1 + l1)), (2, .int l2), (4, .int l4), (5, .int l5)]) rfl dX1_init_52 ?_
      refine X_goto hg (tgt := 30) dX1_init_55 rfl ?_
      refine X_lv [1, 2, 3, 4, 5, 0] rfl ?_
      exact ih _ _
set_option maxRecDepth 10000 in
theorem c_X1_init (en : EN) (a0 : Nat) (a1 : Nat) (a2 : Int32) (a3 : Int32) (a4 : Int32) (h : Hp) (x0 : Hp) (e : f_X1_init a0 a1 a2 a3 a4 h = some x0) : Ct en yX1_init cX1_init 7 none 1 24 2 16 [.ref (nB en + a0), .ref (nB en + a1), .int a2, .int a3, .int a4] h none x0 := by
  refine Ct.of (by decide) rfl (Nat.le_of_ble_eq_true rfl) e (fun g hen hg hr => ?_)
  subst hen
  unfold f_X1_init
  refine X_gd ?_
  refine X_aload_n hg 0 rfl dX1_init_0 ?_
  refine X_obji hg m_433 m_oi m_oc (Nat.le_of_ble_eq_true rfl) (Nat.le_of_ble_eq_true rfl) dX1_init_1 ?_
  refine X_iload_n hg 3 rfl dX1_init_4 ?_
  refine X_iconst hg ic_i_0 dX1_init_5 ?_
  refine X_max hg m_434 m_stmax m_inM m_cdmax (Nat.le_of_ble_eq_true rfl) (Nat.le_of_ble_eq_true rfl) (Nat.le_of_ble_eq_true rfl) (Nat.le_of_ble_eq_true rfl) dX1_init_6 ?_
  refine X_istore hg (Nat.le_of_ble_eq_true rfl) (lv' := [(5, .int (imx a3 (nI 0))), (0, .ref (nB g.1 + a0)), (1, .ref (nB g.1 + a1)), (2, .int a2), (3, .int a3), (4, .int a4)]) rfl dX1_init_9 ?_
  refine X_aload_n hg 1 rfl dX1_init_11 ?_
  refine X_iload hg 0 rfl dX1_init_12 ?_
  refine X_newA hg m_arrI (Nat.le_of_ble_eq_true rfl) (Nat.le_of_ble_eq_true rfl) (Nat.le_of_ble_eq_true rfl) dX1_init_14 (fun h1 _ => ?_)
  refine X_putRF hg hr.2.2.1 (j := 0) cf_1 (Nat.le_of_ble_eq_true rfl) rfl rfl (Or.inr ⟨_, rfl⟩) m_435 dX1_init_16 (fun h2 _ => ?_)
  refine X_aload_n hg 1 rfl dX1_init_19 ?_
  refine X_iload hg 0 rfl dX1_init_20 ?_
  refine X_newA hg m_arrI (Nat.le_of_ble_eq_true rfl) (Nat.le_of_ble_eq_true rfl) (Nat.le_of_ble_eq_true rfl) dX1_init_22 (fun h3 _ => ?_)
  refine X_putRF hg hr.2.2.1 (j := 1) cf_1 (Nat.le_of_ble_eq_true rfl) rfl rfl (Or.inr ⟨_, rfl⟩) m_437 dX1_init_24 (fun h4 _ => ?_)
  refine X_iconst hg ic_i_0 dX1_init_27 ?_
  refine X_istore hg (Nat.le_of_ble_eq_true rfl) (lv' := [(6, .int (nI 0)), (5, .int (imx a3 (nI 0))), (0, .ref (nB g.1 + a0)), (1, .ref (nB g.1 + a1)), (2, .int a2), (3, .int a3), (4, .int a4)]) rfl dX1_init_28 ?_
  refine X_lv [2, 3, 4, 6, 1, 0] rfl ?_
  refine l_X1_init_30 hg _ _ _ _ _ hr _ (fun h9 => ?_) _ _ _
  refine X_aload_n hg 0 rfl dX1_init_58 ?_
  refine X_iload hg 1 rfl dX1_init_59 ?_
  refine X_putI hg (j := 2) cf_1 (Nat.le_of_ble_eq_true rfl) rfl (Or.inl rfl) m_439 dX1_init_61 (fun h10 _ => ?_)
  exact X_vret hg hr (Nat.le_of_ble_eq_true rfl) (Nat.le_of_ble_eq_true rfl) dX1_init_64
set_option maxRecDepth 10000 in
theorem c_X2_digitOf (en : EN) (a0 : Nat) (a1 : Int32) (h : Hp) (x0 : Int32) (e : f_X2_digitOf a0 a1 h = some x0) : Ct en yX2_digitOf cX2_digitOf 2 (some .int) 0 0 0 0 [.ref (nB en + a0), .int a1] h (some (.int x0)) h := by
  refine Ct.of (by decide) rfl (Nat.le_of_ble_eq_true rfl) e (fun g hen hg hr => ?_)
  subst hen
  unfold f_X2_digitOf
  refine X_gd ?_
  refine X_iload_n hg 1 rfl dX2_digitOf_0 ?_
  refine X_bipush hg ic_b_97 dX2_digitOf_1 ?_
  refine X_reg (fun (v1 : Int32) o => Xo g x0 2 0 0 26 [] [.int v1] h o) (fun kv1 hk1 => ?_) (fun v1 => ?_)
  · refine X_ib ?_
    refine X_icmp_lt hg (tgt := 24) dX2_digitOf_3 rfl (fun c5 => ?_) (fun c5 => ?_)
    · refine X_bipush hg ic_b_m102 dX2_digitOf_24 ?_
      refine X_lv [] rfl ?_
      exact hk1 m102
    · refine X_iload_n hg 1 rfl dX2_digitOf_6 ?_
      refine X_bipush hg ic_b_122 dX2_digitOf_7 ?_
      refine X_ib ?_
      refine X_icmp_gt hg (tgt := 24) dX2_digitOf_9 rfl (fun c4 => ?_) (fun c4 => ?_)
      · refine X_bipush hg ic_b_m102 dX2_digitOf_24 ?_
        refine X_lv [] rfl ?_
        exact hk1 m102
      · refine X_aload_n hg 0 rfl dX2_digitOf_12 ?_
        refine X_as ?_
        refine X_getR hg (j := 0) cf_2 (Nat.le_of_ble_eq_true rfl) (Or.inr ⟨_, rfl⟩) m_145 dX2_digitOf_13 (fun x2 _ => ?_)
        refine X_iload_n hg 1 rfl dX2_digitOf_16 ?_
        refine X_bipush hg ic_b_97 dX2_digitOf_17 ?_
        refine X_isub hg dX2_digitOf_19 ?_
        refine X_as ?_
        refine X_ald hg dX2_digitOf_20 (fun x3 _ => ?_)
        refine X_goto hg (tgt := 26) dX2_digitOf_21 rfl ?_
        refine X_lv [] rfl ?_
        exact hk1 x3
  · exact X_iret hg hr (Nat.le_of_ble_eq_true rfl) (Nat.le_of_ble_eq_true rfl) dX2_digitOf_26
set_option maxRecDepth 10000 in
theorem l_X1_encode_2 {g : XC} {x0 : Hp} (hg : XG g RX1 cX1_encode 3 1 21 0 0) (l0 : Nat) (l1 : Nat) (hr : XR g none "encode" none x0 0 0) (K : Hp → Option (Hp)) (hK0 : ∀ (h : Hp), Xo g x0 3 0 0 42 [] [] h (K h)) : ∀ (n : Nat) (l2 : Int32) (h : Hp), Xo g x0 3 0 0 2 [(0, .ref (nB g.1 + l0)), (1, .ref (nB g.1 + l1)), (2, .int l2)] [] h (f_X1_encode_L2 l0 l1 K n l2 h) := by
  intro n
  induction n with
  | zero =>
    intro l2 h
    exact X_none
  | succ n ih =>
    intro l2 h
    unfold f_X1_encode_L2
    refine X_iload_n hg 2 rfl dX1_encode_2 ?_
    refine X_aload_n hg 0 rfl dX1_encode_3 ?_
    refine X_getR hg (j := 0) cf_1 (Nat.le_of_ble_eq_true rfl) (Or.inr ⟨_, rfl⟩) m_435 dX1_encode_4 (fun x1 _ => ?_)
    refine X_aln hg (Or.inl rfl) dX1_encode_7 (fun x2 _ => ?_)
    refine X_icmp_ge hg (tgt := 42) dX1_encode_8 rfl (fun c11 => ?_) (fun c11 => ?_)
    · refine X_lv [] rfl ?_
      exact hK0  _
    · refine X_iload_n hg 2 rfl dX1_encode_11 ?_
      refine X_aload_n hg 0 rfl dX1_encode_12 ?_
      refine X_getR hg (j := 1) cf_1 (Nat.le_of_ble_eq_true rfl) (Or.inr ⟨_, rfl⟩) m_437 dX1_encode_13 (fun x3 _ => ?_)
      refine X_aln hg (Or.inl rfl) dX1_encode_16 (fun x4 _ => ?_)
      refine X_icmp_ge hg (tgt := 42) dX1_encode_17 rfl (fun c10 => ?_) (fun c10 => ?_)
      · refine X_lv [] rfl ?_
        exact hK0  _
      · refine X_aload_n hg 0 rfl dX1_encode_20 ?_
        refine X_getR hg (j := 1) cf_1 (Nat.le_of_ble_eq_true rfl) (Or.inr ⟨_, rfl⟩) m_437 dX1_encode_21 (fun x5 _ => ?_)
        refine X_iload_n hg 2 rfl dX1_encode_24 ?_
        refine X_aload_n hg 1 rfl dX1_encode_25 ?_
        refine X_aload_n hg 0 rfl dX1_encode_26 ?_
        refine X_getR hg (j := 0) cf_1 (Nat.le_of_ble_eq_true rfl) (Or.inr ⟨_, rfl⟩) m_435 dX1_encode_27 (fun x6 _ => ?_)
        refine X_iload_n hg 2 rfl dX1_encode_30 ?_
        refine X_ald hg dX1_encode_31 (fun x7 _ => ?_)
        refine X_cVI0 hg mf_X2_digitOf m_453 m_454 m_452 cf_2 (fun _ e => gd_isO e) (fun y e => c_X2_digitOf g.1 l1 x7 h y e) (As := [.int x7]) rfl (Nat.le_of_ble_eq_true rfl) rfl (Nat.le_of_ble_eq_true rfl) (Nat.le_of_ble_eq_true rfl) (Nat.le_of_ble_eq_true rfl) (Nat.le_of_ble_eq_true rfl) dX1_encode_32 (fun x8 _ => ?_)
        refine X_ast hg dX1_encode_35 (fun h9 _ => ?_)
        refine X_iinc hg 2 rfl (v := (l2 + (nI 1))) (icc ic_i_1) (Nat.le_of_ble_eq_true rfl) (lv' := [(2, .int (l2 + (nI 1))), (0, .ref (nB g.1 + l0)), (1, .ref (nB g.1 + l1))]) rfl dX1_encode_36 ?_
        refine X_goto hg (tgt := 2) dX1_encode_39 rfl ?_
        refine X_lv [1, 2, 0] rfl ?_
        exact ih _ _
set_option maxRecDepth 10000 in
theorem c_X1_encode (en : EN) (a0 : Nat) (a1 : Nat) (h : Hp) (x0 : Hp) (e : f_X1_encode a0 a1 h = some x0) : Ct en yX1_encode cX1_encode 3 none 1 21 0 0 [.ref (nB en + a0), .ref (nB en + a1)] h none x0 := by
  refine Ct.of (by decide) rfl (Nat.le_of_ble_eq_true rfl) e (fun g hen hg hr => ?_)
  subst hen
  unfold f_X1_encode
  refine X_gd ?_
  refine X_iconst hg ic_i_0 dX1_encode_0 ?_
  refine X_istore_n hg rfl (Nat.le_of_ble_eq_true rfl) (lv' := [(2, .int (nI 0)), (0, .ref (nB g.1 + a0)), (1, .ref (nB g.1 + a1))]) rfl dX1_encode_1 ?_
  refine X_lv [1, 2, 0] rfl ?_
  refine l_X1_encode_2 hg _ _ hr _ (fun h12 => ?_) _ _ _
  exact X_vret hg hr (Nat.le_of_ble_eq_true rfl) (Nat.le_of_ble_eq_true rfl) dX1_encode_42
set_option maxRecDepth 10000 in
theorem c_X1_letterAt (en : EN) (a0 : Nat) (a1 : Int32) (h : Hp) (x0 : Int32) (e : f_X1_letterAt a0 a1 h = some x0) : Ct en yX1_letterAt cX1_letterAt 2 (some .int) 0 0 0 0 [.ref (nB en + a0), .int a1] h (some (.int x0)) h := by
  refine Ct.of (by decide) rfl (Nat.le_of_ble_eq_true rfl) e (fun g hen hg hr => ?_)
  subst hen
  unfold f_X1_letterAt
  refine X_gd ?_
  refine X_iload_n hg 1 rfl dX1_letterAt_0 ?_
  refine X_reg (fun (v1 : Int32) o => Xo g x0 2 0 0 24 [] [.int v1] h o) (fun kv1 hk1 => ?_) (fun v1 => ?_)
  · refine X_ib ?_
    refine X_if_lt hg (tgt := 22) dX1_letterAt_1 rfl (fun c7 => ?_) (fun c7 => ?_)
    · refine X_bipush hg ic_b_m101 dX1_letterAt_22 ?_
      refine X_lv [] rfl ?_
      exact hk1 m101
    · refine X_iload_n hg 1 rfl dX1_letterAt_4 ?_
      refine X_aload_n hg 0 rfl dX1_letterAt_5 ?_
      refine X_as ?_
      refine X_getR hg (j := 0) cf_1 (Nat.le_of_ble_eq_true rfl) (Or.inr ⟨_, rfl⟩) m_435 dX1_letterAt_6 (fun x2 _ => ?_)
      refine X_as ?_
      refine X_aln hg (Or.inl rfl) dX1_letterAt_9 (fun x3 _ => ?_)
      refine X_ib ?_
      refine X_icmp_ge hg (tgt := 22) dX1_letterAt_10 rfl (fun c6 => ?_) (fun c6 => ?_)
      · refine X_bipush hg ic_b_m101 dX1_letterAt_22 ?_
        refine X_lv [] rfl ?_
        exact hk1 m101
      · refine X_aload_n hg 0 rfl dX1_letterAt_13 ?_
        refine X_as ?_
        refine X_getR hg (j := 0) cf_1 (Nat.le_of_ble_eq_true rfl) (Or.inr ⟨_, rfl⟩) m_435 dX1_letterAt_14 (fun x4 _ => ?_)
        refine X_iload_n hg 1 rfl dX1_letterAt_17 ?_
        refine X_as ?_
        refine X_ald hg dX1_letterAt_18 (fun x5 _ => ?_)
        refine X_goto hg (tgt := 24) dX1_letterAt_19 rfl ?_
        refine X_lv [] rfl ?_
        exact hk1 x5
  · exact X_iret hg hr (Nat.le_of_ble_eq_true rfl) (Nat.le_of_ble_eq_true rfl) dX1_letterAt_24
set_option maxRecDepth 10000 in
theorem l_X1_comesBefore_2 {g : XC} {x0 : Int32} (hg : XG g RX1 cX1_comesBefore 3 0 0 0 0) (l0 : Nat) (l1 : Nat) (h : Hp) (hr : XR g (some .boolean) "comesBefore" (some (.int x0)) h 0 0) (K : Option (Int32)) (hK0 : Xo g x0 3 0 0 62 [(0, .ref (nB g.1 + l0)), (1, .ref (nB g.1 + l1))] [] h K) : ∀ (n : Nat) (l2 : Int32), Xo g x0 3 0 0 2 [(0, .ref (nB g.1 + l0)), (1, .ref (nB g.1 + l1)), (2, .int l2)] [] h (f_X1_comesBefore_L2 l0 l1 h K n l2) := by
  intro n
  induction n with
  | zero =>
    intro l2
    exact X_none
  | succ n ih =>
    intro l2
    unfold f_X1_comesBefore_L2
    refine X_iload_n hg 2 rfl dX1_comesBefore_2 ?_
    refine X_aload_n hg 0 rfl dX1_comesBefore_3 ?_
    refine X_getR hg (j := 0) cf_1 (Nat.le_of_ble_eq_true rfl) (Or.inr ⟨_, rfl⟩) m_435 dX1_comesBefore_4 (fun x1 _ => ?_)
    refine X_aln hg (Or.inl rfl) dX1_comesBefore_7 (fun x2 _ => ?_)
    refine X_icmp_ge hg (tgt := 62) dX1_comesBefore_8 rfl (fun c17 => ?_) (fun c17 => ?_)
    · refine X_lv [0, 1] rfl ?_
      exact hK0 
    · refine X_iload_n hg 2 rfl dX1_comesBefore_11 ?_
      refine X_aload_n hg 1 rfl dX1_comesBefore_12 ?_
      refine X_getR hg (j := 0) cf_1 (Nat.le_of_ble_eq_true rfl) (Or.inr ⟨_, rfl⟩) m_435 dX1_comesBefore_13 (fun x3 _ => ?_)
      refine X_aln hg (Or.inl rfl) dX1_comesBefore_16 (fun x4 _ => ?_)
      refine X_icmp_ge hg (tgt := 62) dX1_comesBefore_17 rfl (fun c16 => ?_) (fun c16 => ?_)
      · refine X_lv [0, 1] rfl ?_
        exact hK0 
      · refine X_aload_n hg 0 rfl dX1_comesBefore_20 ?_
        refine X_getR hg (j := 0) cf_1 (Nat.le_of_ble_eq_true rfl) (Or.inr ⟨_, rfl⟩) m_435 dX1_comesBefore_21 (fun x5 _ => ?_)
        refine X_iload_n hg 2 rfl dX1_comesBefore_24 ?_
        refine X_ald hg dX1_comesBefore_25 (fun x6 _ => ?_)
        refine X_aload_n hg 1 rfl dX1_comesBefore_26 ?_
        refine X_getR hg (j := 0) cf_1 (Nat.le_of_ble_eq_true rfl) (Or.inr ⟨_, rfl⟩) m_435 dX1_comesBefore_27 (fun x7 _ => ?_)
        refine X_iload_n hg 2 rfl dX1_comesBefore_30 ?_
        refine X_ald hg dX1_comesBefore_31 (fun x8 _ => ?_)
        refine X_icmp_eq hg (tgt := 56) dX1_comesBefore_32 rfl (fun c15 => ?_) (fun c15 => ?_)
        · refine X_iinc hg 2 rfl (v := (l2 + (nI 1))) (icc ic_i_1) (Nat.le_of_ble_eq_true rfl) (lv' := [(2, .int (l2 + (nI 1))), (0, .ref (nB g.1 + l0)), (1, .ref (nB g.1 + l1))]) rfl dX1_comesBefore_56 ?_
          refine X_goto hg (tgt := 2) dX1_comesBefore_59 rfl ?_
          refine X_lv [1, 2, 0] rfl ?_
          exact ih _
        · refine X_aload_n hg 0 rfl dX1_comesBefore_35 ?_
          refine X_getR hg (j := 0) cf_1 (Nat.le_of_ble_eq_true rfl) (Or.inr ⟨_, rfl⟩) m_435 dX1_comesBefore_36 (fun x9 _ => ?_)
          refine X_iload_n hg 2 rfl dX1_comesBefore_39 ?_
          refine X_ald hg dX1_comesBefore_40 (fun x10 _ => ?_)
          refine X_aload_n hg 1 rfl dX1_comesBefore_41 ?_
          refine X_getR hg (j := 0) cf_1 (Nat.le_of_ble_eq_true rfl) (Or.inr ⟨_, rfl⟩) m_435 dX1_comesBefore_42 (fun x11 _ => ?_)
          refine X_iload_n hg 2 rfl dX1_comesBefore_45 ?_
          refine X_ald hg dX1_comesBefore_46 (fun x12 _ => ?_)
          refine X_reg (fun (v13 : Int32) o => Xo g x0 3 0 0 55 [] [.int v13] h o) (fun kv13 hk13 => ?_) (fun v13 => ?_)
          · refine X_ib ?_
            refine X_icmp_ge hg (tgt := 54) dX1_comesBefore_47 rfl (fun c14 => ?_) (fun c14 => ?_)
            · refine X_iconst hg ic_i_0 dX1_comesBefore_54 ?_
              refine X_lv [] rfl ?_
              exact hk13 (nI 0)
            · refine X_iconst hg ic_i_1 dX1_comesBefore_50 ?_
              refine X_goto hg (tgt := 55) dX1_comesBefore_51 rfl ?_
              refine X_lv [] rfl ?_
              exact hk13 (nI 1)
          · exact X_zret hg hr (Nat.le_of_ble_eq_true rfl) (Nat.le_of_ble_eq_true rfl) dX1_comesBefore_55
set_option maxRecDepth 10000 in
theorem c_X1_comesBefore (en : EN) (a0 : Nat) (a1 : Nat) (h : Hp) (x0 : Int32) (e : f_X1_comesBefore a0 a1 h = some x0) : Ct en yX1_comesBefore cX1_comesBefore 3 (some .boolean) 0 0 0 0 [.ref (nB en + a0), .ref (nB en + a1)] h (some (.int x0)) h := by
  refine Ct.of (by decide) rfl (Nat.le_of_ble_eq_true rfl) e (fun g hen hg hr => ?_)
  subst hen
  unfold f_X1_comesBefore
  refine X_gd ?_
  refine X_iconst hg ic_i_0 dX1_comesBefore_0 ?_
  refine X_istore_n hg rfl (Nat.le_of_ble_eq_true rfl) (lv' := [(2, .int (nI 0)), (0, .ref (nB g.1 + a0)), (1, .ref (nB g.1 + a1))]) rfl dX1_comesBefore_1 ?_
  refine X_lv [1, 2, 0] rfl ?_
  refine l_X1_comesBefore_2 hg _ _ _ hr _ ?_ _ _
  refine X_aload_n hg 0 rfl dX1_comesBefore_62 ?_
  refine X_getR hg (j := 0) cf_1 (Nat.le_of_ble_eq_true rfl) (Or.inr ⟨_, rfl⟩) m_435 dX1_comesBefore_63 (fun x18 _ => ?_)
  refine X_aln hg (Or.inl rfl) dX1_comesBefore_66 (fun x19 _ => ?_)
  refine X_aload_n hg 1 rfl dX1_comesBefore_67 ?_
  refine X_getR hg (j := 0) cf_1 (Nat.le_of_ble_eq_true rfl) (Or.inr ⟨_, rfl⟩) m_435 dX1_comesBefore_68 (fun x20 _ => ?_)
  refine X_aln hg (Or.inl rfl) dX1_comesBefore_71 (fun x21 _ => ?_)
  refine X_reg (fun (v22 : Int32) o => Xo g x0 3 0 0 80 [] [.int v22] h o) (fun kv22 hk22 => ?_) (fun v22 => ?_)
  · refine X_ib ?_
    refine X_icmp_ge hg (tgt := 79) dX1_comesBefore_72 rfl (fun c23 => ?_) (fun c23 => ?_)
    · refine X_iconst hg ic_i_0 dX1_comesBefore_79 ?_
      refine X_lv [] rfl ?_
      exact hk22 (nI 0)
    · refine X_iconst hg ic_i_1 dX1_comesBefore_75 ?_
      refine X_goto hg (tgt := 80) dX1_comesBefore_76 rfl ?_
      refine X_lv [] rfl ?_
      exact hk22 (nI 1)
  · exact X_zret hg hr (Nat.le_of_ble_eq_true rfl) (Nat.le_of_ble_eq_true rfl) dX1_comesBefore_80
set_option maxRecDepth 10000 in
theorem l_X1_isWritten_14 {g : XC} {x0 : Int32} (hg : XG g RX1 cX1_isWritten 5 1 21 0 0) (l0 : Nat) (l1 : Nat) (l2 : Int32) (l3 : Int32) (h : Hp) (hr : XR g (some .boolean) "isWritten" (some (.int x0)) h 0 0) (K : Option (Int32)) (hK0 : Xo g x0 5 0 0 46 [] [] h K) : ∀ (n : Nat) (l4 : Int32), Xo g x0 5 0 0 14 [(0, .ref (nB g.1 + l0)), (1, .ref (nB g.1 + l1)), (2, .int l2), (3, .int l3), (4, .int l4)] [] h (f_X1_isWritten_L14 l0 l1 l2 l3 h K n l4) := by
  intro n
  induction n with
  | zero =>
    intro l4
    exact X_none
  | succ n ih =>
    intro l4
    unfold f_X1_isWritten_L14
    refine X_iload hg 4 rfl dX1_isWritten_14 ?_
    refine X_iload_n hg 3 rfl dX1_isWritten_16 ?_
    refine X_icmp_ge hg (tgt := 46) dX1_isWritten_17 rfl (fun c7 => ?_) (fun c7 => ?_)
    · refine X_lv [] rfl ?_
      exact hK0 
    · refine X_aload_n hg 1 rfl dX1_isWritten_20 ?_
      refine X_iload_n hg 2 rfl dX1_isWritten_21 ?_
      refine X_iload hg 4 rfl dX1_isWritten_22 ?_
      refine X_iadd hg dX1_isWritten_24 ?_
      refine X_cVI0 hg mf_X8_get m_358 m_359 m_417 cf_8 (fun _ e => gd_isO e) (fun y e => c_X8_get g.1 l1 (l2 + l4) h y e) (As := [.int (l2 + l4)]) rfl (Nat.le_of_ble_eq_true rfl) rfl (Nat.le_of_ble_eq_true rfl) (Nat.le_of_ble_eq_true rfl) (Nat.le_of_ble_eq_true rfl) (Nat.le_of_ble_eq_true rfl) dX1_isWritten_25 (fun x3 _ => ?_)
      refine X_aload_n hg 0 rfl dX1_isWritten_28 ?_
      refine X_getR hg (j := 0) cf_1 (Nat.le_of_ble_eq_true rfl) (Or.inr ⟨_, rfl⟩) m_435 dX1_isWritten_29 (fun x4 _ => ?_)
      refine X_iload hg 4 rfl dX1_isWritten_32 ?_
      refine X_ald hg dX1_isWritten_34 (fun x5 _ => ?_)
      refine X_icmp_eq hg (tgt := 40) dX1_isWritten_35 rfl (fun c6 => ?_) (fun c6 => ?_)
      · refine X_iinc hg 4 rfl (v := (l4 + (nI 1))) (icc ic_i_1) (Nat.le_of_ble_eq_true rfl) (lv' := [(4, .int (l4 + (nI 1))), (0, .ref (nB g.1 + l0)), (1, .ref (nB g.1 + l1)), (2, .int l2), (3, .int l3)]) rfl dX1_isWritten_40 ?_
        refine X_goto hg (tgt := 14) dX1_isWritten_43 rfl ?_
        refine X_lv [1, 2, 3, 4, 0] rfl ?_
        exact ih _
      · refine X_iconst hg ic_i_0 dX1_isWritten_38 ?_
        exact X_zret hg hr (Nat.le_of_ble_eq_true rfl) (Nat.le_of_ble_eq_true rfl) dX1_isWritten_39
set_option maxRecDepth 10000 in
theorem c_X1_isWritten (en : EN) (a0 : Nat) (a1 : Nat) (a2 : Int32) (a3 : Int32) (h : Hp) (x0 : Int32) (e : f_X1_isWritten a0 a1 a2 a3 h = some x0) : Ct en yX1_isWritten cX1_isWritten 5 (some .boolean) 1 21 0 0 [.ref (nB en + a0), .ref (nB en + a1), .int a2, .int a3] h (some (.int x0)) h := by
  refine Ct.of (by decide) rfl (Nat.le_of_ble_eq_true rfl) e (fun g hen hg hr => ?_)
  subst hen
  unfold f_X1_isWritten
  refine X_gd ?_
  refine X_iload_n hg 3 rfl dX1_isWritten_0 ?_
  refine X_aload_n hg 0 rfl dX1_isWritten_1 ?_
  refine X_getR hg (j := 0) cf_1 (Nat.le_of_ble_eq_true rfl) (Or.inr ⟨_, rfl⟩) m_435 dX1_isWritten_2 (fun x1 _ => ?_)
  refine X_aln hg (Or.inl rfl) dX1_isWritten_5 (fun x2 _ => ?_)
  refine X_icmp_eq hg (tgt := 11) dX1_isWritten_6 rfl (fun c8 => ?_) (fun c8 => ?_)
  · refine X_iconst hg ic_i_0 dX1_isWritten_11 ?_
    refine X_istore hg (Nat.le_of_ble_eq_true rfl) (lv' := [(4, .int (nI 0)), (0, .ref (nB g.1 + a0)), (1, .ref (nB g.1 + a1)), (2, .int a2), (3, .int a3)]) rfl dX1_isWritten_12 ?_
    refine X_lv [1, 2, 3, 4, 0] rfl ?_
    refine l_X1_isWritten_14 hg _ _ _ _ _ hr _ ?_ _ _
    refine X_iconst hg ic_i_1 dX1_isWritten_46 ?_
    exact X_zret hg hr (Nat.le_of_ble_eq_true rfl) (Nat.le_of_ble_eq_true rfl) dX1_isWritten_47
  · refine X_iconst hg ic_i_0 dX1_isWritten_9 ?_
    exact X_zret hg hr (Nat.le_of_ble_eq_true rfl) (Nat.le_of_ble_eq_true rfl) dX1_isWritten_10
set_option maxRecDepth 10000 in
theorem l_X1_isTypedAt_2 {g : XC} {x0 : Int32} (hg : XG g RX1 cX1_isTypedAt 4 1 21 0 0) (l0 : Nat) (l1 : Nat) (l2 : Int32) (h : Hp) (hr : XR g (some .boolean) "isTypedAt" (some (.int x0)) h 0 0) (K : Option (Int32)) (hK0 : Xo g x0 4 0 0 35 [] [] h K) : ∀ (n : Nat) (l3 : Int32), Xo g x0 4 0 0 2 [(0, .ref (nB g.1 + l0)), (1, .ref (nB g.1 + l1)), (2, .int l2), (3, .int l3)] [] h (f_X1_isTypedAt_L2 l0 l1 l2 h K n l3) := by
  intro n
  induction n with
  | zero =>
    intro l3
    exact X_none
  | succ n ih =>
    intro l3
    unfold f_X1_isTypedAt_L2
    refine X_iload_n hg 3 rfl dX1_isTypedAt_2 ?_
    refine X_aload_n hg 0 rfl dX1_isTypedAt_3 ?_
    refine X_getR hg (j := 1) cf_1 (Nat.le_of_ble_eq_true rfl) (Or.inr ⟨_, rfl⟩) m_437 dX1_isTypedAt_4 (fun x1 _ => ?_)
    refine X_aln hg (Or.inl rfl) dX1_isTypedAt_7 (fun x2 _ => ?_)
    refine X_icmp_ge hg (tgt := 35) dX1_isTypedAt_8 rfl (fun c7 => ?_) (fun c7 => ?_)
    · refine X_lv [] rfl ?_
      exact hK0 
    · refine X_aload_n hg 1 rfl dX1_isTypedAt_11 ?_
      refine X_iload_n hg 2 rfl dX1_isTypedAt_12 ?_
      refine X_iload_n hg 3 rfl dX1_isTypedAt_13 ?_
      refine X_iadd hg dX1_isTypedAt_14 ?_
      refine X_cVI0 hg mf_X8_get m_358 m_359 m_417 cf_8 (fun _ e => gd_isO e) (fun y e => c_X8_get g.1 l1 (l2 + l3) h y e) (As := [.int (l2 + l3)]) rfl (Nat.le_of_ble_eq_true rfl) rfl (Nat.le_of_ble_eq_true rfl) (Nat.le_of_ble_eq_true rfl) (Nat.le_of_ble_eq_true rfl) (Nat.le_of_ble_eq_true rfl) dX1_isTypedAt_15 (fun x3 _ => ?_)
      refine X_aload_n hg 0 rfl dX1_isTypedAt_18 ?_
      refine X_getR hg (j := 1) cf_1 (Nat.le_of_ble_eq_true rfl) (Or.inr ⟨_, rfl⟩) m_437 dX1_isTypedAt_19 (fun x4 _ => ?_)
      refine X_iload_n hg 3 rfl dX1_isTypedAt_22 ?_
      refine X_ald hg dX1_isTypedAt_23 (fun x5 _ => ?_)
      refine X_icmp_eq hg (tgt := 29) dX1_isTypedAt_24 rfl (fun c6 => ?_) (fun c6 => ?_)
      · refine X_iinc hg 3 rfl (v := (l3 + (nI 1))) (icc ic_i_1) (Nat.le_of_ble_eq_true rfl) (lv' := [(3, .int (l3 + (nI 1))), (0, .ref (nB g.1 + l0)), (1, .ref (nB g.1 + l1)), (2, .int l2)]) rfl dX1_isTypedAt_29 ?_
        refine X_goto hg (tgt := 2) dX1_isTypedAt_32 rfl ?_
        refine X_lv [1, 2, 3, 0] rfl ?_
        exact ih _
      · refine X_iconst hg ic_i_0 dX1_isTypedAt_27 ?_
        exact X_zret hg hr (Nat.le_of_ble_eq_true rfl) (Nat.le_of_ble_eq_true rfl) dX1_isTypedAt_28
set_option maxRecDepth 10000 in
theorem c_X1_isTypedAt (en : EN) (a0 : Nat) (a1 : Nat) (a2 : Int32) (h : Hp) (x0 : Int32) (e : f_X1_isTypedAt a0 a1 a2 h = some x0) : Ct en yX1_isTypedAt cX1_isTypedAt 4 (some .boolean) 1 21 0 0 [.ref (nB en + a0), .ref (nB en + a1), .int a2] h (some (.int x0)) h := by
  refine Ct.of (by decide) rfl (Nat.le_of_ble_eq_true rfl) e (fun g hen hg hr => ?_)
  subst hen
  unfold f_X1_isTypedAt
  refine X_gd ?_
  refine X_iconst hg ic_i_0 dX1_isTypedAt_0 ?_
  refine X_istore_n hg rfl (Nat.le_of_ble_eq_true rfl) (lv' := [(3, .int (nI 0)), (0, .ref (nB g.1 + a0)), (1, .ref (nB g.1 + a1)), (2, .int a2)]) rfl dX1_isTypedAt_1 ?_
  refine X_lv [1, 2, 3, 0] rfl ?_
  refine l_X1_isTypedAt_2 hg _ _ _ _ hr _ ?_ _ _
  refine X_iconst hg ic_i_1 dX1_isTypedAt_35 ?_
  exact X_zret hg hr (Nat.le_of_ble_eq_true rfl) (Nat.le_of_ble_eq_true rfl) dX1_isTypedAt_36
set_option maxRecDepth 10000 in
theorem c_X2_init (en : EN) (a0 : Nat) (h : Hp) (x0 : Hp) (e : f_X2_init a0 h = some x0) : Ct en yX2_init cX2_init 1 none 1 24 2 52 [.ref (nB en + a0)] h none x0 := by
  refine Ct.of (by decide) rfl (Nat.le_of_ble_eq_true rfl) e (fun g hen hg hr => ?_)
  subst hen
  unfold f_X2_init
  refine X_gd ?_
  refine X_aload_n hg 0 rfl dX2_init_0 ?_
  refine X_obji hg m_135 m_oi m_oc (Nat.le_of_ble_eq_true rfl) (Nat.le_of_ble_eq_true rfl) dX2_init_1 ?_
  refine X_aload_n hg 0 rfl dX2_init_4 ?_
  refine X_keypadB hg m_136 m_138 m_smC m_140 m_141 m_142 m_cast m_144 (Nat.le_of_ble_eq_true rfl) (Nat.le_of_ble_eq_true rfl) (Nat.le_of_ble_eq_true rfl) (Nat.le_of_ble_eq_true rfl) dX2_init_5 dX2_init_8 dX2_init_11 (fun h1 _ => ?_)
  refine X_putRF hg hr.2.2.1 (j := 0) cf_2 (Nat.le_of_ble_eq_true rfl) rfl rfl (Or.inr ⟨_, rfl⟩) m_145 dX2_init_14 (fun h2 _ => ?_)
  refine X_aload_n hg 0 rfl dX2_init_17 ?_
  refine X_bipush hg ic_b_26 dX2_init_18 ?_
  refine X_newA hg m_arrI (Nat.le_of_ble_eq_true rfl) (Nat.le_of_ble_eq_true rfl) (Nat.le_of_ble_eq_true rfl) dX2_init_20 (fun h3 _ => ?_)
  refine X_putRF hg hr.2.2.1 (j := 1) cf_2 (Nat.le_of_ble_eq_true rfl) rfl rfl (Or.inr ⟨_, rfl⟩) m_146 dX2_init_22 (fun h4 _ => ?_)
  exact X_vret hg hr (Nat.le_of_ble_eq_true rfl) (Nat.le_of_ble_eq_true rfl) dX2_init_25
set_option maxRecDepth 10000 in
theorem l_X2_read_13 {g : XC} {x0 : Int32 × Hp} (hg : XG g RX2 cX2_read 8 1 40 0 0) (l0 : Nat) (l1 : Nat) (hr : XR g (some .int) "read" (some (.int x0.1)) x0.2 0 0) (K : Int32 → Int32 → Int32 → Int32 → Hp → Option (Int32 × Hp)) (hK0 : ∀ (l2 : Int32) (l3 : Int32) (l4 : Int32) (l5 : Int32) (h : Hp), Xo g x0 8 0 0 105 [(0, .ref (nB g.1 + l0)), (2, .int l2), (3, .int l3), (4, .int l4), (5, .int l5)] [] h (K l2 l3 l4 l5 h)) : ∀ (n : Nat) (l2 : Int32) (l3 : Int32) (l4 : Int32) (l5 : Int32) (l6 : Int32) (h : Hp), Xo g x0 8 0 0 13 [(0, .ref (nB g.1 + l0)), (1, .ref (nB g.1 + l1)), (2, .int l2), (3, .int l3), (4, .int l4), (5, .int l5), (6, .int l6)] [] h (f_X2_read_L13 l0 l1 K n l2 l3 l4 l5 l6 h) := by
  intro n
  induction n with
  | zero =>
    intro l2 l3 l4 l5 l6 h
    exact X_none
  | succ n ih =>
    intro l2 l3 l4 l5 l6 h
    unfold f_X2_read_L13
    refine X_iload hg 6 rfl dX2_read_13 ?_
    refine X_aload_n hg 1 rfl dX2_read_15 ?_
    refine X_cVI0 hg mf_X8_size m_337 m_338 m_476 cf_8 (fun _ e => gd_isO e) (fun y e => c_X8_size g.1 l1 h y e) (As := []) rfl (Nat.le_of_ble_eq_true rfl) rfl (Nat.le_of_ble_eq_true rfl) (Nat.le_of_ble_eq_true rfl) (Nat.le_of_ble_eq_true rfl) (Nat.le_of_ble_eq_true rfl) dX2_read_16 (fun x1 _ => ?_)
    refine X_icmp_ge hg (tgt := 105) dX2_read_19 rfl (fun c13 => ?_) (fun c13 => ?_)
    · refine X_lv [0, 2, 3, 4, 5] rfl ?_
      exact hK0 _ _ _ _ _
    · refine X_aload_n hg 1 rfl dX2_read_22 ?_
      refine X_iload hg 6 rfl dX2_read_23 ?_
      refine X_cVI0 hg mf_X8_get m_358 m_359 m_477 cf_8 (fun _ e => gd_isO e) (fun y e => c_X8_get g.1 l1 l6 h y e) (As := [.int l6]) rfl (Nat.le_of_ble_eq_true rfl) rfl (Nat.le_of_ble_eq_true rfl) (Nat.le_of_ble_eq_true rfl) (Nat.le_of_ble_eq_true rfl) (Nat.le_of_ble_eq_true rfl) dX2_read_25 (fun x2 _ => ?_)
      refine X_istore hg (Nat.le_of_ble_eq_true rfl) (lv' := [(7, .int x2), (0, .ref (nB g.1 + l0)), (1, .ref (nB g.1 + l1)), (2, .int l2), (3, .int l3), (4, .int l4), (5, .int l5), (6, .int l6)]) rfl dX2_read_28 ?_
      refine X_iload_n hg 3 rfl dX2_read_30 ?_
      refine X_bipush hg ic_b_26 dX2_read_31 ?_
      refine X_icmp_ge hg (tgt := 70) dX2_read_33 rfl (fun c12 => ?_) (fun c12 => ?_)
      · refine X_iload hg 0 rfl dX2_read_70 ?_
        refine X_bipush hg ic_b_44 dX2_read_72 ?_
        refine X_icmp_ne hg (tgt := 97) dX2_read_74 rfl (fun c5 => ?_) (fun c5 => ?_)
        · refine X_iload hg 5 rfl dX2_read_77 ?_
          refine X_if_le hg (tgt := 97) dX2_read_79 rfl (fun c4 => ?_) (fun c4 => ?_)
          · refine X_iconst hg ic_i_0 dX2_read_97 ?_
            exact X_iretW hg hr (Nat.le_of_ble_eq_true rfl) (Nat.le_of_ble_eq_true rfl) dX2_read_98
          · refine X_iload_n hg 4 rfl dX2_read_82 ?_
            refine X_bipush hg ic_b_9 dX2_read_83 ?_
            refine X_icmp_ge hg (tgt := 97) dX2_read_85 rfl (fun c3 => ?_) (fun c3 => ?_)
            · refine X_iconst hg ic_i_0 dX2_read_97 ?_
              exact X_iretW hg hr (Nat.le_of_ble_eq_true rfl) (Nat.le_of_ble_eq_true rfl) dX2_read_98
            · refine X_iinc hg 4 rfl (v := (l3 + (nI 1))) (icc ic_i_1) (Nat.le_of_ble_eq_true rfl) (lv' := [(3, .int (l3 + (nI 1))), (7, .int x2), (0, .ref (nB g.1 + l0)), (1, .ref (nB g.1 + l1)), (2, .int l2), (4, .int l4), (5, .int l5), (6, .int l6)]) rfl dX2_read_88 ?_
              refine X_iconst hg ic_i_0 dX2_read_91 ?_
              refine X_istore hg (Nat.le_of_ble_eq_true rfl) (lv' := [(4, .int (nI 0)), (3, .int (l3 + (nI 1))), (7, .int x2), (0, .ref (nB g.1 + l0)), (1, .ref (nB g.1 + l1)), (2, .int l2), (5, .int l5), (6, .int l6)]) rfl dX2_read_92 ?_
              refine X_goto hg (tgt := 99) dX2_read_94 rfl ?_
              refine X_iinc hg 7 rfl (v := (l6 + (nI 1))) (icc ic_i_1) (Nat.le_of_ble_eq_true rfl) (lv' := [(6, .int (l6 + (nI 1))), (4, .int (nI 0)), (3, .int (l3 + (nI 1))), (7, .int x2), (0, .ref (nB g.1 + l0)), (1, .ref (nB g.1 + l1)), (2, .int l2), (5, .int l5)]) rfl dX2_read_99 ?_
              refine X_goto hg (tgt := 13) dX2_read_102 rfl ?_
              refine X_lv [4, 5, 6, 2, 1, 7, 0] rfl ?_
              exact ih _ _ _ _ _ _
        · refine X_iconst hg ic_i_0 dX2_read_97 ?_
          exact X_iretW hg hr (Nat.le_of_ble_eq_true rfl) (Nat.le_of_ble_eq_true rfl) dX2_read_98
      · refine X_iload hg 0 rfl dX2_read_36 ?_
        refine X_bipush hg ic_b_97 dX2_read_38 ?_
        refine X_iload_n hg 3 rfl dX2_read_40 ?_
        refine X_iadd hg dX2_read_41 ?_
        refine X_icmp_ne hg (tgt := 70) dX2_read_42 rfl (fun c11 => ?_) (fun c11 => ?_)
        · refine X_aload_n hg 1 rfl dX2_read_45 ?_
          refine X_getR hg (j := 1) cf_2 (Nat.le_of_ble_eq_true rfl) (Or.inr ⟨_, rfl⟩) m_146 dX2_read_46 (fun x6 _ => ?_)
          refine X_iload_n hg 3 rfl dX2_read_49 ?_
          refine X_iload_n hg 4 rfl dX2_read_50 ?_
          refine X_ast hg dX2_read_51 (fun h7 _ => ?_)
          refine X_iinc hg 3 rfl (v := (l2 + (nI 1))) (icc ic_i_1) (Nat.le_of_ble_eq_true rfl) (lv' := [(2, .int (l2 + (nI 1))), (7, .int x2), (0, .ref (nB g.1 + l0)), (1, .ref (nB g.1 + l1)), (3, .int l3), (4, .int l4), (5, .int l5), (6, .int l6)]) rfl dX2_read_52 ?_
          refine X_iinc hg 5 rfl (v := (l4 + (nI 1))) (icc ic_i_1) (Nat.le_of_ble_eq_true rfl) (lv' := [(4, .int (l4 + (nI 1))), (2, .int (l2 + (nI 1))), (7, .int x2), (0, .ref (nB g.1 + l0)), (1, .ref (nB g.1 + l1)), (3, .int l3), (5, .int l5), (6, .int l6)]) rfl dX2_read_55 ?_
          refine X_iload hg 6 rfl dX2_read_58 ?_
          refine X_iload hg 0 rfl dX2_read_60 ?_
          refine X_max hg m_478 m_stmax m_inM m_cdmax (Nat.le_of_ble_eq_true rfl) (Nat.le_of_ble_eq_true rfl) (Nat.le_of_ble_eq_true rfl) (Nat.le_of_ble_eq_true rfl) dX2_read_62 ?_
          refine X_istore hg (Nat.le_of_ble_eq_true rfl) (lv' := [(5, .int (imx l5 (l4 + (nI 1)))), (4, .int (l4 + (nI 1))), (2, .int (l2 + (nI 1))), (7, .int x2), (0, .ref (nB g.1 + l0)), (1, .ref (nB g.1 + l1)), (3, .int l3), (6, .int l6)]) rfl dX2_read_65 ?_
          refine X_goto hg (tgt := 99) dX2_read_67 rfl ?_
          refine X_iinc hg 7 rfl (v := (l6 + (nI 1))) (icc ic_i_1) (Nat.le_of_ble_eq_true rfl) (lv' := [(6, .int (l6 + (nI 1))), (5, .int (imx l5 (l4 + (nI 1)))), (4, .int (l4 + (nI 1))), (2, .int (l2 + (nI 1))), (7, .int x2), (0, .ref (nB g.1 + l0)), (1, .ref (nB g.1 + l1)), (3, .int l3)]) rfl dX2_read_99 ?_
          refine X_goto hg (tgt := 13) dX2_read_102 rfl ?_
          refine X_lv [5, 6, 3, 7, 2, 1, 0] rfl ?_
          exact ih _ _ _ _ _ _
        · refine X_iload hg 0 rfl dX2_read_70 ?_
          refine X_bipush hg ic_b_44 dX2_read_72 ?_
          refine X_icmp_ne hg (tgt := 97) dX2_read_74 rfl (fun c10 => ?_) (fun c10 => ?_)
          · refine X_iload hg 5 rfl dX2_read_77 ?_
            refine X_if_le hg (tgt := 97) dX2_read_79 rfl (fun c9 => ?_) (fun c9 => ?_)
            · refine X_iconst hg ic_i_0 dX2_read_97 ?_
              exact X_iretW hg hr (Nat.le_of_ble_eq_true rfl) (Nat.le_of_ble_eq_true rfl) dX2_read_98
            · refine X_iload_n hg 4 rfl dX2_read_82 ?_
              refine X_bipush hg ic_b_9 dX2_read_83 ?_
              refine X_icmp_ge hg (tgt := 97) dX2_read_85 rfl (fun c8 => ?_) (fun c8 => ?_)
              · refine X_iconst hg ic_i_0 dX2_read_97 ?_
                exact X_iretW hg hr (Nat.le_of_ble_eq_true rfl) (Nat.le_of_ble_eq_true rfl) dX2_read_98
              · refine X_iinc hg 4 rfl (v := (l3 + (nI 1))) (icc ic_i_1) (Nat.le_of_ble_eq_true rfl) (lv' := [(3, .int (l3 + (nI 1))), (7, .int x2), (0, .ref (nB g.1 + l0)), (1, .ref (nB g.1 + l1)), (2, .int l2), (4, .int l4), (5, .int l5), (6, .int l6)]) rfl dX2_read_88 ?_
                refine X_iconst hg ic_i_0 dX2_read_91 ?_
                refine X_istore hg (Nat.le_of_ble_eq_true rfl) (lv' := [(4, .int (nI 0)), (3, .int (l3 + (nI 1))), (7, .int x2), (0, .ref (nB g.1 + l0)), (1, .ref (nB g.1 + l1)), (2, .int l2), (5, .int l5), (6, .int l6)]) rfl dX2_read_92 ?_
                refine X_goto hg (tgt := 99) dX2_read_94 rfl ?_
                refine X_iinc hg 7 rfl (v := (l6 + (nI 1))) (icc ic_i_1) (Nat.le_of_ble_eq_true rfl) (lv' := [(6, .int (l6 + (nI 1))), (4, .int (nI 0)), (3, .int (l3 + (nI 1))), (7, .int x2), (0, .ref (nB g.1 + l0)), (1, .ref (nB g.1 + l1)), (2, .int l2), (5, .int l5)]) rfl dX2_read_99 ?_
                refine X_goto hg (tgt := 13) dX2_read_102 rfl ?_
                refine X_lv [4, 5, 6, 2, 1, 7, 0] rfl ?_
                exact ih _ _ _ _ _ _
          · refine X_iconst hg ic_i_0 dX2_read_97 ?_
            exact X_iretW hg hr (Nat.le_of_ble_eq_true rfl) (Nat.le_of_ble_eq_true rfl) dX2_read_98
set_option maxRecDepth 10000 in
theorem c_X2_read (en : EN) (a0 : Nat) (a1 : Nat) (h : Hp) (x0 : Int32 × Hp) (e : f_X2_read a0 a1 h = some x0) : Ct en yX2_read cX2_read 8 (some .int) 1 40 0 0 [.ref (nB en + a0), .ref (nB en + a1)] h (some (.int x0.1)) x0.2 := by
  refine Ct.of (by decide) rfl (Nat.le_of_ble_eq_true rfl) e (fun g hen hg hr => ?_)
  subst hen
  unfold f_X2_read
  refine X_gd ?_
  refine X_iconst hg ic_i_0 dX2_read_0 ?_
  refine X_istore_n hg rfl (Nat.le_of_ble_eq_true rfl) (lv' := [(2, .int (nI 0)), (0, .ref (nB g.1 + a0)), (1, .ref (nB g.1 + a1))]) rfl dX2_read_1 ?_
  refine X_iconst hg ic_i_2 dX2_read_2 ?_
  refine X_istore_n hg rfl (Nat.le_of_ble_eq_true rfl) (lv' := [(3, .int (nI 2)), (2, .int (nI 0)), (0, .ref (nB g.1 + a0)), (1, .ref (nB g.1 + a1))]) rfl dX2_read_3 ?_
  refine X_iconst hg ic_i_0 dX2_read_4 ?_
  refine X_istore hg (Nat.le_of_ble_eq_true rfl) (lv' := [(4, .int (nI 0)), (3, .int (nI 2)), (2, .int (nI 0)), (0, .ref (nB g.1 + a0)), (1, .ref (nB g.1 + a1))]) rfl dX2_read_5 ?_
  refine X_iconst hg ic_i_0 dX2_read_7 ?_
  refine X_istore hg (Nat.le_of_ble_eq_true rfl) (lv' := [(5, .int (nI 0)), (4, .int (nI 0)), (3, .int (nI 2)), (2, .int (nI 0)), (0, .ref (nB g.1 + a0)), (1, .ref (nB g.1 + a1))]) rfl dX2_read_8 ?_
  refine X_iconst hg ic_i_0 dX2_read_10 ?_
  refine X_istore hg (Nat.le_of_ble_eq_true rfl) (lv' := [(6, .int (nI 0)), (5, .int (nI 0)), (4, .int (nI 0)), (3, .int (nI 2)), (2, .int (nI 0)), (0, .ref (nB g.1 + a0)), (1, .ref (nB g.1 + a1))]) rfl dX2_read_11 ?_
  refine X_lv [5, 6, 4, 3, 2, 1, 0] rfl ?_
  refine l_X2_read_13 hg _ _ hr _ (fun y14 y15 y16 y17 h18 => ?_) _ _ _ _ _ _ _
  refine X_iload_n hg 1 rfl dX2_read_105 ?_
  refine X_bipush hg ic_b_26 dX2_read_106 ?_
  refine X_icmp_lt hg (tgt := 122) dX2_read_108 rfl (fun c24 => ?_) (fun c24 => ?_)
  · refine X_iconst hg ic_i_0 dX2_read_122 ?_
    exact X_iretW hg hr (Nat.le_of_ble_eq_true rfl) (Nat.le_of_ble_eq_true rfl) dX2_read_123
  · refine X_iload_n hg 2 rfl dX2_read_111 ?_
    refine X_bipush hg ic_b_9 dX2_read_112 ?_
    refine X_icmp_lt hg (tgt := 122) dX2_read_114 rfl (fun c23 => ?_) (fun c23 => ?_)
    · refine X_iconst hg ic_i_0 dX2_read_122 ?_
      exact X_iretW hg hr (Nat.le_of_ble_eq_true rfl) (Nat.le_of_ble_eq_true rfl) dX2_read_123
    · refine X_iload hg 3 rfl dX2_read_117 ?_
      refine X_if_ne hg (tgt := 124) dX2_read_119 rfl (fun c22 => ?_) (fun c22 => ?_)
      · refine X_iconst hg ic_i_0 dX2_read_122 ?_
        exact X_iretW hg hr (Nat.le_of_ble_eq_true rfl) (Nat.le_of_ble_eq_true rfl) dX2_read_123
      · refine X_aload_n hg 0 rfl dX2_read_124 ?_
        refine X_getR hg (j := 1) cf_2 (Nat.le_of_ble_eq_true rfl) (Or.inr ⟨_, rfl⟩) m_146 dX2_read_125 (fun x19 _ => ?_)
        refine X_iconst hg ic_i_0 dX2_read_128 ?_
        refine X_aload_n hg 0 rfl dX2_read_129 ?_
        refine X_getR hg (j := 0) cf_2 (Nat.le_of_ble_eq_true rfl) (Or.inr ⟨_, rfl⟩) m_145 dX2_read_130 (fun x20 _ => ?_)
        refine X_iconst hg ic_i_0 dX2_read_133 ?_
        refine X_bipush hg ic_b_26 dX2_read_134 ?_
        refine X_acpy hg m_479 m_natA m_stA m_inS (Nat.le_of_ble_eq_true rfl) (by decide +kernel) dX2_read_136 (fun h21 _ => ?_)
        refine X_iload hg 4 rfl dX2_read_139 ?_
        exact X_iretW hg hr (Nat.le_of_ble_eq_true rfl) (Nat.le_of_ble_eq_true rfl) dX2_read_141
set_option maxRecDepth 10000 in
theorem c_X3_init (en : EN) (a0 : Nat) (h : Hp) (x0 : Hp) (e : f_X3_init a0 h = some x0) : Ct en yX3_init cX3_init 1 none 1 24 3 150 [.ref (nB en + a0)] h none x0 := by
  refine Ct.of (by decide) rfl (Nat.le_of_ble_eq_true rfl) e (fun g hen hg hr => ?_)
  subst hen
  unfold f_X3_init
  refine X_gd ?_
  refine X_aload_n hg 0 rfl dX3_init_0 ?_
  refine X_obji hg m_172 m_oi m_oc (Nat.le_of_ble_eq_true rfl) (Nat.le_of_ble_eq_true rfl) dX3_init_1 ?_
  refine X_aload_n hg 0 rfl dX3_init_4 ?_
  refine X_bipush hg ic_b_50 dX3_init_5 ?_
  refine X_newA hg m_arrI (Nat.le_of_ble_eq_true rfl) (Nat.le_of_ble_eq_true rfl) (Nat.le_of_ble_eq_true rfl) dX3_init_7 (fun h1 _ => ?_)
  refine X_putRF hg hr.2.2.1 (j := 0) cf_3 (Nat.le_of_ble_eq_true rfl) rfl rfl (Or.inr ⟨_, rfl⟩) m_173 dX3_init_9 (fun h2 _ => ?_)
  refine X_aload_n hg 0 rfl dX3_init_12 ?_
  refine X_bipush hg ic_b_50 dX3_init_13 ?_
  refine X_newA hg m_arrI (Nat.le_of_ble_eq_true rfl) (Nat.le_of_ble_eq_true rfl) (Nat.le_of_ble_eq_true rfl) dX3_init_15 (fun h3 _ => ?_)
  refine X_putRF hg hr.2.2.1 (j := 1) cf_3 (Nat.le_of_ble_eq_true rfl) rfl rfl (Or.inr ⟨_, rfl⟩) m_174 dX3_init_17 (fun h4 _ => ?_)
  refine X_aload_n hg 0 rfl dX3_init_20 ?_
  refine X_bipush hg ic_b_50 dX3_init_21 ?_
  refine X_newA hg m_arrI (Nat.le_of_ble_eq_true rfl) (Nat.le_of_ble_eq_true rfl) (Nat.le_of_ble_eq_true rfl) dX3_init_23 (fun h5 _ => ?_)
  refine X_putRF hg hr.2.2.1 (j := 2) cf_3 (Nat.le_of_ble_eq_true rfl) rfl rfl (Or.inr ⟨_, rfl⟩) m_175 dX3_init_25 (fun h6 _ => ?_)
  exact X_vret hg hr (Nat.le_of_ble_eq_true rfl) (Nat.le_of_ble_eq_true rfl) dX3_init_28
set_option maxRecDepth 10000 in
theorem c_X3_items (en : EN) (a0 : Nat) (h : Hp) (x0 : Int32) (e : f_X3_items a0 h = some x0) : Ct en yX3_items cX3_items 1 (some .int) 0 0 0 0 [.ref (nB en + a0)] h (some (.int x0)) h := by
  refine Ct.of (by decide) rfl (Nat.le_of_ble_eq_true rfl) e (fun g hen hg hr => ?_)
  subst hen
  unfold f_X3_items
  refine X_gd ?_
  refine X_aload_n hg 0 rfl dX3_items_0 ?_
  refine X_getI hg (j := 3) cf_3 (Nat.le_of_ble_eq_true rfl) (Or.inl rfl) m_176 dX3_items_1 (fun x1 _ => ?_)
  exact X_iret hg hr (Nat.le_of_ble_eq_true rfl) (Nat.le_of_ble_eq_true rfl) dX3_items_4
set_option maxRecDepth 10000 in
theorem c_X3_startOf (en : EN) (a0 : Nat) (a1 : Int32) (h : Hp) (x0 : Int32) (e : f_X3_startOf a0 a1 h = some x0) : Ct en yX3_startOf cX3_startOf 2 (some .int) 0 0 0 0 [.ref (nB en + a0), .int a1] h (some (.int x0)) h := by
  refine Ct.of (by decide) rfl (Nat.le_of_ble_eq_true rfl) e (fun g hen hg hr => ?_)
  subst hen
  unfold f_X3_startOf
  refine X_gd ?_
  refine X_iload_n hg 1 rfl dX3_startOf_0 ?_
  refine X_reg (fun (v1 : Int32) o => Xo g x0 2 0 0 22 [] [.int v1] h o) (fun kv1 hk1 => ?_) (fun v1 => ?_)
  · refine X_ib ?_
    refine X_if_lt hg (tgt := 21) dX3_startOf_1 rfl (fun c6 => ?_) (fun c6 => ?_)
    · refine X_iconst hg ic_i_0 dX3_startOf_21 ?_
      refine X_lv [] rfl ?_
      exact hk1 (nI 0)
    · refine X_iload_n hg 1 rfl dX3_startOf_4 ?_
      refine X_aload_n hg 0 rfl dX3_startOf_5 ?_
      refine X_as ?_
      refine X_getI hg (j := 3) cf_3 (Nat.le_of_ble_eq_true rfl) (Or.inl rfl) m_176 dX3_startOf_6 (fun x2 _ => ?_)
      refine X_ib ?_
      refine X_icmp_ge hg (tgt := 21) dX3_startOf_9 rfl (fun c5 => ?_) (fun c5 => ?_)
      · refine X_iconst hg ic_i_0 dX3_startOf_21 ?_
        refine X_lv [] rfl ?_
        exact hk1 (nI 0)
      · refine X_aload_n hg 0 rfl dX3_startOf_12 ?_
        refine X_as ?_
        refine X_getR hg (j := 0) cf_3 (Nat.le_of_ble_eq_true rfl) (Or.inr ⟨_, rfl⟩) m_173 dX3_startOf_13 (fun x3 _ => ?_)
        refine X_iload_n hg 1 rfl dX3_startOf_16 ?_
        refine X_as ?_
        refine X_ald hg dX3_startOf_17 (fun x4 _ => ?_)
        refine X_goto hg (tgt := 22) dX3_startOf_18 rfl ?_
        refine X_lv [] rfl ?_
        exact hk1 x4
  · exact X_iret hg hr (Nat.le_of_ble_eq_true rfl) (Nat.le_of_ble_eq_true rfl) dX3_startOf_22
set_option maxRecDepth 10000 in
theorem c_X3_lengthOf (en : EN) (a0 : Nat) (a1 : Int32) (h : Hp) (x0 : Int32) (e : f_X3_lengthOf a0 a1 h = some x0) : Ct en yX3_lengthOf cX3_lengthOf 2 (some .int) 0 0 0 0 [.ref (nB en + a0), .int a1] h (some (.int x0)) h := by
  refine Ct.of (by decide) rfl (Nat.le_of_ble_eq_true rfl) e (fun g hen hg hr => ?_)
  subst hen
  unfold f_X3_lengthOf
  refine X_gd ?_
  refine X_iload_n hg 1 rfl dX3_lengthOf_0 ?_
  refine X_reg (fun (v1 : Int32) o => Xo g x0 2 0 0 22 [] [.int v1] h o) (fun kv1 hk1 => ?_) (fun v1 => ?_)
  · refine X_ib ?_
    refine X_if_lt hg (tgt := 21) dX3_lengthOf_1 rfl (fun c6 => ?_) (fun c6 => ?_)
    · refine X_iconst hg ic_i_0 dX3_lengthOf_21 ?_
      refine X_lv [] rfl ?_
      exact hk1 (nI 0)
    · refine X_iload_n hg 1 rfl dX3_lengthOf_4 ?_
      refine X_aload_n hg 0 rfl dX3_lengthOf_5 ?_
      refine X_as ?_
      refine X_getI hg (j := 3) cf_3 (Nat.le_of_ble_eq_true rfl) (Or.inl rfl) m_176 dX3_lengthOf_6 (fun x2 _ => ?_)
      refine X_ib ?_
      refine X_icmp_ge hg (tgt := 21) dX3_lengthOf_9 rfl (fun c5 => ?_) (fun c5 => ?_)
      · refine X_iconst hg ic_i_0 dX3_lengthOf_21 ?_
        refine X_lv [] rfl ?_
        exact hk1 (nI 0)
      · refine X_aload_n hg 0 rfl dX3_lengthOf_12 ?_
        refine X_as ?_
        refine X_getR hg (j := 1) cf_3 (Nat.le_of_ble_eq_true rfl) (Or.inr ⟨_, rfl⟩) m_174 dX3_lengthOf_13 (fun x3 _ => ?_)
        refine X_iload_n hg 1 rfl dX3_lengthOf_16 ?_
        refine X_as ?_
        refine X_ald hg dX3_lengthOf_17 (fun x4 _ => ?_)
        refine X_goto hg (tgt := 22) dX3_lengthOf_18 rfl ?_
        refine X_lv [] rfl ?_
        exact hk1 x4
  · exact X_iret hg hr (Nat.le_of_ble_eq_true rfl) (Nat.le_of_ble_eq_true rfl) dX3_lengthOf_22
set_option maxRecDepth 10000 in
theorem c_X3_frequencyOf (en : EN) (a0 : Nat) (a1 : Int32) (h : Hp) (x0 : Int32) (e : f_X3_frequencyOf a0 a1 h = some x0) : Ct en yX3_frequencyOf cX3_frequencyOf 2 (some .int) 0 0 0 0 [.ref (nB en + a0), .int a1] h (some (.int x0)) h := by
  refine Ct.of (by decide) rfl (Nat.le_of_ble_eq_true rfl) e (fun g hen hg hr => ?_)
  subst hen
  unfold f_X3_frequencyOf
  refine X_gd ?_
  refine X_iload_n hg 1 rfl dX3_frequencyOf_0 ?_
  refine X_reg (fun (v1 : Int32) o => Xo g x0 2 0 0 22 [] [.int v1] h o) (fun kv1 hk1 => ?_) (fun v1 => ?_)
  · refine X_ib ?_
    refine X_if_lt hg (tgt := 21) dX3_frequencyOf_1 rfl (fun c6 => ?_) (fun c6 => ?_)
    · refine X_iconst hg ic_i_0 dX3_frequencyOf_21 ?_
      refine X_lv [] rfl ?_
      exact hk1 (nI 0)
    · refine X_iload_n hg 1 rfl dX3_frequencyOf_4 ?_
      refine X_aload_n hg 0 rfl dX3_frequencyOf_5 ?_
      refine X_as ?_
      refine X_getI hg (j := 3) cf_3 (Nat.le_of_ble_eq_true rfl) (Or.inl rfl) m_176 dX3_frequencyOf_6 (fun x2 _ => ?_)
      refine X_ib ?_
      refine X_icmp_ge hg (tgt := 21) dX3_frequencyOf_9 rfl (fun c5 => ?_) (fun c5 => ?_)
      · refine X_iconst hg ic_i_0 dX3_frequencyOf_21 ?_
        refine X_lv [] rfl ?_
        exact hk1 (nI 0)
      · refine X_aload_n hg 0 rfl dX3_frequencyOf_12 ?_
        refine X_as ?_
        refine X_getR hg (j := 2) cf_3 (Nat.le_of_ble_eq_true rfl) (Or.inr ⟨_, rfl⟩) m_175 dX3_frequencyOf_13 (fun x3 _ => ?_)
        refine X_iload_n hg 1 rfl dX3_frequencyOf_16 ?_
        refine X_as ?_
        refine X_ald hg dX3_frequencyOf_17 (fun x4 _ => ?_)
        refine X_goto hg (tgt := 22) dX3_frequencyOf_18 rfl ?_
        refine X_lv [] rfl ?_
        exact hk1 x4
  · exact X_iret hg hr (Nat.le_of_ble_eq_true rfl) (Nat.le_of_ble_eq_true rfl) dX3_frequencyOf_22
set_option maxRecDepth 10000 in
theorem c_X3_entryOf (en : EN) (a0 : Nat) (a1 : Nat) (a2 : Int32) (h : Hp) (x0 : Nat × Hp) (e : f_X3_entryOf a0 a1 a2 h = some x0) : Ct en yX3_entryOf cX3_entryOf 3 (some (.object "DialMenus$Entry")) 2 50 3 19 [.ref (nB en + a0), .ref (nB en + a1), .int a2] h (some (.ref (nB en + x0.1))) x0.2 := by
  refine Ct.of (by decide) rfl (Nat.le_of_ble_eq_true rfl) e (fun g hen hg hr => ?_)
  subst hen
  unfold f_X3_entryOf
  refine X_gd ?_
  refine X_newO hg cf_1 ok_1 m_426 m_427 m_102 (Nat.le_of_ble_eq_true rfl) (Nat.le_of_ble_eq_true rfl) dX3_entryOf_0 (fun h1 _ => ?_)
  refine X_dup hg rfl dX3_entryOf_3 ?_
  refine X_aload_n hg 1 rfl dX3_entryOf_4 ?_
  refine X_aload_n hg 0 rfl dX3_entryOf_5 ?_
  refine X_iload_n hg 2 rfl dX3_entryOf_6 ?_
  refine X_cVI0 hg mf_X3_startOf m_402 m_403 m_428 cf_3 (fun _ e => gd_isO e) (fun y e => c_X3_startOf g.1 a0 a2 h1 y e) (As := [.int a2]) rfl (Nat.le_of_ble_eq_true rfl) rfl (Nat.le_of_ble_eq_true rfl) (Nat.le_of_ble_eq_true rfl) (Nat.le_of_ble_eq_true rfl) (Nat.le_of_ble_eq_true rfl) dX3_entryOf_7 (fun x2 _ => ?_)
  refine X_aload_n hg 0 rfl dX3_entryOf_10 ?_
  refine X_iload_n hg 2 rfl dX3_entryOf_11 ?_
  refine X_cVI0 hg mf_X3_lengthOf m_406 m_407 m_429 cf_3 (fun _ e => gd_isO e) (fun y e => c_X3_lengthOf g.1 a0 a2 h1 y e) (As := [.int a2]) rfl (Nat.le_of_ble_eq_true rfl) rfl (Nat.le_of_ble_eq_true rfl) (Nat.le_of_ble_eq_true rfl) (Nat.le_of_ble_eq_true rfl) (Nat.le_of_ble_eq_true rfl) dX3_entryOf_12 (fun x3 _ => ?_)
  refine X_aload_n hg 0 rfl dX3_entryOf_15 ?_
  refine X_iload_n hg 2 rfl dX3_entryOf_16 ?_
  refine X_cVI0 hg mf_X3_frequencyOf m_367 m_1 m_365 cf_3 (fun _ e => gd_isO e) (fun y e => c_X3_frequencyOf g.1 a0 a2 h1 y e) (As := [.int a2]) rfl (Nat.le_of_ble_eq_true rfl) rfl (Nat.le_of_ble_eq_true rfl) (Nat.le_of_ble_eq_true rfl) (Nat.le_of_ble_eq_true rfl) (Nat.le_of_ble_eq_true rfl) dX3_entryOf_17 (fun x4 _ => ?_)
  refine X_cIV hg mf_X1_init rfl rfl m_431 m_430 (fun y e => c_X1_init g.1 (hN h) a1 x2 x3 x4 h1 y e) (As := [.ref (nB g.1 + a1), .int x2, .int x3, .int x4]) rfl (Nat.le_of_ble_eq_true rfl) rfl (Nat.le_of_ble_eq_true rfl) (Nat.le_of_ble_eq_true rfl) (Nat.le_of_ble_eq_true rfl) (Nat.le_of_ble_eq_true rfl) dX3_entryOf_20 (fun h5 _ => ?_)
  exact X_aretW hg (Or.inl ⟨_, rfl⟩) hr (Nat.le_of_ble_eq_true rfl) (Nat.le_of_ble_eq_true rfl) dX3_entryOf_23
set_option maxRecDepth 10000 in
theorem c_X3_endsWithItem (en : EN) (a0 : Nat) (h : Hp) (x0 : Int32) (e : f_X3_endsWithItem a0 h = some x0) : Ct en yX3_endsWithItem cX3_endsWithItem 1 (some .boolean) 1 21 0 0 [.ref (nB en + a0)] h (some (.int x0)) h := by
  refine Ct.of (by decide) rfl (Nat.le_of_ble_eq_true rfl) e (fun g hen hg hr => ?_)
  subst hen
  unfold f_X3_endsWithItem
  refine X_gd ?_
  refine X_aload_n hg 0 rfl dX3_endsWithItem_0 ?_
  refine X_getI hg (j := 5) cf_3 (Nat.le_of_ble_eq_true rfl) (Or.inr rfl) m_178 dX3_endsWithItem_1 (fun x1 _ => ?_)
  refine X_reg (fun (v2 : Int32) o => Xo g x0 1 0 0 25 [] [.int v2] h o) (fun kv2 hk2 => ?_) (fun v2 => ?_)
  · refine X_ib ?_
    refine X_if_eq hg (tgt := 24) dX3_endsWithItem_4 rfl (fun c6 => ?_) (fun c6 => ?_)
    · refine X_iconst hg ic_i_0 dX3_endsWithItem_24 ?_
      refine X_lv [] rfl ?_
      exact hk2 (nI 0)
    · refine X_aload_n hg 0 rfl dX3_endsWithItem_7 ?_
      refine X_aload_n hg 0 rfl dX3_endsWithItem_8 ?_
      refine X_as ?_
      refine X_getI hg (j := 3) cf_3 (Nat.le_of_ble_eq_true rfl) (Or.inl rfl) m_176 dX3_endsWithItem_9 (fun x3 _ => ?_)
      refine X_iconst hg ic_i_1 dX3_endsWithItem_12 ?_
      refine X_isub hg dX3_endsWithItem_13 ?_
      refine X_as ?_
      refine X_cVI0 hg mf_X3_frequencyOf m_367 m_1 m_365 cf_3 (fun _ e => gd_isO e) (fun y e => c_X3_frequencyOf g.1 a0 (x3 - (nI 1)) h y e) (As := [.int (x3 - (nI 1))]) rfl (Nat.le_of_ble_eq_true rfl) rfl (Nat.le_of_ble_eq_true rfl) (Nat.le_of_ble_eq_true rfl) (Nat.le_of_ble_eq_true rfl) (Nat.le_of_ble_eq_true rfl) dX3_endsWithItem_14 (fun x4 _ => ?_)
      refine X_ib ?_
      refine X_if_le hg (tgt := 24) dX3_endsWithItem_17 rfl (fun c5 => ?_) (fun c5 => ?_)
      · refine X_iconst hg ic_i_0 dX3_endsWithItem_24 ?_
        refine X_lv [] rfl ?_
        exact hk2 (nI 0)
      · refine X_iconst hg ic_i_1 dX3_endsWithItem_20 ?_
        refine X_goto hg (tgt := 25) dX3_endsWithItem_21 rfl ?_
        refine X_lv [] rfl ?_
        exact hk2 (nI 1)
  · exact X_zret hg hr (Nat.le_of_ble_eq_true rfl) (Nat.le_of_ble_eq_true rfl) dX3_endsWithItem_25
set_option maxRecDepth 10000 in
theorem c_X3_fitsFrequency (en : EN) (a0 : Nat) (a1 : Int32) (a2 : Int32) (h : Hp) (x0 : Int32 × Hp) (e : f_X3_fitsFrequency a0 a1 a2 h = some x0) : Ct en yX3_fitsFrequency cX3_fitsFrequency 5 (some .boolean) 1 21 0 0 [.ref (nB en + a0), .int a1, .int a2] h (some (.int x0.1)) x0.2 := by
  refine Ct.of (by decide) rfl (Nat.le_of_ble_eq_true rfl) e (fun g hen hg hr => ?_)
  subst hen
  unfold f_X3_fitsFrequency
  refine X_gd ?_
  refine X_aload_n hg 0 rfl dX3_fitsFrequency_0 ?_
  refine X_aload_n hg 0 rfl dX3_fitsFrequency_1 ?_
  refine X_getI hg (j := 3) cf_3 (Nat.le_of_ble_eq_true rfl) (Or.inl rfl) m_176 dX3_fitsFrequency_2 (fun x1 _ => ?_)
  refine X_iconst hg ic_i_1 dX3_fitsFrequency_5 ?_
  refine X_isub hg dX3_fitsFrequency_6 ?_
  refine X_cVI0 hg mf_X3_frequencyOf m_367 m_1 m_365 cf_3 (fun _ e => gd_isO e) (fun y e => c_X3_frequencyOf g.1 a0 (x1 - (nI 1)) h y e) (As := [.int (x1 - (nI 1))]) rfl (Nat.le_of_ble_eq_true rfl) rfl (Nat.le_of_ble_eq_true rfl) (Nat.le_of_ble_eq_true rfl) (Nat.le_of_ble_eq_true rfl) (Nat.le_of_ble_eq_true rfl) dX3_fitsFrequency_7 (fun x2 _ => ?_)
  refine X_istore_n hg rfl (Nat.le_of_ble_eq_true rfl) (lv' := [(3, .int x2), (0, .ref (nB g.1 + a0)), (1, .int a1), (2, .int a2)]) rfl dX3_fitsFrequency_10 ?_
  refine X_iload_n hg 2 rfl dX3_fitsFrequency_11 ?_
  refine X_bipush hg ic_b_59 dX3_fitsFrequency_12 ?_
  refine X_icmp_ne hg (tgt := 35) dX3_fitsFrequency_14 rfl (fun c24 => ?_) (fun c24 => ?_)
  · refine X_iload_n hg 0 rfl dX3_fitsFrequency_17 ?_
    refine X_if_le hg (tgt := 35) dX3_fitsFrequency_18 rfl (fun c14 => ?_) (fun c14 => ?_)
    · refine X_iload_n hg 2 rfl dX3_fitsFrequency_35 ?_
      refine X_bipush hg ic_b_48 dX3_fitsFrequency_36 ?_
      refine X_icmp_lt hg (tgt := 54) dX3_fitsFrequency_38 rfl (fun c11 => ?_) (fun c11 => ?_)
      · refine X_iconst hg ic_i_0 dX3_fitsFrequency_54 ?_
        exact X_zretW hg hr (Nat.le_of_ble_eq_true rfl) (Nat.le_of_ble_eq_true rfl) dX3_fitsFrequency_55
      · refine X_iload_n hg 2 rfl dX3_fitsFrequency_41 ?_
        refine X_bipush hg ic_b_57 dX3_fitsFrequency_42 ?_
        refine X_icmp_gt hg (tgt := 54) dX3_fitsFrequency_44 rfl (fun c10 => ?_) (fun c10 => ?_)
        · refine X_iconst hg ic_i_0 dX3_fitsFrequency_54 ?_
          exact X_zretW hg hr (Nat.le_of_ble_eq_true rfl) (Nat.le_of_ble_eq_true rfl) dX3_fitsFrequency_55
        · refine X_aload_n hg 1 rfl dX3_fitsFrequency_47 ?_
          refine X_getI hg (j := 3) cf_3 (Nat.le_of_ble_eq_true rfl) (Or.inl rfl) m_176 dX3_fitsFrequency_48 (fun x3 _ => ?_)
          refine X_if_ne hg (tgt := 56) dX3_fitsFrequency_51 rfl (fun c9 => ?_) (fun c9 => ?_)
          · refine X_iconst hg ic_i_0 dX3_fitsFrequency_54 ?_
            exact X_zretW hg hr (Nat.le_of_ble_eq_true rfl) (Nat.le_of_ble_eq_true rfl) dX3_fitsFrequency_55
          · refine X_bipush hg ic_b_10 dX3_fitsFrequency_56 ?_
            refine X_iload_n hg 0 rfl dX3_fitsFrequency_58 ?_
            refine X_imul hg dX3_fitsFrequency_59 ?_
            refine X_iload_n hg 2 rfl dX3_fitsFrequency_60 ?_
            refine X_iadd hg dX3_fitsFrequency_61 ?_
            refine X_bipush hg ic_b_48 dX3_fitsFrequency_62 ?_
            refine X_isub hg dX3_fitsFrequency_64 ?_
            refine X_istore hg (Nat.le_of_ble_eq_true rfl) (lv' := [(4, .int ((((nI 10) * x2) + a1) - (nI 48))), (3, .int x2), (0, .ref (nB g.1 + a0)), (1, .int a1), (2, .int a2)]) rfl dX3_fitsFrequency_65 ?_
            refine X_iload hg 0 rfl dX3_fitsFrequency_67 ?_
            refine X_iconst hg ic_i_1 dX3_fitsFrequency_69 ?_
            refine X_icmp_lt hg (tgt := 80) dX3_fitsFrequency_70 rfl (fun c8 => ?_) (fun c8 => ?_)
            · refine X_iconst hg ic_i_0 dX3_fitsFrequency_80 ?_
              exact X_zretW hg hr (Nat.le_of_ble_eq_true rfl) (Nat.le_of_ble_eq_true rfl) dX3_fitsFrequency_81
            · refine X_iload hg 0 rfl dX3_fitsFrequency_73 ?_
              refine X_bipush hg ic_b_99 dX3_fitsFrequency_75 ?_
              refine X_icmp_le hg (tgt := 82) dX3_fitsFrequency_77 rfl (fun c7 => ?_) (fun c7 => ?_)
              · refine X_aload_n hg 2 rfl dX3_fitsFrequency_82 ?_
                refine X_getR hg (j := 2) cf_3 (Nat.le_of_ble_eq_true rfl) (Or.inr ⟨_, rfl⟩) m_175 dX3_fitsFrequency_83 (fun x4 _ => ?_)
                refine X_aload_n hg 2 rfl dX3_fitsFrequency_86 ?_
                refine X_getI hg (j := 3) cf_3 (Nat.le_of_ble_eq_true rfl) (Or.inl rfl) m_176 dX3_fitsFrequency_87 (fun x5 _ => ?_)
                refine X_iconst hg ic_i_1 dX3_fitsFrequency_90 ?_
                refine X_isub hg dX3_fitsFrequency_91 ?_
                refine X_iload hg 0 rfl dX3_fitsFrequency_92 ?_
                refine X_ast hg dX3_fitsFrequency_94 (fun h6 _ => ?_)
                refine X_iconst hg ic_i_1 dX3_fitsFrequency_95 ?_
                exact X_zretW hg hr (Nat.le_of_ble_eq_true rfl) (Nat.le_of_ble_eq_true rfl) dX3_fitsFrequency_96
              · refine X_iconst hg ic_i_0 dX3_fitsFrequency_80 ?_
                exact X_zretW hg hr (Nat.le_of_ble_eq_true rfl) (Nat.le_of_ble_eq_true rfl) dX3_fitsFrequency_81
    · refine X_aload_n hg 1 rfl dX3_fitsFrequency_21 ?_
      refine X_iconst hg ic_i_0 dX3_fitsFrequency_22 ?_
      refine X_putI hg (j := 5) cf_3 (Nat.le_of_ble_eq_true rfl) rfl (Or.inr ⟨rfl, Or.inl rfl⟩) m_178 dX3_fitsFrequency_23 (fun h12 _ => ?_)
      refine X_aload_n hg 1 rfl dX3_fitsFrequency_26 ?_
      refine X_iload_n hg 3 rfl dX3_fitsFrequency_27 ?_
      refine X_iconst hg ic_i_1 dX3_fitsFrequency_28 ?_
      refine X_iadd hg dX3_fitsFrequency_29 ?_
      refine X_putI hg (j := 4) cf_3 (Nat.le_of_ble_eq_true rfl) rfl (Or.inl rfl) m_177 dX3_fitsFrequency_30 (fun h13 _ => ?_)
      refine X_iconst hg ic_i_1 dX3_fitsFrequency_33 ?_
      exact X_zretW hg hr (Nat.le_of_ble_eq_true rfl) (Nat.le_of_ble_eq_true rfl) dX3_fitsFrequency_34
  · refine X_iload_n hg 2 rfl dX3_fitsFrequency_35 ?_
    refine X_bipush hg ic_b_48 dX3_fitsFrequency_36 ?_
    refine X_icmp_lt hg (tgt := 54) dX3_fitsFrequency_38 rfl (fun c23 => ?_) (fun c23 => ?_)
    · refine X_iconst hg ic_i_0 dX3_fitsFrequency_54 ?_
      exact X_zretW hg hr (Nat.le_of_ble_eq_true rfl) (Nat.le_of_ble_eq_true rfl) dX3_fitsFrequency_55
    · refine X_iload_n hg 2 rfl dX3_fitsFrequency_41 ?_
      refine X_bipush hg ic_b_57 dX3_fitsFrequency_42 ?_
      refine X_icmp_gt hg (tgt := 54) dX3_fitsFrequency_44 rfl (fun c22 => ?_) (fun c22 => ?_)
      · refine X_iconst hg ic_i_0 dX3_fitsFrequency_54 ?_
        exact X_zretW hg hr (Nat.le_of_ble_eq_true rfl) (Nat.le_of_ble_eq_true rfl) dX3_fitsFrequency_55
      · refine X_aload_n hg 1 rfl dX3_fitsFrequency_47 ?_
        refine X_getI hg (j := 3) cf_3 (Nat.le_of_ble_eq_true rfl) (Or.inl rfl) m_176 dX3_fitsFrequency_48 (fun x15 _ => ?_)
        refine X_if_ne hg (tgt := 56) dX3_fitsFrequency_51 rfl (fun c21 => ?_) (fun c21 => ?_)
        · refine X_iconst hg ic_i_0 dX3_fitsFrequency_54 ?_
          exact X_zretW hg hr (Nat.le_of_ble_eq_true rfl) (Nat.le_of_ble_eq_true rfl) dX3_fitsFrequency_55
        · refine X_bipush hg ic_b_10 dX3_fitsFrequency_56 ?_
          refine X_iload_n hg 0 rfl dX3_fitsFrequency_58 ?_
          refine X_imul hg dX3_fitsFrequency_59 ?_
          refine X_iload_n hg 2 rfl dX3_fitsFrequency_60 ?_
          refine X_iadd hg dX3_fitsFrequency_61 ?_
          refine X_bipush hg ic_b_48 dX3_fitsFrequency_62 ?_
          refine X_isub hg dX3_fitsFrequency_64 ?_
          refine X_istore hg (Nat.le_of_ble_eq_true rfl) (lv' := [(4, .int ((((nI 10) * x2) + a1) - (nI 48))), (3, .int x2), (0, .ref (nB g.1 + a0)), (1, .int a1), (2, .int a2)]) rfl dX3_fitsFrequency_65 ?_
          refine X_iload hg 0 rfl dX3_fitsFrequency_67 ?_
          refine X_iconst hg ic_i_1 dX3_fitsFrequency_69 ?_
          refine X_icmp_lt hg (tgt := 80) dX3_fitsFrequency_70 rfl (fun c20 => ?_) (fun c20 => ?_)
          · refine X_iconst hg ic_i_0 dX3_fitsFrequency_80 ?_
            exact X_zretW hg hr (Nat.le_of_ble_eq_true rfl) (Nat.le_of_ble_eq_true rfl) dX3_fitsFrequency_81
          · refine X_iload hg 0 rfl dX3_fitsFrequency_73 ?_
            refine X_bipush hg ic_b_99 dX3_fitsFrequency_75 ?_
            refine X_icmp_le hg (tgt := 82) dX3_fitsFrequency_77 rfl (fun c19 => ?_) (fun c19 => ?_)
            · refine X_aload_n hg 2 rfl dX3_fitsFrequency_82 ?_
              refine X_getR hg (j := 2) cf_3 (Nat.le_of_ble_eq_true rfl) (Or.inr ⟨_, rfl⟩) m_175 dX3_fitsFrequency_83 (fun x16 _ => ?_)
              refine X_aload_n hg 2 rfl dX3_fitsFrequency_86 ?_
              refine X_getI hg (j := 3) cf_3 (Nat.le_of_ble_eq_true rfl) (Or.inl rfl) m_176 dX3_fitsFrequency_87 (fun x17 _ => ?_)
              refine X_iconst hg ic_i_1 dX3_fitsFrequency_90 ?_
              refine X_isub hg dX3_fitsFrequency_91 ?_
              refine X_iload hg 0 rfl dX3_fitsFrequency_92 ?_
              refine X_ast hg dX3_fitsFrequency_94 (fun h18 _ => ?_)
              refine X_iconst hg ic_i_1 dX3_fitsFrequency_95 ?_
              exact X_zretW hg hr (Nat.le_of_ble_eq_true rfl) (Nat.le_of_ble_eq_true rfl) dX3_fitsFrequency_96
            · refine X_iconst hg ic_i_0 dX3_fitsFrequency_80 ?_
              exact X_zretW hg hr (Nat.le_of_ble_eq_true rfl) (Nat.le_of_ble_eq_true rfl) dX3_fitsFrequency_81
set_option maxRecDepth 10000 in
theorem l_X3_isSameText_3 {g : XC} {x0 : Int32} (hg : XG g RX3 cX3_isSameText 5 1 21 0 0) (l0 : Nat) (l1 : Nat) (l2 : Int32) (l3 : Int32) (h : Hp) (hr : XR g (some .boolean) "isSameText" (some (.int x0)) h 0 0) (K : Option (Int32)) (hK0 : Xo g x0 5 0 0 39 [] [] h K) : ∀ (n : Nat) (l4 : Int32), Xo g x0 5 0 0 3 [(0, .ref (nB g.1 + l0)), (1, .ref (nB g.1 + l1)), (2, .int l2), (3, .int l3), (4, .int l4)] [] h (f_X3_isSameText_L3 l0 l1 l2 l3 h K n l4) := by
  intro n
  induction n with
  | zero =>
    intro l4
    exact X_none
  | succ n ih =>
    intro l4
    unfold f_X3_isSameText_L3
    refine X_iload hg 4 rfl dX3_isSameText_3 ?_
    refine X_iload_n hg 3 rfl dX3_isSameText_5 ?_
    refine X_icmp_ge hg (tgt := 39) dX3_isSameText_6 rfl (fun c5 => ?_) (fun c5 => ?_)
    · refine X_lv [] rfl ?_
      exact hK0 
    · refine X_aload_n hg 1 rfl dX3_isSameText_9 ?_
      refine X_iload_n hg 2 rfl dX3_isSameText_10 ?_
      refine X_iload hg 4 rfl dX3_isSameText_11 ?_
      refine X_iadd hg dX3_isSameText_13 ?_
      refine X_cVI0 hg mf_X8_get m_358 m_359 m_357 cf_8 (fun _ e => gd_isO e) (fun y e => c_X8_get g.1 l1 (l2 + l4) h y e) (As := [.int (l2 + l4)]) rfl (Nat.le_of_ble_eq_true rfl) rfl (Nat.le_of_ble_eq_true rfl) (Nat.le_of_ble_eq_true rfl) (Nat.le_of_ble_eq_true rfl) (Nat.le_of_ble_eq_true rfl) dX3_isSameText_14 (fun x1 _ => ?_)
      refine X_aload_n hg 1 rfl dX3_isSameText_17 ?_
      refine X_aload_n hg 0 rfl dX3_isSameText_18 ?_
      refine X_getI hg (j := 4) cf_3 (Nat.le_of_ble_eq_true rfl) (Or.inl rfl) m_177 dX3_isSameText_19 (fun x2 _ => ?_)
      refine X_iload hg 4 rfl dX3_isSameText_22 ?_
      refine X_iadd hg dX3_isSameText_24 ?_
      refine X_cVI0 hg mf_X8_get m_358 m_359 m_357 cf_8 (fun _ e => gd_isO e) (fun y e => c_X8_get g.1 l1 (x2 + l4) h y e) (As := [.int (x2 + l4)]) rfl (Nat.le_of_ble_eq_true rfl) rfl (Nat.le_of_ble_eq_true rfl) (Nat.le_of_ble_eq_true rfl) (Nat.le_of_ble_eq_true rfl) (Nat.le_of_ble_eq_true rfl) dX3_isSameText_25 (fun x3 _ => ?_)
      refine X_icmp_eq hg (tgt := 33) dX3_isSameText_28 rfl (fun c4 => ?_) (fun c4 => ?_)
      · refine X_iinc hg 4 rfl (v := (l4 + (nI 1))) (icc ic_i_1) (Nat.le_of_ble_eq_true rfl) (lv' := [(4, .int (l4 + (nI 1))), (0, .ref (nB g.1 + l0)), (1, .ref (nB g.1 + l1)), (2, .int l2), (3, .int l3)]) rfl dX3_isSameText_33 ?_
        refine X_goto hg (tgt := 3) dX3_isSameText_36 rfl ?_
        refine X_lv [1, 2, 3, 4, 0] rfl ?_
        exact ih _
      · refine X_iconst hg ic_i_0 dX3_isSameText_31 ?_
        exact X_zret hg hr (Nat.le_of_ble_eq_true rfl) (Nat.le_of_ble_eq_true rfl) dX3_isSameText_32
set_option maxRecDepth 10000 in
theorem c_X3_isSameText (en : EN) (a0 : Nat) (a1 : Nat) (a2 : Int32) (a3 : Int32) (h : Hp) (x0 : Int32) (e : f_X3_isSameText a0 a1 a2 a3 h = some x0) : Ct en yX3_isSameText cX3_isSameText 5 (some .boolean) 1 21 0 0 [.ref (nB en + a0), .ref (nB en + a1), .int a2, .int a3] h (some (.int x0)) h := by
  refine Ct.of (by decide) rfl (Nat.le_of_ble_eq_true rfl) e (fun g hen hg hr => ?_)
  subst hen
  unfold f_X3_isSameText
  refine X_gd ?_
  refine X_iconst hg ic_i_0 dX3_isSameText_0 ?_
  refine X_istore hg (Nat.le_of_ble_eq_true rfl) (lv' := [(4, .int (nI 0)), (0, .ref (nB g.1 + a0)), (1, .ref (nB g.1 + a1)), (2, .int a2), (3, .int a3)]) rfl dX3_isSameText_1 ?_
  refine X_lv [1, 2, 3, 4, 0] rfl ?_
  refine l_X3_isSameText_3 hg _ _ _ _ _ hr _ ?_ _ _
  refine X_iconst hg ic_i_1 dX3_isSameText_39 ?_
  exact X_zret hg hr (Nat.le_of_ble_eq_true rfl) (Nat.le_of_ble_eq_true rfl) dX3_isSameText_40
set_option maxRecDepth 10000 in
theorem l_X3_isListed_2 {g : XC} {x0 : Int32} (hg : XG g RX3 cX3_isListed 4 2 45 0 0) (l0 : Nat) (l1 : Nat) (l2 : Int32) (h : Hp) (hr : XR g (some .boolean) "isListed" (some (.int x0)) h 0 0) (K : Option (Int32)) (hK0 : Xo g x0 4 0 0 43 [] [] h K) : ∀ (n : Nat) (l3 : Int32), Xo g x0 4 0 0 2 [(0, .ref (nB g.1 + l0)), (1, .ref (nB g.1 + l1)), (2, .int l2), (3, .int l3)] [] h (f_X3_isListed_L2 l0 l1 l2 h K n l3) := by
  intro n
  induction n with
  | zero =>
    intro l3
    exact X_none
  | succ n ih =>
    intro l3
    unfold f_X3_isListed_L2
    refine X_iload_n hg 3 rfl dX3_isListed_2 ?_
    refine X_aload_n hg 0 rfl dX3_isListed_3 ?_
    refine X_getI hg (j := 3) cf_3 (Nat.le_of_ble_eq_true rfl) (Or.inl rfl) m_176 dX3_isListed_4 (fun x1 _ => ?_)
    refine X_icmp_ge hg (tgt := 43) dX3_isListed_7 rfl (fun c9 => ?_) (fun c9 => ?_)
    · refine X_lv [] rfl ?_
      exact hK0 
    · refine X_aload_n hg 0 rfl dX3_isListed_10 ?_
      refine X_getR hg (j := 1) cf_3 (Nat.le_of_ble_eq_true rfl) (Or.inr ⟨_, rfl⟩) m_174 dX3_isListed_11 (fun x2 _ => ?_)
      refine X_iload_n hg 3 rfl dX3_isListed_14 ?_
      refine X_ald hg dX3_isListed_15 (fun x3 _ => ?_)
      refine X_iload_n hg 2 rfl dX3_isListed_16 ?_
      refine X_icmp_ne hg (tgt := 37) dX3_isListed_17 rfl (fun c8 => ?_) (fun c8 => ?_)
      · refine X_aload_n hg 0 rfl dX3_isListed_20 ?_
        refine X_aload_n hg 1 rfl dX3_isListed_21 ?_
        refine X_aload_n hg 0 rfl dX3_isListed_22 ?_
        refine X_getR hg (j := 0) cf_3 (Nat.le_of_ble_eq_true rfl) (Or.inr ⟨_, rfl⟩) m_173 dX3_isListed_23 (fun x4 _ => ?_)
        refine X_iload_n hg 3 rfl dX3_isListed_26 ?_
        refine X_ald hg dX3_isListed_27 (fun x5 _ => ?_)
        refine X_iload_n hg 2 rfl dX3_isListed_28 ?_
        refine X_cVI0 hg mf_X3_isSameText m_383 m_5 m_381 cf_3 (fun _ e => gd_isO e) (fun y e => c_X3_isSameText g.1 l0 l1 x5 l2 h y e) (As := [.ref (nB g.1 + l1), .int x5, .int l2]) rfl (Nat.le_of_ble_eq_true rfl) rfl (Nat.le_of_ble_eq_true rfl) (Nat.le_of_ble_eq_true rfl) (Nat.le_of_ble_eq_true rfl) (Nat.le_of_ble_eq_true rfl) dX3_isListed_29 (fun x6 _ => ?_)
        refine X_if_eq hg (tgt := 37) dX3_isListed_32 rfl (fun c7 => ?_) (fun c7 => ?_)
        · refine X_iinc hg 3 rfl (v := (l3 + (nI 1))) (icc ic_i_1) (Nat.le_of_ble_eq_true rfl) (lv' := [(3, .int (l3 + (nI 1))), (0, .ref (nB g.1 + l0)), (1, .ref (nB g.1 + l1)), (2, .int l2)]) rfl dX3_isListed_37 ?_
          refine X_goto hg (tgt := 2) dX3_isListed_40 rfl ?_
          refine X_lv [1, 2, 3, 0] rfl ?_
          exact ih _
        · refine X_iconst hg ic_i_1 dX3_isListed_35 ?_
          exact X_zret hg hr (Nat.le_of_ble_eq_true rfl) (Nat.le_of_ble_eq_true rfl) dX3_isListed_36
      · refine X_iinc hg 3 rfl (v := (l3 + (nI 1))) (icc ic_i_1) (Nat.le_of_ble_eq_true rfl) (lv' := [(3, .int (l3 + (nI 1))), (0, .ref (nB g.1 + l0)), (1, .ref (nB g.1 + l1)), (2, .int l2)]) rfl dX3_isListed_37 ?_
        refine X_goto hg (tgt := 2) dX3_isListed_40 rfl ?_
        refine X_lv [1, 2, 3, 0] rfl ?_
        exact ih _
set_option maxRecDepth 10000 in
theorem c_X3_isListed (en : EN) (a0 : Nat) (a1 : Nat) (a2 : Int32) (h : Hp) (x0 : Int32) (e : f_X3_isListed a0 a1 a2 h = some x0) : Ct en yX3_isListed cX3_isListed 4 (some .boolean) 2 45 0 0 [.ref (nB en + a0), .ref (nB en + a1), .int a2] h (some (.int x0)) h := by
  refine Ct.of (by decide) rfl (Nat.le_of_ble_eq_true rfl) e (fun g hen hg hr => ?_)
  subst hen
  unfold f_X3_isListed
  refine X_gd ?_
  refine X_iconst hg ic_i_0 dX3_isListed_0 ?_
  refine X_istore_n hg rfl (Nat.le_of_ble_eq_true rfl) (lv' := [(3, .int (nI 0)), (0, .ref (nB g.1 + a0)), (1, .ref (nB g.1 + a1)), (2, .int a2)]) rfl dX3_isListed_1 ?_
  refine X_lv [1, 2, 3, 0] rfl ?_
  refine l_X3_isListed_2 hg _ _ _ _ hr _ ?_ _ _
  refine X_iconst hg ic_i_0 dX3_isListed_43 ?_
  exact X_zret hg hr (Nat.le_of_ble_eq_true rfl) (Nat.le_of_ble_eq_true rfl) dX3_isListed_44
set_option maxRecDepth 10000 in
theorem c_X3_endsName (en : EN) (a0 : Nat) (a1 : Nat) (a2 : Int32) (h : Hp) (x0 : Int32 × Hp) (e : f_X3_endsName a0 a1 a2 h = some x0) : Ct en yX3_endsName cX3_endsName 4 (some .boolean) 3 68 0 0 [.ref (nB en + a0), .ref (nB en + a1), .int a2] h (some (.int x0.1)) x0.2 := by
  refine Ct.of (by decide) rfl (Nat.le_of_ble_eq_true rfl) e (fun g hen hg hr => ?_)
  subst hen
  unfold f_X3_endsName
  refine X_gd ?_
  refine X_iload_n hg 2 rfl dX3_endsName_0 ?_
  refine X_aload_n hg 0 rfl dX3_endsName_1 ?_
  refine X_getI hg (j := 4) cf_3 (Nat.le_of_ble_eq_true rfl) (Or.inl rfl) m_177 dX3_endsName_2 (fun x1 _ => ?_)
  refine X_isub hg dX3_endsName_5 ?_
  refine X_istore_n hg rfl (Nat.le_of_ble_eq_true rfl) (lv' := [(3, .int (a2 - x1)), (0, .ref (nB g.1 + a0)), (1, .ref (nB g.1 + a1)), (2, .int a2)]) rfl dX3_endsName_6 ?_
  refine X_iload_n hg 0 rfl dX3_endsName_7 ?_
  refine X_if_eq hg (tgt := 29) dX3_endsName_8 rfl (fun c19 => ?_) (fun c19 => ?_)
  · refine X_iconst hg ic_i_0 dX3_endsName_29 ?_
    exact X_zretW hg hr (Nat.le_of_ble_eq_true rfl) (Nat.le_of_ble_eq_true rfl) dX3_endsName_30
  · refine X_aload_n hg 1 rfl dX3_endsName_11 ?_
    refine X_aload_n hg 2 rfl dX3_endsName_12 ?_
    refine X_iload_n hg 0 rfl dX3_endsName_13 ?_
    refine X_cVI0 hg mf_X3_isListed m_379 m_4 m_377 cf_3 (fun _ e => gd_isO e) (fun y e => c_X3_isListed g.1 a0 a1 (a2 - x1) h y e) (As := [.ref (nB g.1 + a1), .int (a2 - x1)]) rfl (Nat.le_of_ble_eq_true rfl) rfl (Nat.le_of_ble_eq_true rfl) (Nat.le_of_ble_eq_true rfl) (Nat.le_of_ble_eq_true rfl) (Nat.le_of_ble_eq_true rfl) dX3_endsName_14 (fun x2 _ => ?_)
    refine X_if_ne hg (tgt := 29) dX3_endsName_17 rfl (fun c18 => ?_) (fun c18 => ?_)
    · refine X_aload_n hg 1 rfl dX3_endsName_20 ?_
      refine X_getI hg (j := 3) cf_3 (Nat.le_of_ble_eq_true rfl) (Or.inl rfl) m_176 dX3_endsName_21 (fun x3 _ => ?_)
      refine X_bipush hg ic_b_50 dX3_endsName_24 ?_
      refine X_icmp_lt hg (tgt := 31) dX3_endsName_26 rfl (fun c17 => ?_) (fun c17 => ?_)
      · refine X_aload_n hg 1 rfl dX3_endsName_31 ?_
        refine X_getR hg (j := 0) cf_3 (Nat.le_of_ble_eq_true rfl) (Or.inr ⟨_, rfl⟩) m_173 dX3_endsName_32 (fun x4 _ => ?_)
        refine X_aload_n hg 1 rfl dX3_endsName_35 ?_
        refine X_getI hg (j := 3) cf_3 (Nat.le_of_ble_eq_true rfl) (Or.inl rfl) m_176 dX3_endsName_36 (fun x5 _ => ?_)
        refine X_aload_n hg 1 rfl dX3_endsName_39 ?_
        refine X_getI hg (j := 4) cf_3 (Nat.le_of_ble_eq_true rfl) (Or.inl rfl) m_177 dX3_endsName_40 (fun x6 _ => ?_)
        refine X_ast hg dX3_endsName_43 (fun h7 _ => ?_)
        refine X_aload_n hg 1 rfl dX3_endsName_44 ?_
        refine X_getR hg (j := 1) cf_3 (Nat.le_of_ble_eq_true rfl) (Or.inr ⟨_, rfl⟩) m_174 dX3_endsName_45 (fun x8 _ => ?_)
        refine X_aload_n hg 1 rfl dX3_endsName_48 ?_
        refine X_getI hg (j := 3) cf_3 (Nat.le_of_ble_eq_true rfl) (Or.inl rfl) m_176 dX3_endsName_49 (fun x9 _ => ?_)
        refine X_iload_n hg 0 rfl dX3_endsName_52 ?_
        refine X_ast hg dX3_endsName_53 (fun h10 _ => ?_)
        refine X_aload_n hg 1 rfl dX3_endsName_54 ?_
        refine X_getR hg (j := 2) cf_3 (Nat.le_of_ble_eq_true rfl) (Or.inr ⟨_, rfl⟩) m_175 dX3_endsName_55 (fun x11 _ => ?_)
        refine X_aload_n hg 1 rfl dX3_endsName_58 ?_
        refine X_getI hg (j := 3) cf_3 (Nat.le_of_ble_eq_true rfl) (Or.inl rfl) m_176 dX3_endsName_59 (fun x12 _ => ?_)
        refine X_iconst hg ic_i_0 dX3_endsName_62 ?_
        refine X_ast hg dX3_endsName_63 (fun h13 _ => ?_)
        refine X_aload_n hg 1 rfl dX3_endsName_64 ?_
        refine X_dup hg rfl dX3_endsName_65 ?_
        refine X_getI hg (j := 3) cf_3 (Nat.le_of_ble_eq_true rfl) (Or.inl rfl) m_176 dX3_endsName_66 (fun x14 _ => ?_)
        refine X_iconst hg ic_i_1 dX3_endsName_69 ?_
        refine X_iadd hg dX3_endsName_70 ?_
        refine X_putI hg (j := 3) cf_3 (Nat.le_of_ble_eq_true rfl) rfl (Or.inl rfl) m_176 dX3_endsName_71 (fun h15 _ => ?_)
        refine X_aload_n hg 1 rfl dX3_endsName_74 ?_
        refine X_iconst hg ic_i_1 dX3_endsName_75 ?_
        refine X_putI hg (j := 5) cf_3 (Nat.le_of_ble_eq_true rfl) rfl (Or.inr ⟨rfl, Or.inr rfl⟩) m_178 dX3_endsName_76 (fun h16 _ => ?_)
        refine X_iconst hg ic_i_1 dX3_endsName_79 ?_
        exact X_zretW hg hr (Nat.le_of_ble_eq_true rfl) (Nat.le_of_ble_eq_true rfl) dX3_endsName_80
      · refine X_iconst hg ic_i_0 dX3_endsName_29 ?_
        exact X_zretW hg hr (Nat.le_of_ble_eq_true rfl) (Nat.le_of_ble_eq_true rfl) dX3_endsName_30
    · refine X_iconst hg ic_i_0 dX3_endsName_29 ?_
      exact X_zretW hg hr (Nat.le_of_ble_eq_true rfl) (Nat.le_of_ble_eq_true rfl) dX3_endsName_30
set_option maxRecDepth 10000 in
theorem c_X3_fitsName (en : EN) (a0 : Nat) (a1 : Nat) (a2 : Int32) (h : Hp) (x0 : Int32 × Hp) (e : f_X3_fitsName a0 a1 a2 h = some x0) : Ct en yX3_fitsName cX3_fitsName 4 (some .boolean) 4 91 0 0 [.ref (nB en + a0), .ref (nB en + a1), .int a2] h (some (.int x0.1)) x0.2 := by
  refine Ct.of (by decide) rfl (Nat.le_of_ble_eq_true rfl) e (fun g hen hg hr => ?_)
  subst hen
  unfold f_X3_fitsName
  refine X_gd ?_
  refine X_aload_n hg 1 rfl dX3_fitsName_0 ?_
  refine X_iload_n hg 2 rfl dX3_fitsName_1 ?_
  refine X_cVI0 hg mf_X8_get m_358 m_359 m_357 cf_8 (fun _ e => gd_isO e) (fun y e => c_X8_get g.1 a1 a2 h y e) (As := [.int a2]) rfl (Nat.le_of_ble_eq_true rfl) rfl (Nat.le_of_ble_eq_true rfl) (Nat.le_of_ble_eq_true rfl) (Nat.le_of_ble_eq_true rfl) (Nat.le_of_ble_eq_true rfl) dX3_fitsName_2 (fun x1 _ => ?_)
  refine X_istore_n hg rfl (Nat.le_of_ble_eq_true rfl) (lv' := [(3, .int x1), (0, .ref (nB g.1 + a0)), (1, .ref (nB g.1 + a1)), (2, .int a2)]) rfl dX3_fitsName_5 ?_
  refine X_iload_n hg 0 rfl dX3_fitsName_6 ?_
  refine X_bipush hg ic_b_58 dX3_fitsName_7 ?_
  refine X_icmp_ne hg (tgt := 19) dX3_fitsName_9 rfl (fun c8 => ?_) (fun c8 => ?_)
  · refine X_aload_n hg 1 rfl dX3_fitsName_12 ?_
    refine X_aload_n hg 2 rfl dX3_fitsName_13 ?_
    refine X_iload_n hg 3 rfl dX3_fitsName_14 ?_
    refine X_cVIW0 hg mf_X3_endsName m_375 m_3 m_373 cf_3 (fun _ e => gd_isO e) (fun y e => c_X3_endsName g.1 a0 a1 a2 h y e) (As := [.ref (nB g.1 + a1), .int a2]) rfl (Nat.le_of_ble_eq_true rfl) rfl (Nat.le_of_ble_eq_true rfl) (Nat.le_of_ble_eq_true rfl) (Nat.le_of_ble_eq_true rfl) (Nat.le_of_ble_eq_true rfl) dX3_fitsName_15 (fun p2 _ => ?_)
    exact X_zretW hg hr (Nat.le_of_ble_eq_true rfl) (Nat.le_of_ble_eq_true rfl) dX3_fitsName_18
  · refine X_iload_n hg 0 rfl dX3_fitsName_19 ?_
    refine X_bipush hg ic_b_97 dX3_fitsName_20 ?_
    refine X_reg (fun (v3 : Int32) o => Xo g x0 4 0 0 47 [] [.int v3] h o) (fun kv3 hk3 => ?_) (fun v3 => ?_)
    · refine X_ib ?_
      refine X_icmp_lt hg (tgt := 46) dX3_fitsName_22 rfl (fun c7 => ?_) (fun c7 => ?_)
      · refine X_iconst hg ic_i_0 dX3_fitsName_46 ?_
        refine X_lv [] rfl ?_
        exact hk3 (nI 0)
      · refine X_iload_n hg 0 rfl dX3_fitsName_25 ?_
        refine X_bipush hg ic_b_122 dX3_fitsName_26 ?_
        refine X_ib ?_
        refine X_icmp_gt hg (tgt := 46) dX3_fitsName_28 rfl (fun c6 => ?_) (fun c6 => ?_)
        · refine X_iconst hg ic_i_0 dX3_fitsName_46 ?_
          refine X_lv [] rfl ?_
          exact hk3 (nI 0)
        · refine X_iload_n hg 3 rfl dX3_fitsName_31 ?_
          refine X_aload_n hg 1 rfl dX3_fitsName_32 ?_
          refine X_as ?_
          refine X_getI hg (j := 4) cf_3 (Nat.le_of_ble_eq_true rfl) (Or.inl rfl) m_177 dX3_fitsName_33 (fun x4 _ => ?_)
          refine X_isub hg dX3_fitsName_36 ?_
          refine X_bipush hg ic_b_8 dX3_fitsName_37 ?_
          refine X_ib ?_
          refine X_icmp_ge hg (tgt := 46) dX3_fitsName_39 rfl (fun c5 => ?_) (fun c5 => ?_)
          · refine X_iconst hg ic_i_0 dX3_fitsName_46 ?_
            refine X_lv [] rfl ?_
            exact hk3 (nI 0)
          · refine X_iconst hg ic_i_1 dX3_fitsName_42 ?_
            refine X_goto hg (tgt := 47) dX3_fitsName_43 rfl ?_
            refine X_lv [] rfl ?_
            exact hk3 (nI 1)
    · exact X_zretW hg hr (Nat.le_of_ble_eq_true rfl) (Nat.le_of_ble_eq_true rfl) dX3_fitsName_47
set_option maxRecDepth 10000 in
theorem l_X3_scan_17 {g : XC} {x0 : Int32 × Hp} (hg : XG g RX3 cX3_scan 5 5 114 0 0) (l0 : Nat) (l1 : Nat) (hr : XR g (some .int) "scan" (some (.int x0.1)) x0.2 0 0) (K : Hp → Option (Int32 × Hp)) (hK0 : ∀ (h : Hp), Xo g x0 5 0 0 68 [(1, .ref (nB g.1 + l1))] [] h (K h)) : ∀ (n : Nat) (l2 : Int32) (h : Hp), Xo g x0 5 0 0 17 [(0, .ref (nB g.1 + l0)), (1, .ref (nB g.1 + l1)), (2, .int l2)] [] h (f_X3_scan_L17 l0 l1 K n l2 h) := by
  intro n
  induction n with
  | zero =>
    intro l2 h
    exact X_none
  | succ n ih =>
    intro l2 h
    unfold f_X3_scan_L17
    refine X_iload_n hg 2 rfl dX3_scan_17 ?_
    refine X_aload_n hg 1 rfl dX3_scan_18 ?_
    refine X_cVI0 hg mf_X8_size m_337 m_338 m_356 cf_8 (fun _ e => gd_isO e) (fun y e => c_X8_size g.1 l1 h y e) (As := []) rfl (Nat.le_of_ble_eq_true rfl) rfl (Nat.le_of_ble_eq_true rfl) (Nat.le_of_ble_eq_true rfl) (Nat.le_of_ble_eq_true rfl) (Nat.le_of_ble_eq_true rfl) dX3_scan_19 (fun x4 _ => ?_)
    refine X_icmp_ge hg (tgt := 68) dX3_scan_22 rfl (fun c12 => ?_) (fun c12 => ?_)
    · refine X_lv [1] rfl ?_
      exact hK0  _
    · refine X_aload_n hg 1 rfl dX3_scan_25 ?_
      refine X_iload_n hg 2 rfl dX3_scan_26 ?_
      refine X_cVI0 hg mf_X8_get m_358 m_359 m_357 cf_8 (fun _ e => gd_isO e) (fun y e => c_X8_get g.1 l1 l2 h y e) (As := [.int l2]) rfl (Nat.le_of_ble_eq_true rfl) rfl (Nat.le_of_ble_eq_true rfl) (Nat.le_of_ble_eq_true rfl) (Nat.le_of_ble_eq_true rfl) (Nat.le_of_ble_eq_true rfl) dX3_scan_27 (fun x5 _ => ?_)
      refine X_istore_n hg rfl (Nat.le_of_ble_eq_true rfl) (lv' := [(3, .int x5), (0, .ref (nB g.1 + l0)), (1, .ref (nB g.1 + l1)), (2, .int l2)]) rfl dX3_scan_30 ?_
      refine X_aload_n hg 1 rfl dX3_scan_31 ?_
      refine X_getI hg (j := 5) cf_3 (Nat.le_of_ble_eq_true rfl) (Or.inr rfl) m_178 dX3_scan_32 (fun x6 _ => ?_)
      refine X_reg (fun (v7 : Int32 × Hp) o => Xo g x0 5 0 0 53 [(0, .ref (nB g.1 + l0)), (1, .ref (nB g.1 + l1)), (2, .int l2)] [.int v7.1] v7.2 o) (fun kv7 hk7 => ?_) (fun v7 => ?_)
      · refine X_ib ?_
        refine X_if_eq hg (tgt := 47) dX3_scan_35 rfl (fun c10 => ?_) (fun c10 => ?_)
        · refine X_aload_n hg 1 rfl dX3_scan_47 ?_
          refine X_aload_n hg 2 rfl dX3_scan_48 ?_
          refine X_iload_n hg 3 rfl dX3_scan_49 ?_
          refine X_as ?_
          refine X_cVIW0 hg mf_X3_fitsName m_371 m_2 m_369 cf_3 (fun _ e => gd_isO e) (fun y e => c_X3_fitsName g.1 l0 l1 l2 h y e) (As := [.ref (nB g.1 + l1), .int l2]) rfl (Nat.le_of_ble_eq_true rfl) rfl (Nat.le_of_ble_eq_true rfl) (Nat.le_of_ble_eq_true rfl) (Nat.le_of_ble_eq_true rfl) (Nat.le_of_ble_eq_true rfl) dX3_scan_50 (fun p8 _ => ?_)
          refine X_lv [1, 2, 3] rfl ?_
          exact hk7 (p8.1, p8.2)
        · refine X_aload_n hg 1 rfl dX3_scan_38 ?_
          refine X_iload_n hg 0 rfl dX3_scan_39 ?_
          refine X_iload_n hg 3 rfl dX3_scan_40 ?_
          refine X_as ?_
          refine X_cVIW0 hg mf_X3_fitsFrequency m_363 m_0 m_361 cf_3 (fun _ e => gd_isO e) (fun y e => c_X3_fitsFrequency g.1 l0 x5 l2 h y e) (As := [.int x5, .int l2]) rfl (Nat.le_of_ble_eq_true rfl) rfl (Nat.le_of_ble_eq_true rfl) (Nat.le_of_ble_eq_true rfl) (Nat.le_of_ble_eq_true rfl) (Nat.le_of_ble_eq_true rfl) dX3_scan_41 (fun p9 _ => ?_)
          refine X_goto hg (tgt := 53) dX3_scan_44 rfl ?_
          refine X_lv [1, 2, 3] rfl ?_
          exact hk7 (p9.1, p9.2)
      · refine X_istore hg (Nat.le_of_ble_eq_true rfl) (lv' := [(4, .int v7.1), (0, .ref (nB g.1 + l0)), (1, .ref (nB g.1 + l1)), (2, .int l2)]) rfl dX3_scan_53 ?_
        refine X_iload hg 0 rfl dX3_scan_55 ?_
        refine X_if_ne hg (tgt := 62) dX3_scan_57 rfl (fun c11 => ?_) (fun c11 => ?_)
        · refine X_iload_n hg 3 rfl dX3_scan_60 ?_
          exact X_iretW hg hr (Nat.le_of_ble_eq_true rfl) (Nat.le_of_ble_eq_true rfl) dX3_scan_61
        · refine X_iinc hg 3 rfl (v := (l2 + (nI 1))) (icc ic_i_1) (Nat.le_of_ble_eq_true rfl) (lv' := [(2, .int (l2 + (nI 1))), (4, .int v7.1), (0, .ref (nB g.1 + l0)), (1, .ref (nB g.1 + l1))]) rfl dX3_scan_62 ?_
          refine X_goto hg (tgt := 17) dX3_scan_65 rfl ?_
          refine X_lv [2, 3, 0] rfl ?_
          exact ih _ _
set_option maxRecDepth 10000 in
theorem c_X3_scan (en : EN) (a0 : Nat) (a1 : Nat) (h : Hp) (x0 : Int32 × Hp) (e : f_X3_scan a0 a1 h = some x0) : Ct en yX3_scan cX3_scan 5 (some .int) 5 114 0 0 [.ref (nB en + a0), .ref (nB en + a1)] h (some (.int x0.1)) x0.2 := by
  refine Ct.of (by decide) rfl (Nat.le_of_ble_eq_true rfl) e (fun g hen hg hr => ?_)
  subst hen
  unfold f_X3_scan
  refine X_gd ?_
  refine X_aload_n hg 0 rfl dX3_scan_0 ?_
  refine X_iconst hg ic_i_0 dX3_scan_1 ?_
  refine X_putI hg (j := 3) cf_3 (Nat.le_of_ble_eq_true rfl) rfl (Or.inl rfl) m_176 dX3_scan_2 (fun h1 _ => ?_)
  refine X_aload_n hg 0 rfl dX3_scan_5 ?_
  refine X_iconst hg ic_i_0 dX3_scan_6 ?_
  refine X_putI hg (j := 4) cf_3 (Nat.le_of_ble_eq_true rfl) rfl (Or.inl rfl) m_177 dX3_scan_7 (fun h2 _ => ?_)
  refine X_aload_n hg 0 rfl dX3_scan_10 ?_
  refine X_iconst hg ic_i_0 dX3_scan_11 ?_
  refine X_putI hg (j := 5) cf_3 (Nat.le_of_ble_eq_true rfl) rfl (Or.inr ⟨rfl, Or.inl rfl⟩) m_178 dX3_scan_12 (fun h3 _ => ?_)
  refine X_iconst hg ic_i_0 dX3_scan_15 ?_
  refine X_istore_n hg rfl (Nat.le_of_ble_eq_true rfl) (lv' := [(2, .int (nI 0)), (0, .ref (nB g.1 + a0)), (1, .ref (nB g.1 + a1))]) rfl dX3_scan_16 ?_
  refine X_lv [1, 2, 0] rfl ?_
  refine l_X3_scan_17 hg _ _ hr _ (fun h13 => ?_) _ _ _
  refine X_aload_n hg 0 rfl dX3_scan_68 ?_
  refine X_cVI0 hg mf_X8_size m_337 m_338 m_356 cf_8 (fun _ e => gd_isO e) (fun y e => c_X8_size g.1 a1 h13 y e) (As := []) rfl (Nat.le_of_ble_eq_true rfl) rfl (Nat.le_of_ble_eq_true rfl) (Nat.le_of_ble_eq_true rfl) (Nat.le_of_ble_eq_true rfl) (Nat.le_of_ble_eq_true rfl) dX3_scan_69 (fun x14 _ => ?_)
  exact X_iretW hg hr (Nat.le_of_ble_eq_true rfl) (Nat.le_of_ble_eq_true rfl) dX3_scan_72
set_option maxRecDepth 10000 in
theorem c_X4_init (en : EN) (a0 : Nat) (h : Hp) (x0 : Hp) (e : f_X4_init a0 h = some x0) : Ct en yX4_init cX4_init 1 none 2 45 18 262 [.ref (nB en + a0)] h none x0 := by
  refine Ct.of (by decide) rfl (Nat.le_of_ble_eq_true rfl) e (fun g hen hg hr => ?_)
  subst hen
  unfold f_X4_init
  refine X_gd ?_
  refine X_aload_n hg 0 rfl dX4_init_0 ?_
  refine X_obji hg m_254 m_oi m_oc (Nat.le_of_ble_eq_true rfl) (Nat.le_of_ble_eq_true rfl) dX4_init_1 ?_
  refine X_aload_n hg 0 rfl dX4_init_4 ?_
  refine X_bipush hg ic_b_14 dX4_init_5 ?_
  refine X_bipush hg ic_b_13 dX4_init_7 ?_
  refine X_newMB hg (N := 14) (K' := 13) (by decide) (by decide) (by decide) (by decide) (Nat.le_of_ble_eq_true rfl) (Nat.le_of_ble_eq_true rfl) m_255 m_ovA m_arrI (Nat.le_of_ble_eq_true rfl) (Nat.le_of_ble_eq_true rfl) dX4_init_9 (fun h1 _ => ?_)
  refine X_putRF hg hr.2.2.1 (j := 0) cf_4 (Nat.le_of_ble_eq_true rfl) rfl rfl (Or.inr ⟨_, rfl⟩) m_258 dX4_init_13 (fun h2 _ => ?_)
  refine X_aload_n hg 0 rfl dX4_init_16 ?_
  refine X_bipush hg ic_b_14 dX4_init_17 ?_
  refine X_newA hg m_arrI (Nat.le_of_ble_eq_true rfl) (Nat.le_of_ble_eq_true rfl) (Nat.le_of_ble_eq_true rfl) dX4_init_19 (fun h3 _ => ?_)
  refine X_putRF hg hr.2.2.1 (j := 1) cf_4 (Nat.le_of_ble_eq_true rfl) rfl rfl (Or.inr ⟨_, rfl⟩) m_259 dX4_init_21 (fun h4 _ => ?_)
  refine X_aload_n hg 0 rfl dX4_init_24 ?_
  refine X_newO hg cf_8 ok_8 m_256 m_114 m_92 (Nat.le_of_ble_eq_true rfl) (Nat.le_of_ble_eq_true rfl) dX4_init_25 (fun h5 _ => ?_)
  refine X_dup hg rfl dX4_init_28 ?_
  refine X_bipush hg ic_b_10 dX4_init_29 ?_
  refine X_cIV hg mf_X8_init rfl rfl m_116 m_257 (fun y e => c_X8_init g.1 (hN h4) (nI 10) h5 y e) (As := [.int (nI 10)]) rfl (Nat.le_of_ble_eq_true rfl) rfl (Nat.le_of_ble_eq_true rfl) (Nat.le_of_ble_eq_true rfl) (Nat.le_of_ble_eq_true rfl) (Nat.le_of_ble_eq_true rfl) dX4_init_31 (fun h6 _ => ?_)
  refine X_putRF hg hr.2.2.1 (j := 2) cf_4 (Nat.le_of_ble_eq_true rfl) rfl rfl (Or.inl ⟨_, rfl⟩) m_260 dX4_init_34 (fun h7 _ => ?_)
  exact X_vret hg hr (Nat.le_of_ble_eq_true rfl) (Nat.le_of_ble_eq_true rfl) dX4_init_37
set_option maxRecDepth 10000 in
theorem l_J7_fill_53178_5 {g : XC} {x0 : Hp} (hg : XG g RJ7 cJ7_fill_53178 4 0 0 0 0) (l0 : Nat) (l1 : Int32) (l3 : Int32) (hr : XR g none "fill" none x0 0 0) (K : Hp → Option (Hp)) (hK0 : ∀ (h : Hp), Xo g x0 4 0 0 20 [] [] h (K h)) : ∀ (n : Nat) (l2 : Int32) (h : Hp), Xo g x0 4 0 0 5 [(0, .ref (nB g.1 + l0)), (1, .int l1), (2, .int l2), (3, .int l3)] [] h (f_J7_fill_53178_L5 l0 l1 l3 K n l2 h) := by
  intro n
  induction n with
  | zero =>
    intro l2 h
    exact X_none
  | succ n ih =>
    intro l2 h
    unfold f_J7_fill_53178_L5
    refine X_iload_n hg 2 rfl dJ7_fill_53178_5 ?_
    refine X_iload_n hg 3 rfl dJ7_fill_53178_6 ?_
    refine X_icmp_ge hg (tgt := 20) dJ7_fill_53178_7 rfl (fun c3 => ?_) (fun c3 => ?_)
    · refine X_lv [] rfl ?_
      exact hK0  _
    · refine X_aload_n hg 0 rfl dJ7_fill_53178_10 ?_
      refine X_iload_n hg 2 rfl dJ7_fill_53178_11 ?_
      refine X_iload_n hg 1 rfl dJ7_fill_53178_12 ?_
      refine X_ast hg dJ7_fill_53178_13 (fun h2 _ => ?_)
      refine X_iinc hg 2 rfl (v := (l2 + (nI 1))) (icc ic_i_1) (Nat.le_of_ble_eq_true rfl) (lv' := [(2, .int (l2 + (nI 1))), (0, .ref (nB g.1 + l0)), (1, .int l1), (3, .int l3)]) rfl dJ7_fill_53178_14 ?_
      refine X_goto hg (tgt := 5) dJ7_fill_53178_17 rfl ?_
      refine X_lv [1, 2, 0, 3] rfl ?_
      exact ih _ _
set_option maxRecDepth 10000 in
theorem c_J7_fill_53178 (en : EN) (a0 : Nat) (a1 : Int32) (h : Hp) (x0 : Hp) (e : f_J7_fill_53178 a0 a1 h = some x0) : Ct en yJ7_fill_53178 cJ7_fill_53178 4 none 0 0 0 0 [.ref (nB en + a0), .int a1] h none x0 := by
  refine Ct.of (by decide) rfl (Nat.le_of_ble_eq_true rfl) e (fun g hen hg hr => ?_)
  subst hen
  unfold f_J7_fill_53178
  refine X_iconst hg ic_i_0 dJ7_fill_53178_0 ?_
  refine X_istore_n hg rfl (Nat.le_of_ble_eq_true rfl) (lv' := [(2, .int (nI 0)), (0, .ref (nB g.1 + a0)), (1, .int a1)]) rfl dJ7_fill_53178_1 ?_
  refine X_aload_n hg 1 rfl dJ7_fill_53178_2 ?_
  refine X_aln hg (Or.inl rfl) dJ7_fill_53178_3 (fun x1 _ => ?_)
  refine X_istore_n hg rfl (Nat.le_of_ble_eq_true rfl) (lv' := [(3, .int x1), (2, .int (nI 0)), (0, .ref (nB g.1 + a0)), (1, .int a1)]) rfl dJ7_fill_53178_4 ?_
  refine X_lv [2, 3, 1, 0] rfl ?_
  refine l_J7_fill_53178_5 hg _ _ _ hr _ (fun h4 => ?_) _ _ _
  exact X_vret hg hr (Nat.le_of_ble_eq_true rfl) (Nat.le_of_ble_eq_true rfl) dJ7_fill_53178_20
set_option maxRecDepth 10000 in
theorem c_X4_start (en : EN) (a0 : Nat) (a1 : Int32) (a2 : Int32) (h : Hp) (x0 : Hp) (e : f_X4_start a0 a1 a2 h = some x0) : Ct en yX4_start cX4_start 3 none 1 24 0 0 [.ref (nB en + a0), .int a1, .int a2] h none x0 := by
  refine Ct.of (by decide) rfl (Nat.le_of_ble_eq_true rfl) e (fun g hen hg hr => ?_)
  subst hen
  unfold f_X4_start
  refine X_gd ?_
  refine X_aload_n hg 0 rfl dX4_start_0 ?_
  refine X_iload_n hg 1 rfl dX4_start_1 ?_
  refine X_putI hg (j := 3) cf_4 (Nat.le_of_ble_eq_true rfl) rfl (Or.inl rfl) m_261 dX4_start_2 (fun h1 _ => ?_)
  refine X_aload_n hg 0 rfl dX4_start_5 ?_
  refine X_iconst hg ic_i_0 dX4_start_6 ?_
  refine X_iload_n hg 2 rfl dX4_start_7 ?_
  refine X_bipush hg ic_b_14 dX4_start_8 ?_
  refine X_min hg m_601 m_stmin m_inM m_cdmin (Nat.le_of_ble_eq_true rfl) (Nat.le_of_ble_eq_true rfl) (Nat.le_of_ble_eq_true rfl) (Nat.le_of_ble_eq_true rfl) dX4_start_10 ?_
  refine X_max hg m_602 m_stmax m_inM m_cdmax (Nat.le_of_ble_eq_true rfl) (Nat.le_of_ble_eq_true rfl) (Nat.le_of_ble_eq_true rfl) (Nat.le_of_ble_eq_true rfl) dX4_start_13 ?_
  refine X_putI hg (j := 4) cf_4 (Nat.le_of_ble_eq_true rfl) rfl (Or.inl rfl) m_262 dX4_start_16 (fun h2 _ => ?_)
  refine X_aload_n hg 0 rfl dX4_start_19 ?_
  refine X_iconst hg ic_i_0 dX4_start_20 ?_
  refine X_putI hg (j := 5) cf_4 (Nat.le_of_ble_eq_true rfl) rfl (Or.inl rfl) m_263 dX4_start_21 (fun h3 _ => ?_)
  refine X_aload_n hg 0 rfl dX4_start_24 ?_
  refine X_getR hg (j := 1) cf_4 (Nat.le_of_ble_eq_true rfl) (Or.inr ⟨_, rfl⟩) m_259 dX4_start_25 (fun x4 _ => ?_)
  refine X_iconst hg ic_i_0 dX4_start_28 ?_
  refine X_cSV0 hg mf_J7_fill_53178 m_604 m_603 (fun y e => c_J7_fill_53178 g.1 x4 (nI 0) h3 y e) (As := [.ref (nB g.1 + x4), .int (nI 0)]) rfl (Nat.le_of_ble_eq_true rfl) rfl (Nat.le_of_ble_eq_true rfl) (Nat.le_of_ble_eq_true rfl) (Nat.le_of_ble_eq_true rfl) (Nat.le_of_ble_eq_true rfl) dX4_start_29 (fun h5 _ => ?_)
  exact X_vret hg hr (Nat.le_of_ble_eq_true rfl) (Nat.le_of_ble_eq_true rfl) dX4_start_32
set_option maxRecDepth 10000 in
theorem c_X4_has (en : EN) (a0 : Nat) (a1 : Int32) (h : Hp) (x0 : Int32) (e : f_X4_has a0 a1 h = some x0) : Ct en yX4_has cX4_has 2 (some .boolean) 0 0 0 0 [.ref (nB en + a0), .int a1] h (some (.int x0)) h := by
  refine Ct.of (by decide) rfl (Nat.le_of_ble_eq_true rfl) e (fun g hen hg hr => ?_)
  subst hen
  unfold f_X4_has
  refine X_gd ?_
  refine X_iload_n hg 1 rfl dX4_has_0 ?_
  refine X_reg (fun (v1 : Int32) o => Xo g x0 2 0 0 17 [] [.int v1] h o) (fun kv1 hk1 => ?_) (fun v1 => ?_)
  · refine X_ib ?_
    refine X_if_lt hg (tgt := 16) dX4_has_1 rfl (fun c4 => ?_) (fun c4 => ?_)
    · refine X_iconst hg ic_i_0 dX4_has_16 ?_
      refine X_lv [] rfl ?_
      exact hk1 (nI 0)
    · refine X_iload_n hg 1 rfl dX4_has_4 ?_
      refine X_aload_n hg 0 rfl dX4_has_5 ?_
      refine X_as ?_
      refine X_getI hg (j := 4) cf_4 (Nat.le_of_ble_eq_true rfl) (Or.inl rfl) m_262 dX4_has_6 (fun x2 _ => ?_)
      refine X_ib ?_
      refine X_icmp_ge hg (tgt := 16) dX4_has_9 rfl (fun c3 => ?_) (fun c3 => ?_)
      · refine X_iconst hg ic_i_0 dX4_has_16 ?_
        refine X_lv [] rfl ?_
        exact hk1 (nI 0)
      · refine X_iconst hg ic_i_1 dX4_has_12 ?_
        refine X_goto hg (tgt := 17) dX4_has_13 rfl ?_
        refine X_lv [] rfl ?_
        exact hk1 (nI 1)
  · exact X_zret hg hr (Nat.le_of_ble_eq_true rfl) (Nat.le_of_ble_eq_true rfl) dX4_has_17
set_option maxRecDepth 10000 in
theorem c_X4_addStep (en : EN) (a0 : Nat) (a1 : Int32) (a2 : Int32) (h : Hp) (x0 : Hp) (e : f_X4_addStep a0 a1 a2 h = some x0) : Ct en yX4_addStep cX4_addStep 3 none 1 21 0 0 [.ref (nB en + a0), .int a1, .int a2] h none x0 := by
  refine Ct.of (by decide) rfl (Nat.le_of_ble_eq_true rfl) e (fun g hen hg hr => ?_)
  subst hen
  unfold f_X4_addStep
  refine X_gd ?_
  refine X_aload_n hg 0 rfl dX4_addStep_0 ?_
  refine X_iload_n hg 1 rfl dX4_addStep_1 ?_
  refine X_cVI0 hg mf_X4_has m_573 m_10 m_571 cf_4 (fun _ e => gd_isO e) (fun y e => c_X4_has g.1 a0 a1 h y e) (As := [.int a1]) rfl (Nat.le_of_ble_eq_true rfl) rfl (Nat.le_of_ble_eq_true rfl) (Nat.le_of_ble_eq_true rfl) (Nat.le_of_ble_eq_true rfl) (Nat.le_of_ble_eq_true rfl) dX4_addStep_2 (fun x1 _ => ?_)
  refine X_reg (fun (v2 : Hp) o => Xo g x0 3 0 0 43 [] [] v2 o) (fun kv2 hk2 => ?_) (fun v2 => ?_)
  · refine X_ib ?_
    refine X_if_eq hg (tgt := 43) dX4_addStep_5 rfl (fun c14 => ?_) (fun c14 => ?_)
    · refine X_lv [] rfl ?_
      exact hk2 h
    · refine X_aload_n hg 0 rfl dX4_addStep_8 ?_
      refine X_as ?_
      refine X_getR hg (j := 1) cf_4 (Nat.le_of_ble_eq_true rfl) (Or.inr ⟨_, rfl⟩) m_259 dX4_addStep_9 (fun x3 _ => ?_)
      refine X_iload_n hg 1 rfl dX4_addStep_12 ?_
      refine X_as ?_
      refine X_ald hg dX4_addStep_13 (fun x4 _ => ?_)
      refine X_bipush hg ic_b_13 dX4_addStep_14 ?_
      refine X_ib ?_
      refine X_icmp_ge hg (tgt := 43) dX4_addStep_16 rfl (fun c13 => ?_) (fun c13 => ?_)
      · refine X_lv [] rfl ?_
        exact hk2 h
      · refine X_aload_n hg 0 rfl dX4_addStep_19 ?_
        refine X_as ?_
        refine X_getR hg (j := 0) cf_4 (Nat.le_of_ble_eq_true rfl) (Or.inr ⟨_, rfl⟩) m_258 dX4_addStep_20 (fun x5 _ => ?_)
        refine X_iload_n hg 1 rfl dX4_addStep_23 ?_
        refine X_as ?_
        refine X_aldA hg dX4_addStep_24 (fun x6 _ => ?_)
        refine X_aload_n hg 0 rfl dX4_addStep_25 ?_
        refine X_as ?_
        refine X_getR hg (j := 1) cf_4 (Nat.le_of_ble_eq_true rfl) (Or.inr ⟨_, rfl⟩) m_259 dX4_addStep_26 (fun x7 _ => ?_)
        refine X_iload_n hg 1 rfl dX4_addStep_29 ?_
        refine X_as ?_
        refine X_ald hg dX4_addStep_30 (fun x8 _ => ?_)
        refine X_iload_n hg 2 rfl dX4_addStep_31 ?_
        refine X_as ?_
        refine X_ast hg dX4_addStep_32 (fun h9 _ => ?_)
        refine X_aload_n hg 0 rfl dX4_addStep_33 ?_
        refine X_as ?_
        refine X_getR hg (j := 1) cf_4 (Nat.le_of_ble_eq_true rfl) (Or.inr ⟨_, rfl⟩) m_259 dX4_addStep_34 (fun x10 _ => ?_)
        refine X_iload_n hg 1 rfl dX4_addStep_37 ?_
        refine X_dup2 hg rfl rfl dX4_addStep_38 ?_
        refine X_as ?_
        refine X_ald hg dX4_addStep_39 (fun x11 _ => ?_)
        refine X_iconst hg ic_i_1 dX4_addStep_40 ?_
        refine X_iadd hg dX4_addStep_41 ?_
        refine X_as ?_
        refine X_ast hg dX4_addStep_42 (fun h12 _ => ?_)
        refine X_lv [] rfl ?_
        exact hk2 h12
  · exact X_vret hg hr (Nat.le_of_ble_eq_true rfl) (Nat.le_of_ble_eq_true rfl) dX4_addStep_43
set_option maxRecDepth 10000 in
theorem c_X4_addBranching (en : EN) (a0 : Nat) (h : Hp) (x0 : Hp) (e : f_X4_addBranching a0 h = some x0) : Ct en yX4_addBranching cX4_addBranching 1 none 0 0 0 0 [.ref (nB en + a0)] h none x0 := by
  refine Ct.of (by decide) rfl (Nat.le_of_ble_eq_true rfl) e (fun g hen hg hr => ?_)
  subst hen
  unfold f_X4_addBranching
  refine X_gd ?_
  refine X_aload_n hg 0 rfl dX4_addBranching_0 ?_
  refine X_dup hg rfl dX4_addBranching_1 ?_
  refine X_getI hg (j := 5) cf_4 (Nat.le_of_ble_eq_true rfl) (Or.inl rfl) m_263 dX4_addBranching_2 (fun x1 _ => ?_)
  refine X_iconst hg ic_i_1 dX4_addBranching_5 ?_
  refine X_iadd hg dX4_addBranching_6 ?_
  refine X_putI hg (j := 5) cf_4 (Nat.le_of_ble_eq_true rfl) rfl (Or.inl rfl) m_263 dX4_addBranching_7 (fun h2 _ => ?_)
  exact X_vret hg hr (Nat.le_of_ble_eq_true rfl) (Nat.le_of_ble_eq_true rfl) dX4_addBranching_10
set_option maxRecDepth 10000 in
theorem c_X4_width (en : EN) (a0 : Nat) (h : Hp) (x0 : Int32) (e : f_X4_width a0 h = some x0) : Ct en yX4_width cX4_width 1 (some .int) 0 0 0 0 [.ref (nB en + a0)] h (some (.int x0)) h := by
  refine Ct.of (by decide) rfl (Nat.le_of_ble_eq_true rfl) e (fun g hen hg hr => ?_)
  subst hen
  unfold f_X4_width
  refine X_gd ?_
  refine X_aload_n hg 0 rfl dX4_width_0 ?_
  refine X_getI hg (j := 3) cf_4 (Nat.le_of_ble_eq_true rfl) (Or.inl rfl) m_261 dX4_width_1 (fun x1 _ => ?_)
  exact X_iret hg hr (Nat.le_of_ble_eq_true rfl) (Nat.le_of_ble_eq_true rfl) dX4_width_4
set_option maxRecDepth 10000 in
theorem c_X4_branchings (en : EN) (a0 : Nat) (h : Hp) (x0 : Int32) (e : f_X4_branchings a0 h = some x0) : Ct en yX4_branchings cX4_branchings 1 (some .int) 0 0 0 0 [.ref (nB en + a0)] h (some (.int x0)) h := by
  refine Ct.of (by decide) rfl (Nat.le_of_ble_eq_true rfl) e (fun g hen hg hr => ?_)
  subst hen
  unfold f_X4_branchings
  refine X_gd ?_
  refine X_aload_n hg 0 rfl dX4_branchings_0 ?_
  refine X_getI hg (j := 5) cf_4 (Nat.le_of_ble_eq_true rfl) (Or.inl rfl) m_263 dX4_branchings_1 (fun x1 _ => ?_)
  exact X_iret hg hr (Nat.le_of_ble_eq_true rfl) (Nat.le_of_ble_eq_true rfl) dX4_branchings_4
set_option maxRecDepth 10000 in
theorem c_X4_lengthOf (en : EN) (a0 : Nat) (a1 : Int32) (h : Hp) (x0 : Int32) (e : f_X4_lengthOf a0 a1 h = some x0) : Ct en yX4_lengthOf cX4_lengthOf 2 (some .int) 1 21 0 0 [.ref (nB en + a0), .int a1] h (some (.int x0)) h := by
  refine Ct.of (by decide) rfl (Nat.le_of_ble_eq_true rfl) e (fun g hen hg hr => ?_)
  subst hen
  unfold f_X4_lengthOf
  refine X_gd ?_
  refine X_aload_n hg 0 rfl dX4_lengthOf_0 ?_
  refine X_iload_n hg 1 rfl dX4_lengthOf_1 ?_
  refine X_cVI0 hg mf_X4_has m_573 m_10 m_571 cf_4 (fun _ e => gd_isO e) (fun y e => c_X4_has g.1 a0 a1 h y e) (As := [.int a1]) rfl (Nat.le_of_ble_eq_true rfl) rfl (Nat.le_of_ble_eq_true rfl) (Nat.le_of_ble_eq_true rfl) (Nat.le_of_ble_eq_true rfl) (Nat.le_of_ble_eq_true rfl) dX4_lengthOf_2 (fun x1 _ => ?_)
  refine X_reg (fun (v2 : Int32) o => Xo g x0 2 0 0 19 [] [.int v2] h o) (fun kv2 hk2 => ?_) (fun v2 => ?_)
  · refine X_ib ?_
    refine X_if_eq hg (tgt := 17) dX4_lengthOf_5 rfl (fun c5 => ?_) (fun c5 => ?_)
    · refine X_bipush hg ic_b_m101 dX4_lengthOf_17 ?_
      refine X_lv [] rfl ?_
      exact hk2 m101
    · refine X_aload_n hg 0 rfl dX4_lengthOf_8 ?_
      refine X_as ?_
      refine X_getR hg (j := 1) cf_4 (Nat.le_of_ble_eq_true rfl) (Or.inr ⟨_, rfl⟩) m_259 dX4_lengthOf_9 (fun x3 _ => ?_)
      refine X_iload_n hg 1 rfl dX4_lengthOf_12 ?_
      refine X_as ?_
      refine X_ald hg dX4_lengthOf_13 (fun x4 _ => ?_)
      refine X_goto hg (tgt := 19) dX4_lengthOf_14 rfl ?_
      refine X_lv [] rfl ?_
      exact hk2 x4
  · exact X_iret hg hr (Nat.le_of_ble_eq_true rfl) (Nat.le_of_ble_eq_true rfl) dX4_lengthOf_19
set_option maxRecDepth 10000 in
theorem c_X4_stepOf (en : EN) (a0 : Nat) (a1 : Int32) (a2 : Int32) (h : Hp) (x0 : Int32) (e : f_X4_stepOf a0 a1 a2 h = some x0) : Ct en yX4_stepOf cX4_stepOf 3 (some .int) 1 21 0 0 [.ref (nB en + a0), .int a1, .int a2] h (some (.int x0)) h := by
  refine Ct.of (by decide) rfl (Nat.le_of_ble_eq_true rfl) e (fun g hen hg hr => ?_)
  subst hen
  unfold f_X4_stepOf
  refine X_gd ?_
  refine X_aload_n hg 0 rfl dX4_stepOf_0 ?_
  refine X_iload_n hg 1 rfl dX4_stepOf_1 ?_
  refine X_cVI0 hg mf_X4_has m_573 m_10 m_571 cf_4 (fun _ e => gd_isO e) (fun y e => c_X4_has g.1 a0 a1 h y e) (As := [.int a1]) rfl (Nat.le_of_ble_eq_true rfl) rfl (Nat.le_of_ble_eq_true rfl) (Nat.le_of_ble_eq_true rfl) (Nat.le_of_ble_eq_true rfl) (Nat.le_of_ble_eq_true rfl) dX4_stepOf_2 (fun x1 _ => ?_)
  refine X_reg (fun (v2 : Int32) o => Xo g x0 3 0 0 35 [] [.int v2] h o) (fun kv2 hk2 => ?_) (fun v2 => ?_)
  · refine X_ib ?_
    refine X_if_eq hg (tgt := 33) dX4_stepOf_5 rfl (fun c10 => ?_) (fun c10 => ?_)
    · refine X_bipush hg ic_b_m101 dX4_stepOf_33 ?_
      refine X_lv [] rfl ?_
      exact hk2 m101
    · refine X_iload_n hg 2 rfl dX4_stepOf_8 ?_
      refine X_ib ?_
      refine X_if_lt hg (tgt := 33) dX4_stepOf_9 rfl (fun c9 => ?_) (fun c9 => ?_)
      · refine X_bipush hg ic_b_m101 dX4_stepOf_33 ?_
        refine X_lv [] rfl ?_
        exact hk2 m101
      · refine X_iload_n hg 2 rfl dX4_stepOf_12 ?_
        refine X_aload_n hg 0 rfl dX4_stepOf_13 ?_
        refine X_as ?_
        refine X_getR hg (j := 1) cf_4 (Nat.le_of_ble_eq_true rfl) (Or.inr ⟨_, rfl⟩) m_259 dX4_stepOf_14 (fun x3 _ => ?_)
        refine X_iload_n hg 1 rfl dX4_stepOf_17 ?_
        refine X_as ?_
        refine X_ald hg dX4_stepOf_18 (fun x4 _ => ?_)
        refine X_ib ?_
        refine X_icmp_ge hg (tgt := 33) dX4_stepOf_19 rfl (fun c8 => ?_) (fun c8 => ?_)
        · refine X_bipush hg ic_b_m101 dX4_stepOf_33 ?_
          refine X_lv [] rfl ?_
          exact hk2 m101
        · refine X_aload_n hg 0 rfl dX4_stepOf_22 ?_
          refine X_as ?_
          refine X_getR hg (j := 0) cf_4 (Nat.le_of_ble_eq_true rfl) (Or.inr ⟨_, rfl⟩) m_258 dX4_stepOf_23 (fun x5 _ => ?_)
          refine X_iload_n hg 1 rfl dX4_stepOf_26 ?_
          refine X_as ?_
          refine X_aldA hg dX4_stepOf_27 (fun x6 _ => ?_)
          refine X_iload_n hg 2 rfl dX4_stepOf_28 ?_
          refine X_as ?_
          refine X_ald hg dX4_stepOf_29 (fun x7 _ => ?_)
          refine X_goto hg (tgt := 35) dX4_stepOf_30 rfl ?_
          refine X_lv [] rfl ?_
          exact hk2 x7
  · exact X_iret hg hr (Nat.le_of_ble_eq_true rfl) (Nat.le_of_ble_eq_true rfl) dX4_stepOf_35
set_option maxRecDepth 10000 in
theorem l_X4_cost_4 {g : XC} {x0 : Int32} (hg : XG g RX4 cX4_cost 4 2 43 0 0) (l0 : Nat) (l1 : Nat) (h : Hp) (hr : XR g (some .int) "cost" (some (.int x0)) h 0 0) (K : Int32 → Option (Int32)) (hK0 : ∀ (l2 : Int32), Xo g x0 4 0 0 33 [(2, .int l2)] [] h (K l2)) : ∀ (n : Nat) (l2 : Int32) (l3 : Int32), Xo g x0 4 0 0 4 [(0, .ref (nB g.1 + l0)), (1, .ref (nB g.1 + l1)), (2, .int l2), (3, .int l3)] [] h (f_X4_cost_L4 l0 l1 h K n l2 l3) := by
  intro n
  induction n with
  | zero =>
    intro l2 l3
    exact X_none
  | succ n ih =>
    intro l2 l3
    unfold f_X4_cost_L4
    refine X_iload_n hg 3 rfl dX4_cost_4 ?_
    refine X_aload_n hg 0 rfl dX4_cost_5 ?_
    refine X_getI hg (j := 4) cf_4 (Nat.le_of_ble_eq_true rfl) (Or.inl rfl) m_262 dX4_cost_6 (fun x1 _ => ?_)
    refine X_icmp_ge hg (tgt := 33) dX4_cost_9 rfl (fun c5 => ?_) (fun c5 => ?_)
    · refine X_lv [2] rfl ?_
      exact hK0 _
    · refine X_iload_n hg 2 rfl dX4_cost_12 ?_
      refine X_aload_n hg 1 rfl dX4_cost_13 ?_
      refine X_iload_n hg 3 rfl dX4_cost_14 ?_
      refine X_cVI0 hg mf_X7_frequencyOf m_521 m_522 m_800 cf_7 (fun _ e => gd_isO e) (fun y e => c_X7_frequencyOf g.1 l1 l3 h y e) (As := [.int l3]) rfl (Nat.le_of_ble_eq_true rfl) rfl (Nat.le_of_ble_eq_true rfl) (Nat.le_of_ble_eq_true rfl) (Nat.le_of_ble_eq_true rfl) (Nat.le_of_ble_eq_true rfl) dX4_cost_15 (fun x2 _ => ?_)
      refine X_aload_n hg 0 rfl dX4_cost_18 ?_
      refine X_getR hg (j := 1) cf_4 (Nat.le_of_ble_eq_true rfl) (Or.inr ⟨_, rfl⟩) m_259 dX4_cost_19 (fun x3 _ => ?_)
      refine X_iload_n hg 3 rfl dX4_cost_22 ?_
      refine X_ald hg dX4_cost_23 (fun x4 _ => ?_)
      refine X_imul hg dX4_cost_24 ?_
      refine X_iadd hg dX4_cost_25 ?_
      refine X_istore_n hg rfl (Nat.le_of_ble_eq_true rfl) (lv' := [(2, .int (l2 + (x2 * x4))), (0, .ref (nB g.1 + l0)), (1, .ref (nB g.1 + l1)), (3, .int l3)]) rfl dX4_cost_26 ?_
      refine X_iinc hg 3 rfl (v := (l3 + (nI 1))) (icc ic_i_1) (Nat.le_of_ble_eq_true rfl) (lv' := [(3, .int (l3 + (nI 1))), (2, .int (l2 + (x2 * x4))), (0, .ref (nB g.1 + l0)), (1, .ref (nB g.1 + l1))]) rfl dX4_cost_27 ?_
      refine X_goto hg (tgt := 4) dX4_cost_30 rfl ?_
      refine X_lv [2, 3, 1, 0] rfl ?_
      exact ih _ _
set_option maxRecDepth 10000 in
theorem c_X4_cost (en : EN) (a0 : Nat) (a1 : Nat) (h : Hp) (x0 : Int32) (e : f_X4_cost a0 a1 h = some x0) : Ct en yX4_cost cX4_cost 4 (some .int) 2 43 0 0 [.ref (nB en + a0), .ref (nB en + a1)] h (some (.int x0)) h := by
  refine Ct.of (by decide) rfl (Nat.le_of_ble_eq_true rfl) e (fun g hen hg hr => ?_)
  subst hen
  unfold f_X4_cost
  refine X_gd ?_
  refine X_iconst hg ic_i_0 dX4_cost_0 ?_
  refine X_istore_n hg rfl (Nat.le_of_ble_eq_true rfl) (lv' := [(2, .int (nI 0)), (0, .ref (nB g.1 + a0)), (1, .ref (nB g.1 + a1))]) rfl dX4_cost_1 ?_
  refine X_iconst hg ic_i_0 dX4_cost_2 ?_
  refine X_istore_n hg rfl (Nat.le_of_ble_eq_true rfl) (lv' := [(3, .int (nI 0)), (2, .int (nI 0)), (0, .ref (nB g.1 + a0)), (1, .ref (nB g.1 + a1))]) rfl dX4_cost_3 ?_
  refine X_lv [2, 3, 1, 0] rfl ?_
  refine l_X4_cost_4 hg _ _ _ hr _ (fun y6 => ?_) _ _ _
  refine X_iload_n hg 0 rfl dX4_cost_33 ?_
  exact X_iret hg hr (Nat.le_of_ble_eq_true rfl) (Nat.le_of_ble_eq_true rfl) dX4_cost_34
set_option maxRecDepth 10000 in
theorem l_X4_longestPath_4 {g : XC} {x0 : Int32} (hg : XG g RX4 cX4_longestPath 3 1 24 0 0) (l0 : Nat) (h : Hp) (hr : XR g (some .int) "longestPath" (some (.int x0)) h 0 0) (K : Int32 → Option (Int32)) (hK0 : ∀ (l1 : Int32), Xo g x0 3 0 0 29 [(1, .int l1)] [] h (K l1)) : ∀ (n : Nat) (l1 : Int32) (l2 : Int32), Xo g x0 3 0 0 4 [(0, .ref (nB g.1 + l0)), (1, .int l1), (2, .int l2)] [] h (f_X4_longestPath_L4 l0 h K n l1 l2) := by
  intro n
  induction n with
  | zero =>
    intro l1 l2
    exact X_none
  | succ n ih =>
    intro l1 l2
    unfold f_X4_longestPath_L4
    refine X_iload_n hg 2 rfl dX4_longestPath_4 ?_
    refine X_aload_n hg 0 rfl dX4_longestPath_5 ?_
    refine X_getI hg (j := 4) cf_4 (Nat.le_of_ble_eq_true rfl) (Or.inl rfl) m_262 dX4_longestPath_6 (fun x1 _ => ?_)
    refine X_icmp_ge hg (tgt := 29) dX4_longestPath_9 rfl (fun c4 => ?_) (fun c4 => ?_)
    · refine X_lv [1] rfl ?_
      exact hK0 _
    · refine X_iload_n hg 1 rfl dX4_longestPath_12 ?_
      refine X_aload_n hg 0 rfl dX4_longestPath_13 ?_
      refine X_getR hg (j := 1) cf_4 (Nat.le_of_ble_eq_true rfl) (Or.inr ⟨_, rfl⟩) m_259 dX4_longestPath_14 (fun x2 _ => ?_)
      refine X_iload_n hg 2 rfl dX4_longestPath_17 ?_
      refine X_ald hg dX4_longestPath_18 (fun x3 _ => ?_)
      refine X_max hg m_602 m_stmax m_inM m_cdmax (Nat.le_of_ble_eq_true rfl) (Nat.le_of_ble_eq_true rfl) (Nat.le_of_ble_eq_true rfl) (Nat.le_of_ble_eq_true rfl) dX4_longestPath_19 ?_
      refine X_istore_n hg rfl (Nat.le_of_ble_eq_true rfl) (lv' := [(1, .int (imx l1 x3)), (0, .ref (nB g.1 + l0)), (2, .int l2)]) rfl dX4_longestPath_22 ?_
      refine X_iinc hg 2 rfl (v := (l2 + (nI 1))) (icc ic_i_1) (Nat.le_of_ble_eq_true rfl) (lv' := [(2, .int (l2 + (nI 1))), (1, .int (imx l1 x3)), (0, .ref (nB g.1 + l0))]) rfl dX4_longestPath_23 ?_
      refine X_goto hg (tgt := 4) dX4_longestPath_26 rfl ?_
      refine X_lv [2, 1, 0] rfl ?_
      exact ih _ _
set_option maxRecDepth 10000 in
theorem c_X4_longestPath (en : EN) (a0 : Nat) (h : Hp) (x0 : Int32) (e : f_X4_longestPath a0 h = some x0) : Ct en yX4_longestPath cX4_longestPath 3 (some .int) 1 24 0 0 [.ref (nB en + a0)] h (some (.int x0)) h := by
  refine Ct.of (by decide) rfl (Nat.le_of_ble_eq_true rfl) e (fun g hen hg hr => ?_)
  subst hen
  unfold f_X4_longestPath
  refine X_gd ?_
  refine X_iconst hg ic_i_0 dX4_longestPath_0 ?_
  refine X_istore_n hg rfl (Nat.le_of_ble_eq_true rfl) (lv' := [(1, .int (nI 0)), (0, .ref (nB g.1 + a0))]) rfl dX4_longestPath_1 ?_
  refine X_iconst hg ic_i_0 dX4_longestPath_2 ?_
  refine X_istore_n hg rfl (Nat.le_of_ble_eq_true rfl) (lv' := [(2, .int (nI 0)), (1, .int (nI 0)), (0, .ref (nB g.1 + a0))]) rfl dX4_longestPath_3 ?_
  refine X_lv [2, 1, 0] rfl ?_
  refine l_X4_longestPath_4 hg _ _ hr _ (fun y5 => ?_) _ _ _
  refine X_iload_n hg 0 rfl dX4_longestPath_29 ?_
  exact X_iret hg hr (Nat.le_of_ble_eq_true rfl) (Nat.le_of_ble_eq_true rfl) dX4_longestPath_30
set_option maxRecDepth 10000 in
theorem c_X4_partsOfWhole (en : EN) (a0 : Nat) (h : Hp) (x0 : Int32) (e : f_X4_partsOfWhole a0 h = some x0) : Ct en yX4_partsOfWhole cX4_partsOfWhole 1 (some .int) 2 43 0 0 [.ref (nB en + a0)] h (some (.int x0)) h := by
  refine Ct.of (by decide) rfl (Nat.le_of_ble_eq_true rfl) e (fun g hen hg hr => ?_)
  subst hen
  unfold f_X4_partsOfWhole
  refine X_gd ?_
  refine X_iconst hg ic_i_0 dX4_partsOfWhole_0 ?_
  refine X_aload_n hg 0 rfl dX4_partsOfWhole_1 ?_
  refine X_aload_n hg 0 rfl dX4_partsOfWhole_2 ?_
  refine X_getI hg (j := 4) cf_4 (Nat.le_of_ble_eq_true rfl) (Or.inl rfl) m_262 dX4_partsOfWhole_3 (fun x1 _ => ?_)
  refine X_iconst hg ic_i_1 dX4_partsOfWhole_6 ?_
  refine X_isub hg dX4_partsOfWhole_7 ?_
  refine X_iconst hg ic_i_0 dX4_partsOfWhole_8 ?_
  refine X_cVI0 hg mf_X4_stepOf m_822 m_823 m_821 cf_4 (fun _ e => gd_isO e) (fun y e => c_X4_stepOf g.1 a0 (x1 - (nI 1)) (nI 0) h y e) (As := [.int (x1 - (nI 1)), .int (nI 0)]) rfl (Nat.le_of_ble_eq_true rfl) rfl (Nat.le_of_ble_eq_true rfl) (Nat.le_of_ble_eq_true rfl) (Nat.le_of_ble_eq_true rfl) (Nat.le_of_ble_eq_true rfl) dX4_partsOfWhole_9 (fun x2 _ => ?_)
  refine X_max hg m_602 m_stmax m_inM m_cdmax (Nat.le_of_ble_eq_true rfl) (Nat.le_of_ble_eq_true rfl) (Nat.le_of_ble_eq_true rfl) (Nat.le_of_ble_eq_true rfl) dX4_partsOfWhole_12 ?_
  exact X_iret hg hr (Nat.le_of_ble_eq_true rfl) (Nat.le_of_ble_eq_true rfl) dX4_partsOfWhole_15
set_option maxRecDepth 10000 in
theorem l_X4_hasSamePath_2 {g : XC} {x0 : Int32} (hg : XG g RX4 cX4_hasSamePath 4 2 43 0 0) (l0 : Nat) (l1 : Nat) (l2 : Int32) (h : Hp) (hr : XR g (some .boolean) "hasSamePath" (some (.int x0)) h 0 0) (K : Option (Int32)) (hK0 : Xo g x0 4 0 0 35 [] [] h K) : ∀ (n : Nat) (l3 : Int32), Xo g x0 4 0 0 2 [(0, .ref (nB g.1 + l0)), (1, .ref (nB g.1 + l1)), (2, .int l2), (3, .int l3)] [] h (f_X4_hasSamePath_L2 l0 l1 l2 h K n l3) := by
  intro n
  induction n with
  | zero =>
    intro l3
    exact X_none
  | succ n ih =>
    intro l3
    unfold f_X4_hasSamePath_L2
    refine X_iload_n hg 3 rfl dX4_hasSamePath_2 ?_
    refine X_aload_n hg 0 rfl dX4_hasSamePath_3 ?_
    refine X_getR hg (j := 1) cf_4 (Nat.le_of_ble_eq_true rfl) (Or.inr ⟨_, rfl⟩) m_259 dX4_hasSamePath_4 (fun x1 _ => ?_)
    refine X_iload_n hg 2 rfl dX4_hasSamePath_7 ?_
    refine X_ald hg dX4_hasSamePath_8 (fun x2 _ => ?_)
    refine X_icmp_gt hg (tgt := 35) dX4_hasSamePath_9 rfl (fun c6 => ?_) (fun c6 => ?_)
    · refine X_lv [] rfl ?_
      exact hK0 
    · refine X_aload_n hg 0 rfl dX4_hasSamePath_12 ?_
      refine X_iload_n hg 2 rfl dX4_hasSamePath_13 ?_
      refine X_iload_n hg 3 rfl dX4_hasSamePath_14 ?_
      refine X_cVI0 hg mf_X4_stepOf m_822 m_823 m_821 cf_4 (fun _ e => gd_isO e) (fun y e => c_X4_stepOf g.1 l0 l2 l3 h y e) (As := [.int l2, .int l3]) rfl (Nat.le_of_ble_eq_true rfl) rfl (Nat.le_of_ble_eq_true rfl) (Nat.le_of_ble_eq_true rfl) (Nat.le_of_ble_eq_true rfl) (Nat.le_of_ble_eq_true rfl) dX4_hasSamePath_15 (fun x3 _ => ?_)
      refine X_aload_n hg 1 rfl dX4_hasSamePath_18 ?_
      refine X_iload_n hg 2 rfl dX4_hasSamePath_19 ?_
      refine X_iload_n hg 3 rfl dX4_hasSamePath_20 ?_
      refine X_cVI0 hg mf_X4_stepOf m_822 m_823 m_821 cf_4 (fun _ e => gd_isO e) (fun y e => c_X4_stepOf g.1 l1 l2 l3 h y e) (As := [.int l2, .int l3]) rfl (Nat.le_of_ble_eq_true rfl) rfl (Nat.le_of_ble_eq_true rfl) (Nat.le_of_ble_eq_true rfl) (Nat.le_of_ble_eq_true rfl) (Nat.le_of_ble_eq_true rfl) dX4_hasSamePath_21 (fun x4 _ => ?_)
      refine X_icmp_eq hg (tgt := 29) dX4_hasSamePath_24 rfl (fun c5 => ?_) (fun c5 => ?_)
      · refine X_iinc hg 3 rfl (v := (l3 + (nI 1))) (icc ic_i_1) (Nat.le_of_ble_eq_true rfl) (lv' := [(3, .int (l3 + (nI 1))), (0, .ref (nB g.1 + l0)), (1, .ref (nB g.1 + l1)), (2, .int l2)]) rfl dX4_hasSamePath_29 ?_
        refine X_goto hg (tgt := 2) dX4_hasSamePath_32 rfl ?_
        refine X_lv [1, 2, 3, 0] rfl ?_
        exact ih _
      · refine X_iconst hg ic_i_0 dX4_hasSamePath_27 ?_
        exact X_zret hg hr (Nat.le_of_ble_eq_true rfl) (Nat.le_of_ble_eq_true rfl) dX4_hasSamePath_28
set_option maxRecDepth 10000 in
theorem c_X4_hasSamePath (en : EN) (a0 : Nat) (a1 : Nat) (a2 : Int32) (h : Hp) (x0 : Int32) (e : f_X4_hasSamePath a0 a1 a2 h = some x0) : Ct en yX4_hasSamePath cX4_hasSamePath 4 (some .boolean) 2 43 0 0 [.ref (nB en + a0), .ref (nB en + a1), .int a2] h (some (.int x0)) h := by
  refine Ct.of (by decide) rfl (Nat.le_of_ble_eq_true rfl) e (fun g hen hg hr => ?_)
  subst hen
  unfold f_X4_hasSamePath
  refine X_gd ?_
  refine X_iconst hg ic_i_0 dX4_hasSamePath_0 ?_
  refine X_istore_n hg rfl (Nat.le_of_ble_eq_true rfl) (lv' := [(3, .int (nI 0)), (0, .ref (nB g.1 + a0)), (1, .ref (nB g.1 + a1)), (2, .int a2)]) rfl dX4_hasSamePath_1 ?_
  refine X_lv [1, 2, 3, 0] rfl ?_
  refine l_X4_hasSamePath_2 hg _ _ _ _ hr _ ?_ _ _
  refine X_iconst hg ic_i_1 dX4_hasSamePath_35 ?_
  exact X_zret hg hr (Nat.le_of_ble_eq_true rfl) (Nat.le_of_ble_eq_true rfl) dX4_hasSamePath_36
set_option maxRecDepth 10000 in
theorem l_X4_differentPaths_4 {g : XC} {x0 : Int32} (hg : XG g RX4 cX4_differentPaths 4 3 66 0 0) (l0 : Nat) (l1 : Nat) (h : Hp) (hr : XR g (some .int) "differentPaths" (some (.int x0)) h 0 0) (K : Int32 → Option (Int32)) (hK0 : ∀ (l2 : Int32), Xo g x0 4 0 0 30 [(2, .int l2)] [] h (K l2)) : ∀ (n : Nat) (l2 : Int32) (l3 : Int32), Xo g x0 4 0 0 4 [(0, .ref (nB g.1 + l0)), (1, .ref (nB g.1 + l1)), (2, .int l2), (3, .int l3)] [] h (f_X4_differentPaths_L4 l0 l1 h K n l2 l3) := by
  intro n
  induction n with
  | zero =>
    intro l2 l3
    exact X_none
  | succ n ih =>
    intro l2 l3
    unfold f_X4_differentPaths_L4
    refine X_iload_n hg 3 rfl dX4_differentPaths_4 ?_
    refine X_aload_n hg 0 rfl dX4_differentPaths_5 ?_
    refine X_getI hg (j := 4) cf_4 (Nat.le_of_ble_eq_true rfl) (Or.inl rfl) m_262 dX4_differentPaths_6 (fun x1 _ => ?_)
    refine X_icmp_ge hg (tgt := 30) dX4_differentPaths_9 rfl (fun c5 => ?_) (fun c5 => ?_)
    · refine X_lv [2] rfl ?_
      exact hK0 _
    · refine X_aload_n hg 0 rfl dX4_differentPaths_12 ?_
      refine X_aload_n hg 1 rfl dX4_differentPaths_13 ?_
      refine X_iload_n hg 3 rfl dX4_differentPaths_14 ?_
      refine X_cVI0 hg mf_X4_hasSamePath m_819 m_23 m_817 cf_4 (fun _ e => gd_isO e) (fun y e => c_X4_hasSamePath g.1 l0 l1 l3 h y e) (As := [.ref (nB g.1 + l1), .int l3]) rfl (Nat.le_of_ble_eq_true rfl) rfl (Nat.le_of_ble_eq_true rfl) (Nat.le_of_ble_eq_true rfl) (Nat.le_of_ble_eq_true rfl) (Nat.le_of_ble_eq_true rfl) dX4_differentPaths_15 (fun x2 _ => ?_)
      refine X_reg (fun (v3 : Int32) o => Xo g x0 4 0 0 24 [(0, .ref (nB g.1 + l0)), (1, .ref (nB g.1 + l1)), (2, .int v3), (3, .int l3)] [] h o) (fun kv3 hk3 => ?_) (fun v3 => ?_)
      · refine X_ib ?_
        refine X_if_ne hg (tgt := 24) dX4_differentPaths_18 rfl (fun c4 => ?_) (fun c4 => ?_)
        · refine X_iinc hg 2 rfl (v := (l2 + (nI 1))) (icc ic_i_1) (Nat.le_of_ble_eq_true rfl) (lv' := [(2, .int (l2 + (nI 1))), (0, .ref (nB g.1 + l0)), (1, .ref (nB g.1 + l1)), (3, .int l3)]) rfl dX4_differentPaths_21 ?_
          refine X_lv [1, 2, 0, 3] rfl ?_
          exact hk3 (l2 + (nI 1))
        · exact hk3 l2
      · refine X_iinc hg 3 rfl (v := (l3 + (nI 1))) (icc ic_i_1) (Nat.le_of_ble_eq_true rfl) (lv' := [(3, .int (l3 + (nI 1))), (0, .ref (nB g.1 + l0)), (1, .ref (nB g.1 + l1)), (2, .int v3)]) rfl dX4_differentPaths_24 ?_
        refine X_goto hg (tgt := 4) dX4_differentPaths_27 rfl ?_
        refine X_lv [1, 2, 3, 0] rfl ?_
        exact ih _ _
set_option maxRecDepth 10000 in
theorem c_X4_differentPaths (en : EN) (a0 : Nat) (a1 : Nat) (h : Hp) (x0 : Int32) (e : f_X4_differentPaths a0 a1 h = some x0) : Ct en yX4_differentPaths cX4_differentPaths 4 (some .int) 3 66 0 0 [.ref (nB en + a0), .ref (nB en + a1)] h (some (.int x0)) h := by
  refine Ct.of (by decide) rfl (Nat.le_of_ble_eq_true rfl) e (fun g hen hg hr => ?_)
  subst hen
  unfold f_X4_differentPaths
  refine X_gd ?_
  refine X_iconst hg ic_i_0 dX4_differentPaths_0 ?_
  refine X_istore_n hg rfl (Nat.le_of_ble_eq_true rfl) (lv' := [(2, .int (nI 0)), (0, .ref (nB g.1 + a0)), (1, .ref (nB g.1 + a1))]) rfl dX4_differentPaths_1 ?_
  refine X_iconst hg ic_i_0 dX4_differentPaths_2 ?_
  refine X_istore_n hg rfl (Nat.le_of_ble_eq_true rfl) (lv' := [(3, .int (nI 0)), (2, .int (nI 0)), (0, .ref (nB g.1 + a0)), (1, .ref (nB g.1 + a1))]) rfl dX4_differentPaths_3 ?_
  refine X_lv [2, 3, 1, 0] rfl ?_
  refine l_X4_differentPaths_4 hg _ _ _ hr _ (fun y6 => ?_) _ _ _
  refine X_iload_n hg 0 rfl dX4_differentPaths_30 ?_
  exact X_iret hg hr (Nat.le_of_ble_eq_true rfl) (Nat.le_of_ble_eq_true rfl) dX4_differentPaths_31
set_option maxRecDepth 10000 in
theorem l_X4_beginsAsWanted_10 {g : XC} {x0 : Int32} (hg : XG g RX4 cX4_beginsAsWanted 4 2 43 0 0) (l0 : Nat) (l1 : Int32) (l2 : Int32) (h : Hp) (hr : XR g (some .boolean) "beginsAsWanted" (some (.int x0)) h 0 0) (K : Option (Int32)) (hK0 : Xo g x0 4 0 0 44 [] [] h K) : ∀ (n : Nat) (l3 : Int32), Xo g x0 4 0 0 10 [(0, .ref (nB g.1 + l0)), (1, .int l1), (2, .int l2), (3, .int l3)] [] h (f_X4_beginsAsWanted_L10 l0 l1 l2 h K n l3) := by
  intro n
  induction n with
  | zero =>
    intro l3
    exact X_none
  | succ n ih =>
    intro l3
    unfold f_X4_beginsAsWanted_L10
    refine X_iload_n hg 3 rfl dX4_beginsAsWanted_10 ?_
    refine X_iload_n hg 2 rfl dX4_beginsAsWanted_11 ?_
    refine X_icmp_ge hg (tgt := 44) dX4_beginsAsWanted_12 rfl (fun c7 => ?_) (fun c7 => ?_)
    · refine X_lv [] rfl ?_
      exact hK0 
    · refine X_aload_n hg 0 rfl dX4_beginsAsWanted_15 ?_
      refine X_iload_n hg 1 rfl dX4_beginsAsWanted_16 ?_
      refine X_iload_n hg 3 rfl dX4_beginsAsWanted_17 ?_
      refine X_cVI0 hg mf_X4_stepOf m_822 m_823 m_821 cf_4 (fun _ e => gd_isO e) (fun y e => c_X4_stepOf g.1 l0 l1 l3 h y e) (As := [.int l1, .int l3]) rfl (Nat.le_of_ble_eq_true rfl) rfl (Nat.le_of_ble_eq_true rfl) (Nat.le_of_ble_eq_true rfl) (Nat.le_of_ble_eq_true rfl) (Nat.le_of_ble_eq_true rfl) dX4_beginsAsWanted_18 (fun x3 _ => ?_)
      refine X_aload_n hg 0 rfl dX4_beginsAsWanted_21 ?_
      refine X_getR hg (j := 2) cf_4 (Nat.le_of_ble_eq_true rfl) (Or.inl ⟨_, rfl⟩) m_260 dX4_beginsAsWanted_22 (fun x4 _ => ?_)
      refine X_iload_n hg 2 rfl dX4_beginsAsWanted_25 ?_
      refine X_iconst hg ic_i_1 dX4_beginsAsWanted_26 ?_
      refine X_isub hg dX4_beginsAsWanted_27 ?_
      refine X_iload_n hg 3 rfl dX4_beginsAsWanted_28 ?_
      refine X_isub hg dX4_beginsAsWanted_29 ?_
      refine X_cVI0 hg mf_X8_get m_358 m_359 m_849 cf_8 (fun _ e => gd_isO e) (fun y e => c_X8_get g.1 x4 ((l2 - (nI 1)) - l3) h y e) (As := [.int ((l2 - (nI 1)) - l3)]) rfl (Nat.le_of_ble_eq_true rfl) rfl (Nat.le_of_ble_eq_true rfl) (Nat.le_of_ble_eq_true rfl) (Nat.le_of_ble_eq_true rfl) (Nat.le_of_ble_eq_true rfl) dX4_beginsAsWanted_30 (fun x5 _ => ?_)
      refine X_icmp_eq hg (tgt := 38) dX4_beginsAsWanted_33 rfl (fun c6 => ?_) (fun c6 => ?_)
      · refine X_iinc hg 3 rfl (v := (l3 + (nI 1))) (icc ic_i_1) (Nat.le_of_ble_eq_true rfl) (lv' := [(3, .int (l3 + (nI 1))), (0, .ref (nB g.1 + l0)), (1, .int l1), (2, .int l2)]) rfl dX4_beginsAsWanted_38 ?_
        refine X_goto hg (tgt := 10) dX4_beginsAsWanted_41 rfl ?_
        refine X_lv [1, 2, 3, 0] rfl ?_
        exact ih _
      · refine X_iconst hg ic_i_0 dX4_beginsAsWanted_36 ?_
        exact X_zret hg hr (Nat.le_of_ble_eq_true rfl) (Nat.le_of_ble_eq_true rfl) dX4_beginsAsWanted_37
set_option maxRecDepth 10000 in
theorem c_X4_beginsAsWanted (en : EN) (a0 : Nat) (a1 : Int32) (h : Hp) (x0 : Int32) (e : f_X4_beginsAsWanted a0 a1 h = some x0) : Ct en yX4_beginsAsWanted cX4_beginsAsWanted 4 (some .boolean) 2 43 0 0 [.ref (nB en + a0), .int a1] h (some (.int x0)) h := by
  refine Ct.of (by decide) rfl (Nat.le_of_ble_eq_true rfl) e (fun g hen hg hr => ?_)
  subst hen
  unfold f_X4_beginsAsWanted
  refine X_gd ?_
  refine X_aload_n hg 0 rfl dX4_beginsAsWanted_0 ?_
  refine X_getR hg (j := 2) cf_4 (Nat.le_of_ble_eq_true rfl) (Or.inl ⟨_, rfl⟩) m_260 dX4_beginsAsWanted_1 (fun x1 _ => ?_)
  refine X_cVI0 hg mf_X8_size m_337 m_338 m_848 cf_8 (fun _ e => gd_isO e) (fun y e => c_X8_size g.1 x1 h y e) (As := []) rfl (Nat.le_of_ble_eq_true rfl) rfl (Nat.le_of_ble_eq_true rfl) (Nat.le_of_ble_eq_true rfl) (Nat.le_of_ble_eq_true rfl) (Nat.le_of_ble_eq_true rfl) dX4_beginsAsWanted_4 (fun x2 _ => ?_)
  refine X_istore_n hg rfl (Nat.le_of_ble_eq_true rfl) (lv' := [(2, .int x2), (0, .ref (nB g.1 + a0)), (1, .int a1)]) rfl dX4_beginsAsWanted_7 ?_
  refine X_iconst hg ic_i_0 dX4_beginsAsWanted_8 ?_
  refine X_istore_n hg rfl (Nat.le_of_ble_eq_true rfl) (lv' := [(3, .int (nI 0)), (2, .int x2), (0, .ref (nB g.1 + a0)), (1, .int a1)]) rfl dX4_beginsAsWanted_9 ?_
  refine X_lv [2, 3, 1, 0] rfl ?_
  refine l_X4_beginsAsWanted_10 hg _ _ _ _ hr _ ?_ _ _
  refine X_iconst hg ic_i_1 dX4_beginsAsWanted_44 ?_
  exact X_zret hg hr (Nat.le_of_ble_eq_true rfl) (Nat.le_of_ble_eq_true rfl) dX4_beginsAsWanted_45
set_option maxRecDepth 10000 in
theorem c_X8_add (en : EN) (a0 : Nat) (a1 : Int32) (h : Hp) (x0 : Hp) (e : f_X8_add a0 a1 h = some x0) : Ct en yX8_add cX8_add 2 none 1 20 0 0 [.ref (nB en + a0), .int a1] h none x0 := by
  refine Ct.of (by decide) rfl (Nat.le_of_ble_eq_true rfl) e (fun g hen hg hr => ?_)
  subst hen
  unfold f_X8_add
  refine X_gd ?_
  refine X_aload_n hg 0 rfl dX8_add_0 ?_
  refine X_cVI0 hg mf_X8_isFull m_328 m_329 m_335 cf_8 (fun _ e => gd_isO e) (fun y e => c_X8_isFull g.1 a0 h y e) (As := []) rfl (Nat.le_of_ble_eq_true rfl) rfl (Nat.le_of_ble_eq_true rfl) (Nat.le_of_ble_eq_true rfl) (Nat.le_of_ble_eq_true rfl) (Nat.le_of_ble_eq_true rfl) dX8_add_1 (fun x1 _ => ?_)
  refine X_reg (fun (v2 : Hp) o => Xo g x0 2 0 0 27 [] [] v2 o) (fun kv2 hk2 => ?_) (fun v2 => ?_)
  · refine X_ib ?_
    refine X_if_ne hg (tgt := 27) dX8_add_4 rfl (fun c8 => ?_) (fun c8 => ?_)
    · refine X_aload_n hg 0 rfl dX8_add_7 ?_
      refine X_as ?_
      refine X_getR hg (j := 0) cf_8 (Nat.le_of_ble_eq_true rfl) (Or.inr ⟨_, rfl⟩) m_122 dX8_add_8 (fun x3 _ => ?_)
      refine X_aload_n hg 0 rfl dX8_add_11 ?_
      refine X_as ?_
      refine X_getI hg (j := 1) cf_8 (Nat.le_of_ble_eq_true rfl) (Or.inl rfl) m_123 dX8_add_12 (fun x4 _ => ?_)
      refine X_iload_n hg 1 rfl dX8_add_15 ?_
      refine X_as ?_
      refine X_ast hg dX8_add_16 (fun h5 _ => ?_)
      refine X_aload_n hg 0 rfl dX8_add_17 ?_
      refine X_dup hg rfl dX8_add_18 ?_
      refine X_as ?_
      refine X_getI hg (j := 1) cf_8 (Nat.le_of_ble_eq_true rfl) (Or.inl rfl) m_123 dX8_add_19 (fun x6 _ => ?_)
      refine X_iconst hg ic_i_1 dX8_add_22 ?_
      refine X_iadd hg dX8_add_23 ?_
      refine X_as ?_
      refine X_putI hg (j := 1) cf_8 (Nat.le_of_ble_eq_true rfl) rfl (Or.inl rfl) m_123 dX8_add_24 (fun h7 _ => ?_)
      refine X_lv [] rfl ?_
      exact hk2 h7
    · refine X_lv [] rfl ?_
      exact hk2 h
  · exact X_vret hg hr (Nat.le_of_ble_eq_true rfl) (Nat.le_of_ble_eq_true rfl) dX8_add_27
set_option maxRecDepth 10000 in
theorem l_X4_splitDecimals_12 {g : XC} {x0 : Hp} (hg : XG g RX4 cX4_splitDecimals 4 2 41 0 0) (l0 : Nat) (hr : XR g none "splitDecimals" none x0 0 0) (K : Hp → Option (Hp)) (hK0 : ∀ (h : Hp), Xo g x0 4 0 0 44 [] [] h (K h)) : ∀ (n : Nat) (l2 : Int32) (l3 : Int32) (h : Hp), Xo g x0 4 0 0 12 [(0, .ref (nB g.1 + l0)), (2, .int l2), (3, .int l3)] [] h (f_X4_splitDecimals_L12 l0 K n l2 l3 h) := by
  intro n
  induction n with
  | zero =>
    intro l2 l3 h
    exact X_none
  | succ n ih =>
    intro l2 l3 h
    unfold f_X4_splitDecimals_L12
    refine X_iload_n hg 2 rfl dX4_splitDecimals_12 ?_
    refine X_bipush hg ic_b_10 dX4_splitDecimals_13 ?_
    refine X_icmp_ge hg (tgt := 44) dX4_splitDecimals_15 rfl (fun c6 => ?_) (fun c6 => ?_)
    · refine X_lv [] rfl ?_
      exact hK0  _
    · refine X_iload_n hg 1 rfl dX4_splitDecimals_18 ?_
      refine X_if_le hg (tgt := 44) dX4_splitDecimals_19 rfl (fun c5 => ?_) (fun c5 => ?_)
      · refine X_lv [] rfl ?_
        exact hK0  _
      · refine X_aload_n hg 0 rfl dX4_splitDecimals_22 ?_
        refine X_getR hg (j := 2) cf_4 (Nat.le_of_ble_eq_true rfl) (Or.inl ⟨_, rfl⟩) m_260 dX4_splitDecimals_23 (fun x3 _ => ?_)
        refine X_iload_n hg 1 rfl dX4_splitDecimals_26 ?_
        refine X_bipush hg ic_b_10 dX4_splitDecimals_27 ?_
        refine X_irem hg (by decide) dX4_splitDecimals_29 ?_
        refine X_cVV0 hg mf_X8_add m_332 m_333 m_843 cf_8 (fun _ e => gd_isO e) (fun y e => c_X8_add g.1 x3 (l2 - l2 / (nI 10) * (nI 10)) h y e) (As := [.int (l2 - l2 / (nI 10) * (nI 10))]) rfl (Nat.le_of_ble_eq_true rfl) rfl (Nat.le_of_ble_eq_true rfl) (Nat.le_of_ble_eq_true rfl) (Nat.le_of_ble_eq_true rfl) (Nat.le_of_ble_eq_true rfl) dX4_splitDecimals_30 (fun h4 _ => ?_)
        refine X_iload_n hg 1 rfl dX4_splitDecimals_33 ?_
        refine X_bipush hg ic_b_10 dX4_splitDecimals_34 ?_
        refine X_idiv hg (by decide) dX4_splitDecimals_36 ?_
        refine X_istore_n hg rfl (Nat.le_of_ble_eq_true rfl) (lv' := [(2, .int (l2 / (nI 10))), (0, .ref (nB g.1 + l0)), (3, .int l3)]) rfl dX4_splitDecimals_37 ?_
        refine X_iinc hg 2 rfl (v := (l3 + (nI 1))) (icc ic_i_1) (Nat.le_of_ble_eq_true rfl) (lv' := [(3, .int (l3 + (nI 1))), (2, .int (l2 / (nI 10))), (0, .ref (nB g.1 + l0))]) rfl dX4_splitDecimals_38 ?_
        refine X_goto hg (tgt := 12) dX4_splitDecimals_41 rfl ?_
        refine X_lv [2, 1, 0] rfl ?_
        exact ih _ _ _
set_option maxRecDepth 10000 in
theorem c_X4_splitDecimals (en : EN) (a0 : Nat) (a1 : Int32) (h : Hp) (x0 : Hp) (e : f_X4_splitDecimals a0 a1 h = some x0) : Ct en yX4_splitDecimals cX4_splitDecimals 4 none 2 41 0 0 [.ref (nB en + a0), .int a1] h none x0 := by
  refine Ct.of (by decide) rfl (Nat.le_of_ble_eq_true rfl) e (fun g hen hg hr => ?_)
  subst hen
  unfold f_X4_splitDecimals
  refine X_gd ?_
  refine X_aload_n hg 0 rfl dX4_splitDecimals_0 ?_
  refine X_getR hg (j := 2) cf_4 (Nat.le_of_ble_eq_true rfl) (Or.inl ⟨_, rfl⟩) m_260 dX4_splitDecimals_1 (fun x1 _ => ?_)
  refine X_cVIW0 hg mf_X8_clear m_345 m_346 m_842 cf_8 (fun _ e => gd_isO e) (fun y e => c_X8_clear g.1 x1 h y e) (As := []) rfl (Nat.le_of_ble_eq_true rfl) rfl (Nat.le_of_ble_eq_true rfl) (Nat.le_of_ble_eq_true rfl) (Nat.le_of_ble_eq_true rfl) (Nat.le_of_ble_eq_true rfl) dX4_splitDecimals_4 (fun p2 _ => ?_)
  refine X_pop hg rfl dX4_splitDecimals_7 ?_
  refine X_iload_n hg 1 rfl dX4_splitDecimals_8 ?_
  refine X_istore_n hg rfl (Nat.le_of_ble_eq_true rfl) (lv' := [(2, .int a1), (0, .ref (nB g.1 + a0)), (1, .int a1)]) rfl dX4_splitDecimals_9 ?_
  refine X_iconst hg ic_i_0 dX4_splitDecimals_10 ?_
  refine X_istore_n hg rfl (Nat.le_of_ble_eq_true rfl) (lv' := [(3, .int (nI 0)), (2, .int a1), (0, .ref (nB g.1 + a0)), (1, .int a1)]) rfl dX4_splitDecimals_11 ?_
  refine X_lv [2, 1, 0] rfl ?_
  refine l_X4_splitDecimals_12 hg _ hr _ (fun h7 => ?_) _ _ _ _
  exact X_vret hg hr (Nat.le_of_ble_eq_true rfl) (Nat.le_of_ble_eq_true rfl) dX4_splitDecimals_44
set_option maxRecDepth 10000 in
theorem l_X4_follow_14 {g : XC} {x0 : Int32 × Hp} (hg : XG g RX4 cX4_follow 3 3 66 0 0) (l0 : Nat) (h : Hp) (hr : XR g (some .int) "follow" (some (.int x0.1)) x0.2 0 0) (K : Option (Int32 × Hp)) (hK0 : Xo g x0 3 0 0 58 [] [] h K) : ∀ (n : Nat) (l2 : Int32), Xo g x0 3 0 0 14 [(0, .ref (nB g.1 + l0)), (2, .int l2)] [] h (f_X4_follow_L14 l0 h K n l2) := by
  intro n
  induction n with
  | zero =>
    intro l2
    exact X_none
  | succ n ih =>
    intro l2
    unfold f_X4_follow_L14
    refine X_iload_n hg 1 rfl dX4_follow_14 ?_
    refine X_aload_n hg 0 rfl dX4_follow_15 ?_
    refine X_getI hg (j := 4) cf_4 (Nat.le_of_ble_eq_true rfl) (Or.inl rfl) m_262 dX4_follow_16 (fun x2 _ => ?_)
    refine X_icmp_ge hg (tgt := 58) dX4_follow_19 rfl (fun c11 => ?_) (fun c11 => ?_)
    · refine X_lv [] rfl ?_
      exact hK0 
    · refine X_aload_n hg 0 rfl dX4_follow_22 ?_
      refine X_iload_n hg 1 rfl dX4_follow_23 ?_
      refine X_cVI0 hg mf_X4_beginsAsWanted m_846 m_25 m_844 cf_4 (fun _ e => gd_isO e) (fun y e => c_X4_beginsAsWanted g.1 l0 l2 h y e) (As := [.int l2]) rfl (Nat.le_of_ble_eq_true rfl) rfl (Nat.le_of_ble_eq_true rfl) (Nat.le_of_ble_eq_true rfl) (Nat.le_of_ble_eq_true rfl) (Nat.le_of_ble_eq_true rfl) dX4_follow_24 (fun x3 _ => ?_)
      refine X_if_eq hg (tgt := 52) dX4_follow_27 rfl (fun c10 => ?_) (fun c10 => ?_)
      · refine X_iinc hg 1 rfl (v := (l2 + (nI 1))) (icc ic_i_1) (Nat.le_of_ble_eq_true rfl) (lv' := [(2, .int (l2 + (nI 1))), (0, .ref (nB g.1 + l0))]) rfl dX4_follow_52 ?_
        refine X_goto hg (tgt := 14) dX4_follow_55 rfl ?_
        refine X_lv [1, 0] rfl ?_
        exact ih _
      · refine X_aload_n hg 0 rfl dX4_follow_30 ?_
        refine X_getR hg (j := 1) cf_4 (Nat.le_of_ble_eq_true rfl) (Or.inr ⟨_, rfl⟩) m_259 dX4_follow_31 (fun x4 _ => ?_)
        refine X_iload_n hg 1 rfl dX4_follow_34 ?_
        refine X_ald hg dX4_follow_35 (fun x5 _ => ?_)
        refine X_aload_n hg 0 rfl dX4_follow_36 ?_
        refine X_getR hg (j := 2) cf_4 (Nat.le_of_ble_eq_true rfl) (Or.inl ⟨_, rfl⟩) m_260 dX4_follow_37 (fun x6 _ => ?_)
        refine X_cVI0 hg mf_X8_size m_337 m_338 m_848 cf_8 (fun _ e => gd_isO e) (fun y e => c_X8_size g.1 x6 h y e) (As := []) rfl (Nat.le_of_ble_eq_true rfl) rfl (Nat.le_of_ble_eq_true rfl) (Nat.le_of_ble_eq_true rfl) (Nat.le_of_ble_eq_true rfl) (Nat.le_of_ble_eq_true rfl) dX4_follow_40 (fun x7 _ => ?_)
        refine X_reg (fun (v8 : Int32) o => Xo g x0 3 0 0 51 [] [.int v8] h o) (fun kv8 hk8 => ?_) (fun v8 => ?_)
        · refine X_ib ?_
          refine X_icmp_ne hg (tgt := 50) dX4_follow_43 rfl (fun c9 => ?_) (fun c9 => ?_)
          · refine X_iload_n hg 1 rfl dX4_follow_46 ?_
            refine X_goto hg (tgt := 51) dX4_follow_47 rfl ?_
            refine X_lv [] rfl ?_
            exact hk8 l2
          · refine X_iconst hg ic_i_m1 dX4_follow_50 ?_
            refine X_lv [] rfl ?_
            exact hk8 m1
        · exact X_iretW hg hr (Nat.le_of_ble_eq_true rfl) (Nat.le_of_ble_eq_true rfl) dX4_follow_51
set_option maxRecDepth 10000 in
theorem c_X4_follow (en : EN) (a0 : Nat) (a1 : Int32) (h : Hp) (x0 : Int32 × Hp) (e : f_X4_follow a0 a1 h = some x0) : Ct en yX4_follow cX4_follow 3 (some .int) 3 66 0 0 [.ref (nB en + a0), .int a1] h (some (.int x0.1)) x0.2 := by
  refine Ct.of (by decide) rfl (Nat.le_of_ble_eq_true rfl) e (fun g hen hg hr => ?_)
  subst hen
  unfold f_X4_follow
  refine X_gd ?_
  refine X_iload_n hg 1 rfl dX4_follow_0 ?_
  refine X_if_ge hg (tgt := 7) dX4_follow_1 rfl (fun c12 => ?_) (fun c12 => ?_)
  · refine X_aload_n hg 0 rfl dX4_follow_7 ?_
    refine X_iload_n hg 1 rfl dX4_follow_8 ?_
    refine X_cVV0 hg mf_X4_splitDecimals m_840 m_24 m_838 cf_4 (fun _ e => gd_isO e) (fun y e => c_X4_splitDecimals g.1 a0 a1 h y e) (As := [.int a1]) rfl (Nat.le_of_ble_eq_true rfl) rfl (Nat.le_of_ble_eq_true rfl) (Nat.le_of_ble_eq_true rfl) (Nat.le_of_ble_eq_true rfl) (Nat.le_of_ble_eq_true rfl) dX4_follow_9 (fun h1 _ => ?_)
    refine X_iconst hg ic_i_0 dX4_follow_12 ?_
    refine X_istore_n hg rfl (Nat.le_of_ble_eq_true rfl) (lv' := [(2, .int (nI 0)), (0, .ref (nB g.1 + a0)), (1, .int a1)]) rfl dX4_follow_13 ?_
    refine X_lv [1, 0] rfl ?_
    refine l_X4_follow_14 hg _ _ hr _ ?_ _ _
    refine X_bipush hg ic_b_m101 dX4_follow_58 ?_
    exact X_iretW hg hr (Nat.le_of_ble_eq_true rfl) (Nat.le_of_ble_eq_true rfl) dX4_follow_60
  · refine X_bipush hg ic_b_m101 dX4_follow_4 ?_
    exact X_iretW hg hr (Nat.le_of_ble_eq_true rfl) (Nat.le_of_ble_eq_true rfl) dX4_follow_6
set_option maxRecDepth 10000 in
theorem c_X5_init (en : EN) (a0 : Nat) (h : Hp) (x0 : Hp) (e : f_X5_init a0 h = some x0) : Ct en yX5_init cX5_init 1 none 1 24 14 2181 [.ref (nB en + a0)] h none x0 := by
  refine Ct.of (by decide) rfl (Nat.le_of_ble_eq_true rfl) e (fun g hen hg hr => ?_)
  subst hen
  unfold f_X5_init
  refine X_gd ?_
  refine X_aload_n hg 0 rfl dX5_init_0 ?_
  refine X_obji hg m_233 m_oi m_oc (Nat.le_of_ble_eq_true rfl) (Nat.le_of_ble_eq_true rfl) dX5_init_1 ?_
  refine X_aload_n hg 0 rfl dX5_init_4 ?_
  refine X_bipush hg ic_b_15 dX5_init_5 ?_
  refine X_newA hg m_arrI (Nat.le_of_ble_eq_true rfl) (Nat.le_of_ble_eq_true rfl) (Nat.le_of_ble_eq_true rfl) dX5_init_7 (fun h1 _ => ?_)
  refine X_putRF hg hr.2.2.1 (j := 0) cf_5 (Nat.le_of_ble_eq_true rfl) rfl rfl (Or.inr ⟨_, rfl⟩) m_236 dX5_init_9 (fun h2 _ => ?_)
  refine X_aload_n hg 0 rfl dX5_init_12 ?_
  refine X_iconst hg ic_i_5 dX5_init_13 ?_
  refine X_sipush hg ic_s_196 dX5_init_14 ?_
  refine X_newMB hg (N := 5) (K' := 196) (by decide) (by decide) (by decide) (by decide) (Nat.le_of_ble_eq_true rfl) (Nat.le_of_ble_eq_true rfl) m_234 m_ovA m_arrI (Nat.le_of_ble_eq_true rfl) (Nat.le_of_ble_eq_true rfl) dX5_init_17 (fun h3 _ => ?_)
  refine X_putRF hg hr.2.2.1 (j := 1) cf_5 (Nat.le_of_ble_eq_true rfl) rfl rfl (Or.inr ⟨_, rfl⟩) m_237 dX5_init_21 (fun h4 _ => ?_)
  refine X_aload_n hg 0 rfl dX5_init_24 ?_
  refine X_iconst hg ic_i_5 dX5_init_25 ?_
  refine X_sipush hg ic_s_196 dX5_init_26 ?_
  refine X_newMB hg (N := 5) (K' := 196) (by decide) (by decide) (by decide) (by decide) (Nat.le_of_ble_eq_true rfl) (Nat.le_of_ble_eq_true rfl) m_234 m_ovA m_arrI (Nat.le_of_ble_eq_true rfl) (Nat.le_of_ble_eq_true rfl) dX5_init_29 (fun h5 _ => ?_)
  refine X_putRF hg hr.2.2.1 (j := 2) cf_5 (Nat.le_of_ble_eq_true rfl) rfl rfl (Or.inr ⟨_, rfl⟩) m_238 dX5_init_33 (fun h6 _ => ?_)
  refine X_aload_n hg 0 rfl dX5_init_36 ?_
  refine X_sipush hg ic_s_196 dX5_init_37 ?_
  refine X_newA hg m_arrI (Nat.le_of_ble_eq_true rfl) (Nat.le_of_ble_eq_true rfl) (Nat.le_of_ble_eq_true rfl) dX5_init_40 (fun h7 _ => ?_)
  refine X_putRF hg hr.2.2.1 (j := 3) cf_5 (Nat.le_of_ble_eq_true rfl) rfl rfl (Or.inr ⟨_, rfl⟩) m_239 dX5_init_42 (fun h8 _ => ?_)
  exact X_vret hg hr (Nat.le_of_ble_eq_true rfl) (Nat.le_of_ble_eq_true rfl) dX5_init_45
set_option maxRecDepth 10000 in
theorem c_X5_run (en : EN) (a0 : Int32) (a1 : Int32) (h : Hp) (x0 : Int32) (e : f_X5_run a0 a1 h = some x0) : Ct en yX5_run cX5_run 3 (some .int) 0 0 0 0 [.int a0, .int a1] h (some (.int x0)) h := by
  refine Ct.of (by decide) rfl (Nat.le_of_ble_eq_true rfl) e (fun g hen hg hr => ?_)
  subst hen
  unfold f_X5_run
  refine X_iload_n hg 0 rfl dX5_run_0 ?_
  refine X_reg (fun (v1 : Int32) o => Xo g x0 3 0 0 22 [(0, .int a0), (1, .int a1)] [.int v1] h o) (fun kv1 hk1 => ?_) (fun v1 => ?_)
  · refine X_ib ?_
    refine X_if_lt hg (tgt := 21) dX5_run_1 rfl (fun c4 => ?_) (fun c4 => ?_)
    · refine X_iconst hg ic_i_0 dX5_run_21 ?_
      exact hk1 (nI 0)
    · refine X_iload_n hg 1 rfl dX5_run_4 ?_
      refine X_iconst hg ic_i_1 dX5_run_5 ?_
      refine X_ib ?_
      refine X_icmp_lt hg (tgt := 21) dX5_run_6 rfl (fun c3 => ?_) (fun c3 => ?_)
      · refine X_iconst hg ic_i_0 dX5_run_21 ?_
        exact hk1 (nI 0)
      · refine X_iload_n hg 1 rfl dX5_run_9 ?_
        refine X_bipush hg ic_b_14 dX5_run_10 ?_
        refine X_iload_n hg 0 rfl dX5_run_12 ?_
        refine X_isub hg dX5_run_13 ?_
        refine X_ib ?_
        refine X_icmp_gt hg (tgt := 21) dX5_run_14 rfl (fun c2 => ?_) (fun c2 => ?_)
        · refine X_iconst hg ic_i_0 dX5_run_21 ?_
          exact hk1 (nI 0)
        · refine X_iconst hg ic_i_1 dX5_run_17 ?_
          refine X_goto hg (tgt := 22) dX5_run_18 rfl ?_
          exact hk1 (nI 1)
  · refine X_istore_n hg rfl (Nat.le_of_ble_eq_true rfl) (lv' := [(2, .int v1), (0, .int a0), (1, .int a1)]) rfl dX5_run_22 ?_
    refine X_iload_n hg 0 rfl dX5_run_23 ?_
    refine X_reg (fun (v5 : Int32) o => Xo g x0 3 0 0 39 [] [.int v5] h o) (fun kv5 hk5 => ?_) (fun v5 => ?_)
    · refine X_ib ?_
      refine X_if_eq hg (tgt := 38) dX5_run_24 rfl (fun c6 => ?_) (fun c6 => ?_)
      · refine X_iconst hg ic_i_0 dX5_run_38 ?_
        refine X_lv [] rfl ?_
        exact hk5 (nI 0)
      · refine X_iload_n hg 1 rfl dX5_run_27 ?_
        refine X_bipush hg ic_b_14 dX5_run_28 ?_
        refine X_imul hg dX5_run_30 ?_
        refine X_iload_n hg 2 rfl dX5_run_31 ?_
        refine X_iadd hg dX5_run_32 ?_
        refine X_iconst hg ic_i_1 dX5_run_33 ?_
        refine X_isub hg dX5_run_34 ?_
        refine X_goto hg (tgt := 39) dX5_run_35 rfl ?_
        refine X_lv [] rfl ?_
        exact hk5 (((a0 * (nI 14)) + a1) - (nI 1))
    · exact X_iret hg hr (Nat.le_of_ble_eq_true rfl) (Nat.le_of_ble_eq_true rfl) dX5_run_39
set_option maxRecDepth 10000 in
theorem c_X5_firstSizeOf (en : EN) (a0 : Nat) (a1 : Int32) (a2 : Int32) (a3 : Int32) (h : Hp) (x0 : Int32) (e : f_X5_firstSizeOf a0 a1 a2 a3 h = some x0) : Ct en yX5_firstSizeOf cX5_firstSizeOf 4 (some .int) 1 22 0 0 [.ref (nB en + a0), .int a1, .int a2, .int a3] h (some (.int x0)) h := by
  refine Ct.of (by decide) rfl (Nat.le_of_ble_eq_true rfl) e (fun g hen hg hr => ?_)
  subst hen
  unfold f_X5_firstSizeOf
  refine X_gd ?_
  refine X_iload_n hg 1 rfl dX5_firstSizeOf_0 ?_
  refine X_iconst hg ic_i_1 dX5_firstSizeOf_1 ?_
  refine X_reg (fun (v1 : Int32) o => Xo g x0 4 0 0 26 [] [.int v1] h o) (fun kv1 hk1 => ?_) (fun v1 => ?_)
  · refine X_ib ?_
    refine X_icmp_lt hg (tgt := 25) dX5_firstSizeOf_2 rfl (fun c7 => ?_) (fun c7 => ?_)
    · refine X_iload_n hg 3 rfl dX5_firstSizeOf_25 ?_
      refine X_lv [] rfl ?_
      exact hk1 a3
    · refine X_iload_n hg 1 rfl dX5_firstSizeOf_5 ?_
      refine X_iconst hg ic_i_4 dX5_firstSizeOf_6 ?_
      refine X_ib ?_
      refine X_icmp_gt hg (tgt := 25) dX5_firstSizeOf_7 rfl (fun c6 => ?_) (fun c6 => ?_)
      · refine X_iload_n hg 3 rfl dX5_firstSizeOf_25 ?_
        refine X_lv [] rfl ?_
        exact hk1 a3
      · refine X_aload_n hg 0 rfl dX5_firstSizeOf_10 ?_
        refine X_as ?_
        refine X_getR hg (j := 2) cf_5 (Nat.le_of_ble_eq_true rfl) (Or.inr ⟨_, rfl⟩) m_238 dX5_firstSizeOf_11 (fun x2 _ => ?_)
        refine X_iload_n hg 1 rfl dX5_firstSizeOf_14 ?_
        refine X_as ?_
        refine X_aldA hg dX5_firstSizeOf_15 (fun x3 _ => ?_)
        refine X_iload_n hg 2 rfl dX5_firstSizeOf_16 ?_
        refine X_iload_n hg 3 rfl dX5_firstSizeOf_17 ?_
        refine X_as ?_
        refine X_cSI0 hg mf_X5_run m_587 m_586 (fun y e => c_X5_run g.1 a2 a3 h y e) (As := [.int a2, .int a3]) rfl (Nat.le_of_ble_eq_true rfl) rfl (Nat.le_of_ble_eq_true rfl) (Nat.le_of_ble_eq_true rfl) (Nat.le_of_ble_eq_true rfl) (Nat.le_of_ble_eq_true rfl) dX5_firstSizeOf_18 (fun x4 _ => ?_)
        refine X_as ?_
        refine X_ald hg dX5_firstSizeOf_21 (fun x5 _ => ?_)
        refine X_goto hg (tgt := 26) dX5_firstSizeOf_22 rfl ?_
        refine X_lv [] rfl ?_
        exact hk1 x5
  · exact X_iret hg hr (Nat.le_of_ble_eq_true rfl) (Nat.le_of_ble_eq_true rfl) dX5_firstSizeOf_26
set_option maxRecDepth 10000 in
theorem l_X5_layPath_67 {g : XC} {x0 : Hp} (hg : XG g RX5 cX5_layPath 11 2 45 0 0) (l0 : Nat) (l1 : Nat) (l2 : Int32) (l6 : Int32) (h : Hp) (hr : XR g none "layPath" none x0 0 0) (K : Int32 → Int32 → Int32 → Option (Hp)) (hK0 : ∀ (l4 : Int32) (l8 : Int32) (l9 : Int32), Xo g x0 11 0 0 117 [(0, .ref (nB g.1 + l0)), (1, .ref (nB g.1 + l1)), (2, .int l2), (4, .int l4), (6, .int l6), (8, .int l8), (9, .int l9)] [] h (K l4 l8 l9)) : ∀ (n : Nat) (l4 : Int32) (l5 : Int32) (l8 : Int32) (l9 : Int32) (l10 : Int32), Xo g x0 11 0 0 67 [(0, .ref (nB g.1 + l0)), (1, .ref (nB g.1 + l1)), (2, .int l2), (4, .int l4), (5, .int l5), (6, .int l6), (8, .int l8), (9, .int l9), (10, .int l10)] [] h (f_X5_layPath_L67 l0 l1 l2 l6 h K n l4 l5 l8 l9 l10) := by
  intro n
  induction n with
  | zero =>
    intro l4 l5 l8 l9 l10
    exact X_none
  | succ n ih =>
    intro l4 l5 l8 l9 l10
    unfold f_X5_layPath_L67
    refine X_iload hg 8 rfl dX5_layPath_67 ?_
    refine X_iconst hg ic_i_1 dX5_layPath_69 ?_
    refine X_icmp_lt hg (tgt := 117) dX5_layPath_70 rfl (fun c10 => ?_) (fun c10 => ?_)
    · refine X_lv [0, 1, 2, 3, 5, 6, 7] rfl ?_
      exact hK0 _ _ _
    · refine X_iload_n hg 2 rfl dX5_layPath_73 ?_
      refine X_iload hg 3 rfl dX5_layPath_74 ?_
      refine X_iload hg 7 rfl dX5_layPath_76 ?_
      refine X_iadd hg dX5_layPath_78 ?_
      refine X_icmp_lt hg (tgt := 117) dX5_layPath_79 rfl (fun c9 => ?_) (fun c9 => ?_)
      · refine X_lv [0, 1, 2, 3, 5, 6, 7] rfl ?_
        exact hK0 _ _ _
      · refine X_iload hg 3 rfl dX5_layPath_82 ?_
        refine X_iload hg 7 rfl dX5_layPath_84 ?_
        refine X_iadd hg dX5_layPath_86 ?_
        refine X_istore hg (Nat.le_of_ble_eq_true rfl) (lv' := [(4, .int (l4 + l9)), (0, .ref (nB g.1 + l0)), (1, .ref (nB g.1 + l1)), (2, .int l2), (5, .int l5), (6, .int l6), (8, .int l8), (9, .int l9), (10, .int l10)]) rfl dX5_layPath_87 ?_
        refine X_iload hg 4 rfl dX5_layPath_89 ?_
        refine X_iload hg 7 rfl dX5_layPath_91 ?_
        refine X_isub hg dX5_layPath_93 ?_
        refine X_istore hg (Nat.le_of_ble_eq_true rfl) (lv' := [(5, .int (l5 - l9)), (4, .int (l4 + l9)), (0, .ref (nB g.1 + l0)), (1, .ref (nB g.1 + l1)), (2, .int l2), (6, .int l6), (8, .int l8), (9, .int l9), (10, .int l10)]) rfl dX5_layPath_94 ?_
        refine X_iinc hg 6 rfl (v := (l8 + (nI 1))) (icc ic_i_1) (Nat.le_of_ble_eq_true rfl) (lv' := [(8, .int (l8 + (nI 1))), (5, .int (l5 - l9)), (4, .int (l4 + l9)), (0, .ref (nB g.1 + l0)), (1, .ref (nB g.1 + l1)), (2, .int l2), (6, .int l6), (9, .int l9), (10, .int l10)]) rfl dX5_layPath_96 ?_
        refine X_aload_n hg 3 rfl dX5_layPath_99 ?_
        refine X_iload hg 8 rfl dX5_layPath_100 ?_
        refine X_iload hg 2 rfl dX5_layPath_102 ?_
        refine X_iload hg 1 rfl dX5_layPath_104 ?_
        refine X_cVI0 hg mf_X5_firstSizeOf m_616 m_15 m_614 cf_5 (fun _ e => gd_isO e) (fun y e => c_X5_firstSizeOf g.1 l0 l10 (l4 + l9) (l5 - l9) h y e) (As := [.int l10, .int (l4 + l9), .int (l5 - l9)]) rfl (Nat.le_of_ble_eq_true rfl) rfl (Nat.le_of_ble_eq_true rfl) (Nat.le_of_ble_eq_true rfl) (Nat.le_of_ble_eq_true rfl) (Nat.le_of_ble_eq_true rfl) dX5_layPath_106 (fun x8 _ => ?_)
        refine X_istore hg (Nat.le_of_ble_eq_true rfl) (lv' := [(9, .int x8), (8, .int (l8 + (nI 1))), (5, .int (l5 - l9)), (4, .int (l4 + l9)), (0, .ref (nB g.1 + l0)), (1, .ref (nB g.1 + l1)), (2, .int l2), (6, .int l6), (10, .int l10)]) rfl dX5_layPath_109 ?_
        refine X_iinc hg 8 rfl (v := (l10 + m1)) (icc ic_i_m1) (Nat.le_of_ble_eq_true rfl) (lv' := [(10, .int (l10 + m1)), (9, .int x8), (8, .int (l8 + (nI 1))), (5, .int (l5 - l9)), (4, .int (l4 + l9)), (0, .ref (nB g.1 + l0)), (1, .ref (nB g.1 + l1)), (2, .int l2), (6, .int l6)]) rfl dX5_layPath_111 ?_
        refine X_goto hg (tgt := 67) dX5_layPath_114 rfl ?_
        refine X_lv [5, 6, 7, 4, 3, 8, 2, 1, 0] rfl ?_
        exact ih _ _ _ _ _
set_option maxRecDepth 10000 in
theorem l_X5_layPath_9 {g : XC} {x0 : Hp} (hg : XG g RX5 cX5_layPath 11 2 45 0 0) (l0 : Nat) (l1 : Nat) (l2 : Int32) (hr : XR g none "layPath" none x0 0 0) (K : Hp → Option (Hp)) (hK0 : ∀ (h : Hp), Xo g x0 11 0 0 134 [] [] h (K h)) : ∀ (n : Nat) (l4 : Int32) (l5 : Int32) (l6 : Int32) (h : Hp), Xo g x0 11 0 0 9 [(0, .ref (nB g.1 + l0)), (1, .ref (nB g.1 + l1)), (2, .int l2), (4, .int l4), (5, .int l5), (6, .int l6)] [] h (f_X5_layPath_L9 l0 l1 l2 K n l4 l5 l6 h) := by
  intro n
  induction n with
  | zero =>
    intro l4 l5 l6 h
    exact X_none
  | succ n ih =>
    intro l4 l5 l6 h
    unfold f_X5_layPath_L9
    refine X_iload hg 5 rfl dX5_layPath_9 ?_
    refine X_bipush hg ic_b_13 dX5_layPath_11 ?_
    refine X_icmp_ge hg (tgt := 134) dX5_layPath_13 rfl (fun c16 => ?_) (fun c16 => ?_)
    · refine X_lv [] rfl ?_
      exact hK0  _
    · refine X_iload hg 4 rfl dX5_layPath_16 ?_
      refine X_iconst hg ic_i_1 dX5_layPath_18 ?_
      refine X_icmp_le hg (tgt := 134) dX5_layPath_19 rfl (fun c15 => ?_) (fun c15 => ?_)
      · refine X_lv [] rfl ?_
        exact hK0  _
      · refine X_iload hg 3 rfl dX5_layPath_22 ?_
        refine X_iload_n hg 2 rfl dX5_layPath_24 ?_
        refine X_reg (fun (v1 : Hp) o => Xo g x0 11 0 0 32 [(0, .ref (nB g.1 + l0)), (1, .ref (nB g.1 + l1)), (2, .int l2), (4, .int l4), (5, .int l5), (6, .int l6)] [] v1 o) (fun kv1 hk1 => ?_) (fun v1 => ?_)
        · refine X_ib ?_
          refine X_icmp_ne hg (tgt := 32) dX5_layPath_25 rfl (fun c3 => ?_) (fun c3 => ?_)
          · refine X_aload_n hg 1 rfl dX5_layPath_28 ?_
            refine X_as ?_
            refine X_cVV0 hg mf_X4_addBranching m_611 m_612 m_610 cf_4 (fun _ e => gd_isO e) (fun y e => c_X4_addBranching g.1 l1 h y e) (As := []) rfl (Nat.le_of_ble_eq_true rfl) rfl (Nat.le_of_ble_eq_true rfl) (Nat.le_of_ble_eq_true rfl) (Nat.le_of_ble_eq_true rfl) (Nat.le_of_ble_eq_true rfl) dX5_layPath_29 (fun h2 _ => ?_)
            exact hk1 h2
          · exact hk1 h
        · refine X_aload_n hg 0 rfl dX5_layPath_32 ?_
          refine X_getR hg (j := 3) cf_5 (Nat.le_of_ble_eq_true rfl) (Or.inr ⟨_, rfl⟩) m_239 dX5_layPath_33 (fun x4 _ => ?_)
          refine X_iload hg 3 rfl dX5_layPath_36 ?_
          refine X_iload hg 4 rfl dX5_layPath_38 ?_
          refine X_cSI0 hg mf_X5_run m_587 m_586 (fun y e => c_X5_run g.1 l4 l5 v1 y e) (As := [.int l4, .int l5]) rfl (Nat.le_of_ble_eq_true rfl) rfl (Nat.le_of_ble_eq_true rfl) (Nat.le_of_ble_eq_true rfl) (Nat.le_of_ble_eq_true rfl) (Nat.le_of_ble_eq_true rfl) dX5_layPath_40 (fun x5 _ => ?_)
          refine X_ald hg dX5_layPath_43 (fun x6 _ => ?_)
          refine X_istore hg (Nat.le_of_ble_eq_true rfl) (lv' := [(7, .int x6), (0, .ref (nB g.1 + l0)), (1, .ref (nB g.1 + l1)), (2, .int l2), (4, .int l4), (5, .int l5), (6, .int l6)]) rfl dX5_layPath_44 ?_
          refine X_iconst hg ic_i_1 dX5_layPath_46 ?_
          refine X_istore hg (Nat.le_of_ble_eq_true rfl) (lv' := [(8, .int (nI 1)), (7, .int x6), (0, .ref (nB g.1 + l0)), (1, .ref (nB g.1 + l1)), (2, .int l2), (4, .int l4), (5, .int l5), (6, .int l6)]) rfl dX5_layPath_47 ?_
          refine X_aload_n hg 2 rfl dX5_layPath_49 ?_
          refine X_iload hg 1 rfl dX5_layPath_50 ?_
          refine X_iload hg 5 rfl dX5_layPath_52 ?_
          refine X_iload hg 6 rfl dX5_layPath_54 ?_
          refine X_cVI0 hg mf_X5_firstSizeOf m_616 m_15 m_614 cf_5 (fun _ e => gd_isO e) (fun y e => c_X5_firstSizeOf g.1 l0 x6 l4 l5 v1 y e) (As := [.int x6, .int l4, .int l5]) rfl (Nat.le_of_ble_eq_true rfl) rfl (Nat.le_of_ble_eq_true rfl) (Nat.le_of_ble_eq_true rfl) (Nat.le_of_ble_eq_true rfl) (Nat.le_of_ble_eq_true rfl) dX5_layPath_56 (fun x7 _ => ?_)
          refine X_istore hg (Nat.le_of_ble_eq_true rfl) (lv' := [(9, .int x7), (8, .int (nI 1)), (7, .int x6), (0, .ref (nB g.1 + l0)), (1, .ref (nB g.1 + l1)), (2, .int l2), (4, .int l4), (5, .int l5), (6, .int l6)]) rfl dX5_layPath_59 ?_
          refine X_iload hg 2 rfl dX5_layPath_61 ?_
          refine X_iconst hg ic_i_1 dX5_layPath_63 ?_
          refine X_isub hg dX5_layPath_64 ?_
          refine X_istore hg (Nat.le_of_ble_eq_true rfl) (lv' := [(10, .int (x6 - (nI 1))), (9, .int x7), (8, .int (nI 1)), (7, .int x6), (0, .ref (nB g.1 + l0)), (1, .ref (nB g.1 + l1)), (2, .int l2), (4, .int l4), (5, .int l5), (6, .int l6)]) rfl dX5_layPath_65 ?_
          refine X_lv [4, 5, 6, 7, 8, 9, 2, 1, 0] rfl ?_
          refine l_X5_layPath_67 hg _ _ _ _ _ hr _ (fun y11 y12 y13 => ?_) _ _ _ _ _ _
          refine X_iload hg 6 rfl dX5_layPath_117 ?_
          refine X_istore hg (Nat.le_of_ble_eq_true rfl) (lv' := [(5, .int y13), (0, .ref (nB g.1 + l0)), (1, .ref (nB g.1 + l1)), (2, .int l2), (4, .int y11), (6, .int l6), (8, .int y12), (9, .int y13)]) rfl dX5_layPath_119 ?_
          refine X_aload_n hg 2 rfl dX5_layPath_121 ?_
          refine X_iload_n hg 3 rfl dX5_layPath_122 ?_
          refine X_iload hg 6 rfl dX5_layPath_123 ?_
          refine X_cVV0 hg mf_X4_addStep m_619 m_620 m_618 cf_4 (fun _ e => gd_isO e) (fun y e => c_X4_addStep g.1 l1 l2 y12 v1 y e) (As := [.int l2, .int y12]) rfl (Nat.le_of_ble_eq_true rfl) rfl (Nat.le_of_ble_eq_true rfl) (Nat.le_of_ble_eq_true rfl) (Nat.le_of_ble_eq_true rfl) (Nat.le_of_ble_eq_true rfl) dX5_layPath_125 (fun h14 _ => ?_)
          refine X_iinc hg 5 rfl (v := (l6 + (nI 1))) (icc ic_i_1) (Nat.le_of_ble_eq_true rfl) (lv' := [(6, .int (l6 + (nI 1))), (5, .int y13), (0, .ref (nB g.1 + l0)), (1, .ref (nB g.1 + l1)), (2, .int l2), (4, .int y11), (8, .int y12), (9, .int y13)]) rfl dX5_layPath_128 ?_
          refine X_goto hg (tgt := 9) dX5_layPath_131 rfl ?_
          refine X_lv [2, 3, 4, 5, 1, 0] rfl ?_
          exact ih _ _ _ _
set_option maxRecDepth 10000 in
theorem c_X5_layPath (en : EN) (a0 : Nat) (a1 : Nat) (a2 : Int32) (a3 : Int32) (h : Hp) (x0 : Hp) (e : f_X5_layPath a0 a1 a2 a3 h = some x0) : Ct en yX5_layPath cX5_layPath 11 none 2 45 0 0 [.ref (nB en + a0), .ref (nB en + a1), .int a2, .int a3] h none x0 := by
  refine Ct.of (by decide) rfl (Nat.le_of_ble_eq_true rfl) e (fun g hen hg hr => ?_)
  subst hen
  unfold f_X5_layPath
  refine X_gd ?_
  refine X_iconst hg ic_i_0 dX5_layPath_0 ?_
  refine X_istore hg (Nat.le_of_ble_eq_true rfl) (lv' := [(4, .int (nI 0)), (0, .ref (nB g.1 + a0)), (1, .ref (nB g.1 + a1)), (2, .int a2), (3, .int a3)]) rfl dX5_layPath_1 ?_
  refine X_iload_n hg 4 rfl dX5_layPath_3 ?_
  refine X_istore hg (Nat.le_of_ble_eq_true rfl) (lv' := [(5, .int a3), (4, .int (nI 0)), (0, .ref (nB g.1 + a0)), (1, .ref (nB g.1 + a1)), (2, .int a2), (3, .int a3)]) rfl dX5_layPath_4 ?_
  refine X_iconst hg ic_i_0 dX5_layPath_6 ?_
  refine X_istore hg (Nat.le_of_ble_eq_true rfl) (lv' := [(6, .int (nI 0)), (5, .int a3), (4, .int (nI 0)), (0, .ref (nB g.1 + a0)), (1, .ref (nB g.1 + a1)), (2, .int a2), (3, .int a3)]) rfl dX5_layPath_7 ?_
  refine X_lv [3, 4, 5, 2, 1, 0] rfl ?_
  refine l_X5_layPath_9 hg _ _ _ hr _ (fun h17 => ?_) _ _ _ _ _
  exact X_vret hg hr (Nat.le_of_ble_eq_true rfl) (Nat.le_of_ble_eq_true rfl) dX5_layPath_134
set_option maxRecDepth 10000 in
theorem l_X5_planParts_20 {g : XC} {x0 : Hp} (hg : XG g RX5 cX5_planParts 8 1 22 0 0) (l0 : Nat) (l1 : Int32) (l2 : Int32) (l3 : Int32) (h : Hp) (hr : XR g none "planParts" none x0 0 0) (K : Int32 → Int32 → Option (Hp)) (hK0 : ∀ (l4 : Int32) (l5 : Int32), Xo g x0 8 0 0 92 [(0, .ref (nB g.1 + l0)), (1, .int l1), (2, .int l2), (3, .int l3), (4, .int l4), (5, .int l5)] [] h (K l4 l5)) : ∀ (n : Nat) (l4 : Int32) (l5 : Int32) (l6 : Int32), Xo g x0 8 0 0 20 [(0, .ref (nB g.1 + l0)), (1, .int l1), (2, .int l2), (3, .int l3), (4, .int l4), (5, .int l5), (6, .int l6)] [] h (f_X5_planParts_L20 l0 l1 l2 l3 h K n l4 l5 l6) := by
  intro n
  induction n with
  | zero =>
    intro l4 l5 l6
    exact X_none
  | succ n ih =>
    intro l4 l5 l6
    unfold f_X5_planParts_L20
    refine X_iload hg 6 rfl dX5_planParts_20 ?_
    refine X_iload_n hg 3 rfl dX5_planParts_22 ?_
    refine X_iload_n hg 1 rfl dX5_planParts_23 ?_
    refine X_isub hg dX5_planParts_24 ?_
    refine X_iconst hg ic_i_1 dX5_planParts_25 ?_
    refine X_iadd hg dX5_planParts_26 ?_
    refine X_icmp_gt hg (tgt := 92) dX5_planParts_27 rfl (fun c12 => ?_) (fun c12 => ?_)
    · refine X_lv [0, 1, 2, 3, 4, 5] rfl ?_
      exact hK0 _ _
    · refine X_aload_n hg 0 rfl dX5_planParts_30 ?_
      refine X_getR hg (j := 1) cf_5 (Nat.le_of_ble_eq_true rfl) (Or.inr ⟨_, rfl⟩) m_237 dX5_planParts_31 (fun x1 _ => ?_)
      refine X_iconst hg ic_i_1 dX5_planParts_34 ?_
      refine X_aldA hg dX5_planParts_35 (fun x2 _ => ?_)
      refine X_iload_n hg 2 rfl dX5_planParts_36 ?_
      refine X_iload hg 6 rfl dX5_planParts_37 ?_
      refine X_cSI0 hg mf_X5_run m_587 m_586 (fun y e => c_X5_run g.1 l2 l6 h y e) (As := [.int l2, .int l6]) rfl (Nat.le_of_ble_eq_true rfl) rfl (Nat.le_of_ble_eq_true rfl) (Nat.le_of_ble_eq_true rfl) (Nat.le_of_ble_eq_true rfl) (Nat.le_of_ble_eq_true rfl) dX5_planParts_39 (fun x3 _ => ?_)
      refine X_ald hg dX5_planParts_42 (fun x4 _ => ?_)
      refine X_aload_n hg 0 rfl dX5_planParts_43 ?_
      refine X_getR hg (j := 1) cf_5 (Nat.le_of_ble_eq_true rfl) (Or.inr ⟨_, rfl⟩) m_237 dX5_planParts_44 (fun x5 _ => ?_)
      refine X_iload_n hg 1 rfl dX5_planParts_47 ?_
      refine X_iconst hg ic_i_1 dX5_planParts_48 ?_
      refine X_isub hg dX5_planParts_49 ?_
      refine X_aldA hg dX5_planParts_50 (fun x6 _ => ?_)
      refine X_iload_n hg 2 rfl dX5_planParts_51 ?_
      refine X_iload hg 6 rfl dX5_planParts_52 ?_
      refine X_iadd hg dX5_planParts_54 ?_
      refine X_iload_n hg 3 rfl dX5_planParts_55 ?_
      refine X_iload hg 6 rfl dX5_planParts_56 ?_
      refine X_isub hg dX5_planParts_58 ?_
      refine X_cSI0 hg mf_X5_run m_587 m_586 (fun y e => c_X5_run g.1 (l2 + l6) (l3 - l6) h y e) (As := [.int (l2 + l6), .int (l3 - l6)]) rfl (Nat.le_of_ble_eq_true rfl) rfl (Nat.le_of_ble_eq_true rfl) (Nat.le_of_ble_eq_true rfl) (Nat.le_of_ble_eq_true rfl) (Nat.le_of_ble_eq_true rfl) dX5_planParts_59 (fun x7 _ => ?_)
      refine X_ald hg dX5_planParts_62 (fun x8 _ => ?_)
      refine X_iadd hg dX5_planParts_63 ?_
      refine X_istore hg (Nat.le_of_ble_eq_true rfl) (lv' := [(7, .int (x4 + x8)), (0, .ref (nB g.1 + l0)), (1, .int l1), (2, .int l2), (3, .int l3), (4, .int l4), (5, .int l5), (6, .int l6)]) rfl dX5_planParts_64 ?_
      refine X_iload hg 6 rfl dX5_planParts_66 ?_
      refine X_reg (fun (v9 : Int32 × Int32) o => Xo g x0 8 0 0 86 [(0, .ref (nB g.1 + l0)), (1, .int l1), (2, .int l2), (3, .int l3), (4, .int v9.1), (5, .int v9.2), (6, .int l6)] [] h o) (fun kv9 hk9 => ?_) (fun v9 => ?_)
      · refine X_ib ?_
        refine X_if_eq hg (tgt := 78) dX5_planParts_68 rfl (fun c11 => ?_) (fun c11 => ?_)
        · refine X_iload hg 0 rfl dX5_planParts_78 ?_
          refine X_istore hg (Nat.le_of_ble_eq_true rfl) (lv' := [(4, .int (x4 + x8)), (7, .int (x4 + x8)), (0, .ref (nB g.1 + l0)), (1, .int l1), (2, .int l2), (3, .int l3), (5, .int l5), (6, .int l6)]) rfl dX5_planParts_80 ?_
          refine X_iload hg 7 rfl dX5_planParts_82 ?_
          refine X_istore hg (Nat.le_of_ble_eq_true rfl) (lv' := [(5, .int l6), (4, .int (x4 + x8)), (7, .int (x4 + x8)), (0, .ref (nB g.1 + l0)), (1, .int l1), (2, .int l2), (3, .int l3), (6, .int l6)]) rfl dX5_planParts_84 ?_
          refine X_lv [3, 4, 5, 6, 1, 0, 7] rfl ?_
          exact hk9 ((x4 + x8), l6)
        · refine X_iload hg 0 rfl dX5_planParts_71 ?_
          refine X_iload hg 5 rfl dX5_planParts_73 ?_
          refine X_ib ?_
          refine X_icmp_ge hg (tgt := 86) dX5_planParts_75 rfl (fun c10 => ?_) (fun c10 => ?_)
          · refine X_lv [1, 2, 3, 4, 5, 6, 7] rfl ?_
            exact hk9 (l4, l5)
          · refine X_iload hg 0 rfl dX5_planParts_78 ?_
            refine X_istore hg (Nat.le_of_ble_eq_true rfl) (lv' := [(4, .int (x4 + x8)), (7, .int (x4 + x8)), (0, .ref (nB g.1 + l0)), (1, .int l1), (2, .int l2), (3, .int l3), (5, .int l5), (6, .int l6)]) rfl dX5_planParts_80 ?_
            refine X_iload hg 7 rfl dX5_planParts_82 ?_
            refine X_istore hg (Nat.le_of_ble_eq_true rfl) (lv' := [(5, .int l6), (4, .int (x4 + x8)), (7, .int (x4 + x8)), (0, .ref (nB g.1 + l0)), (1, .int l1), (2, .int l2), (3, .int l3), (6, .int l6)]) rfl dX5_planParts_84 ?_
            refine X_lv [3, 4, 5, 6, 1, 0, 7] rfl ?_
            exact hk9 ((x4 + x8), l6)
      · refine X_iinc hg 6 rfl (v := (l6 + (nI 1))) (icc ic_i_1) (Nat.le_of_ble_eq_true rfl) (lv' := [(6, .int (l6 + (nI 1))), (0, .ref (nB g.1 + l0)), (1, .int l1), (2, .int l2), (3, .int l3), (4, .int v9.1), (5, .int v9.2)]) rfl dX5_planParts_86 ?_
        refine X_goto hg (tgt := 20) dX5_planParts_89 rfl ?_
        refine X_lv [1, 2, 3, 4, 5, 6, 0] rfl ?_
        exact ih _ _ _
set_option maxRecDepth 10000 in
theorem c_X5_planParts (en : EN) (a0 : Nat) (a1 : Int32) (a2 : Int32) (a3 : Int32) (h : Hp) (x0 : Hp) (e : f_X5_planParts a0 a1 a2 a3 h = some x0) : Ct en yX5_planParts cX5_planParts 8 none 1 22 0 0 [.ref (nB en + a0), .int a1, .int a2, .int a3] h none x0 := by
  refine Ct.of (by decide) rfl (Nat.le_of_ble_eq_true rfl) e (fun g hen hg hr => ?_)
  subst hen
  unfold f_X5_planParts
  refine X_gd ?_
  refine X_iload_n hg 1 rfl dX5_planParts_0 ?_
  refine X_iconst hg ic_i_2 dX5_planParts_1 ?_
  refine X_icmp_lt hg (tgt := 10) dX5_planParts_2 rfl (fun c24 => ?_) (fun c24 => ?_)
  · exact X_vret hg hr (Nat.le_of_ble_eq_true rfl) (Nat.le_of_ble_eq_true rfl) dX5_planParts_10
  · refine X_iload_n hg 1 rfl dX5_planParts_5 ?_
    refine X_iconst hg ic_i_4 dX5_planParts_6 ?_
    refine X_icmp_le hg (tgt := 11) dX5_planParts_7 rfl (fun c23 => ?_) (fun c23 => ?_)
    · refine X_iconst hg ic_i_0 dX5_planParts_11 ?_
      refine X_istore hg (Nat.le_of_ble_eq_true rfl) (lv' := [(4, .int (nI 0)), (0, .ref (nB g.1 + a0)), (1, .int a1), (2, .int a2), (3, .int a3)]) rfl dX5_planParts_12 ?_
      refine X_iconst hg ic_i_0 dX5_planParts_14 ?_
      refine X_istore hg (Nat.le_of_ble_eq_true rfl) (lv' := [(5, .int (nI 0)), (4, .int (nI 0)), (0, .ref (nB g.1 + a0)), (1, .int a1), (2, .int a2), (3, .int a3)]) rfl dX5_planParts_15 ?_
      refine X_iconst hg ic_i_1 dX5_planParts_17 ?_
      refine X_istore hg (Nat.le_of_ble_eq_true rfl) (lv' := [(6, .int (nI 1)), (5, .int (nI 0)), (4, .int (nI 0)), (0, .ref (nB g.1 + a0)), (1, .int a1), (2, .int a2), (3, .int a3)]) rfl dX5_planParts_18 ?_
      refine X_lv [3, 4, 5, 6, 2, 1, 0] rfl ?_
      refine l_X5_planParts_20 hg _ _ _ _ _ hr _ (fun y13 y14 => ?_) _ _ _ _
      refine X_aload_n hg 0 rfl dX5_planParts_92 ?_
      refine X_getR hg (j := 1) cf_5 (Nat.le_of_ble_eq_true rfl) (Or.inr ⟨_, rfl⟩) m_237 dX5_planParts_93 (fun x15 _ => ?_)
      refine X_iload_n hg 1 rfl dX5_planParts_96 ?_
      refine X_aldA hg dX5_planParts_97 (fun x16 _ => ?_)
      refine X_iload_n hg 2 rfl dX5_planParts_98 ?_
      refine X_iload_n hg 3 rfl dX5_planParts_99 ?_
      refine X_cSI0 hg mf_X5_run m_587 m_586 (fun y e => c_X5_run g.1 a2 a3 h y e) (As := [.int a2, .int a3]) rfl (Nat.le_of_ble_eq_true rfl) rfl (Nat.le_of_ble_eq_true rfl) (Nat.le_of_ble_eq_true rfl) (Nat.le_of_ble_eq_true rfl) (Nat.le_of_ble_eq_true rfl) dX5_planParts_100 (fun x17 _ => ?_)
      refine X_iload hg 4 rfl dX5_planParts_103 ?_
      refine X_ast hg dX5_planParts_105 (fun h18 _ => ?_)
      refine X_aload_n hg 0 rfl dX5_planParts_106 ?_
      refine X_getR hg (j := 2) cf_5 (Nat.le_of_ble_eq_true rfl) (Or.inr ⟨_, rfl⟩) m_238 dX5_planParts_107 (fun x19 _ => ?_)
      refine X_iload_n hg 1 rfl dX5_planParts_110 ?_
      refine X_aldA hg dX5_planParts_111 (fun x20 _ => ?_)
      refine X_iload_n hg 2 rfl dX5_planParts_112 ?_
      refine X_iload_n hg 3 rfl dX5_planParts_113 ?_
      refine X_cSI0 hg mf_X5_run m_587 m_586 (fun y e => c_X5_run g.1 a2 a3 h18 y e) (As := [.int a2, .int a3]) rfl (Nat.le_of_ble_eq_true rfl) rfl (Nat.le_of_ble_eq_true rfl) (Nat.le_of_ble_eq_true rfl) (Nat.le_of_ble_eq_true rfl) (Nat.le_of_ble_eq_true rfl) dX5_planParts_114 (fun x21 _ => ?_)
      refine X_iload hg 5 rfl dX5_planParts_117 ?_
      refine X_ast hg dX5_planParts_119 (fun h22 _ => ?_)
      exact X_vret hg hr (Nat.le_of_ble_eq_true rfl) (Nat.le_of_ble_eq_true rfl) dX5_planParts_120
    · exact X_vret hg hr (Nat.le_of_ble_eq_true rfl) (Nat.le_of_ble_eq_true rfl) dX5_planParts_10
set_option maxRecDepth 10000 in
theorem c_X5_sumOf (en : EN) (a0 : Nat) (a1 : Int32) (a2 : Int32) (h : Hp) (x0 : Int32) (e : f_X5_sumOf a0 a1 a2 h = some x0) : Ct en yX5_sumOf cX5_sumOf 4 (some .int) 0 0 0 0 [.ref (nB en + a0), .int a1, .int a2] h (some (.int x0)) h := by
  refine Ct.of (by decide) rfl (Nat.le_of_ble_eq_true rfl) e (fun g hen hg hr => ?_)
  subst hen
  unfold f_X5_sumOf
  refine X_gd ?_
  refine X_iload_n hg 1 rfl dX5_sumOf_0 ?_
  refine X_reg (fun (v1 : Int32) o => Xo g x0 4 0 0 22 [(0, .ref (nB g.1 + a0)), (1, .int a1), (2, .int a2)] [.int v1] h o) (fun kv1 hk1 => ?_) (fun v1 => ?_)
  · refine X_ib ?_
    refine X_if_lt hg (tgt := 21) dX5_sumOf_1 rfl (fun c4 => ?_) (fun c4 => ?_)
    · refine X_iconst hg ic_i_0 dX5_sumOf_21 ?_
      exact hk1 (nI 0)
    · refine X_iload_n hg 2 rfl dX5_sumOf_4 ?_
      refine X_iconst hg ic_i_1 dX5_sumOf_5 ?_
      refine X_ib ?_
      refine X_icmp_lt hg (tgt := 21) dX5_sumOf_6 rfl (fun c3 => ?_) (fun c3 => ?_)
      · refine X_iconst hg ic_i_0 dX5_sumOf_21 ?_
        exact hk1 (nI 0)
      · refine X_iload_n hg 2 rfl dX5_sumOf_9 ?_
        refine X_bipush hg ic_b_14 dX5_sumOf_10 ?_
        refine X_iload_n hg 1 rfl dX5_sumOf_12 ?_
        refine X_isub hg dX5_sumOf_13 ?_
        refine X_ib ?_
        refine X_icmp_gt hg (tgt := 21) dX5_sumOf_14 rfl (fun c2 => ?_) (fun c2 => ?_)
        · refine X_iconst hg ic_i_0 dX5_sumOf_21 ?_
          exact hk1 (nI 0)
        · refine X_iconst hg ic_i_1 dX5_sumOf_17 ?_
          refine X_goto hg (tgt := 22) dX5_sumOf_18 rfl ?_
          exact hk1 (nI 1)
  · refine X_istore_n hg rfl (Nat.le_of_ble_eq_true rfl) (lv' := [(3, .int v1), (0, .ref (nB g.1 + a0)), (1, .int a1), (2, .int a2)]) rfl dX5_sumOf_22 ?_
    refine X_iload_n hg 0 rfl dX5_sumOf_23 ?_
    refine X_reg (fun (v5 : Int32) o => Xo g x0 4 0 0 46 [] [.int v5] h o) (fun kv5 hk5 => ?_) (fun v5 => ?_)
    · refine X_ib ?_
      refine X_if_eq hg (tgt := 45) dX5_sumOf_24 rfl (fun c10 => ?_) (fun c10 => ?_)
      · refine X_iconst hg ic_i_0 dX5_sumOf_45 ?_
        refine X_lv [] rfl ?_
        exact hk5 (nI 0)
      · refine X_aload_n hg 1 rfl dX5_sumOf_27 ?_
        refine X_as ?_
        refine X_getR hg (j := 0) cf_5 (Nat.le_of_ble_eq_true rfl) (Or.inr ⟨_, rfl⟩) m_236 dX5_sumOf_28 (fun x6 _ => ?_)
        refine X_iload_n hg 2 rfl dX5_sumOf_31 ?_
        refine X_iload_n hg 3 rfl dX5_sumOf_32 ?_
        refine X_iadd hg dX5_sumOf_33 ?_
        refine X_as ?_
        refine X_ald hg dX5_sumOf_34 (fun x7 _ => ?_)
        refine X_aload_n hg 1 rfl dX5_sumOf_35 ?_
        refine X_as ?_
        refine X_getR hg (j := 0) cf_5 (Nat.le_of_ble_eq_true rfl) (Or.inr ⟨_, rfl⟩) m_236 dX5_sumOf_36 (fun x8 _ => ?_)
        refine X_iload_n hg 2 rfl dX5_sumOf_39 ?_
        refine X_as ?_
        refine X_ald hg dX5_sumOf_40 (fun x9 _ => ?_)
        refine X_isub hg dX5_sumOf_41 ?_
        refine X_goto hg (tgt := 46) dX5_sumOf_42 rfl ?_
        refine X_lv [] rfl ?_
        exact hk5 (x7 - x9)
    · exact X_iret hg hr (Nat.le_of_ble_eq_true rfl) (Nat.le_of_ble_eq_true rfl) dX5_sumOf_46
set_option maxRecDepth 10000 in
theorem l_X5_planRun_33 {g : XC} {x0 : Hp} (hg : XG g RX5 cX5_planRun 7 2 49 0 0) (l0 : Nat) (l1 : Int32) (l2 : Int32) (l3 : Int32) (l4 : Int32) (hr : XR g none "planRun" none x0 0 0) (K : Int32 → Hp → Option (Hp)) (hK0 : ∀ (l5 : Int32) (h : Hp), Xo g x0 7 0 0 98 [(0, .ref (nB g.1 + l0)), (1, .int l1), (2, .int l2), (4, .int l4), (5, .int l5)] [] h (K l5 h)) : ∀ (n : Nat) (l5 : Int32) (l6 : Int32) (h : Hp), Xo g x0 7 0 0 33 [(0, .ref (nB g.1 + l0)), (1, .int l1), (2, .int l2), (3, .int l3), (4, .int l4), (5, .int l5), (6, .int l6)] [] h (f_X5_planRun_L33 l0 l1 l2 l3 l4 K n l5 l6 h) := by
  intro n
  induction n with
  | zero =>
    intro l5 l6 h
    exact X_none
  | succ n ih =>
    intro l5 l6 h
    unfold f_X5_planRun_L33
    refine X_iload hg 6 rfl dX5_planRun_33 ?_
    refine X_iconst hg ic_i_4 dX5_planRun_35 ?_
    refine X_icmp_gt hg (tgt := 98) dX5_planRun_36 rfl (fun c20 => ?_) (fun c20 => ?_)
    · refine X_lv [0, 1, 2, 4, 5] rfl ?_
      exact hK0 _ _
    · refine X_iload hg 6 rfl dX5_planRun_39 ?_
      refine X_iload_n hg 3 rfl dX5_planRun_41 ?_
      refine X_icmp_gt hg (tgt := 98) dX5_planRun_42 rfl (fun c19 => ?_) (fun c19 => ?_)
      · refine X_lv [0, 1, 2, 4, 5] rfl ?_
        exact hK0 _ _
      · refine X_iload hg 6 rfl dX5_planRun_45 ?_
        refine X_iload_n hg 2 rfl dX5_planRun_47 ?_
        refine X_icmp_gt hg (tgt := 98) dX5_planRun_48 rfl (fun c18 => ?_) (fun c18 => ?_)
        · refine X_lv [0, 1, 2, 4, 5] rfl ?_
          exact hK0 _ _
        · refine X_aload_n hg 0 rfl dX5_planRun_51 ?_
          refine X_iload hg 6 rfl dX5_planRun_52 ?_
          refine X_iload_n hg 1 rfl dX5_planRun_54 ?_
          refine X_iload_n hg 2 rfl dX5_planRun_55 ?_
          refine X_cVV0 hg mf_X5_planParts m_591 m_12 m_589 cf_5 (fun _ e => gd_isO e) (fun y e => c_X5_planParts g.1 l0 l6 l1 l2 h y e) (As := [.int l6, .int l1, .int l2]) rfl (Nat.le_of_ble_eq_true rfl) rfl (Nat.le_of_ble_eq_true rfl) (Nat.le_of_ble_eq_true rfl) (Nat.le_of_ble_eq_true rfl) (Nat.le_of_ble_eq_true rfl) dX5_planRun_56 (fun h8 _ => ?_)
          refine X_iload hg 5 rfl dX5_planRun_59 ?_
          refine X_iconst hg ic_i_1 dX5_planRun_61 ?_
          refine X_reg (fun (v9 : Int32) o => Xo g x0 7 0 0 92 [(0, .ref (nB g.1 + l0)), (1, .int l1), (2, .int l2), (3, .int l3), (4, .int l4), (5, .int v9), (6, .int l6)] [] h8 o) (fun kv9 hk9 => ?_) (fun v9 => ?_)
          · refine X_ib ?_
            refine X_icmp_eq hg (tgt := 88) dX5_planRun_62 rfl (fun c17 => ?_) (fun c17 => ?_)
            · refine X_iload hg 6 rfl dX5_planRun_88 ?_
              refine X_istore hg (Nat.le_of_ble_eq_true rfl) (lv' := [(5, .int l6), (0, .ref (nB g.1 + l0)), (1, .int l1), (2, .int l2), (3, .int l3), (4, .int l4), (6, .int l6)]) rfl dX5_planRun_90 ?_
              refine X_lv [1, 2, 3, 4, 5, 0, 6] rfl ?_
              exact hk9 l6
            · refine X_aload_n hg 0 rfl dX5_planRun_65 ?_
              refine X_as ?_
              refine X_getR hg (j := 1) cf_5 (Nat.le_of_ble_eq_true rfl) (Or.inr ⟨_, rfl⟩) m_237 dX5_planRun_66 (fun x10 _ => ?_)
              refine X_iload hg 6 rfl dX5_planRun_69 ?_
              refine X_as ?_
              refine X_aldA hg dX5_planRun_71 (fun x11 _ => ?_)
              refine X_iload hg 4 rfl dX5_planRun_72 ?_
              refine X_as ?_
              refine X_ald hg dX5_planRun_74 (fun x12 _ => ?_)
              refine X_aload_n hg 0 rfl dX5_planRun_75 ?_
              refine X_as ?_
              refine X_getR hg (j := 1) cf_5 (Nat.le_of_ble_eq_true rfl) (Or.inr ⟨_, rfl⟩) m_237 dX5_planRun_76 (fun x13 _ => ?_)
              refine X_iload hg 5 rfl dX5_planRun_79 ?_
              refine X_as ?_
              refine X_aldA hg dX5_planRun_81 (fun x14 _ => ?_)
              refine X_iload hg 4 rfl dX5_planRun_82 ?_
              refine X_as ?_
              refine X_ald hg dX5_planRun_84 (fun x15 _ => ?_)
              refine X_ib ?_
              refine X_icmp_ge hg (tgt := 92) dX5_planRun_85 rfl (fun c16 => ?_) (fun c16 => ?_)
              · exact hk9 l5
              · refine X_iload hg 6 rfl dX5_planRun_88 ?_
                refine X_istore hg (Nat.le_of_ble_eq_true rfl) (lv' := [(5, .int l6), (0, .ref (nB g.1 + l0)), (1, .int l1), (2, .int l2), (3, .int l3), (4, .int l4), (6, .int l6)]) rfl dX5_planRun_90 ?_
                refine X_lv [1, 2, 3, 4, 5, 0, 6] rfl ?_
                exact hk9 l6
          · refine X_iinc hg 6 rfl (v := (l6 + (nI 1))) (icc ic_i_1) (Nat.le_of_ble_eq_true rfl) (lv' := [(6, .int (l6 + (nI 1))), (0, .ref (nB g.1 + l0)), (1, .int l1), (2, .int l2), (3, .int l3), (4, .int l4), (5, .int v9)]) rfl dX5_planRun_92 ?_
            refine X_goto hg (tgt := 33) dX5_planRun_95 rfl ?_
            refine X_lv [1, 2, 3, 4, 5, 6, 0] rfl ?_
            exact ih _ _ _
set_option maxRecDepth 10000 in
theorem c_X5_planRun (en : EN) (a0 : Nat) (a1 : Int32) (a2 : Int32) (a3 : Int32) (h : Hp) (x0 : Hp) (e : f_X5_planRun a0 a1 a2 a3 h = some x0) : Ct en yX5_planRun cX5_planRun 7 none 2 49 0 0 [.ref (nB en + a0), .int a1, .int a2, .int a3] h none x0 := by
  refine Ct.of (by decide) rfl (Nat.le_of_ble_eq_true rfl) e (fun g hen hg hr => ?_)
  subst hen
  unfold f_X5_planRun
  refine X_gd ?_
  refine X_iload_n hg 1 rfl dX5_planRun_0 ?_
  refine X_iload_n hg 2 rfl dX5_planRun_1 ?_
  refine X_cSI0 hg mf_X5_run m_587 m_586 (fun y e => c_X5_run g.1 a1 a2 h y e) (As := [.int a1, .int a2]) rfl (Nat.le_of_ble_eq_true rfl) rfl (Nat.le_of_ble_eq_true rfl) (Nat.le_of_ble_eq_true rfl) (Nat.le_of_ble_eq_true rfl) (Nat.le_of_ble_eq_true rfl) dX5_planRun_2 (fun x1 _ => ?_)
  refine X_istore hg (Nat.le_of_ble_eq_true rfl) (lv' := [(4, .int x1), (0, .ref (nB g.1 + a0)), (1, .int a1), (2, .int a2), (3, .int a3)]) rfl dX5_planRun_5 ?_
  refine X_iconst hg ic_i_1 dX5_planRun_7 ?_
  refine X_istore hg (Nat.le_of_ble_eq_true rfl) (lv' := [(5, .int (nI 1)), (4, .int x1), (0, .ref (nB g.1 + a0)), (1, .int a1), (2, .int a2), (3, .int a3)]) rfl dX5_planRun_8 ?_
  refine X_aload_n hg 2 rfl dX5_planRun_10 ?_
  refine X_getR hg (j := 1) cf_5 (Nat.le_of_ble_eq_true rfl) (Or.inr ⟨_, rfl⟩) m_237 dX5_planRun_11 (fun x2 _ => ?_)
  refine X_iconst hg ic_i_1 dX5_planRun_14 ?_
  refine X_aldA hg dX5_planRun_15 (fun x3 _ => ?_)
  refine X_iload hg 1 rfl dX5_planRun_16 ?_
  refine X_iconst hg ic_i_0 dX5_planRun_18 ?_
  refine X_ast hg dX5_planRun_19 (fun h4 _ => ?_)
  refine X_aload_n hg 2 rfl dX5_planRun_20 ?_
  refine X_getR hg (j := 2) cf_5 (Nat.le_of_ble_eq_true rfl) (Or.inr ⟨_, rfl⟩) m_238 dX5_planRun_21 (fun x5 _ => ?_)
  refine X_iconst hg ic_i_1 dX5_planRun_24 ?_
  refine X_aldA hg dX5_planRun_25 (fun x6 _ => ?_)
  refine X_iload hg 1 rfl dX5_planRun_26 ?_
  refine X_iload_n hg 4 rfl dX5_planRun_28 ?_
  refine X_ast hg dX5_planRun_29 (fun h7 _ => ?_)
  refine X_iconst hg ic_i_2 dX5_planRun_30 ?_
  refine X_istore hg (Nat.le_of_ble_eq_true rfl) (lv' := [(6, .int (nI 2)), (5, .int (nI 1)), (4, .int x1), (0, .ref (nB g.1 + a0)), (1, .int a1), (2, .int a2), (3, .int a3)]) rfl dX5_planRun_31 ?_
  refine X_lv [3, 4, 5, 6, 2, 1, 0] rfl ?_
  refine l_X5_planRun_33 hg _ _ _ _ _ hr _ (fun y21 h22 => ?_) _ _ _ _
  refine X_aload_n hg 0 rfl dX5_planRun_98 ?_
  refine X_getR hg (j := 3) cf_5 (Nat.le_of_ble_eq_true rfl) (Or.inr ⟨_, rfl⟩) m_239 dX5_planRun_99 (fun x23 _ => ?_)
  refine X_iload hg 3 rfl dX5_planRun_102 ?_
  refine X_iload hg 4 rfl dX5_planRun_104 ?_
  refine X_ast hg dX5_planRun_106 (fun h24 _ => ?_)
  refine X_iload hg 4 rfl dX5_planRun_107 ?_
  refine X_iconst hg ic_i_1 dX5_planRun_109 ?_
  refine X_reg (fun (v25 : Hp) o => Xo g x0 7 0 0 139 [] [] v25 o) (fun kv25 hk25 => ?_) (fun v25 => ?_)
  · refine X_ib ?_
    refine X_icmp_le hg (tgt := 139) dX5_planRun_110 rfl (fun c33 => ?_) (fun c33 => ?_)
    · refine X_lv [] rfl ?_
      exact hk25 h24
    · refine X_aload_n hg 0 rfl dX5_planRun_113 ?_
      refine X_as ?_
      refine X_getR hg (j := 1) cf_5 (Nat.le_of_ble_eq_true rfl) (Or.inr ⟨_, rfl⟩) m_237 dX5_planRun_114 (fun x26 _ => ?_)
      refine X_iconst hg ic_i_1 dX5_planRun_117 ?_
      refine X_as ?_
      refine X_aldA hg dX5_planRun_118 (fun x27 _ => ?_)
      refine X_iload hg 3 rfl dX5_planRun_119 ?_
      refine X_aload_n hg 0 rfl dX5_planRun_121 ?_
      refine X_as ?_
      refine X_getR hg (j := 1) cf_5 (Nat.le_of_ble_eq_true rfl) (Or.inr ⟨_, rfl⟩) m_237 dX5_planRun_122 (fun x28 _ => ?_)
      refine X_iload hg 4 rfl dX5_planRun_125 ?_
      refine X_as ?_
      refine X_aldA hg dX5_planRun_127 (fun x29 _ => ?_)
      refine X_iload hg 3 rfl dX5_planRun_128 ?_
      refine X_as ?_
      refine X_ald hg dX5_planRun_130 (fun x30 _ => ?_)
      refine X_aload_n hg 0 rfl dX5_planRun_131 ?_
      refine X_iload_n hg 1 rfl dX5_planRun_132 ?_
      refine X_iload_n hg 2 rfl dX5_planRun_133 ?_
      refine X_as ?_
      refine X_cVI0 hg mf_X5_sumOf m_595 m_13 m_593 cf_5 (fun _ e => gd_isO e) (fun y e => c_X5_sumOf g.1 a0 a1 a2 h24 y e) (As := [.int a1, .int a2]) rfl (Nat.le_of_ble_eq_true rfl) rfl (Nat.le_of_ble_eq_true rfl) (Nat.le_of_ble_eq_true rfl) (Nat.le_of_ble_eq_true rfl) (Nat.le_of_ble_eq_true rfl) dX5_planRun_134 (fun x31 _ => ?_)
      refine X_iadd hg dX5_planRun_137 ?_
      refine X_as ?_
      refine X_ast hg dX5_planRun_138 (fun h32 _ => ?_)
      refine X_lv [] rfl ?_
      exact hk25 h32
  · exact X_vret hg hr (Nat.le_of_ble_eq_true rfl) (Nat.le_of_ble_eq_true rfl) dX5_planRun_139
set_option maxRecDepth 10000 in
theorem l_X5_planInto_14 {g : XC} {x0 : Nat × Hp} (hg : XG g RX5 cX5_planInto 7 3 75 0 0) (l0 : Nat) (l1 : Nat) (l2 : Nat) (l3 : Int32) (l4 : Int32) (hr : XR g (some (.object "DialMenus$Menu")) "planInto" (some (.ref (nB g.1 + x0.1))) x0.2 0 0) (K : Hp → Option (Nat × Hp)) (hK0 : ∀ (h : Hp), Xo g x0 7 0 0 50 [(0, .ref (nB g.1 + l0)), (1, .ref (nB g.1 + l1)), (3, .int l3), (4, .int l4)] [] h (K h)) : ∀ (n : Nat) (l5 : Int32) (h : Hp), Xo g x0 7 0 0 14 [(0, .ref (nB g.1 + l0)), (1, .ref (nB g.1 + l1)), (2, .ref (nB g.1 + l2)), (3, .int l3), (4, .int l4), (5, .int l5)] [] h (f_X5_planInto_L14 l0 l1 l2 l3 l4 K n l5 h) := by
  intro n
  induction n with
  | zero =>
    intro l5 h
    exact X_none
  | succ n ih =>
    intro l5 h
    unfold f_X5_planInto_L14
    refine X_iload hg 5 rfl dX5_planInto_14 ?_
    refine X_iload hg 4 rfl dX5_planInto_16 ?_
    refine X_icmp_ge hg (tgt := 50) dX5_planInto_18 rfl (fun c7 => ?_) (fun c7 => ?_)
    · refine X_lv [0, 1, 3, 4] rfl ?_
      exact hK0  _
    · refine X_aload_n hg 0 rfl dX5_planInto_21 ?_
      refine X_getR hg (j := 0) cf_5 (Nat.le_of_ble_eq_true rfl) (Or.inr ⟨_, rfl⟩) m_236 dX5_planInto_22 (fun x2 _ => ?_)
      refine X_iload hg 5 rfl dX5_planInto_25 ?_
      refine X_iconst hg ic_i_1 dX5_planInto_27 ?_
      refine X_iadd hg dX5_planInto_28 ?_
      refine X_aload_n hg 0 rfl dX5_planInto_29 ?_
      refine X_getR hg (j := 0) cf_5 (Nat.le_of_ble_eq_true rfl) (Or.inr ⟨_, rfl⟩) m_236 dX5_planInto_30 (fun x3 _ => ?_)
      refine X_iload hg 5 rfl dX5_planInto_33 ?_
      refine X_ald hg dX5_planInto_35 (fun x4 _ => ?_)
      refine X_aload_n hg 2 rfl dX5_planInto_36 ?_
      refine X_iload hg 5 rfl dX5_planInto_37 ?_
      refine X_cVI0 hg mf_X7_frequencyOf m_521 m_522 m_581 cf_7 (fun _ e => gd_isO e) (fun y e => c_X7_frequencyOf g.1 l2 l5 h y e) (As := [.int l5]) rfl (Nat.le_of_ble_eq_true rfl) rfl (Nat.le_of_ble_eq_true rfl) (Nat.le_of_ble_eq_true rfl) (Nat.le_of_ble_eq_true rfl) (Nat.le_of_ble_eq_true rfl) dX5_planInto_39 (fun x5 _ => ?_)
      refine X_iadd hg dX5_planInto_42 ?_
      refine X_ast hg dX5_planInto_43 (fun h6 _ => ?_)
      refine X_iinc hg 5 rfl (v := (l5 + (nI 1))) (icc ic_i_1) (Nat.le_of_ble_eq_true rfl) (lv' := [(5, .int (l5 + (nI 1))), (0, .ref (nB g.1 + l0)), (1, .ref (nB g.1 + l1)), (2, .ref (nB g.1 + l2)), (3, .int l3), (4, .int l4)]) rfl dX5_planInto_44 ?_
      refine X_goto hg (tgt := 14) dX5_planInto_47 rfl ?_
      refine X_lv [1, 2, 3, 4, 5, 0] rfl ?_
      exact ih _ _
set_option maxRecDepth 10000 in
theorem l_X5_planInto_63 {g : XC} {x0 : Nat × Hp} (hg : XG g RX5 cX5_planInto 7 3 75 0 0) (l0 : Nat) (l1 : Nat) (l3 : Int32) (l4 : Int32) (l5 : Int32) (hr : XR g (some (.object "DialMenus$Menu")) "planInto" (some (.ref (nB g.1 + x0.1))) x0.2 0 0) (K : Hp → Option (Nat × Hp)) (hK0 : ∀ (h : Hp), Xo g x0 7 0 0 88 [(0, .ref (nB g.1 + l0)), (1, .ref (nB g.1 + l1)), (3, .int l3), (4, .int l4), (5, .int l5)] [] h (K h)) : ∀ (n : Nat) (l6 : Int32) (h : Hp), Xo g x0 7 0 0 63 [(0, .ref (nB g.1 + l0)), (1, .ref (nB g.1 + l1)), (3, .int l3), (4, .int l4), (5, .int l5), (6, .int l6)] [] h (f_X5_planInto_L63 l0 l1 l3 l4 l5 K n l6 h) := by
  intro n
  induction n with
  | zero =>
    intro l6 h
    exact X_none
  | succ n ih =>
    intro l6 h
    unfold f_X5_planInto_L63
    refine X_iload hg 5 rfl dX5_planInto_63 ?_
    refine X_iload hg 4 rfl dX5_planInto_65 ?_
    refine X_iadd hg dX5_planInto_67 ?_
    refine X_iload hg 3 rfl dX5_planInto_68 ?_
    refine X_icmp_gt hg (tgt := 88) dX5_planInto_70 rfl (fun c10 => ?_) (fun c10 => ?_)
    · refine X_lv [0, 1, 2, 3, 4] rfl ?_
      exact hK0  _
    · refine X_aload_n hg 0 rfl dX5_planInto_73 ?_
      refine X_iload hg 5 rfl dX5_planInto_74 ?_
      refine X_iload hg 4 rfl dX5_planInto_76 ?_
      refine X_iload_n hg 2 rfl dX5_planInto_78 ?_
      refine X_cVV0 hg mf_X5_planRun m_584 m_11 m_582 cf_5 (fun _ e => gd_isO e) (fun y e => c_X5_planRun g.1 l0 l6 l5 l3 h y e) (As := [.int l6, .int l5, .int l3]) rfl (Nat.le_of_ble_eq_true rfl) rfl (Nat.le_of_ble_eq_true rfl) (Nat.le_of_ble_eq_true rfl) (Nat.le_of_ble_eq_true rfl) (Nat.le_of_ble_eq_true rfl) dX5_planInto_79 (fun h9 _ => ?_)
      refine X_iinc hg 5 rfl (v := (l6 + (nI 1))) (icc ic_i_1) (Nat.le_of_ble_eq_true rfl) (lv' := [(6, .int (l6 + (nI 1))), (0, .ref (nB g.1 + l0)), (1, .ref (nB g.1 + l1)), (3, .int l3), (4, .int l4), (5, .int l5)]) rfl dX5_planInto_82 ?_
      refine X_goto hg (tgt := 63) dX5_planInto_85 rfl ?_
      refine X_lv [1, 2, 3, 4, 5, 0] rfl ?_
      exact ih _ _
set_option maxRecDepth 10000 in
theorem l_X5_planInto_53 {g : XC} {x0 : Nat × Hp} (hg : XG g RX5 cX5_planInto 7 3 75 0 0) (l0 : Nat) (l1 : Nat) (l3 : Int32) (l4 : Int32) (hr : XR g (some (.object "DialMenus$Menu")) "planInto" (some (.ref (nB g.1 + x0.1))) x0.2 0 0) (K : Hp → Option (Nat × Hp)) (hK0 : ∀ (h : Hp), Xo g x0 7 0 0 94 [(0, .ref (nB g.1 + l0)), (1, .ref (nB g.1 + l1)), (3, .int l3), (4, .int l4)] [] h (K h)) : ∀ (n : Nat) (l5 : Int32) (h : Hp), Xo g x0 7 0 0 53 [(0, .ref (nB g.1 + l0)), (1, .ref (nB g.1 + l1)), (3, .int l3), (4, .int l4), (5, .int l5)] [] h (f_X5_planInto_L53 l0 l1 l3 l4 K n l5 h) := by
  intro n
  induction n with
  | zero =>
    intro l5 h
    exact X_none
  | succ n ih =>
    intro l5 h
    unfold f_X5_planInto_L53
    refine X_iload hg 4 rfl dX5_planInto_53 ?_
    refine X_iload hg 3 rfl dX5_planInto_55 ?_
    refine X_icmp_gt hg (tgt := 94) dX5_planInto_57 rfl (fun c12 => ?_) (fun c12 => ?_)
    · refine X_lv [0, 1, 2, 3] rfl ?_
      exact hK0  _
    · refine X_iconst hg ic_i_0 dX5_planInto_60 ?_
      refine X_istore hg (Nat.le_of_ble_eq_true rfl) (lv' := [(6, .int (nI 0)), (0, .ref (nB g.1 + l0)), (1, .ref (nB g.1 + l1)), (3, .int l3), (4, .int l4), (5, .int l5)]) rfl dX5_planInto_61 ?_
      refine X_lv [1, 2, 3, 4, 5, 0] rfl ?_
      refine l_X5_planInto_63 hg _ _ _ _ _ hr _ (fun h11 => ?_) _ _ _
      refine X_iinc hg 4 rfl (v := (l5 + (nI 1))) (icc ic_i_1) (Nat.le_of_ble_eq_true rfl) (lv' := [(5, .int (l5 + (nI 1))), (0, .ref (nB g.1 + l0)), (1, .ref (nB g.1 + l1)), (3, .int l3), (4, .int l4)]) rfl dX5_planInto_88 ?_
      refine X_goto hg (tgt := 53) dX5_planInto_91 rfl ?_
      refine X_lv [1, 2, 3, 4, 0] rfl ?_
      exact ih _ _
set_option maxRecDepth 10000 in
theorem l_X5_planInto_104 {g : XC} {x0 : Nat × Hp} (hg : XG g RX5 cX5_planInto 7 3 75 0 0) (l0 : Nat) (l1 : Nat) (l4 : Int32) (hr : XR g (some (.object "DialMenus$Menu")) "planInto" (some (.ref (nB g.1 + x0.1))) x0.2 0 0) (K : Hp → Option (Nat × Hp)) (hK0 : ∀ (h : Hp), Xo g x0 7 0 0 126 [(1, .ref (nB g.1 + l1))] [] h (K h)) : ∀ (n : Nat) (l5 : Int32) (h : Hp), Xo g x0 7 0 0 104 [(0, .ref (nB g.1 + l0)), (1, .ref (nB g.1 + l1)), (4, .int l4), (5, .int l5)] [] h (f_X5_planInto_L104 l0 l1 l4 K n l5 h) := by
  intro n
  induction n with
  | zero =>
    intro l5 h
    exact X_none
  | succ n ih =>
    intro l5 h
    unfold f_X5_planInto_L104
    refine X_iload hg 3 rfl dX5_planInto_104 ?_
    refine X_iload hg 2 rfl dX5_planInto_106 ?_
    refine X_icmp_ge hg (tgt := 126) dX5_planInto_108 rfl (fun c16 => ?_) (fun c16 => ?_)
    · refine X_lv [1] rfl ?_
      exact hK0  _
    · refine X_aload_n hg 0 rfl dX5_planInto_111 ?_
      refine X_aload_n hg 1 rfl dX5_planInto_112 ?_
      refine X_iload hg 3 rfl dX5_planInto_113 ?_
      refine X_iload hg 2 rfl dX5_planInto_115 ?_
      refine X_cVV0 hg mf_X5_layPath m_608 m_14 m_606 cf_5 (fun _ e => gd_isO e) (fun y e => c_X5_layPath g.1 l0 l1 l5 l4 h y e) (As := [.ref (nB g.1 + l1), .int l5, .int l4]) rfl (Nat.le_of_ble_eq_true rfl) rfl (Nat.le_of_ble_eq_true rfl) (Nat.le_of_ble_eq_true rfl) (Nat.le_of_ble_eq_true rfl) (Nat.le_of_ble_eq_true rfl) dX5_planInto_117 (fun h15 _ => ?_)
      refine X_iinc hg 3 rfl (v := (l5 + (nI 1))) (icc ic_i_1) (Nat.le_of_ble_eq_true rfl) (lv' := [(5, .int (l5 + (nI 1))), (0, .ref (nB g.1 + l0)), (1, .ref (nB g.1 + l1)), (4, .int l4)]) rfl dX5_planInto_120 ?_
      refine X_goto hg (tgt := 104) dX5_planInto_123 rfl ?_
      refine X_lv [1, 2, 3, 0] rfl ?_
      exact ih _ _
set_option maxRecDepth 10000 in
theorem c_X5_planInto (en : EN) (a0 : Nat) (a1 : Nat) (a2 : Nat) (a3 : Int32) (h : Hp) (x0 : Nat × Hp) (e : f_X5_planInto a0 a1 a2 a3 h = some x0) : Ct en yX5_planInto cX5_planInto 7 (some (.object "DialMenus$Menu")) 3 75 0 0 [.ref (nB en + a0), .ref (nB en + a1), .ref (nB en + a2), .int a3] h (some (.ref (nB en + x0.1))) x0.2 := by
  refine Ct.of (by decide) rfl (Nat.le_of_ble_eq_true rfl) e (fun g hen hg hr => ?_)
  subst hen
  unfold f_X5_planInto
  refine X_gd ?_
  refine X_aload_n hg 2 rfl dX5_planInto_0 ?_
  refine X_cVI0 hg mf_X7_size m_419 m_420 m_579 cf_7 (fun _ e => gd_isO e) (fun y e => c_X7_size g.1 a2 h y e) (As := []) rfl (Nat.le_of_ble_eq_true rfl) rfl (Nat.le_of_ble_eq_true rfl) (Nat.le_of_ble_eq_true rfl) (Nat.le_of_ble_eq_true rfl) (Nat.le_of_ble_eq_true rfl) dX5_planInto_1 (fun x1 _ => ?_)
  refine X_bipush hg ic_b_14 dX5_planInto_4 ?_
  refine X_min hg m_580 m_stmin m_inM m_cdmin (Nat.le_of_ble_eq_true rfl) (Nat.le_of_ble_eq_true rfl) (Nat.le_of_ble_eq_true rfl) (Nat.le_of_ble_eq_true rfl) dX5_planInto_6 ?_
  refine X_istore hg (Nat.le_of_ble_eq_true rfl) (lv' := [(4, .int (imn x1 (nI 14))), (0, .ref (nB g.1 + a0)), (1, .ref (nB g.1 + a1)), (2, .ref (nB g.1 + a2)), (3, .int a3)]) rfl dX5_planInto_9 ?_
  refine X_iconst hg ic_i_0 dX5_planInto_11 ?_
  refine X_istore hg (Nat.le_of_ble_eq_true rfl) (lv' := [(5, .int (nI 0)), (4, .int (imn x1 (nI 14))), (0, .ref (nB g.1 + a0)), (1, .ref (nB g.1 + a1)), (2, .ref (nB g.1 + a2)), (3, .int a3)]) rfl dX5_planInto_12 ?_
  refine X_lv [2, 3, 4, 5, 1, 0] rfl ?_
  refine l_X5_planInto_14 hg _ _ _ _ _ hr _ (fun h8 => ?_) _ _ _
  refine X_iconst hg ic_i_1 dX5_planInto_50 ?_
  refine X_istore hg (Nat.le_of_ble_eq_true rfl) (lv' := [(5, .int (nI 1)), (0, .ref (nB g.1 + a0)), (1, .ref (nB g.1 + a1)), (3, .int a3), (4, .int (imn x1 (nI 14)))]) rfl dX5_planInto_51 ?_
  refine X_lv [1, 2, 3, 4, 0] rfl ?_
  refine l_X5_planInto_53 hg _ _ _ _ hr _ (fun h13 => ?_) _ _ _
  refine X_aload_n hg 1 rfl dX5_planInto_94 ?_
  refine X_iload_n hg 2 rfl dX5_planInto_95 ?_
  refine X_iload hg 3 rfl dX5_planInto_96 ?_
  refine X_cVV0 hg mf_X4_start m_598 m_599 m_597 cf_4 (fun _ e => gd_isO e) (fun y e => c_X4_start g.1 a1 a3 (imn x1 (nI 14)) h13 y e) (As := [.int a3, .int (imn x1 (nI 14))]) rfl (Nat.le_of_ble_eq_true rfl) rfl (Nat.le_of_ble_eq_true rfl) (Nat.le_of_ble_eq_true rfl) (Nat.le_of_ble_eq_true rfl) (Nat.le_of_ble_eq_true rfl) dX5_planInto_98 (fun h14 _ => ?_)
  refine X_iconst hg ic_i_0 dX5_planInto_101 ?_
  refine X_istore hg (Nat.le_of_ble_eq_true rfl) (lv' := [(5, .int (nI 0)), (0, .ref (nB g.1 + a0)), (1, .ref (nB g.1 + a1)), (3, .int a3), (4, .int (imn x1 (nI 14)))]) rfl dX5_planInto_102 ?_
  refine X_lv [1, 2, 4, 0] rfl ?_
  refine l_X5_planInto_104 hg _ _ _ hr _ (fun h17 => ?_) _ _ _
  refine X_aload_n hg 0 rfl dX5_planInto_126 ?_
  exact X_aretW hg (Or.inl ⟨_, rfl⟩) hr (Nat.le_of_ble_eq_true rfl) (Nat.le_of_ble_eq_true rfl) dX5_planInto_127
set_option maxRecDepth 10000 in
theorem c_X6_init (en : EN) (a0 : Nat) (h : Hp) (x0 : Hp) (e : f_X6_init a0 h = some x0) : Ct en yX6_init cX6_init 1 none 2 45 6 96 [.ref (nB en + a0)] h none x0 := by
  refine Ct.of (by decide) rfl (Nat.le_of_ble_eq_true rfl) e (fun g hen hg hr => ?_)
  subst hen
  unfold f_X6_init
  refine X_gd ?_
  refine X_aload_n hg 0 rfl dX6_init_0 ?_
  refine X_obji hg m_209 m_oi m_oc (Nat.le_of_ble_eq_true rfl) (Nat.le_of_ble_eq_true rfl) dX6_init_1 ?_
  refine X_aload_n hg 0 rfl dX6_init_4 ?_
  refine X_bipush hg ic_b_11 dX6_init_5 ?_
  refine X_newA hg m_arrI (Nat.le_of_ble_eq_true rfl) (Nat.le_of_ble_eq_true rfl) (Nat.le_of_ble_eq_true rfl) dX6_init_7 (fun h1 _ => ?_)
  refine X_putRF hg hr.2.2.1 (j := 0) cf_6 (Nat.le_of_ble_eq_true rfl) rfl rfl (Or.inr ⟨_, rfl⟩) m_212 dX6_init_9 (fun h2 _ => ?_)
  refine X_aload_n hg 0 rfl dX6_init_12 ?_
  refine X_bipush hg ic_b_11 dX6_init_13 ?_
  refine X_newA hg m_arrI (Nat.le_of_ble_eq_true rfl) (Nat.le_of_ble_eq_true rfl) (Nat.le_of_ble_eq_true rfl) dX6_init_15 (fun h3 _ => ?_)
  refine X_putRF hg hr.2.2.1 (j := 1) cf_6 (Nat.le_of_ble_eq_true rfl) rfl rfl (Or.inr ⟨_, rfl⟩) m_213 dX6_init_17 (fun h4 _ => ?_)
  refine X_aload_n hg 0 rfl dX6_init_20 ?_
  refine X_bipush hg ic_b_11 dX6_init_21 ?_
  refine X_newA hg m_arrI (Nat.le_of_ble_eq_true rfl) (Nat.le_of_ble_eq_true rfl) (Nat.le_of_ble_eq_true rfl) dX6_init_23 (fun h5 _ => ?_)
  refine X_putRF hg hr.2.2.1 (j := 2) cf_6 (Nat.le_of_ble_eq_true rfl) rfl rfl (Or.inr ⟨_, rfl⟩) m_214 dX6_init_25 (fun h6 _ => ?_)
  refine X_aload_n hg 0 rfl dX6_init_28 ?_
  refine X_bipush hg ic_b_11 dX6_init_29 ?_
  refine X_newA hg m_arrI (Nat.le_of_ble_eq_true rfl) (Nat.le_of_ble_eq_true rfl) (Nat.le_of_ble_eq_true rfl) dX6_init_31 (fun h7 _ => ?_)
  refine X_putRF hg hr.2.2.1 (j := 3) cf_6 (Nat.le_of_ble_eq_true rfl) rfl rfl (Or.inr ⟨_, rfl⟩) m_215 dX6_init_33 (fun h8 _ => ?_)
  refine X_aload_n hg 0 rfl dX6_init_36 ?_
  refine X_newO hg cf_8 ok_8 m_210 m_114 m_92 (Nat.le_of_ble_eq_true rfl) (Nat.le_of_ble_eq_true rfl) dX6_init_37 (fun h9 _ => ?_)
  refine X_dup hg rfl dX6_init_40 ?_
  refine X_bipush hg ic_b_10 dX6_init_41 ?_
  refine X_cIV hg mf_X8_init rfl rfl m_116 m_211 (fun y e => c_X8_init g.1 (hN h8) (nI 10) h9 y e) (As := [.int (nI 10)]) rfl (Nat.le_of_ble_eq_true rfl) rfl (Nat.le_of_ble_eq_true rfl) (Nat.le_of_ble_eq_true rfl) (Nat.le_of_ble_eq_true rfl) (Nat.le_of_ble_eq_true rfl) dX6_init_43 (fun h10 _ => ?_)
  refine X_putRF hg hr.2.2.1 (j := 4) cf_6 (Nat.le_of_ble_eq_true rfl) rfl rfl (Or.inl ⟨_, rfl⟩) m_216 dX6_init_46 (fun h11 _ => ?_)
  exact X_vret hg hr (Nat.le_of_ble_eq_true rfl) (Nat.le_of_ble_eq_true rfl) dX6_init_49
set_option maxRecDepth 10000 in
theorem c_X6_isWithin (en : EN) (a0 : Int32) (a1 : Int32) (h : Hp) (x0 : Int32) (e : f_X6_isWithin a0 a1 h = some x0) : Ct en yX6_isWithin cX6_isWithin 2 (some .boolean) 0 0 0 0 [.int a0, .int a1] h (some (.int x0)) h := by
  refine Ct.of (by decide) rfl (Nat.le_of_ble_eq_true rfl) e (fun g hen hg hr => ?_)
  subst hen
  unfold f_X6_isWithin
  refine X_iload_n hg 0 rfl dX6_isWithin_0 ?_
  refine X_reg (fun (v1 : Int32) o => Xo g x0 2 0 0 20 [] [.int v1] h o) (fun kv1 hk1 => ?_) (fun v1 => ?_)
  · refine X_ib ?_
    refine X_if_lt hg (tgt := 19) dX6_isWithin_1 rfl (fun c4 => ?_) (fun c4 => ?_)
    · refine X_iconst hg ic_i_0 dX6_isWithin_19 ?_
      refine X_lv [] rfl ?_
      exact hk1 (nI 0)
    · refine X_iload_n hg 0 rfl dX6_isWithin_4 ?_
      refine X_iload_n hg 1 rfl dX6_isWithin_5 ?_
      refine X_ib ?_
      refine X_icmp_ge hg (tgt := 19) dX6_isWithin_6 rfl (fun c3 => ?_) (fun c3 => ?_)
      · refine X_iconst hg ic_i_0 dX6_isWithin_19 ?_
        refine X_lv [] rfl ?_
        exact hk1 (nI 0)
      · refine X_iload_n hg 1 rfl dX6_isWithin_9 ?_
        refine X_bipush hg ic_b_10 dX6_isWithin_10 ?_
        refine X_ib ?_
        refine X_icmp_gt hg (tgt := 19) dX6_isWithin_12 rfl (fun c2 => ?_) (fun c2 => ?_)
        · refine X_iconst hg ic_i_0 dX6_isWithin_19 ?_
          refine X_lv [] rfl ?_
          exact hk1 (nI 0)
        · refine X_iconst hg ic_i_1 dX6_isWithin_15 ?_
          refine X_goto hg (tgt := 20) dX6_isWithin_16 rfl ?_
          refine X_lv [] rfl ?_
          exact hk1 (nI 1)
  · exact X_zret hg hr (Nat.le_of_ble_eq_true rfl) (Nat.le_of_ble_eq_true rfl) dX6_isWithin_20
set_option maxRecDepth 10000 in
theorem c_X6_keepsBest (en : EN) (a0 : Nat) (a1 : Int32) (a2 : Int32) (h : Hp) (x0 : Int32) (e : f_X6_keepsBest a0 a1 a2 h = some x0) : Ct en yX6_keepsBest cX6_keepsBest 3 (some .boolean) 1 21 0 0 [.ref (nB en + a0), .int a1, .int a2] h (some (.int x0)) h := by
  refine Ct.of (by decide) rfl (Nat.le_of_ble_eq_true rfl) e (fun g hen hg hr => ?_)
  subst hen
  unfold f_X6_keepsBest
  refine X_gd ?_
  refine X_iload_n hg 1 rfl dX6_keepsBest_0 ?_
  refine X_iload_n hg 2 rfl dX6_keepsBest_1 ?_
  refine X_cSI0 hg mf_X6_isWithin m_762 m_761 (fun y e => c_X6_isWithin g.1 a1 a2 h y e) (As := [.int a1, .int a2]) rfl (Nat.le_of_ble_eq_true rfl) rfl (Nat.le_of_ble_eq_true rfl) (Nat.le_of_ble_eq_true rfl) (Nat.le_of_ble_eq_true rfl) (Nat.le_of_ble_eq_true rfl) dX6_keepsBest_2 (fun x1 _ => ?_)
  refine X_reg (fun (v2 : Int32) o => Xo g x0 3 0 0 45 [] [.int v2] h o) (fun kv2 hk2 => ?_) (fun v2 => ?_)
  · refine X_ib ?_
    refine X_if_eq hg (tgt := 44) dX6_keepsBest_5 rfl (fun c13 => ?_) (fun c13 => ?_)
    · refine X_iconst hg ic_i_0 dX6_keepsBest_44 ?_
      refine X_lv [] rfl ?_
      exact hk2 (nI 0)
    · refine X_aload_n hg 0 rfl dX6_keepsBest_8 ?_
      refine X_as ?_
      refine X_getR hg (j := 1) cf_6 (Nat.le_of_ble_eq_true rfl) (Or.inr ⟨_, rfl⟩) m_213 dX6_keepsBest_9 (fun x3 _ => ?_)
      refine X_iload_n hg 2 rfl dX6_keepsBest_12 ?_
      refine X_as ?_
      refine X_ald hg dX6_keepsBest_13 (fun x4 _ => ?_)
      refine X_aload_n hg 0 rfl dX6_keepsBest_14 ?_
      refine X_as ?_
      refine X_getR hg (j := 1) cf_6 (Nat.le_of_ble_eq_true rfl) (Or.inr ⟨_, rfl⟩) m_213 dX6_keepsBest_15 (fun x5 _ => ?_)
      refine X_iload_n hg 1 rfl dX6_keepsBest_18 ?_
      refine X_as ?_
      refine X_ald hg dX6_keepsBest_19 (fun x6 _ => ?_)
      refine X_ib ?_
      refine X_icmp_ne hg (tgt := 44) dX6_keepsBest_20 rfl (fun c12 => ?_) (fun c12 => ?_)
      · refine X_aload_n hg 0 rfl dX6_keepsBest_23 ?_
        refine X_as ?_
        refine X_getR hg (j := 3) cf_6 (Nat.le_of_ble_eq_true rfl) (Or.inr ⟨_, rfl⟩) m_215 dX6_keepsBest_24 (fun x7 _ => ?_)
        refine X_iload_n hg 2 rfl dX6_keepsBest_27 ?_
        refine X_as ?_
        refine X_ald hg dX6_keepsBest_28 (fun x8 _ => ?_)
        refine X_iconst hg ic_i_1 dX6_keepsBest_29 ?_
        refine X_iadd hg dX6_keepsBest_30 ?_
        refine X_aload_n hg 0 rfl dX6_keepsBest_31 ?_
        refine X_as ?_
        refine X_getR hg (j := 3) cf_6 (Nat.le_of_ble_eq_true rfl) (Or.inr ⟨_, rfl⟩) m_215 dX6_keepsBest_32 (fun x9 _ => ?_)
        refine X_iload_n hg 1 rfl dX6_keepsBest_35 ?_
        refine X_as ?_
        refine X_ald hg dX6_keepsBest_36 (fun x10 _ => ?_)
        refine X_ib ?_
        refine X_icmp_ne hg (tgt := 44) dX6_keepsBest_37 rfl (fun c11 => ?_) (fun c11 => ?_)
        · refine X_iconst hg ic_i_1 dX6_keepsBest_40 ?_
          refine X_goto hg (tgt := 45) dX6_keepsBest_41 rfl ?_
          refine X_lv [] rfl ?_
          exact hk2 (nI 1)
        · refine X_iconst hg ic_i_0 dX6_keepsBest_44 ?_
          refine X_lv [] rfl ?_
          exact hk2 (nI 0)
      · refine X_iconst hg ic_i_0 dX6_keepsBest_44 ?_
        refine X_lv [] rfl ?_
        exact hk2 (nI 0)
  · exact X_zret hg hr (Nat.le_of_ble_eq_true rfl) (Nat.le_of_ble_eq_true rfl) dX6_keepsBest_45
set_option maxRecDepth 10000 in
theorem c_X7_isTypedAt (en : EN) (a0 : Nat) (a1 : Int32) (a2 : Nat) (a3 : Int32) (h : Hp) (x0 : Int32) (e : f_X7_isTypedAt a0 a1 a2 a3 h = some x0) : Ct en yX7_isTypedAt cX7_isTypedAt 5 (some .boolean) 2 44 0 0 [.ref (nB en + a0), .int a1, .ref (nB en + a2), .int a3] h (some (.int x0)) h := by
  refine Ct.of (by decide) rfl (Nat.le_of_ble_eq_true rfl) e (fun g hen hg hr => ?_)
  subst hen
  unfold f_X7_isTypedAt
  refine X_gd ?_
  refine X_aload_n hg 0 rfl dX7_isTypedAt_0 ?_
  refine X_iload_n hg 1 rfl dX7_isTypedAt_1 ?_
  refine X_cVQ0 hg mf_X7_get m_497 m_8 m_495 cf_7 (fun _ e => gd_isO e) (fun y e => c_X7_get g.1 a0 a1 h y e) (As := [.int a1]) rfl (Nat.le_of_ble_eq_true rfl) rfl (Nat.le_of_ble_eq_true rfl) (Nat.le_of_ble_eq_true rfl) (Nat.le_of_ble_eq_true rfl) (Nat.le_of_ble_eq_true rfl) dX7_isTypedAt_2 (fun x1 _ => ?_)
  refine X_astoreQ hg (Nat.le_of_ble_eq_true rfl) (lv' := [(4, rl (nB g.1) x1), (0, .ref (nB g.1 + a0)), (1, .int a1), (2, .ref (nB g.1 + a2)), (3, .int a3)]) rfl dX7_isTypedAt_5 ?_
  refine X_aloadQ hg 0 rfl dX7_isTypedAt_7 ?_
  refine X_reg (fun (v2 : Int32) o => Xo g x0 5 0 0 27 [] [.int v2] h o) (fun kv2 hk2 => ?_) (fun v2 => ?_)
  · refine X_eb ?_
    refine X_ifnull hg (tgt := 26) dX7_isTypedAt_9 rfl (fun c6 => ?_) (fun q3 c6 => ?_)
    · refine X_iconst hg ic_i_0 dX7_isTypedAt_26 ?_
      refine X_lv [] rfl ?_
      exact hk2 (nI 0)
    · subst c6
      refine X_aload hg 0 rfl dX7_isTypedAt_12 ?_
      refine X_aload_n hg 3 rfl dX7_isTypedAt_14 ?_
      refine X_iload_n hg 4 rfl dX7_isTypedAt_15 ?_
      refine X_as ?_
      refine X_cVI0 hg mf_X1_isTypedAt m_753 m_754 m_752 cf_1 (fun _ e => gd_isO e) (fun y e => c_X1_isTypedAt g.1 q3 a2 a3 h y e) (As := [.ref (nB g.1 + a2), .int a3]) rfl (Nat.le_of_ble_eq_true rfl) rfl (Nat.le_of_ble_eq_true rfl) (Nat.le_of_ble_eq_true rfl) (Nat.le_of_ble_eq_true rfl) (Nat.le_of_ble_eq_true rfl) dX7_isTypedAt_16 (fun x4 _ => ?_)
      refine X_ib ?_
      refine X_if_eq hg (tgt := 26) dX7_isTypedAt_19 rfl (fun c5 => ?_) (fun c5 => ?_)
      · refine X_iconst hg ic_i_0 dX7_isTypedAt_26 ?_
        refine X_lv [] rfl ?_
        exact hk2 (nI 0)
      · refine X_iconst hg ic_i_1 dX7_isTypedAt_22 ?_
        refine X_goto hg (tgt := 27) dX7_isTypedAt_23 rfl ?_
        refine X_lv [] rfl ?_
        exact hk2 (nI 1)
  · exact X_zret hg hr (Nat.le_of_ble_eq_true rfl) (Nat.le_of_ble_eq_true rfl) dX7_isTypedAt_27
set_option maxRecDepth 10000 in
theorem l_X6_bestNameAt_3 {g : XC} {x0 : Int32} (hg : XG g RX6 cX6_bestNameAt 5 3 68 0 0) (l0 : Nat) (l1 : Nat) (l2 : Nat) (l3 : Int32) (h : Hp) (hr : XR g (some .int) "bestNameAt" (some (.int x0)) h 0 0) (K : Option (Int32)) (hK0 : Xo g x0 5 0 0 48 [] [] h K) : ∀ (n : Nat) (l4 : Int32), Xo g x0 5 0 0 3 [(0, .ref (nB g.1 + l0)), (1, .ref (nB g.1 + l1)), (2, .ref (nB g.1 + l2)), (3, .int l3), (4, .int l4)] [] h (f_X6_bestNameAt_L3 l0 l1 l2 l3 h K n l4) := by
  intro n
  induction n with
  | zero =>
    intro l4
    exact X_none
  | succ n ih =>
    intro l4
    unfold f_X6_bestNameAt_L3
    refine X_iload hg 4 rfl dX6_bestNameAt_3 ?_
    refine X_aload_n hg 1 rfl dX6_bestNameAt_5 ?_
    refine X_cVI0 hg mf_X7_size m_419 m_420 m_747 cf_7 (fun _ e => gd_isO e) (fun y e => c_X7_size g.1 l1 h y e) (As := []) rfl (Nat.le_of_ble_eq_true rfl) rfl (Nat.le_of_ble_eq_true rfl) (Nat.le_of_ble_eq_true rfl) (Nat.le_of_ble_eq_true rfl) (Nat.le_of_ble_eq_true rfl) dX6_bestNameAt_6 (fun x1 _ => ?_)
    refine X_icmp_ge hg (tgt := 48) dX6_bestNameAt_9 rfl (fun c7 => ?_) (fun c7 => ?_)
    · refine X_lv [] rfl ?_
      exact hK0 
    · refine X_aload_n hg 1 rfl dX6_bestNameAt_12 ?_
      refine X_iload hg 4 rfl dX6_bestNameAt_13 ?_
      refine X_aload_n hg 2 rfl dX6_bestNameAt_15 ?_
      refine X_iload_n hg 3 rfl dX6_bestNameAt_16 ?_
      refine X_cVI0 hg mf_X7_isTypedAt m_749 m_750 m_748 cf_7 (fun _ e => gd_isO e) (fun y e => c_X7_isTypedAt g.1 l1 l4 l2 l3 h y e) (As := [.int l4, .ref (nB g.1 + l2), .int l3]) rfl (Nat.le_of_ble_eq_true rfl) rfl (Nat.le_of_ble_eq_true rfl) (Nat.le_of_ble_eq_true rfl) (Nat.le_of_ble_eq_true rfl) (Nat.le_of_ble_eq_true rfl) dX6_bestNameAt_17 (fun x2 _ => ?_)
      refine X_if_eq hg (tgt := 42) dX6_bestNameAt_20 rfl (fun c6 => ?_) (fun c6 => ?_)
      · refine X_iinc hg 4 rfl (v := (l4 + (nI 1))) (icc ic_i_1) (Nat.le_of_ble_eq_true rfl) (lv' := [(4, .int (l4 + (nI 1))), (0, .ref (nB g.1 + l0)), (1, .ref (nB g.1 + l1)), (2, .ref (nB g.1 + l2)), (3, .int l3)]) rfl dX6_bestNameAt_42 ?_
        refine X_goto hg (tgt := 3) dX6_bestNameAt_45 rfl ?_
        refine X_lv [1, 2, 3, 4, 0] rfl ?_
        exact ih _
      · refine X_aload_n hg 0 rfl dX6_bestNameAt_23 ?_
        refine X_iload_n hg 3 rfl dX6_bestNameAt_24 ?_
        refine X_iload_n hg 3 rfl dX6_bestNameAt_25 ?_
        refine X_aload_n hg 1 rfl dX6_bestNameAt_26 ?_
        refine X_iload hg 4 rfl dX6_bestNameAt_27 ?_
        refine X_cVI0 hg mf_X7_lengthOf m_517 m_518 m_756 cf_7 (fun _ e => gd_isO e) (fun y e => c_X7_lengthOf g.1 l1 l4 h y e) (As := [.int l4]) rfl (Nat.le_of_ble_eq_true rfl) rfl (Nat.le_of_ble_eq_true rfl) (Nat.le_of_ble_eq_true rfl) (Nat.le_of_ble_eq_true rfl) (Nat.le_of_ble_eq_true rfl) dX6_bestNameAt_29 (fun x3 _ => ?_)
        refine X_iadd hg dX6_bestNameAt_32 ?_
        refine X_cVI0 hg mf_X6_keepsBest m_776 m_21 m_774 cf_6 (fun _ e => gd_isO e) (fun y e => c_X6_keepsBest g.1 l0 l3 (l3 + x3) h y e) (As := [.int l3, .int (l3 + x3)]) rfl (Nat.le_of_ble_eq_true rfl) rfl (Nat.le_of_ble_eq_true rfl) (Nat.le_of_ble_eq_true rfl) (Nat.le_of_ble_eq_true rfl) (Nat.le_of_ble_eq_true rfl) dX6_bestNameAt_33 (fun x4 _ => ?_)
        refine X_if_eq hg (tgt := 42) dX6_bestNameAt_36 rfl (fun c5 => ?_) (fun c5 => ?_)
        · refine X_iinc hg 4 rfl (v := (l4 + (nI 1))) (icc ic_i_1) (Nat.le_of_ble_eq_true rfl) (lv' := [(4, .int (l4 + (nI 1))), (0, .ref (nB g.1 + l0)), (1, .ref (nB g.1 + l1)), (2, .ref (nB g.1 + l2)), (3, .int l3)]) rfl dX6_bestNameAt_42 ?_
          refine X_goto hg (tgt := 3) dX6_bestNameAt_45 rfl ?_
          refine X_lv [1, 2, 3, 4, 0] rfl ?_
          exact ih _
        · refine X_iload hg 4 rfl dX6_bestNameAt_39 ?_
          exact X_iret hg hr (Nat.le_of_ble_eq_true rfl) (Nat.le_of_ble_eq_true rfl) dX6_bestNameAt_41
set_option maxRecDepth 10000 in
theorem c_X6_bestNameAt (en : EN) (a0 : Nat) (a1 : Nat) (a2 : Nat) (a3 : Int32) (h : Hp) (x0 : Int32) (e : f_X6_bestNameAt a0 a1 a2 a3 h = some x0) : Ct en yX6_bestNameAt cX6_bestNameAt 5 (some .int) 3 68 0 0 [.ref (nB en + a0), .ref (nB en + a1), .ref (nB en + a2), .int a3] h (some (.int x0)) h := by
  refine Ct.of (by decide) rfl (Nat.le_of_ble_eq_true rfl) e (fun g hen hg hr => ?_)
  subst hen
  unfold f_X6_bestNameAt
  refine X_gd ?_
  refine X_iconst hg ic_i_0 dX6_bestNameAt_0 ?_
  refine X_istore hg (Nat.le_of_ble_eq_true rfl) (lv' := [(4, .int (nI 0)), (0, .ref (nB g.1 + a0)), (1, .ref (nB g.1 + a1)), (2, .ref (nB g.1 + a2)), (3, .int a3)]) rfl dX6_bestNameAt_1 ?_
  refine X_lv [1, 2, 3, 4, 0] rfl ?_
  refine l_X6_bestNameAt_3 hg _ _ _ _ _ hr _ ?_ _ _
  refine X_iconst hg ic_i_m1 dX6_bestNameAt_48 ?_
  exact X_iret hg hr (Nat.le_of_ble_eq_true rfl) (Nat.le_of_ble_eq_true rfl) dX6_bestNameAt_49
set_option maxRecDepth 10000 in
theorem l_X6_layBest_13 {g : XC} {x0 : Hp} (hg : XG g RX6 cX6_layBest 6 4 92 0 0) (l0 : Nat) (l1 : Nat) (l2 : Nat) (hr : XR g none "layBest" none x0 0 0) (K : Hp → Option (Hp)) (hK0 : ∀ (h : Hp), Xo g x0 6 0 0 88 [] [] h (K h)) : ∀ (n : Nat) (l3 : Int32) (l4 : Int32) (h : Hp), Xo g x0 6 0 0 13 [(0, .ref (nB g.1 + l0)), (1, .ref (nB g.1 + l1)), (2, .ref (nB g.1 + l2)), (3, .int l3), (4, .int l4)] [] h (f_X6_layBest_L13 l0 l1 l2 K n l3 l4 h) := by
  intro n
  induction n with
  | zero =>
    intro l3 l4 h
    exact X_none
  | succ n ih =>
    intro l3 l4 h
    unfold f_X6_layBest_L13
    refine X_iload hg 4 rfl dX6_layBest_13 ?_
    refine X_bipush hg ic_b_10 dX6_layBest_15 ?_
    refine X_icmp_ge hg (tgt := 88) dX6_layBest_17 rfl (fun c14 => ?_) (fun c14 => ?_)
    · refine X_lv [] rfl ?_
      exact hK0  _
    · refine X_iload_n hg 3 rfl dX6_layBest_20 ?_
      refine X_aload_n hg 2 rfl dX6_layBest_21 ?_
      refine X_cVI0 hg mf_X8_size m_337 m_338 m_741 cf_8 (fun _ e => gd_isO e) (fun y e => c_X8_size g.1 l2 h y e) (As := []) rfl (Nat.le_of_ble_eq_true rfl) rfl (Nat.le_of_ble_eq_true rfl) (Nat.le_of_ble_eq_true rfl) (Nat.le_of_ble_eq_true rfl) (Nat.le_of_ble_eq_true rfl) dX6_layBest_22 (fun x3 _ => ?_)
      refine X_icmp_ge hg (tgt := 88) dX6_layBest_25 rfl (fun c13 => ?_) (fun c13 => ?_)
      · refine X_lv [] rfl ?_
        exact hK0  _
      · refine X_aload_n hg 0 rfl dX6_layBest_28 ?_
        refine X_aload_n hg 1 rfl dX6_layBest_29 ?_
        refine X_aload_n hg 2 rfl dX6_layBest_30 ?_
        refine X_iload_n hg 3 rfl dX6_layBest_31 ?_
        refine X_cVI0 hg mf_X6_bestNameAt m_772 m_20 m_770 cf_6 (fun _ e => gd_isO e) (fun y e => c_X6_bestNameAt g.1 l0 l1 l2 l3 h y e) (As := [.ref (nB g.1 + l1), .ref (nB g.1 + l2), .int l3]) rfl (Nat.le_of_ble_eq_true rfl) rfl (Nat.le_of_ble_eq_true rfl) (Nat.le_of_ble_eq_true rfl) (Nat.le_of_ble_eq_true rfl) (Nat.le_of_ble_eq_true rfl) dX6_layBest_32 (fun x4 _ => ?_)
        refine X_istore hg (Nat.le_of_ble_eq_true rfl) (lv' := [(5, .int x4), (0, .ref (nB g.1 + l0)), (1, .ref (nB g.1 + l1)), (2, .ref (nB g.1 + l2)), (3, .int l3), (4, .int l4)]) rfl dX6_layBest_35 ?_
        refine X_iload hg 0 rfl dX6_layBest_37 ?_
        refine X_iconst hg ic_i_m1 dX6_layBest_39 ?_
        refine X_reg (fun (v5 : Int32 × Hp) o => Xo g x0 6 0 0 82 [(0, .ref (nB g.1 + l0)), (1, .ref (nB g.1 + l1)), (2, .ref (nB g.1 + l2)), (3, .int v5.1), (4, .int l4)] [] v5.2 o) (fun kv5 hk5 => ?_) (fun v5 => ?_)
        · refine X_ib ?_
          refine X_icmp_ne hg (tgt := 64) dX6_layBest_40 rfl (fun c12 => ?_) (fun c12 => ?_)
          · refine X_aload_n hg 1 rfl dX6_layBest_43 ?_
            refine X_as ?_
            refine X_getR hg (j := 4) cf_6 (Nat.le_of_ble_eq_true rfl) (Or.inl ⟨_, rfl⟩) m_216 dX6_layBest_44 (fun x6 _ => ?_)
            refine X_bipush hg ic_b_m2 dX6_layBest_47 ?_
            refine X_aload_n hg 3 rfl dX6_layBest_49 ?_
            refine X_iload_n hg 4 rfl dX6_layBest_50 ?_
            refine X_as ?_
            refine X_cVI0 hg mf_X8_get m_358 m_359 m_778 cf_8 (fun _ e => gd_isO e) (fun y e => c_X8_get g.1 l2 l3 h y e) (As := [.int l3]) rfl (Nat.le_of_ble_eq_true rfl) rfl (Nat.le_of_ble_eq_true rfl) (Nat.le_of_ble_eq_true rfl) (Nat.le_of_ble_eq_true rfl) (Nat.le_of_ble_eq_true rfl) dX6_layBest_51 (fun x7 _ => ?_)
            refine X_isub hg dX6_layBest_54 ?_
            refine X_as ?_
            refine X_cVV0 hg mf_X8_add m_332 m_333 m_779 cf_8 (fun _ e => gd_isO e) (fun y e => c_X8_add g.1 x6 (m2 - x7) h y e) (As := [.int (m2 - x7)]) rfl (Nat.le_of_ble_eq_true rfl) rfl (Nat.le_of_ble_eq_true rfl) (Nat.le_of_ble_eq_true rfl) (Nat.le_of_ble_eq_true rfl) (Nat.le_of_ble_eq_true rfl) dX6_layBest_55 (fun h8 _ => ?_)
            refine X_iinc hg 4 rfl (v := (l3 + (nI 1))) (icc ic_i_1) (Nat.le_of_ble_eq_true rfl) (lv' := [(3, .int (l3 + (nI 1))), (5, .int x4), (0, .ref (nB g.1 + l0)), (1, .ref (nB g.1 + l1)), (2, .ref (nB g.1 + l2)), (4, .int l4)]) rfl dX6_layBest_58 ?_
            refine X_goto hg (tgt := 82) dX6_layBest_61 rfl ?_
            refine X_lv [2, 3, 4, 0, 5] rfl ?_
            exact hk5 ((l3 + (nI 1)), h8)
          · refine X_aload_n hg 1 rfl dX6_layBest_64 ?_
            refine X_as ?_
            refine X_getR hg (j := 4) cf_6 (Nat.le_of_ble_eq_true rfl) (Or.inl ⟨_, rfl⟩) m_216 dX6_layBest_65 (fun x9 _ => ?_)
            refine X_iload hg 0 rfl dX6_layBest_68 ?_
            refine X_as ?_
            refine X_cVV0 hg mf_X8_add m_332 m_333 m_779 cf_8 (fun _ e => gd_isO e) (fun y e => c_X8_add g.1 x9 x4 h y e) (As := [.int x4]) rfl (Nat.le_of_ble_eq_true rfl) rfl (Nat.le_of_ble_eq_true rfl) (Nat.le_of_ble_eq_true rfl) (Nat.le_of_ble_eq_true rfl) (Nat.le_of_ble_eq_true rfl) dX6_layBest_70 (fun h10 _ => ?_)
            refine X_iload_n hg 4 rfl dX6_layBest_73 ?_
            refine X_aload_n hg 2 rfl dX6_layBest_74 ?_
            refine X_iload hg 0 rfl dX6_layBest_75 ?_
            refine X_as ?_
            refine X_cVI0 hg mf_X7_lengthOf m_517 m_518 m_756 cf_7 (fun _ e => gd_isO e) (fun y e => c_X7_lengthOf g.1 l1 x4 h10 y e) (As := [.int x4]) rfl (Nat.le_of_ble_eq_true rfl) rfl (Nat.le_of_ble_eq_true rfl) (Nat.le_of_ble_eq_true rfl) (Nat.le_of_ble_eq_true rfl) (Nat.le_of_ble_eq_true rfl) dX6_layBest_77 (fun x11 _ => ?_)
            refine X_iadd hg dX6_layBest_80 ?_
            refine X_istore_n hg rfl (Nat.le_of_ble_eq_true rfl) (lv' := [(3, .int (l3 + x11)), (5, .int x4), (0, .ref (nB g.1 + l0)), (1, .ref (nB g.1 + l1)), (2, .ref (nB g.1 + l2)), (4, .int l4)]) rfl dX6_layBest_81 ?_
            refine X_lv [2, 3, 4, 0, 5] rfl ?_
            exact hk5 ((l3 + x11), h10)
        · refine X_iinc hg 4 rfl (v := (l4 + (nI 1))) (icc ic_i_1) (Nat.le_of_ble_eq_true rfl) (lv' := [(4, .int (l4 + (nI 1))), (0, .ref (nB g.1 + l0)), (1, .ref (nB g.1 + l1)), (2, .ref (nB g.1 + l2)), (3, .int v5.1)]) rfl dX6_layBest_82 ?_
          refine X_goto hg (tgt := 13) dX6_layBest_85 rfl ?_
          refine X_lv [1, 2, 3, 4, 0] rfl ?_
          exact ih _ _ _
set_option maxRecDepth 10000 in
theorem c_X6_layBest (en : EN) (a0 : Nat) (a1 : Nat) (a2 : Nat) (h : Hp) (x0 : Hp) (e : f_X6_layBest a0 a1 a2 h = some x0) : Ct en yX6_layBest cX6_layBest 6 none 4 92 0 0 [.ref (nB en + a0), .ref (nB en + a1), .ref (nB en + a2)] h none x0 := by
  refine Ct.of (by decide) rfl (Nat.le_of_ble_eq_true rfl) e (fun g hen hg hr => ?_)
  subst hen
  unfold f_X6_layBest
  refine X_gd ?_
  refine X_aload_n hg 0 rfl dX6_layBest_0 ?_
  refine X_getR hg (j := 4) cf_6 (Nat.le_of_ble_eq_true rfl) (Or.inl ⟨_, rfl⟩) m_216 dX6_layBest_1 (fun x1 _ => ?_)
  refine X_cVIW0 hg mf_X8_clear m_345 m_346 m_769 cf_8 (fun _ e => gd_isO e) (fun y e => c_X8_clear g.1 x1 h y e) (As := []) rfl (Nat.le_of_ble_eq_true rfl) rfl (Nat.le_of_ble_eq_true rfl) (Nat.le_of_ble_eq_true rfl) (Nat.le_of_ble_eq_true rfl) (Nat.le_of_ble_eq_true rfl) dX6_layBest_4 (fun p2 _ => ?_)
  refine X_pop hg rfl dX6_layBest_7 ?_
  refine X_iconst hg ic_i_0 dX6_layBest_8 ?_
  refine X_istore_n hg rfl (Nat.le_of_ble_eq_true rfl) (lv' := [(3, .int (nI 0)), (0, .ref (nB g.1 + a0)), (1, .ref (nB g.1 + a1)), (2, .ref (nB g.1 + a2))]) rfl dX6_layBest_9 ?_
  refine X_iconst hg ic_i_0 dX6_layBest_10 ?_
  refine X_istore hg (Nat.le_of_ble_eq_true rfl) (lv' := [(4, .int (nI 0)), (3, .int (nI 0)), (0, .ref (nB g.1 + a0)), (1, .ref (nB g.1 + a1)), (2, .ref (nB g.1 + a2))]) rfl dX6_layBest_11 ?_
  refine X_lv [2, 3, 4, 1, 0] rfl ?_
  refine l_X6_layBest_13 hg _ _ _ hr _ (fun h15 => ?_) _ _ _ _
  exact X_vret hg hr (Nat.le_of_ble_eq_true rfl) (Nat.le_of_ble_eq_true rfl) dX6_layBest_88
set_option maxRecDepth 10000 in
theorem c_X6_studyDigit (en : EN) (a0 : Nat) (a1 : Int32) (h : Hp) (x0 : Hp) (e : f_X6_studyDigit a0 a1 h = some x0) : Ct en yX6_studyDigit cX6_studyDigit 2 none 0 0 0 0 [.ref (nB en + a0), .int a1] h none x0 := by
  refine Ct.of (by decide) rfl (Nat.le_of_ble_eq_true rfl) e (fun g hen hg hr => ?_)
  subst hen
  unfold f_X6_studyDigit
  refine X_gd ?_
  refine X_aload_n hg 0 rfl dX6_studyDigit_0 ?_
  refine X_getR hg (j := 0) cf_6 (Nat.le_of_ble_eq_true rfl) (Or.inr ⟨_, rfl⟩) m_212 dX6_studyDigit_1 (fun x1 _ => ?_)
  refine X_iload_n hg 1 rfl dX6_studyDigit_4 ?_
  refine X_aload_n hg 0 rfl dX6_studyDigit_5 ?_
  refine X_getR hg (j := 0) cf_6 (Nat.le_of_ble_eq_true rfl) (Or.inr ⟨_, rfl⟩) m_212 dX6_studyDigit_6 (fun x2 _ => ?_)
  refine X_iload_n hg 1 rfl dX6_studyDigit_9 ?_
  refine X_iconst hg ic_i_1 dX6_studyDigit_10 ?_
  refine X_iadd hg dX6_studyDigit_11 ?_
  refine X_ald hg dX6_studyDigit_12 (fun x3 _ => ?_)
  refine X_ast hg dX6_studyDigit_13 (fun h4 _ => ?_)
  refine X_aload_n hg 0 rfl dX6_studyDigit_14 ?_
  refine X_getR hg (j := 1) cf_6 (Nat.le_of_ble_eq_true rfl) (Or.inr ⟨_, rfl⟩) m_213 dX6_studyDigit_15 (fun x5 _ => ?_)
  refine X_iload_n hg 1 rfl dX6_studyDigit_18 ?_
  refine X_aload_n hg 0 rfl dX6_studyDigit_19 ?_
  refine X_getR hg (j := 1) cf_6 (Nat.le_of_ble_eq_true rfl) (Or.inr ⟨_, rfl⟩) m_213 dX6_studyDigit_20 (fun x6 _ => ?_)
  refine X_iload_n hg 1 rfl dX6_studyDigit_23 ?_
  refine X_iconst hg ic_i_1 dX6_studyDigit_24 ?_
  refine X_iadd hg dX6_studyDigit_25 ?_
  refine X_ald hg dX6_studyDigit_26 (fun x7 _ => ?_)
  refine X_iconst hg ic_i_1 dX6_studyDigit_27 ?_
  refine X_iadd hg dX6_studyDigit_28 ?_
  refine X_ast hg dX6_studyDigit_29 (fun h8 _ => ?_)
  refine X_aload_n hg 0 rfl dX6_studyDigit_30 ?_
  refine X_getR hg (j := 2) cf_6 (Nat.le_of_ble_eq_true rfl) (Or.inr ⟨_, rfl⟩) m_214 dX6_studyDigit_31 (fun x9 _ => ?_)
  refine X_iload_n hg 1 rfl dX6_studyDigit_34 ?_
  refine X_aload_n hg 0 rfl dX6_studyDigit_35 ?_
  refine X_getR hg (j := 2) cf_6 (Nat.le_of_ble_eq_true rfl) (Or.inr ⟨_, rfl⟩) m_214 dX6_studyDigit_36 (fun x10 _ => ?_)
  refine X_iload_n hg 1 rfl dX6_studyDigit_39 ?_
  refine X_iconst hg ic_i_1 dX6_studyDigit_40 ?_
  refine X_iadd hg dX6_studyDigit_41 ?_
  refine X_ald hg dX6_studyDigit_42 (fun x11 _ => ?_)
  refine X_ast hg dX6_studyDigit_43 (fun h12 _ => ?_)
  refine X_aload_n hg 0 rfl dX6_studyDigit_44 ?_
  refine X_getR hg (j := 3) cf_6 (Nat.le_of_ble_eq_true rfl) (Or.inr ⟨_, rfl⟩) m_215 dX6_studyDigit_45 (fun x13 _ => ?_)
  refine X_iload_n hg 1 rfl dX6_studyDigit_48 ?_
  refine X_aload_n hg 0 rfl dX6_studyDigit_49 ?_
  refine X_getR hg (j := 3) cf_6 (Nat.le_of_ble_eq_true rfl) (Or.inr ⟨_, rfl⟩) m_215 dX6_studyDigit_50 (fun x14 _ => ?_)
  refine X_iload_n hg 1 rfl dX6_studyDigit_53 ?_
  refine X_iconst hg ic_i_1 dX6_studyDigit_54 ?_
  refine X_iadd hg dX6_studyDigit_55 ?_
  refine X_ald hg dX6_studyDigit_56 (fun x15 _ => ?_)
  refine X_iconst hg ic_i_1 dX6_studyDigit_57 ?_
  refine X_iadd hg dX6_studyDigit_58 ?_
  refine X_ast hg dX6_studyDigit_59 (fun h16 _ => ?_)
  exact X_vret hg hr (Nat.le_of_ble_eq_true rfl) (Nat.le_of_ble_eq_true rfl) dX6_studyDigit_60
set_option maxRecDepth 10000 in
theorem c_X6_studyName (en : EN) (a0 : Nat) (a1 : Int32) (a2 : Int32) (h : Hp) (x0 : Hp) (e : f_X6_studyName a0 a1 a2 h = some x0) : Ct en yX6_studyName cX6_studyName 3 none 1 24 0 0 [.ref (nB en + a0), .int a1, .int a2] h none x0 := by
  refine Ct.of (by decide) rfl (Nat.le_of_ble_eq_true rfl) e (fun g hen hg hr => ?_)
  subst hen
  unfold f_X6_studyName
  refine X_gd ?_
  refine X_iload_n hg 1 rfl dX6_studyName_0 ?_
  refine X_iload_n hg 2 rfl dX6_studyName_1 ?_
  refine X_cSI0 hg mf_X6_isWithin m_762 m_761 (fun y e => c_X6_isWithin g.1 a1 a2 h y e) (As := [.int a1, .int a2]) rfl (Nat.le_of_ble_eq_true rfl) rfl (Nat.le_of_ble_eq_true rfl) (Nat.le_of_ble_eq_true rfl) (Nat.le_of_ble_eq_true rfl) (Nat.le_of_ble_eq_true rfl) dX6_studyName_2 (fun x1 _ => ?_)
  refine X_if_ne hg (tgt := 9) dX6_studyName_5 rfl (fun c43 => ?_) (fun c43 => ?_)
  · exact X_vret hg hr (Nat.le_of_ble_eq_true rfl) (Nat.le_of_ble_eq_true rfl) dX6_studyName_8
  · refine X_aload_n hg 0 rfl dX6_studyName_9 ?_
    refine X_getR hg (j := 0) cf_6 (Nat.le_of_ble_eq_true rfl) (Or.inr ⟨_, rfl⟩) m_212 dX6_studyName_10 (fun x2 _ => ?_)
    refine X_iload_n hg 1 rfl dX6_studyName_13 ?_
    refine X_aload_n hg 0 rfl dX6_studyName_14 ?_
    refine X_getR hg (j := 0) cf_6 (Nat.le_of_ble_eq_true rfl) (Or.inr ⟨_, rfl⟩) m_212 dX6_studyName_15 (fun x3 _ => ?_)
    refine X_iload_n hg 1 rfl dX6_studyName_18 ?_
    refine X_ald hg dX6_studyName_19 (fun x4 _ => ?_)
    refine X_aload_n hg 0 rfl dX6_studyName_20 ?_
    refine X_getR hg (j := 0) cf_6 (Nat.le_of_ble_eq_true rfl) (Or.inr ⟨_, rfl⟩) m_212 dX6_studyName_21 (fun x5 _ => ?_)
    refine X_iload_n hg 2 rfl dX6_studyName_24 ?_
    refine X_ald hg dX6_studyName_25 (fun x6 _ => ?_)
    refine X_iadd hg dX6_studyName_26 ?_
    refine X_ldc hg (v := (nI 1000000)) m_764 dX6_studyName_27 ?_
    refine X_irem hg (by decide) dX6_studyName_29 ?_
    refine X_ast hg dX6_studyName_30 (fun h7 _ => ?_)
    refine X_aload_n hg 0 rfl dX6_studyName_31 ?_
    refine X_getR hg (j := 1) cf_6 (Nat.le_of_ble_eq_true rfl) (Or.inr ⟨_, rfl⟩) m_213 dX6_studyName_32 (fun x8 _ => ?_)
    refine X_iload_n hg 2 rfl dX6_studyName_35 ?_
    refine X_ald hg dX6_studyName_36 (fun x9 _ => ?_)
    refine X_aload_n hg 0 rfl dX6_studyName_37 ?_
    refine X_getR hg (j := 1) cf_6 (Nat.le_of_ble_eq_true rfl) (Or.inr ⟨_, rfl⟩) m_213 dX6_studyName_38 (fun x10 _ => ?_)
    refine X_iload_n hg 1 rfl dX6_studyName_41 ?_
    refine X_ald hg dX6_studyName_42 (fun x11 _ => ?_)
    refine X_reg (fun (v12 : Hp) o => Xo g x0 3 0 0 147 [] [] v12 o) (fun kv12 hk12 => ?_) (fun v12 => ?_)
    · refine X_ib ?_
      refine X_icmp_ge hg (tgt := 87) dX6_studyName_43 rfl (fun c42 => ?_) (fun c42 => ?_)
      · refine X_aload_n hg 0 rfl dX6_studyName_87 ?_
        refine X_as ?_
        refine X_getR hg (j := 1) cf_6 (Nat.le_of_ble_eq_true rfl) (Or.inr ⟨_, rfl⟩) m_213 dX6_studyName_88 (fun x13 _ => ?_)
        refine X_iload_n hg 2 rfl dX6_studyName_91 ?_
        refine X_as ?_
        refine X_ald hg dX6_studyName_92 (fun x14 _ => ?_)
        refine X_aload_n hg 0 rfl dX6_studyName_93 ?_
        refine X_as ?_
        refine X_getR hg (j := 1) cf_6 (Nat.le_of_ble_eq_true rfl) (Or.inr ⟨_, rfl⟩) m_213 dX6_studyName_94 (fun x15 _ => ?_)
        refine X_iload_n hg 1 rfl dX6_studyName_97 ?_
        refine X_as ?_
        refine X_ald hg dX6_studyName_98 (fun x16 _ => ?_)
        refine X_ib ?_
        refine X_icmp_ne hg (tgt := 147) dX6_studyName_99 rfl (fun c29 => ?_) (fun c29 => ?_)
        · refine X_aload_n hg 0 rfl dX6_studyName_102 ?_
          refine X_as ?_
          refine X_getR hg (j := 2) cf_6 (Nat.le_of_ble_eq_true rfl) (Or.inr ⟨_, rfl⟩) m_214 dX6_studyName_103 (fun x17 _ => ?_)
          refine X_iload_n hg 1 rfl dX6_studyName_106 ?_
          refine X_aload_n hg 0 rfl dX6_studyName_107 ?_
          refine X_as ?_
          refine X_getR hg (j := 2) cf_6 (Nat.le_of_ble_eq_true rfl) (Or.inr ⟨_, rfl⟩) m_214 dX6_studyName_108 (fun x18 _ => ?_)
          refine X_iload_n hg 1 rfl dX6_studyName_111 ?_
          refine X_as ?_
          refine X_ald hg dX6_studyName_112 (fun x19 _ => ?_)
          refine X_aload_n hg 0 rfl dX6_studyName_113 ?_
          refine X_as ?_
          refine X_getR hg (j := 2) cf_6 (Nat.le_of_ble_eq_true rfl) (Or.inr ⟨_, rfl⟩) m_214 dX6_studyName_114 (fun x20 _ => ?_)
          refine X_iload_n hg 2 rfl dX6_studyName_117 ?_
          refine X_as ?_
          refine X_ald hg dX6_studyName_118 (fun x21 _ => ?_)
          refine X_iadd hg dX6_studyName_119 ?_
          refine X_ldc hg (v := (nI 1000000)) m_764 dX6_studyName_120 ?_
          refine X_irem hg (by decide) dX6_studyName_122 ?_
          refine X_as ?_
          refine X_ast hg dX6_studyName_123 (fun h22 _ => ?_)
          refine X_aload_n hg 0 rfl dX6_studyName_124 ?_
          refine X_as ?_
          refine X_getR hg (j := 3) cf_6 (Nat.le_of_ble_eq_true rfl) (Or.inr ⟨_, rfl⟩) m_215 dX6_studyName_125 (fun x23 _ => ?_)
          refine X_iload_n hg 1 rfl dX6_studyName_128 ?_
          refine X_aload_n hg 0 rfl dX6_studyName_129 ?_
          refine X_as ?_
          refine X_getR hg (j := 3) cf_6 (Nat.le_of_ble_eq_true rfl) (Or.inr ⟨_, rfl⟩) m_215 dX6_studyName_130 (fun x24 _ => ?_)
          refine X_iload_n hg 1 rfl dX6_studyName_133 ?_
          refine X_as ?_
          refine X_ald hg dX6_studyName_134 (fun x25 _ => ?_)
          refine X_aload_n hg 0 rfl dX6_studyName_135 ?_
          refine X_as ?_
          refine X_getR hg (j := 3) cf_6 (Nat.le_of_ble_eq_true rfl) (Or.inr ⟨_, rfl⟩) m_215 dX6_studyName_136 (fun x26 _ => ?_)
          refine X_iload_n hg 2 rfl dX6_studyName_139 ?_
          refine X_as ?_
          refine X_ald hg dX6_studyName_140 (fun x27 _ => ?_)
          refine X_iconst hg ic_i_1 dX6_studyName_141 ?_
          refine X_iadd hg dX6_studyName_142 ?_
          refine X_min hg m_742 m_stmin m_inM m_cdmin (Nat.le_of_ble_eq_true rfl) (Nat.le_of_ble_eq_true rfl) (Nat.le_of_ble_eq_true rfl) (Nat.le_of_ble_eq_true rfl) dX6_studyName_143 ?_
          refine X_as ?_
          refine X_ast hg dX6_studyName_146 (fun h28 _ => ?_)
          refine X_lv [] rfl ?_
          exact hk12 h28
        · refine X_lv [] rfl ?_
          exact hk12 h7
      · refine X_aload_n hg 0 rfl dX6_studyName_46 ?_
        refine X_as ?_
        refine X_getR hg (j := 1) cf_6 (Nat.le_of_ble_eq_true rfl) (Or.inr ⟨_, rfl⟩) m_213 dX6_studyName_47 (fun x30 _ => ?_)
        refine X_iload_n hg 1 rfl dX6_studyName_50 ?_
        refine X_aload_n hg 0 rfl dX6_studyName_51 ?_
        refine X_as ?_
        refine X_getR hg (j := 1) cf_6 (Nat.le_of_ble_eq_true rfl) (Or.inr ⟨_, rfl⟩) m_213 dX6_studyName_52 (fun x31 _ => ?_)
        refine X_iload_n hg 2 rfl dX6_studyName_55 ?_
        refine X_as ?_
        refine X_ald hg dX6_studyName_56 (fun x32 _ => ?_)
        refine X_as ?_
        refine X_ast hg dX6_studyName_57 (fun h33 _ => ?_)
        refine X_aload_n hg 0 rfl dX6_studyName_58 ?_
        refine X_as ?_
        refine X_getR hg (j := 2) cf_6 (Nat.le_of_ble_eq_true rfl) (Or.inr ⟨_, rfl⟩) m_214 dX6_studyName_59 (fun x34 _ => ?_)
        refine X_iload_n hg 1 rfl dX6_studyName_62 ?_
        refine X_aload_n hg 0 rfl dX6_studyName_63 ?_
        refine X_as ?_
        refine X_getR hg (j := 2) cf_6 (Nat.le_of_ble_eq_true rfl) (Or.inr ⟨_, rfl⟩) m_214 dX6_studyName_64 (fun x35 _ => ?_)
        refine X_iload_n hg 2 rfl dX6_studyName_67 ?_
        refine X_as ?_
        refine X_ald hg dX6_studyName_68 (fun x36 _ => ?_)
        refine X_as ?_
        refine X_ast hg dX6_studyName_69 (fun h37 _ => ?_)
        refine X_aload_n hg 0 rfl dX6_studyName_70 ?_
        refine X_as ?_
        refine X_getR hg (j := 3) cf_6 (Nat.le_of_ble_eq_true rfl) (Or.inr ⟨_, rfl⟩) m_215 dX6_studyName_71 (fun x38 _ => ?_)
        refine X_iload_n hg 1 rfl dX6_studyName_74 ?_
        refine X_aload_n hg 0 rfl dX6_studyName_75 ?_
        refine X_as ?_
        refine X_getR hg (j := 3) cf_6 (Nat.le_of_ble_eq_true rfl) (Or.inr ⟨_, rfl⟩) m_215 dX6_studyName_76 (fun x39 _ => ?_)
        refine X_iload_n hg 2 rfl dX6_studyName_79 ?_
        refine X_as ?_
        refine X_ald hg dX6_studyName_80 (fun x40 _ => ?_)
        refine X_iconst hg ic_i_1 dX6_studyName_81 ?_
        refine X_iadd hg dX6_studyName_82 ?_
        refine X_as ?_
        refine X_ast hg dX6_studyName_83 (fun h41 _ => ?_)
        refine X_goto hg (tgt := 147) dX6_studyName_84 rfl ?_
        refine X_lv [] rfl ?_
        exact hk12 h41
    · exact X_vret hg hr (Nat.le_of_ble_eq_true rfl) (Nat.le_of_ble_eq_true rfl) dX6_studyName_147
set_option maxRecDepth 10000 in
theorem l_X6_study_57 {g : XC} {x0 : Hp} (hg : XG g RX6 cX6_study 6 5 117 0 0) (l0 : Nat) (l1 : Nat) (l2 : Nat) (l4 : Int32) (hr : XR g none "study" none x0 0 0) (K : Hp → Option (Hp)) (hK0 : ∀ (h : Hp), Xo g x0 6 0 0 99 [(0, .ref (nB g.1 + l0)), (1, .ref (nB g.1 + l1)), (2, .ref (nB g.1 + l2)), (4, .int l4)] [] h (K h)) : ∀ (n : Nat) (l5 : Int32) (h : Hp), Xo g x0 6 0 0 57 [(0, .ref (nB g.1 + l0)), (1, .ref (nB g.1 + l1)), (2, .ref (nB g.1 + l2)), (4, .int l4), (5, .int l5)] [] h (f_X6_study_L57 l0 l1 l2 l4 K n l5 h) := by
  intro n
  induction n with
  | zero =>
    intro l5 h
    exact X_none
  | succ n ih =>
    intro l5 h
    unfold f_X6_study_L57
    refine X_iload hg 4 rfl dX6_study_57 ?_
    refine X_aload_n hg 1 rfl dX6_study_59 ?_
    refine X_cVI0 hg mf_X7_size m_419 m_420 m_747 cf_7 (fun _ e => gd_isO e) (fun y e => c_X7_size g.1 l1 h y e) (As := []) rfl (Nat.le_of_ble_eq_true rfl) rfl (Nat.le_of_ble_eq_true rfl) (Nat.le_of_ble_eq_true rfl) (Nat.le_of_ble_eq_true rfl) (Nat.le_of_ble_eq_true rfl) dX6_study_60 (fun x11 _ => ?_)
    refine X_icmp_ge hg (tgt := 99) dX6_study_63 rfl (fun c17 => ?_) (fun c17 => ?_)
    · refine X_lv [0, 1, 2, 3] rfl ?_
      exact hK0  _
    · refine X_aload_n hg 1 rfl dX6_study_66 ?_
      refine X_iload hg 4 rfl dX6_study_67 ?_
      refine X_aload_n hg 2 rfl dX6_study_69 ?_
      refine X_iload hg 3 rfl dX6_study_70 ?_
      refine X_cVI0 hg mf_X7_isTypedAt m_749 m_750 m_748 cf_7 (fun _ e => gd_isO e) (fun y e => c_X7_isTypedAt g.1 l1 l5 l2 l4 h y e) (As := [.int l5, .ref (nB g.1 + l2), .int l4]) rfl (Nat.le_of_ble_eq_true rfl) rfl (Nat.le_of_ble_eq_true rfl) (Nat.le_of_ble_eq_true rfl) (Nat.le_of_ble_eq_true rfl) (Nat.le_of_ble_eq_true rfl) dX6_study_72 (fun x12 _ => ?_)
      refine X_reg (fun (v13 : Hp) o => Xo g x0 6 0 0 93 [(0, .ref (nB g.1 + l0)), (1, .ref (nB g.1 + l1)), (2, .ref (nB g.1 + l2)), (4, .int l4), (5, .int l5)] [] v13 o) (fun kv13 hk13 => ?_) (fun v13 => ?_)
      · refine X_ib ?_
        refine X_if_eq hg (tgt := 93) dX6_study_75 rfl (fun c16 => ?_) (fun c16 => ?_)
        · exact hk13 h
        · refine X_aload_n hg 0 rfl dX6_study_78 ?_
          refine X_iload hg 3 rfl dX6_study_79 ?_
          refine X_iload hg 3 rfl dX6_study_81 ?_
          refine X_aload_n hg 1 rfl dX6_study_83 ?_
          refine X_iload hg 4 rfl dX6_study_84 ?_
          refine X_as ?_
          refine X_cVI0 hg mf_X7_lengthOf m_517 m_518 m_756 cf_7 (fun _ e => gd_isO e) (fun y e => c_X7_lengthOf g.1 l1 l5 h y e) (As := [.int l5]) rfl (Nat.le_of_ble_eq_true rfl) rfl (Nat.le_of_ble_eq_true rfl) (Nat.le_of_ble_eq_true rfl) (Nat.le_of_ble_eq_true rfl) (Nat.le_of_ble_eq_true rfl) dX6_study_86 (fun x14 _ => ?_)
          refine X_iadd hg dX6_study_89 ?_
          refine X_as ?_
          refine X_cVV0 hg mf_X6_studyName m_759 m_18 m_757 cf_6 (fun _ e => gd_isO e) (fun y e => c_X6_studyName g.1 l0 l4 (l4 + x14) h y e) (As := [.int l4, .int (l4 + x14)]) rfl (Nat.le_of_ble_eq_true rfl) rfl (Nat.le_of_ble_eq_true rfl) (Nat.le_of_ble_eq_true rfl) (Nat.le_of_ble_eq_true rfl) (Nat.le_of_ble_eq_true rfl) dX6_study_90 (fun h15 _ => ?_)
          exact hk13 h15
      · refine X_iinc hg 4 rfl (v := (l5 + (nI 1))) (icc ic_i_1) (Nat.le_of_ble_eq_true rfl) (lv' := [(5, .int (l5 + (nI 1))), (0, .ref (nB g.1 + l0)), (1, .ref (nB g.1 + l1)), (2, .ref (nB g.1 + l2)), (4, .int l4)]) rfl dX6_study_93 ?_
        refine X_goto hg (tgt := 57) dX6_study_96 rfl ?_
        refine X_lv [1, 2, 3, 4, 0] rfl ?_
        exact ih _ _
set_option maxRecDepth 10000 in
theorem l_X6_study_43 {g : XC} {x0 : Hp} (hg : XG g RX6 cX6_study 6 5 117 0 0) (l0 : Nat) (l1 : Nat) (l2 : Nat) (hr : XR g none "study" none x0 0 0) (K : Hp → Option (Hp)) (hK0 : ∀ (h : Hp), Xo g x0 6 0 0 105 [(0, .ref (nB g.1 + l0)), (1, .ref (nB g.1 + l1)), (2, .ref (nB g.1 + l2))] [] h (K h)) : ∀ (n : Nat) (l4 : Int32) (h : Hp), Xo g x0 6 0 0 43 [(0, .ref (nB g.1 + l0)), (1, .ref (nB g.1 + l1)), (2, .ref (nB g.1 + l2)), (4, .int l4)] [] h (f_X6_study_L43 l0 l1 l2 K n l4 h) := by
  intro n
  induction n with
  | zero =>
    intro l4 h
    exact X_none
  | succ n ih =>
    intro l4 h
    unfold f_X6_study_L43
    refine X_iload hg 3 rfl dX6_study_43 ?_
    refine X_if_lt hg (tgt := 105) dX6_study_45 rfl (fun c19 => ?_) (fun c19 => ?_)
    · refine X_lv [0, 1, 2] rfl ?_
      exact hK0  _
    · refine X_aload_n hg 0 rfl dX6_study_48 ?_
      refine X_iload hg 3 rfl dX6_study_49 ?_
      refine X_cVV0 hg mf_X6_studyDigit m_745 m_17 m_743 cf_6 (fun _ e => gd_isO e) (fun y e => c_X6_studyDigit g.1 l0 l4 h y e) (As := [.int l4]) rfl (Nat.le_of_ble_eq_true rfl) rfl (Nat.le_of_ble_eq_true rfl) (Nat.le_of_ble_eq_true rfl) (Nat.le_of_ble_eq_true rfl) (Nat.le_of_ble_eq_true rfl) dX6_study_51 (fun h10 _ => ?_)
      refine X_iconst hg ic_i_0 dX6_study_54 ?_
      refine X_istore hg (Nat.le_of_ble_eq_true rfl) (lv' := [(5, .int (nI 0)), (0, .ref (nB g.1 + l0)), (1, .ref (nB g.1 + l1)), (2, .ref (nB g.1 + l2)), (4, .int l4)]) rfl dX6_study_55 ?_
      refine X_lv [1, 2, 3, 4, 0] rfl ?_
      refine l_X6_study_57 hg _ _ _ _ hr _ (fun h18 => ?_) _ _ _
      refine X_iinc hg 3 rfl (v := (l4 + m1)) (icc ic_i_m1) (Nat.le_of_ble_eq_true rfl) (lv' := [(4, .int (l4 + m1)), (0, .ref (nB g.1 + l0)), (1, .ref (nB g.1 + l1)), (2, .ref (nB g.1 + l2))]) rfl dX6_study_99 ?_
      refine X_goto hg (tgt := 43) dX6_study_102 rfl ?_
      refine X_lv [1, 2, 3, 0] rfl ?_
      exact ih _ _
set_option maxRecDepth 10000 in
theorem c_X6_study (en : EN) (a0 : Nat) (a1 : Nat) (a2 : Nat) (h : Hp) (x0 : Hp) (e : f_X6_study a0 a1 a2 h = some x0) : Ct en yX6_study cX6_study 6 none 5 117 0 0 [.ref (nB en + a0), .ref (nB en + a1), .ref (nB en + a2)] h none x0 := by
  refine Ct.of (by decide) rfl (Nat.le_of_ble_eq_true rfl) e (fun g hen hg hr => ?_)
  subst hen
  unfold f_X6_study
  refine X_gd ?_
  refine X_aload_n hg 2 rfl dX6_study_0 ?_
  refine X_cVI0 hg mf_X8_size m_337 m_338 m_741 cf_8 (fun _ e => gd_isO e) (fun y e => c_X8_size g.1 a2 h y e) (As := []) rfl (Nat.le_of_ble_eq_true rfl) rfl (Nat.le_of_ble_eq_true rfl) (Nat.le_of_ble_eq_true rfl) (Nat.le_of_ble_eq_true rfl) (Nat.le_of_ble_eq_true rfl) dX6_study_1 (fun x1 _ => ?_)
  refine X_bipush hg ic_b_10 dX6_study_4 ?_
  refine X_min hg m_742 m_stmin m_inM m_cdmin (Nat.le_of_ble_eq_true rfl) (Nat.le_of_ble_eq_true rfl) (Nat.le_of_ble_eq_true rfl) (Nat.le_of_ble_eq_true rfl) dX6_study_6 ?_
  refine X_istore_n hg rfl (Nat.le_of_ble_eq_true rfl) (lv' := [(3, .int (imn x1 (nI 10))), (0, .ref (nB g.1 + a0)), (1, .ref (nB g.1 + a1)), (2, .ref (nB g.1 + a2))]) rfl dX6_study_9 ?_
  refine X_aload_n hg 1 rfl dX6_study_10 ?_
  refine X_getR hg (j := 0) cf_6 (Nat.le_of_ble_eq_true rfl) (Or.inr ⟨_, rfl⟩) m_212 dX6_study_11 (fun x2 _ => ?_)
  refine X_iload_n hg 0 rfl dX6_study_14 ?_
  refine X_iconst hg ic_i_1 dX6_study_15 ?_
  refine X_ast hg dX6_study_16 (fun h3 _ => ?_)
  refine X_aload_n hg 1 rfl dX6_study_17 ?_
  refine X_getR hg (j := 1) cf_6 (Nat.le_of_ble_eq_true rfl) (Or.inr ⟨_, rfl⟩) m_213 dX6_study_18 (fun x4 _ => ?_)
  refine X_iload_n hg 0 rfl dX6_study_21 ?_
  refine X_iconst hg ic_i_0 dX6_study_22 ?_
  refine X_ast hg dX6_study_23 (fun h5 _ => ?_)
  refine X_aload_n hg 1 rfl dX6_study_24 ?_
  refine X_getR hg (j := 2) cf_6 (Nat.le_of_ble_eq_true rfl) (Or.inr ⟨_, rfl⟩) m_214 dX6_study_25 (fun x6 _ => ?_)
  refine X_iload_n hg 0 rfl dX6_study_28 ?_
  refine X_iconst hg ic_i_1 dX6_study_29 ?_
  refine X_ast hg dX6_study_30 (fun h7 _ => ?_)
  refine X_aload_n hg 1 rfl dX6_study_31 ?_
  refine X_getR hg (j := 3) cf_6 (Nat.le_of_ble_eq_true rfl) (Or.inr ⟨_, rfl⟩) m_215 dX6_study_32 (fun x8 _ => ?_)
  refine X_iload_n hg 0 rfl dX6_study_35 ?_
  refine X_iconst hg ic_i_0 dX6_study_36 ?_
  refine X_ast hg dX6_study_37 (fun h9 _ => ?_)
  refine X_iload_n hg 0 rfl dX6_study_38 ?_
  refine X_iconst hg ic_i_1 dX6_study_39 ?_
  refine X_isub hg dX6_study_40 ?_
  refine X_istore hg (Nat.le_of_ble_eq_true rfl) (lv' := [(4, .int ((imn x1 (nI 10)) - (nI 1))), (3, .int (imn x1 (nI 10))), (0, .ref (nB g.1 + a0)), (1, .ref (nB g.1 + a1)), (2, .ref (nB g.1 + a2))]) rfl dX6_study_41 ?_
  refine X_lv [2, 3, 4, 0] rfl ?_
  refine l_X6_study_43 hg _ _ _ hr _ (fun h20 => ?_) _ _ _
  refine X_aload_n hg 0 rfl dX6_study_105 ?_
  refine X_aload_n hg 1 rfl dX6_study_106 ?_
  refine X_aload_n hg 2 rfl dX6_study_107 ?_
  refine X_cVV0 hg mf_X6_layBest m_767 m_19 m_765 cf_6 (fun _ e => gd_isO e) (fun y e => c_X6_layBest g.1 a0 a1 a2 h20 y e) (As := [.ref (nB g.1 + a1), .ref (nB g.1 + a2)]) rfl (Nat.le_of_ble_eq_true rfl) rfl (Nat.le_of_ble_eq_true rfl) (Nat.le_of_ble_eq_true rfl) (Nat.le_of_ble_eq_true rfl) (Nat.le_of_ble_eq_true rfl) dX6_study_108 (fun h21 _ => ?_)
  exact X_vret hg hr (Nat.le_of_ble_eq_true rfl) (Nat.le_of_ble_eq_true rfl) dX6_study_111
set_option maxRecDepth 10000 in
theorem c_X6_best (en : EN) (a0 : Nat) (h : Hp) (x0 : Nat) (e : f_X6_best a0 h = some x0) : Ct en yX6_best cX6_best 1 (some (.object "DialMenus$Row")) 0 0 0 0 [.ref (nB en + a0)] h (some (.ref (nB en + x0))) h := by
  refine Ct.of (by decide) rfl (Nat.le_of_ble_eq_true rfl) e (fun g hen hg hr => ?_)
  subst hen
  unfold f_X6_best
  refine X_gd ?_
  refine X_aload_n hg 0 rfl dX6_best_0 ?_
  refine X_getR hg (j := 4) cf_6 (Nat.le_of_ble_eq_true rfl) (Or.inl ⟨_, rfl⟩) m_216 dX6_best_1 (fun x1 _ => ?_)
  exact X_aret hg (Or.inl ⟨_, rfl⟩) hr (Nat.le_of_ble_eq_true rfl) (Nat.le_of_ble_eq_true rfl) dX6_best_4
set_option maxRecDepth 10000 in
theorem c_X6_number (en : EN) (a0 : Nat) (a1 : Int32) (h : Hp) (x0 : Int32) (e : f_X6_number a0 a1 h = some x0) : Ct en yX6_number cX6_number 2 (some .int) 0 0 0 0 [.ref (nB en + a0), .int a1] h (some (.int x0)) h := by
  refine Ct.of (by decide) rfl (Nat.le_of_ble_eq_true rfl) e (fun g hen hg hr => ?_)
  subst hen
  unfold f_X6_number
  refine X_gd ?_
  refine X_iload_n hg 1 rfl dX6_number_0 ?_
  refine X_tsw hg (v := (nI 0)) (tgt := 32) dX6_number_1 (by decide) (by decide) rfl rfl (fun c3 => ?_) (fun c3 => ?_)
  · refine X_aload_n hg 0 rfl dX6_number_32 ?_
    refine X_getR hg (j := 0) cf_6 (Nat.le_of_ble_eq_true rfl) (Or.inr ⟨_, rfl⟩) m_212 dX6_number_33 (fun x1 _ => ?_)
    refine X_iconst hg ic_i_0 dX6_number_36 ?_
    refine X_ald hg dX6_number_37 (fun x2 _ => ?_)
    exact X_iret hg hr (Nat.le_of_ble_eq_true rfl) (Nat.le_of_ble_eq_true rfl) dX6_number_38
  · skip
    refine X_tsw hg (v := (nI 1)) (tgt := 39) dX6_number_1 (by decide) (by decide) rfl rfl (fun c6 => ?_) (fun c6 => ?_)
    · refine X_aload_n hg 0 rfl dX6_number_39 ?_
      refine X_getR hg (j := 1) cf_6 (Nat.le_of_ble_eq_true rfl) (Or.inr ⟨_, rfl⟩) m_213 dX6_number_40 (fun x4 _ => ?_)
      refine X_iconst hg ic_i_0 dX6_number_43 ?_
      refine X_ald hg dX6_number_44 (fun x5 _ => ?_)
      exact X_iret hg hr (Nat.le_of_ble_eq_true rfl) (Nat.le_of_ble_eq_true rfl) dX6_number_45
    · skip
      refine X_tsw hg (v := (nI 2)) (tgt := 46) dX6_number_1 (by decide) (by decide) rfl rfl (fun c9 => ?_) (fun c9 => ?_)
      · refine X_aload_n hg 0 rfl dX6_number_46 ?_
        refine X_getR hg (j := 3) cf_6 (Nat.le_of_ble_eq_true rfl) (Or.inr ⟨_, rfl⟩) m_215 dX6_number_47 (fun x7 _ => ?_)
        refine X_iconst hg ic_i_0 dX6_number_50 ?_
        refine X_ald hg dX6_number_51 (fun x8 _ => ?_)
        exact X_iret hg hr (Nat.le_of_ble_eq_true rfl) (Nat.le_of_ble_eq_true rfl) dX6_number_52
      · skip
        refine X_tsw hg (v := (nI 3)) (tgt := 53) dX6_number_1 (by decide) (by decide) rfl rfl (fun c12 => ?_) (fun c12 => ?_)
        · refine X_aload_n hg 0 rfl dX6_number_53 ?_
          refine X_getR hg (j := 2) cf_6 (Nat.le_of_ble_eq_true rfl) (Or.inr ⟨_, rfl⟩) m_214 dX6_number_54 (fun x10 _ => ?_)
          refine X_iconst hg ic_i_0 dX6_number_57 ?_
          refine X_ald hg dX6_number_58 (fun x11 _ => ?_)
          exact X_iret hg hr (Nat.le_of_ble_eq_true rfl) (Nat.le_of_ble_eq_true rfl) dX6_number_59
        · skip
          refine X_tsd hg (tgt := 60) dX6_number_1 (by have q0 := lv_neT c3 (a := 0) rfl; have q1 := lv_neT c6 (a := 1) rfl; have q2 := lv_neT c9 (a := 2) rfl; have q3 := lv_neT c12 (a := 3) rfl; omega) rfl ?_
          refine X_bipush hg ic_b_m102 dX6_number_60 ?_
          exact X_iret hg hr (Nat.le_of_ble_eq_true rfl) (Nat.le_of_ble_eq_true rfl) dX6_number_62
set_option maxRecDepth 10000 in
theorem c_X7_init (en : EN) (a0 : Nat) (h : Hp) (x0 : Hp) (e : f_X7_init a0 h = some x0) : Ct en yX7_init cX7_init 1 none 1 24 1 14 [.ref (nB en + a0)] h none x0 := by
  refine Ct.of (by decide) rfl (Nat.le_of_ble_eq_true rfl) e (fun g hen hg hr => ?_)
  subst hen
  unfold f_X7_init
  refine X_gd ?_
  refine X_aload_n hg 0 rfl dX7_init_0 ?_
  refine X_obji hg m_157 m_oi m_oc (Nat.le_of_ble_eq_true rfl) (Nat.le_of_ble_eq_true rfl) dX7_init_1 ?_
  refine X_aload_n hg 0 rfl dX7_init_4 ?_
  refine X_bipush hg ic_b_14 dX7_init_5 ?_
  refine X_newE hg m_158 m_ovE (Nat.le_of_ble_eq_true rfl) (Nat.le_of_ble_eq_true rfl) (Nat.le_of_ble_eq_true rfl) dX7_init_7 (fun h1 _ => ?_)
  refine X_putRF hg hr.2.2.1 (j := 0) cf_7 (Nat.le_of_ble_eq_true rfl) rfl rfl (Or.inr ⟨_, rfl⟩) m_160 dX7_init_10 (fun h2 _ => ?_)
  exact X_vret hg hr (Nat.le_of_ble_eq_true rfl) (Nat.le_of_ble_eq_true rfl) dX7_init_13
set_option maxRecDepth 10000 in
theorem c_X7_has (en : EN) (a0 : Nat) (a1 : Int32) (h : Hp) (x0 : Int32) (e : f_X7_has a0 a1 h = some x0) : Ct en yX7_has cX7_has 2 (some .boolean) 1 21 0 0 [.ref (nB en + a0), .int a1] h (some (.int x0)) h := by
  refine Ct.of (by decide) rfl (Nat.le_of_ble_eq_true rfl) e (fun g hen hg hr => ?_)
  subst hen
  unfold f_X7_has
  refine X_gd ?_
  refine X_aload_n hg 0 rfl dX7_has_0 ?_
  refine X_iload_n hg 1 rfl dX7_has_1 ?_
  refine X_cVQ0 hg mf_X7_get m_497 m_8 m_495 cf_7 (fun _ e => gd_isO e) (fun y e => c_X7_get g.1 a0 a1 h y e) (As := [.int a1]) rfl (Nat.le_of_ble_eq_true rfl) rfl (Nat.le_of_ble_eq_true rfl) (Nat.le_of_ble_eq_true rfl) (Nat.le_of_ble_eq_true rfl) (Nat.le_of_ble_eq_true rfl) dX7_has_2 (fun x1 _ => ?_)
  refine X_reg (fun (v2 : Int32) o => Xo g x0 2 0 0 13 [] [.int v2] h o) (fun kv2 hk2 => ?_) (fun v2 => ?_)
  · refine X_eb ?_
    refine X_ifnull hg (tgt := 12) dX7_has_5 rfl (fun c4 => ?_) (fun q3 c4 => ?_)
    · refine X_iconst hg ic_i_0 dX7_has_12 ?_
      refine X_lv [] rfl ?_
      exact hk2 (nI 0)
    · subst c4
      refine X_iconst hg ic_i_1 dX7_has_8 ?_
      refine X_goto hg (tgt := 13) dX7_has_9 rfl ?_
      refine X_lv [] rfl ?_
      exact hk2 (nI 1)
  · exact X_zret hg hr (Nat.le_of_ble_eq_true rfl) (Nat.le_of_ble_eq_true rfl) dX7_has_13
set_option maxRecDepth 10000 in
theorem l_X7_placeOf_14 {g : XC} {x0 : Int32} (hg : XG g RX7 cX7_placeOf 7 1 22 0 0) (l1 : Nat) (l3 : Nat) (l4 : Int32) (h : Hp) (hr : XR g (some .int) "placeOf" (some (.int x0)) h 0 0) (K : Int32 → Option (Int32)) (hK0 : ∀ (l2 : Int32), Xo g x0 7 0 0 50 [(2, .int l2)] [] h (K l2)) : ∀ (n : Nat) (l2 : Int32) (l5 : Int32), Xo g x0 7 0 0 14 [(1, .ref (nB g.1 + l1)), (2, .int l2), (3, .ref (nB g.1 + l3)), (4, .int l4), (5, .int l5)] [] h (f_X7_placeOf_L14 l1 l3 l4 h K n l2 l5) := by
  intro n
  induction n with
  | zero =>
    intro l2 l5
    exact X_none
  | succ n ih =>
    intro l2 l5
    unfold f_X7_placeOf_L14
    refine X_iload hg 4 rfl dX7_placeOf_14 ?_
    refine X_iload hg 3 rfl dX7_placeOf_16 ?_
    refine X_icmp_ge hg (tgt := 50) dX7_placeOf_18 rfl (fun c9 => ?_) (fun c9 => ?_)
    · refine X_lv [1] rfl ?_
      exact hK0 _
    · refine X_aload_n hg 2 rfl dX7_placeOf_21 ?_
      refine X_iload hg 4 rfl dX7_placeOf_22 ?_
      refine X_aldN hg dX7_placeOf_24 (fun x3 _ => ?_)
      refine X_astoreQ hg (Nat.le_of_ble_eq_true rfl) (lv' := [(6, rl (nB g.1) x3), (1, .ref (nB g.1 + l1)), (2, .int l2), (3, .ref (nB g.1 + l3)), (4, .int l4), (5, .int l5)]) rfl dX7_placeOf_25 ?_
      refine X_aloadQ hg 0 rfl dX7_placeOf_27 ?_
      refine X_reg (fun (v4 : Int32) o => Xo g x0 7 0 0 44 [(1, .ref (nB g.1 + l1)), (2, .int v4), (3, .ref (nB g.1 + l3)), (4, .int l4), (5, .int l5)] [] h o) (fun kv4 hk4 => ?_) (fun v4 => ?_)
      · refine X_eb ?_
        refine X_ifnull hg (tgt := 44) dX7_placeOf_29 rfl (fun c8 => ?_) (fun q5 c8 => ?_)
        · refine X_lv [1, 2, 3, 4, 5] rfl ?_
          exact hk4 l2
        · subst c8
          refine X_aload hg 0 rfl dX7_placeOf_32 ?_
          refine X_aload_n hg 1 rfl dX7_placeOf_34 ?_
          refine X_as ?_
          refine X_cVI0 hg mf_X1_comesBefore m_465 m_466 m_464 cf_1 (fun _ e => gd_isO e) (fun y e => c_X1_comesBefore g.1 q5 l1 h y e) (As := [.ref (nB g.1 + l1)]) rfl (Nat.le_of_ble_eq_true rfl) rfl (Nat.le_of_ble_eq_true rfl) (Nat.le_of_ble_eq_true rfl) (Nat.le_of_ble_eq_true rfl) (Nat.le_of_ble_eq_true rfl) dX7_placeOf_35 (fun x6 _ => ?_)
          refine X_ib ?_
          refine X_if_eq hg (tgt := 44) dX7_placeOf_38 rfl (fun c7 => ?_) (fun c7 => ?_)
          · refine X_lv [1, 2, 3, 4, 5] rfl ?_
            exact hk4 l2
          · refine X_iinc hg 2 rfl (v := (l2 + (nI 1))) (icc ic_i_1) (Nat.le_of_ble_eq_true rfl) (lv' := [(2, .int (l2 + (nI 1))), (6, .ref (nB g.1 + q5)), (1, .ref (nB g.1 + l1)), (3, .ref (nB g.1 + l3)), (4, .int l4), (5, .int l5)]) rfl dX7_placeOf_41 ?_
            refine X_lv [2, 0, 3, 4, 5] rfl ?_
            exact hk4 (l2 + (nI 1))
      · refine X_iinc hg 4 rfl (v := (l5 + (nI 1))) (icc ic_i_1) (Nat.le_of_ble_eq_true rfl) (lv' := [(5, .int (l5 + (nI 1))), (1, .ref (nB g.1 + l1)), (2, .int v4), (3, .ref (nB g.1 + l3)), (4, .int l4)]) rfl dX7_placeOf_44 ?_
        refine X_goto hg (tgt := 14) dX7_placeOf_47 rfl ?_
        refine X_lv [1, 2, 3, 4, 0] rfl ?_
        exact ih _ _
set_option maxRecDepth 10000 in
theorem c_X7_placeOf (en : EN) (a0 : Nat) (a1 : Nat) (h : Hp) (x0 : Int32) (e : f_X7_placeOf a0 a1 h = some x0) : Ct en yX7_placeOf cX7_placeOf 7 (some .int) 1 22 0 0 [.ref (nB en + a0), .ref (nB en + a1)] h (some (.int x0)) h := by
  refine Ct.of (by decide) rfl (Nat.le_of_ble_eq_true rfl) e (fun g hen hg hr => ?_)
  subst hen
  unfold f_X7_placeOf
  refine X_gd ?_
  refine X_iconst hg ic_i_0 dX7_placeOf_0 ?_
  refine X_istore_n hg rfl (Nat.le_of_ble_eq_true rfl) (lv' := [(2, .int (nI 0)), (0, .ref (nB g.1 + a0)), (1, .ref (nB g.1 + a1))]) rfl dX7_placeOf_1 ?_
  refine X_aload_n hg 1 rfl dX7_placeOf_2 ?_
  refine X_getR hg (j := 0) cf_7 (Nat.le_of_ble_eq_true rfl) (Or.inr ⟨_, rfl⟩) m_160 dX7_placeOf_3 (fun x1 _ => ?_)
  refine X_astore_n hg rfl (Nat.le_of_ble_eq_true rfl) (lv' := [(3, .ref (nB g.1 + x1)), (2, .int (nI 0)), (0, .ref (nB g.1 + a0)), (1, .ref (nB g.1 + a1))]) rfl dX7_placeOf_6 ?_
  refine X_aload_n hg 0 rfl dX7_placeOf_7 ?_
  refine X_aln hg (Or.inr (Or.inl rfl)) dX7_placeOf_8 (fun x2 _ => ?_)
  refine X_istore hg (Nat.le_of_ble_eq_true rfl) (lv' := [(4, .int x2), (3, .ref (nB g.1 + x1)), (2, .int (nI 0)), (0, .ref (nB g.1 + a0)), (1, .ref (nB g.1 + a1))]) rfl dX7_placeOf_9 ?_
  refine X_iconst hg ic_i_0 dX7_placeOf_11 ?_
  refine X_istore hg (Nat.le_of_ble_eq_true rfl) (lv' := [(5, .int (nI 0)), (4, .int x2), (3, .ref (nB g.1 + x1)), (2, .int (nI 0)), (0, .ref (nB g.1 + a0)), (1, .ref (nB g.1 + a1))]) rfl dX7_placeOf_12 ?_
  refine X_lv [5, 3, 2, 1, 0] rfl ?_
  refine l_X7_placeOf_14 hg _ _ _ _ hr _ (fun y10 => ?_) _ _ _
  refine X_iload_n hg 0 rfl dX7_placeOf_50 ?_
  exact X_iret hg hr (Nat.le_of_ble_eq_true rfl) (Nat.le_of_ble_eq_true rfl) dX7_placeOf_51
set_option maxRecDepth 10000 in
theorem l_X7_insert_25 {g : XC} {x0 : Hp} (hg : XG g RX7 cX7_insert 4 2 48 0 0) (l0 : Nat) (l1 : Nat) (l2 : Int32) (hr : XR g none "insert" none x0 0 0) (K : Hp → Option (Hp)) (hK0 : ∀ (h : Hp), Xo g x0 4 0 0 50 [(0, .ref (nB g.1 + l0)), (1, .ref (nB g.1 + l1)), (2, .int l2)] [] h (K h)) : ∀ (n : Nat) (l3 : Int32) (h : Hp), Xo g x0 4 0 0 25 [(0, .ref (nB g.1 + l0)), (1, .ref (nB g.1 + l1)), (2, .int l2), (3, .int l3)] [] h (f_X7_insert_L25 l0 l1 l2 K n l3 h) := by
  intro n
  induction n with
  | zero =>
    intro l3 h
    exact X_none
  | succ n ih =>
    intro l3 h
    unfold f_X7_insert_L25
    refine X_iload_n hg 3 rfl dX7_insert_25 ?_
    refine X_iload_n hg 2 rfl dX7_insert_26 ?_
    refine X_icmp_le hg (tgt := 50) dX7_insert_27 rfl (fun c8 => ?_) (fun c8 => ?_)
    · refine X_lv [0, 1, 2] rfl ?_
      exact hK0  _
    · refine X_aload_n hg 0 rfl dX7_insert_30 ?_
      refine X_getR hg (j := 0) cf_7 (Nat.le_of_ble_eq_true rfl) (Or.inr ⟨_, rfl⟩) m_160 dX7_insert_31 (fun x4 _ => ?_)
      refine X_iload_n hg 3 rfl dX7_insert_34 ?_
      refine X_aload_n hg 0 rfl dX7_insert_35 ?_
      refine X_getR hg (j := 0) cf_7 (Nat.le_of_ble_eq_true rfl) (Or.inr ⟨_, rfl⟩) m_160 dX7_insert_36 (fun x5 _ => ?_)
      refine X_iload_n hg 3 rfl dX7_insert_39 ?_
      refine X_iconst hg ic_i_1 dX7_insert_40 ?_
      refine X_isub hg dX7_insert_41 ?_
      refine X_aldN hg dX7_insert_42 (fun x6 _ => ?_)
      refine X_astN hg cf_1 (v := x6) dX7_insert_43 (fun h7 _ => ?_)
      refine X_iinc hg 3 rfl (v := (l3 + m1)) (icc ic_i_m1) (Nat.le_of_ble_eq_true rfl) (lv' := [(3, .int (l3 + m1)), (0, .ref (nB g.1 + l0)), (1, .ref (nB g.1 + l1)), (2, .int l2)]) rfl dX7_insert_44 ?_
      refine X_goto hg (tgt := 25) dX7_insert_47 rfl ?_
      refine X_lv [1, 2, 3, 0] rfl ?_
      exact ih _ _
set_option maxRecDepth 10000 in
theorem c_X7_insert (en : EN) (a0 : Nat) (a1 : Nat) (h : Hp) (x0 : Hp) (e : f_X7_insert a0 a1 h = some x0) : Ct en yX7_insert cX7_insert 4 none 2 48 0 0 [.ref (nB en + a0), .ref (nB en + a1)] h none x0 := by
  refine Ct.of (by decide) rfl (Nat.le_of_ble_eq_true rfl) e (fun g hen hg hr => ?_)
  subst hen
  unfold f_X7_insert
  refine X_gd ?_
  refine X_aload_n hg 1 rfl dX7_insert_0 ?_
  refine X_ifnullA hg dX7_insert_1 ?_
  refine X_aload_n hg 0 rfl dX7_insert_4 ?_
  refine X_getI hg (j := 1) cf_7 (Nat.le_of_ble_eq_true rfl) (Or.inl rfl) m_161 dX7_insert_5 (fun x1 _ => ?_)
  refine X_bipush hg ic_b_14 dX7_insert_8 ?_
  refine X_icmp_lt hg (tgt := 14) dX7_insert_10 rfl (fun c14 => ?_) (fun c14 => ?_)
  · refine X_aload_n hg 0 rfl dX7_insert_14 ?_
    refine X_aload_n hg 1 rfl dX7_insert_15 ?_
    refine X_cVI0 hg mf_X7_placeOf m_462 m_7 m_460 cf_7 (fun _ e => gd_isO e) (fun y e => c_X7_placeOf g.1 a0 a1 h y e) (As := [.ref (nB g.1 + a1)]) rfl (Nat.le_of_ble_eq_true rfl) rfl (Nat.le_of_ble_eq_true rfl) (Nat.le_of_ble_eq_true rfl) (Nat.le_of_ble_eq_true rfl) (Nat.le_of_ble_eq_true rfl) dX7_insert_16 (fun x2 _ => ?_)
    refine X_istore_n hg rfl (Nat.le_of_ble_eq_true rfl) (lv' := [(2, .int x2), (0, .ref (nB g.1 + a0)), (1, .ref (nB g.1 + a1))]) rfl dX7_insert_19 ?_
    refine X_aload_n hg 1 rfl dX7_insert_20 ?_
    refine X_getI hg (j := 1) cf_7 (Nat.le_of_ble_eq_true rfl) (Or.inl rfl) m_161 dX7_insert_21 (fun x3 _ => ?_)
    refine X_istore_n hg rfl (Nat.le_of_ble_eq_true rfl) (lv' := [(3, .int x3), (2, .int x2), (0, .ref (nB g.1 + a0)), (1, .ref (nB g.1 + a1))]) rfl dX7_insert_24 ?_
    refine X_lv [2, 3, 1, 0] rfl ?_
    refine l_X7_insert_25 hg _ _ _ hr _ (fun h9 => ?_) _ _ _
    refine X_aload_n hg 0 rfl dX7_insert_50 ?_
    refine X_getR hg (j := 0) cf_7 (Nat.le_of_ble_eq_true rfl) (Or.inr ⟨_, rfl⟩) m_160 dX7_insert_51 (fun x10 _ => ?_)
    refine X_iload_n hg 2 rfl dX7_insert_54 ?_
    refine X_aload_n hg 1 rfl dX7_insert_55 ?_
    refine X_astN hg cf_1 (v := (some a1)) dX7_insert_56 (fun h11 _ => ?_)
    refine X_aload_n hg 0 rfl dX7_insert_57 ?_
    refine X_dup hg rfl dX7_insert_58 ?_
    refine X_getI hg (j := 1) cf_7 (Nat.le_of_ble_eq_true rfl) (Or.inl rfl) m_161 dX7_insert_59 (fun x12 _ => ?_)
    refine X_iconst hg ic_i_1 dX7_insert_62 ?_
    refine X_iadd hg dX7_insert_63 ?_
    refine X_putI hg (j := 1) cf_7 (Nat.le_of_ble_eq_true rfl) rfl (Or.inl rfl) m_161 dX7_insert_64 (fun h13 _ => ?_)
    exact X_vret hg hr (Nat.le_of_ble_eq_true rfl) (Nat.le_of_ble_eq_true rfl) dX7_insert_67
  · exact X_vret hg hr (Nat.le_of_ble_eq_true rfl) (Nat.le_of_ble_eq_true rfl) dX7_insert_13
set_option maxRecDepth 10000 in
theorem l_X7_remove_11 {g : XC} {x0 : Hp} (hg : XG g RX7 cX7_remove 3 2 42 0 0) (l0 : Nat) (hr : XR g none "remove" none x0 0 0) (K : Hp → Option (Hp)) (hK0 : ∀ (h : Hp), Xo g x0 3 0 0 41 [(0, .ref (nB g.1 + l0))] [] h (K h)) : ∀ (n : Nat) (l2 : Int32) (h : Hp), Xo g x0 3 0 0 11 [(0, .ref (nB g.1 + l0)), (2, .int l2)] [] h (f_X7_remove_L11 l0 K n l2 h) := by
  intro n
  induction n with
  | zero =>
    intro l2 h
    exact X_none
  | succ n ih =>
    intro l2 h
    unfold f_X7_remove_L11
    refine X_iload_n hg 1 rfl dX7_remove_11 ?_
    refine X_iconst hg ic_i_1 dX7_remove_12 ?_
    refine X_iadd hg dX7_remove_13 ?_
    refine X_aload_n hg 0 rfl dX7_remove_14 ?_
    refine X_getI hg (j := 1) cf_7 (Nat.le_of_ble_eq_true rfl) (Or.inl rfl) m_161 dX7_remove_15 (fun x2 _ => ?_)
    refine X_icmp_ge hg (tgt := 41) dX7_remove_18 rfl (fun c7 => ?_) (fun c7 => ?_)
    · refine X_lv [0] rfl ?_
      exact hK0  _
    · refine X_aload_n hg 0 rfl dX7_remove_21 ?_
      refine X_getR hg (j := 0) cf_7 (Nat.le_of_ble_eq_true rfl) (Or.inr ⟨_, rfl⟩) m_160 dX7_remove_22 (fun x3 _ => ?_)
      refine X_iload_n hg 1 rfl dX7_remove_25 ?_
      refine X_aload_n hg 0 rfl dX7_remove_26 ?_
      refine X_getR hg (j := 0) cf_7 (Nat.le_of_ble_eq_true rfl) (Or.inr ⟨_, rfl⟩) m_160 dX7_remove_27 (fun x4 _ => ?_)
      refine X_iload_n hg 1 rfl dX7_remove_30 ?_
      refine X_iconst hg ic_i_1 dX7_remove_31 ?_
      refine X_iadd hg dX7_remove_32 ?_
      refine X_aldN hg dX7_remove_33 (fun x5 _ => ?_)
      refine X_astN hg cf_1 (v := x5) dX7_remove_34 (fun h6 _ => ?_)
      refine X_iinc hg 1 rfl (v := (l2 + (nI 1))) (icc ic_i_1) (Nat.le_of_ble_eq_true rfl) (lv' := [(2, .int (l2 + (nI 1))), (0, .ref (nB g.1 + l0))]) rfl dX7_remove_35 ?_
      refine X_goto hg (tgt := 11) dX7_remove_38 rfl ?_
      refine X_lv [1, 0] rfl ?_
      exact ih _ _
set_option maxRecDepth 10000 in
theorem c_X7_remove (en : EN) (a0 : Nat) (a1 : Int32) (h : Hp) (x0 : Hp) (e : f_X7_remove a0 a1 h = some x0) : Ct en yX7_remove cX7_remove 3 none 2 42 0 0 [.ref (nB en + a0), .int a1] h none x0 := by
  refine Ct.of (by decide) rfl (Nat.le_of_ble_eq_true rfl) e (fun g hen hg hr => ?_)
  subst hen
  unfold f_X7_remove
  refine X_gd ?_
  refine X_aload_n hg 0 rfl dX7_remove_0 ?_
  refine X_iload_n hg 1 rfl dX7_remove_1 ?_
  refine X_cVI0 hg mf_X7_has m_492 m_493 m_503 cf_7 (fun _ e => gd_isO e) (fun y e => c_X7_has g.1 a0 a1 h y e) (As := [.int a1]) rfl (Nat.le_of_ble_eq_true rfl) rfl (Nat.le_of_ble_eq_true rfl) (Nat.le_of_ble_eq_true rfl) (Nat.le_of_ble_eq_true rfl) (Nat.le_of_ble_eq_true rfl) dX7_remove_2 (fun x1 _ => ?_)
  refine X_if_ne hg (tgt := 9) dX7_remove_5 rfl (fun c14 => ?_) (fun c14 => ?_)
  · exact X_vret hg hr (Nat.le_of_ble_eq_true rfl) (Nat.le_of_ble_eq_true rfl) dX7_remove_8
  · refine X_iload_n hg 1 rfl dX7_remove_9 ?_
    refine X_istore_n hg rfl (Nat.le_of_ble_eq_true rfl) (lv' := [(2, .int a1), (0, .ref (nB g.1 + a0)), (1, .int a1)]) rfl dX7_remove_10 ?_
    refine X_lv [1, 0] rfl ?_
    refine l_X7_remove_11 hg _ hr _ (fun h8 => ?_) _ _ _
    refine X_aload_n hg 0 rfl dX7_remove_41 ?_
    refine X_dup hg rfl dX7_remove_42 ?_
    refine X_getI hg (j := 1) cf_7 (Nat.le_of_ble_eq_true rfl) (Or.inl rfl) m_161 dX7_remove_43 (fun x9 _ => ?_)
    refine X_iconst hg ic_i_1 dX7_remove_46 ?_
    refine X_isub hg dX7_remove_47 ?_
    refine X_putI hg (j := 1) cf_7 (Nat.le_of_ble_eq_true rfl) rfl (Or.inl rfl) m_161 dX7_remove_48 (fun h10 _ => ?_)
    refine X_aload_n hg 0 rfl dX7_remove_51 ?_
    refine X_getR hg (j := 0) cf_7 (Nat.le_of_ble_eq_true rfl) (Or.inr ⟨_, rfl⟩) m_160 dX7_remove_52 (fun x11 _ => ?_)
    refine X_aload_n hg 0 rfl dX7_remove_55 ?_
    refine X_getI hg (j := 1) cf_7 (Nat.le_of_ble_eq_true rfl) (Or.inl rfl) m_161 dX7_remove_56 (fun x12 _ => ?_)
    refine X_nullQ hg dX7_remove_59 ?_
    refine X_astN hg cf_1 (v := (none : Option Nat)) dX7_remove_60 (fun h13 _ => ?_)
    exact X_vret hg hr (Nat.le_of_ble_eq_true rfl) (Nat.le_of_ble_eq_true rfl) dX7_remove_61
set_option maxRecDepth 10000 in
theorem l_X7_contains_14 {g : XC} {x0 : Int32} (hg : XG g RX7 cX7_contains 8 2 45 0 0) (l1 : Nat) (l2 : Int32) (l3 : Int32) (l4 : Nat) (l5 : Int32) (h : Hp) (hr : XR g (some .boolean) "contains" (some (.int x0)) h 0 0) (K : Option (Int32)) (hK0 : Xo g x0 8 0 0 52 [] [] h K) : ∀ (n : Nat) (l6 : Int32), Xo g x0 8 0 0 14 [(1, .ref (nB g.1 + l1)), (2, .int l2), (3, .int l3), (4, .ref (nB g.1 + l4)), (5, .int l5), (6, .int l6)] [] h (f_X7_contains_L14 l1 l2 l3 l4 l5 h K n l6) := by
  intro n
  induction n with
  | zero =>
    intro l6
    exact X_none
  | succ n ih =>
    intro l6
    unfold f_X7_contains_L14
    refine X_iload hg 5 rfl dX7_contains_14 ?_
    refine X_iload hg 4 rfl dX7_contains_16 ?_
    refine X_icmp_ge hg (tgt := 52) dX7_contains_18 rfl (fun c8 => ?_) (fun c8 => ?_)
    · refine X_lv [] rfl ?_
      exact hK0 
    · refine X_aload hg 3 rfl dX7_contains_21 ?_
      refine X_iload hg 5 rfl dX7_contains_23 ?_
      refine X_aldN hg dX7_contains_25 (fun x3 _ => ?_)
      refine X_astoreQ hg (Nat.le_of_ble_eq_true rfl) (lv' := [(7, rl (nB g.1) x3), (1, .ref (nB g.1 + l1)), (2, .int l2), (3, .int l3), (4, .ref (nB g.1 + l4)), (5, .int l5), (6, .int l6)]) rfl dX7_contains_26 ?_
      refine X_aloadQ hg 0 rfl dX7_contains_28 ?_
      refine X_ifnull hg (tgt := 46) dX7_contains_30 rfl (fun c7 => ?_) (fun q4 c7 => ?_)
      · refine X_iinc hg 6 rfl (v := (l6 + (nI 1))) (icc ic_i_1) (Nat.le_of_ble_eq_true rfl) (lv' := [(6, .int (l6 + (nI 1))), (7, rl (nB g.1) x3), (1, .ref (nB g.1 + l1)), (2, .int l2), (3, .int l3), (4, .ref (nB g.1 + l4)), (5, .int l5)]) rfl dX7_contains_46 ?_
        refine X_goto hg (tgt := 14) dX7_contains_49 rfl ?_
        refine X_lv [2, 3, 4, 5, 6, 0] rfl ?_
        exact ih _
      · subst c7
        refine X_aload hg 0 rfl dX7_contains_33 ?_
        refine X_aload_n hg 1 rfl dX7_contains_35 ?_
        refine X_iload_n hg 2 rfl dX7_contains_36 ?_
        refine X_iload_n hg 3 rfl dX7_contains_37 ?_
        refine X_cVI0 hg mf_X1_isWritten m_414 m_415 m_413 cf_1 (fun _ e => gd_isO e) (fun y e => c_X1_isWritten g.1 q4 l1 l2 l3 h y e) (As := [.ref (nB g.1 + l1), .int l2, .int l3]) rfl (Nat.le_of_ble_eq_true rfl) rfl (Nat.le_of_ble_eq_true rfl) (Nat.le_of_ble_eq_true rfl) (Nat.le_of_ble_eq_true rfl) (Nat.le_of_ble_eq_true rfl) dX7_contains_38 (fun x5 _ => ?_)
        refine X_if_eq hg (tgt := 46) dX7_contains_41 rfl (fun c6 => ?_) (fun c6 => ?_)
        · refine X_iinc hg 6 rfl (v := (l6 + (nI 1))) (icc ic_i_1) (Nat.le_of_ble_eq_true rfl) (lv' := [(6, .int (l6 + (nI 1))), (7, .ref (nB g.1 + q4)), (1, .ref (nB g.1 + l1)), (2, .int l2), (3, .int l3), (4, .ref (nB g.1 + l4)), (5, .int l5)]) rfl dX7_contains_46 ?_
          refine X_goto hg (tgt := 14) dX7_contains_49 rfl ?_
          refine X_lv [2, 3, 4, 5, 6, 0] rfl ?_
          exact ih _
        · refine X_iconst hg ic_i_1 dX7_contains_44 ?_
          exact X_zret hg hr (Nat.le_of_ble_eq_true rfl) (Nat.le_of_ble_eq_true rfl) dX7_contains_45
set_option maxRecDepth 10000 in
theorem c_X7_contains (en : EN) (a0 : Nat) (a1 : Nat) (a2 : Int32) (a3 : Int32) (h : Hp) (x0 : Int32) (e : f_X7_contains a0 a1 a2 a3 h = some x0) : Ct en yX7_contains cX7_contains 8 (some .boolean) 2 45 0 0 [.ref (nB en + a0), .ref (nB en + a1), .int a2, .int a3] h (some (.int x0)) h := by
  refine Ct.of (by decide) rfl (Nat.le_of_ble_eq_true rfl) e (fun g hen hg hr => ?_)
  subst hen
  unfold f_X7_contains
  refine X_gd ?_
  refine X_aload_n hg 0 rfl dX7_contains_0 ?_
  refine X_getR hg (j := 0) cf_7 (Nat.le_of_ble_eq_true rfl) (Or.inr ⟨_, rfl⟩) m_160 dX7_contains_1 (fun x1 _ => ?_)
  refine X_astore hg (Nat.le_of_ble_eq_true rfl) (lv' := [(4, .ref (nB g.1 + x1)), (0, .ref (nB g.1 + a0)), (1, .ref (nB g.1 + a1)), (2, .int a2), (3, .int a3)]) rfl dX7_contains_4 ?_
  refine X_aload hg 0 rfl dX7_contains_6 ?_
  refine X_aln hg (Or.inr (Or.inl rfl)) dX7_contains_8 (fun x2 _ => ?_)
  refine X_istore hg (Nat.le_of_ble_eq_true rfl) (lv' := [(5, .int x2), (4, .ref (nB g.1 + x1)), (0, .ref (nB g.1 + a0)), (1, .ref (nB g.1 + a1)), (2, .int a2), (3, .int a3)]) rfl dX7_contains_9 ?_
  refine X_iconst hg ic_i_0 dX7_contains_11 ?_
  refine X_istore hg (Nat.le_of_ble_eq_true rfl) (lv' := [(6, .int (nI 0)), (5, .int x2), (4, .ref (nB g.1 + x1)), (0, .ref (nB g.1 + a0)), (1, .ref (nB g.1 + a1)), (2, .int a2), (3, .int a3)]) rfl dX7_contains_12 ?_
  refine X_lv [4, 5, 6, 2, 1, 0] rfl ?_
  refine l_X7_contains_14 hg _ _ _ _ _ _ hr _ ?_ _ _
  refine X_iconst hg ic_i_0 dX7_contains_52 ?_
  exact X_zret hg hr (Nat.le_of_ble_eq_true rfl) (Nat.le_of_ble_eq_true rfl) dX7_contains_53
set_option maxRecDepth 10000 in
theorem l_X7_encode_11 {g : XC} {x0 : Hp} (hg : XG g RX7 cX7_encode 6 2 43 0 0) (l1 : Nat) (l2 : Nat) (l3 : Int32) (hr : XR g none "encode" none x0 0 0) (K : Hp → Option (Hp)) (hK0 : ∀ (h : Hp), Xo g x0 6 0 0 40 [] [] h (K h)) : ∀ (n : Nat) (l4 : Int32) (h : Hp), Xo g x0 6 0 0 11 [(1, .ref (nB g.1 + l1)), (2, .ref (nB g.1 + l2)), (3, .int l3), (4, .int l4)] [] h (f_X7_encode_L11 l1 l2 l3 K n l4 h) := by
  intro n
  induction n with
  | zero =>
    intro l4 h
    exact X_none
  | succ n ih =>
    intro l4 h
    unfold f_X7_encode_L11
    refine X_iload hg 3 rfl dX7_encode_11 ?_
    refine X_iload_n hg 2 rfl dX7_encode_13 ?_
    refine X_icmp_ge hg (tgt := 40) dX7_encode_14 rfl (fun c8 => ?_) (fun c8 => ?_)
    · refine X_lv [] rfl ?_
      exact hK0  _
    · refine X_aload_n hg 1 rfl dX7_encode_17 ?_
      refine X_iload hg 3 rfl dX7_encode_18 ?_
      refine X_aldN hg dX7_encode_20 (fun x3 _ => ?_)
      refine X_astoreQ hg (Nat.le_of_ble_eq_true rfl) (lv' := [(5, rl (nB g.1) x3), (1, .ref (nB g.1 + l1)), (2, .ref (nB g.1 + l2)), (3, .int l3), (4, .int l4)]) rfl dX7_encode_21 ?_
      refine X_aloadQ hg 0 rfl dX7_encode_23 ?_
      refine X_reg (fun (v4 : Hp) o => Xo g x0 6 0 0 34 [(1, .ref (nB g.1 + l1)), (2, .ref (nB g.1 + l2)), (3, .int l3), (4, .int l4)] [] v4 o) (fun kv4 hk4 => ?_) (fun v4 => ?_)
      · refine X_eb ?_
        refine X_ifnull hg (tgt := 34) dX7_encode_25 rfl (fun c7 => ?_) (fun q5 c7 => ?_)
        · refine X_lv [1, 2, 3, 4] rfl ?_
          exact hk4 h
        · subst c7
          refine X_aload hg 0 rfl dX7_encode_28 ?_
          refine X_aload_n hg 1 rfl dX7_encode_30 ?_
          refine X_as ?_
          refine X_cVV0 hg mf_X1_encode m_449 m_450 m_486 cf_1 (fun _ e => gd_isO e) (fun y e => c_X1_encode g.1 q5 l1 h y e) (As := [.ref (nB g.1 + l1)]) rfl (Nat.le_of_ble_eq_true rfl) rfl (Nat.le_of_ble_eq_true rfl) (Nat.le_of_ble_eq_true rfl) (Nat.le_of_ble_eq_true rfl) (Nat.le_of_ble_eq_true rfl) dX7_encode_31 (fun h6 _ => ?_)
          refine X_lv [1, 2, 3, 4] rfl ?_
          exact hk4 h6
      · refine X_iinc hg 3 rfl (v := (l4 + (nI 1))) (icc ic_i_1) (Nat.le_of_ble_eq_true rfl) (lv' := [(4, .int (l4 + (nI 1))), (1, .ref (nB g.1 + l1)), (2, .ref (nB g.1 + l2)), (3, .int l3)]) rfl dX7_encode_34 ?_
        refine X_goto hg (tgt := 11) dX7_encode_37 rfl ?_
        refine X_lv [1, 2, 3, 0] rfl ?_
        exact ih _ _
set_option maxRecDepth 10000 in
theorem c_X7_encode (en : EN) (a0 : Nat) (a1 : Nat) (h : Hp) (x0 : Hp) (e : f_X7_encode a0 a1 h = some x0) : Ct en yX7_encode cX7_encode 6 none 2 43 0 0 [.ref (nB en + a0), .ref (nB en + a1)] h none x0 := by
  refine Ct.of (by decide) rfl (Nat.le_of_ble_eq_true rfl) e (fun g hen hg hr => ?_)
  subst hen
  unfold f_X7_encode
  refine X_gd ?_
  refine X_aload_n hg 0 rfl dX7_encode_0 ?_
  refine X_getR hg (j := 0) cf_7 (Nat.le_of_ble_eq_true rfl) (Or.inr ⟨_, rfl⟩) m_160 dX7_encode_1 (fun x1 _ => ?_)
  refine X_astore_n hg rfl (Nat.le_of_ble_eq_true rfl) (lv' := [(2, .ref (nB g.1 + x1)), (0, .ref (nB g.1 + a0)), (1, .ref (nB g.1 + a1))]) rfl dX7_encode_4 ?_
  refine X_aload_n hg 0 rfl dX7_encode_5 ?_
  refine X_aln hg (Or.inr (Or.inl rfl)) dX7_encode_6 (fun x2 _ => ?_)
  refine X_istore_n hg rfl (Nat.le_of_ble_eq_true rfl) (lv' := [(3, .int x2), (2, .ref (nB g.1 + x1)), (0, .ref (nB g.1 + a0)), (1, .ref (nB g.1 + a1))]) rfl dX7_encode_7 ?_
  refine X_iconst hg ic_i_0 dX7_encode_8 ?_
  refine X_istore hg (Nat.le_of_ble_eq_true rfl) (lv' := [(4, .int (nI 0)), (3, .int x2), (2, .ref (nB g.1 + x1)), (0, .ref (nB g.1 + a0)), (1, .ref (nB g.1 + a1))]) rfl dX7_encode_9 ?_
  refine X_lv [4, 2, 1, 0] rfl ?_
  refine l_X7_encode_11 hg _ _ _ hr _ (fun h9 => ?_) _ _ _
  exact X_vret hg hr (Nat.le_of_ble_eq_true rfl) (Nat.le_of_ble_eq_true rfl) dX7_encode_40
set_option maxRecDepth 10000 in
theorem c_X7_setFrequency (en : EN) (a0 : Nat) (a1 : Int32) (a2 : Int32) (h : Hp) (x0 : Int32 × Hp) (e : f_X7_setFrequency a0 a1 a2 h = some x0) : Ct en yX7_setFrequency cX7_setFrequency 5 (some .int) 1 21 0 0 [.ref (nB en + a0), .int a1, .int a2] h (some (.int x0.1)) x0.2 := by
  refine Ct.of (by decide) rfl (Nat.le_of_ble_eq_true rfl) e (fun g hen hg hr => ?_)
  subst hen
  unfold f_X7_setFrequency
  refine X_gd ?_
  refine X_aload_n hg 0 rfl dX7_setFrequency_0 ?_
  refine X_iload_n hg 1 rfl dX7_setFrequency_1 ?_
  refine X_cVQ0 hg mf_X7_get m_497 m_8 m_495 cf_7 (fun _ e => gd_isO e) (fun y e => c_X7_get g.1 a0 a1 h y e) (As := [.int a1]) rfl (Nat.le_of_ble_eq_true rfl) rfl (Nat.le_of_ble_eq_true rfl) (Nat.le_of_ble_eq_true rfl) (Nat.le_of_ble_eq_true rfl) (Nat.le_of_ble_eq_true rfl) dX7_setFrequency_2 (fun x1 _ => ?_)
  refine X_astoreQ_n hg rfl (Nat.le_of_ble_eq_true rfl) (lv' := [(3, rl (nB g.1) x1), (0, .ref (nB g.1 + a0)), (1, .int a1), (2, .int a2)]) rfl dX7_setFrequency_5 ?_
  refine X_aloadQ_n hg 0 rfl dX7_setFrequency_6 ?_
  refine X_ifnonnull hg (tgt := 13) dX7_setFrequency_7 rfl (fun c5 => ?_) (fun q2 c5 => ?_)
  · refine X_bipush hg ic_b_m101 dX7_setFrequency_10 ?_
    exact X_iretW hg hr (Nat.le_of_ble_eq_true rfl) (Nat.le_of_ble_eq_true rfl) dX7_setFrequency_12
  · subst c5
    refine X_aload_n hg 0 rfl dX7_setFrequency_13 ?_
    refine X_getIN hg (j := 2) cf_1 (Nat.le_of_ble_eq_true rfl) (Or.inl rfl) m_440 dX7_setFrequency_14 (fun x3 _ => ?_)
    refine X_istore hg (Nat.le_of_ble_eq_true rfl) (lv' := [(4, .int x3), (3, .ref (nB g.1 + q2)), (0, .ref (nB g.1 + a0)), (1, .int a1), (2, .int a2)]) rfl dX7_setFrequency_17 ?_
    refine X_aload_n hg 1 rfl dX7_setFrequency_19 ?_
    refine X_iload_n hg 4 rfl dX7_setFrequency_20 ?_
    refine X_putIN hg (j := 2) cf_1 (Nat.le_of_ble_eq_true rfl) rfl (Or.inl rfl) m_440 dX7_setFrequency_21 (fun h4 _ => ?_)
    refine X_iload hg 0 rfl dX7_setFrequency_24 ?_
    exact X_iretW hg hr (Nat.le_of_ble_eq_true rfl) (Nat.le_of_ble_eq_true rfl) dX7_setFrequency_26
set_option maxRecDepth 10000 in
theorem c_X7_letterAt (en : EN) (a0 : Nat) (a1 : Int32) (a2 : Int32) (h : Hp) (x0 : Int32) (e : f_X7_letterAt a0 a1 a2 h = some x0) : Ct en yX7_letterAt cX7_letterAt 4 (some .int) 1 21 0 0 [.ref (nB en + a0), .int a1, .int a2] h (some (.int x0)) h := by
  refine Ct.of (by decide) rfl (Nat.le_of_ble_eq_true rfl) e (fun g hen hg hr => ?_)
  subst hen
  unfold f_X7_letterAt
  refine X_gd ?_
  refine X_aload_n hg 0 rfl dX7_letterAt_0 ?_
  refine X_iload_n hg 1 rfl dX7_letterAt_1 ?_
  refine X_cVQ0 hg mf_X7_get m_497 m_8 m_495 cf_7 (fun _ e => gd_isO e) (fun y e => c_X7_get g.1 a0 a1 h y e) (As := [.int a1]) rfl (Nat.le_of_ble_eq_true rfl) rfl (Nat.le_of_ble_eq_true rfl) (Nat.le_of_ble_eq_true rfl) (Nat.le_of_ble_eq_true rfl) (Nat.le_of_ble_eq_true rfl) dX7_letterAt_2 (fun x1 _ => ?_)
  refine X_astoreQ_n hg rfl (Nat.le_of_ble_eq_true rfl) (lv' := [(3, rl (nB g.1) x1), (0, .ref (nB g.1 + a0)), (1, .int a1), (2, .int a2)]) rfl dX7_letterAt_5 ?_
  refine X_aloadQ_n hg 0 rfl dX7_letterAt_6 ?_
  refine X_reg (fun (v2 : Int32) o => Xo g x0 4 0 0 20 [] [.int v2] h o) (fun kv2 hk2 => ?_) (fun v2 => ?_)
  · refine X_eb ?_
    refine X_ifnonnull hg (tgt := 15) dX7_letterAt_7 rfl (fun c5 => ?_) (fun q3 c5 => ?_)
    · refine X_bipush hg ic_b_m101 dX7_letterAt_10 ?_
      refine X_goto hg (tgt := 20) dX7_letterAt_12 rfl ?_
      refine X_lv [] rfl ?_
      exact hk2 m101
    · subst c5
      refine X_aload_n hg 0 rfl dX7_letterAt_15 ?_
      refine X_iload_n hg 3 rfl dX7_letterAt_16 ?_
      refine X_as ?_
      refine X_cVI0 hg mf_X1_letterAt m_631 m_632 m_630 cf_1 (fun _ e => gd_isO e) (fun y e => c_X1_letterAt g.1 q3 a2 h y e) (As := [.int a2]) rfl (Nat.le_of_ble_eq_true rfl) rfl (Nat.le_of_ble_eq_true rfl) (Nat.le_of_ble_eq_true rfl) (Nat.le_of_ble_eq_true rfl) (Nat.le_of_ble_eq_true rfl) dX7_letterAt_17 (fun x4 _ => ?_)
      refine X_lv [] rfl ?_
      exact hk2 x4
  · exact X_iret hg hr (Nat.le_of_ble_eq_true rfl) (Nat.le_of_ble_eq_true rfl) dX7_letterAt_20
set_option maxRecDepth 10000 in
theorem c_X7_digitAt (en : EN) (a0 : Nat) (a1 : Int32) (a2 : Int32) (h : Hp) (x0 : Int32) (e : f_X7_digitAt a0 a1 a2 h = some x0) : Ct en yX7_digitAt cX7_digitAt 4 (some .int) 1 21 0 0 [.ref (nB en + a0), .int a1, .int a2] h (some (.int x0)) h := by
  refine Ct.of (by decide) rfl (Nat.le_of_ble_eq_true rfl) e (fun g hen hg hr => ?_)
  subst hen
  unfold f_X7_digitAt
  refine X_gd ?_
  refine X_aload_n hg 0 rfl dX7_digitAt_0 ?_
  refine X_iload_n hg 1 rfl dX7_digitAt_1 ?_
  refine X_cVQ0 hg mf_X7_get m_497 m_8 m_495 cf_7 (fun _ e => gd_isO e) (fun y e => c_X7_get g.1 a0 a1 h y e) (As := [.int a1]) rfl (Nat.le_of_ble_eq_true rfl) rfl (Nat.le_of_ble_eq_true rfl) (Nat.le_of_ble_eq_true rfl) (Nat.le_of_ble_eq_true rfl) (Nat.le_of_ble_eq_true rfl) dX7_digitAt_2 (fun x1 _ => ?_)
  refine X_astoreQ_n hg rfl (Nat.le_of_ble_eq_true rfl) (lv' := [(3, rl (nB g.1) x1), (0, .ref (nB g.1 + a0)), (1, .int a1), (2, .int a2)]) rfl dX7_digitAt_5 ?_
  refine X_aloadQ_n hg 0 rfl dX7_digitAt_6 ?_
  refine X_reg (fun (v2 : Int32) o => Xo g x0 4 0 0 20 [] [.int v2] h o) (fun kv2 hk2 => ?_) (fun v2 => ?_)
  · refine X_eb ?_
    refine X_ifnonnull hg (tgt := 15) dX7_digitAt_7 rfl (fun c5 => ?_) (fun q3 c5 => ?_)
    · refine X_bipush hg ic_b_m101 dX7_digitAt_10 ?_
      refine X_goto hg (tgt := 20) dX7_digitAt_12 rfl ?_
      refine X_lv [] rfl ?_
      exact hk2 m101
    · subst c5
      refine X_aload_n hg 0 rfl dX7_digitAt_15 ?_
      refine X_iload_n hg 3 rfl dX7_digitAt_16 ?_
      refine X_as ?_
      refine X_cVI0 hg mf_X1_digitAt m_643 m_644 m_642 cf_1 (fun _ e => gd_isO e) (fun y e => c_X1_digitAt g.1 q3 a2 h y e) (As := [.int a2]) rfl (Nat.le_of_ble_eq_true rfl) rfl (Nat.le_of_ble_eq_true rfl) (Nat.le_of_ble_eq_true rfl) (Nat.le_of_ble_eq_true rfl) (Nat.le_of_ble_eq_true rfl) dX7_digitAt_17 (fun x4 _ => ?_)
      refine X_lv [] rfl ?_
      exact hk2 x4
  · exact X_iret hg hr (Nat.le_of_ble_eq_true rfl) (Nat.le_of_ble_eq_true rfl) dX7_digitAt_20
set_option maxRecDepth 10000 in
theorem l_X7_sumOfFrequencies_13 {g : XC} {x0 : Int32} (hg : XG g RX7 cX7_sumOfFrequencies 6 0 0 0 0) (l2 : Nat) (l3 : Int32) (h : Hp) (hr : XR g (some .int) "sumOfFrequencies" (some (.int x0)) h 0 0) (K : Int32 → Option (Int32)) (hK0 : ∀ (l1 : Int32), Xo g x0 6 0 0 44 [(1, .int l1)] [] h (K l1)) : ∀ (n : Nat) (l1 : Int32) (l4 : Int32), Xo g x0 6 0 0 13 [(1, .int l1), (2, .ref (nB g.1 + l2)), (3, .int l3), (4, .int l4)] [] h (f_X7_sumOfFrequencies_L13 l2 l3 h K n l1 l4) := by
  intro n
  induction n with
  | zero =>
    intro l1 l4
    exact X_none
  | succ n ih =>
    intro l1 l4
    unfold f_X7_sumOfFrequencies_L13
    refine X_iload hg 3 rfl dX7_sumOfFrequencies_13 ?_
    refine X_iload_n hg 2 rfl dX7_sumOfFrequencies_15 ?_
    refine X_icmp_ge hg (tgt := 44) dX7_sumOfFrequencies_16 rfl (fun c8 => ?_) (fun c8 => ?_)
    · refine X_lv [0] rfl ?_
      exact hK0 _
    · refine X_aload_n hg 1 rfl dX7_sumOfFrequencies_19 ?_
      refine X_iload hg 3 rfl dX7_sumOfFrequencies_20 ?_
      refine X_aldN hg dX7_sumOfFrequencies_22 (fun x3 _ => ?_)
      refine X_astoreQ hg (Nat.le_of_ble_eq_true rfl) (lv' := [(5, rl (nB g.1) x3), (1, .int l1), (2, .ref (nB g.1 + l2)), (3, .int l3), (4, .int l4)]) rfl dX7_sumOfFrequencies_23 ?_
      refine X_aloadQ hg 0 rfl dX7_sumOfFrequencies_25 ?_
      refine X_reg (fun (v4 : Int32) o => Xo g x0 6 0 0 38 [(1, .int v4), (2, .ref (nB g.1 + l2)), (3, .int l3), (4, .int l4)] [] h o) (fun kv4 hk4 => ?_) (fun v4 => ?_)
      · refine X_eb ?_
        refine X_ifnull hg (tgt := 38) dX7_sumOfFrequencies_27 rfl (fun c7 => ?_) (fun q5 c7 => ?_)
        · refine X_lv [1, 2, 3, 4] rfl ?_
          exact hk4 l1
        · subst c7
          refine X_iload_n hg 1 rfl dX7_sumOfFrequencies_30 ?_
          refine X_aload hg 0 rfl dX7_sumOfFrequencies_31 ?_
          refine X_as ?_
          refine X_getIN hg (j := 2) cf_1 (Nat.le_of_ble_eq_true rfl) (Or.inl rfl) m_440 dX7_sumOfFrequencies_33 (fun x6 _ => ?_)
          refine X_iadd hg dX7_sumOfFrequencies_36 ?_
          refine X_istore_n hg rfl (Nat.le_of_ble_eq_true rfl) (lv' := [(1, .int (l1 + x6)), (5, .ref (nB g.1 + q5)), (2, .ref (nB g.1 + l2)), (3, .int l3), (4, .int l4)]) rfl dX7_sumOfFrequencies_37 ?_
          refine X_lv [0, 2, 3, 4] rfl ?_
          exact hk4 (l1 + x6)
      · refine X_iinc hg 3 rfl (v := (l4 + (nI 1))) (icc ic_i_1) (Nat.le_of_ble_eq_true rfl) (lv' := [(4, .int (l4 + (nI 1))), (1, .int v4), (2, .ref (nB g.1 + l2)), (3, .int l3)]) rfl dX7_sumOfFrequencies_38 ?_
        refine X_goto hg (tgt := 13) dX7_sumOfFrequencies_41 rfl ?_
        refine X_lv [1, 2, 3, 0] rfl ?_
        exact ih _ _
set_option maxRecDepth 10000 in
theorem c_X7_sumOfFrequencies (en : EN) (a0 : Nat) (h : Hp) (x0 : Int32) (e : f_X7_sumOfFrequencies a0 h = some x0) : Ct en yX7_sumOfFrequencies cX7_sumOfFrequencies 6 (some .int) 0 0 0 0 [.ref (nB en + a0)] h (some (.int x0)) h := by
  refine Ct.of (by decide) rfl (Nat.le_of_ble_eq_true rfl) e (fun g hen hg hr => ?_)
  subst hen
  unfold f_X7_sumOfFrequencies
  refine X_gd ?_
  refine X_iconst hg ic_i_0 dX7_sumOfFrequencies_0 ?_
  refine X_istore_n hg rfl (Nat.le_of_ble_eq_true rfl) (lv' := [(1, .int (nI 0)), (0, .ref (nB g.1 + a0))]) rfl dX7_sumOfFrequencies_1 ?_
  refine X_aload_n hg 1 rfl dX7_sumOfFrequencies_2 ?_
  refine X_getR hg (j := 0) cf_7 (Nat.le_of_ble_eq_true rfl) (Or.inr ⟨_, rfl⟩) m_160 dX7_sumOfFrequencies_3 (fun x1 _ => ?_)
  refine X_astore_n hg rfl (Nat.le_of_ble_eq_true rfl) (lv' := [(2, .ref (nB g.1 + x1)), (1, .int (nI 0)), (0, .ref (nB g.1 + a0))]) rfl dX7_sumOfFrequencies_6 ?_
  refine X_aload_n hg 0 rfl dX7_sumOfFrequencies_7 ?_
  refine X_aln hg (Or.inr (Or.inl rfl)) dX7_sumOfFrequencies_8 (fun x2 _ => ?_)
  refine X_istore_n hg rfl (Nat.le_of_ble_eq_true rfl) (lv' := [(3, .int x2), (2, .ref (nB g.1 + x1)), (1, .int (nI 0)), (0, .ref (nB g.1 + a0))]) rfl dX7_sumOfFrequencies_9 ?_
  refine X_iconst hg ic_i_0 dX7_sumOfFrequencies_10 ?_
  refine X_istore hg (Nat.le_of_ble_eq_true rfl) (lv' := [(4, .int (nI 0)), (3, .int x2), (2, .ref (nB g.1 + x1)), (1, .int (nI 0)), (0, .ref (nB g.1 + a0))]) rfl dX7_sumOfFrequencies_11 ?_
  refine X_lv [3, 2, 1, 0] rfl ?_
  refine l_X7_sumOfFrequencies_13 hg _ _ _ hr _ (fun y9 => ?_) _ _ _
  refine X_iload_n hg 0 rfl dX7_sumOfFrequencies_44 ?_
  exact X_iret hg hr (Nat.le_of_ble_eq_true rfl) (Nat.le_of_ble_eq_true rfl) dX7_sumOfFrequencies_45
set_option maxRecDepth 10000 in
theorem l_X7_sumOfLengths_13 {g : XC} {x0 : Int32} (hg : XG g RX7 cX7_sumOfLengths 6 0 0 0 0) (l2 : Nat) (l3 : Int32) (h : Hp) (hr : XR g (some .int) "sumOfLengths" (some (.int x0)) h 0 0) (K : Int32 → Option (Int32)) (hK0 : ∀ (l1 : Int32), Xo g x0 6 0 0 51 [(1, .int l1)] [] h (K l1)) : ∀ (n : Nat) (l1 : Int32) (l4 : Int32), Xo g x0 6 0 0 13 [(1, .int l1), (2, .ref (nB g.1 + l2)), (3, .int l3), (4, .int l4)] [] h (f_X7_sumOfLengths_L13 l2 l3 h K n l1 l4) := by
  intro n
  induction n with
  | zero =>
    intro l1 l4
    exact X_none
  | succ n ih =>
    intro l1 l4
    unfold f_X7_sumOfLengths_L13
    refine X_iload hg 3 rfl dX7_sumOfLengths_13 ?_
    refine X_iload_n hg 2 rfl dX7_sumOfLengths_15 ?_
    refine X_icmp_ge hg (tgt := 51) dX7_sumOfLengths_16 rfl (fun c10 => ?_) (fun c10 => ?_)
    · refine X_lv [0] rfl ?_
      exact hK0 _
    · refine X_aload_n hg 1 rfl dX7_sumOfLengths_19 ?_
      refine X_iload hg 3 rfl dX7_sumOfLengths_20 ?_
      refine X_aldN hg dX7_sumOfLengths_22 (fun x3 _ => ?_)
      refine X_astoreQ hg (Nat.le_of_ble_eq_true rfl) (lv' := [(5, rl (nB g.1) x3), (1, .int l1), (2, .ref (nB g.1 + l2)), (3, .int l3), (4, .int l4)]) rfl dX7_sumOfLengths_23 ?_
      refine X_aloadQ hg 0 rfl dX7_sumOfLengths_25 ?_
      refine X_reg (fun (v4 : Int32) o => Xo g x0 6 0 0 45 [(1, .int v4), (2, .ref (nB g.1 + l2)), (3, .int l3), (4, .int l4)] [] h o) (fun kv4 hk4 => ?_) (fun v4 => ?_)
      · refine X_eb ?_
        refine X_ifnull hg (tgt := 45) dX7_sumOfLengths_27 rfl (fun c9 => ?_) (fun q5 c9 => ?_)
        · refine X_lv [1, 2, 3, 4] rfl ?_
          exact hk4 l1
        · subst c9
          refine X_iload_n hg 1 rfl dX7_sumOfLengths_30 ?_
          refine X_aload hg 0 rfl dX7_sumOfLengths_31 ?_
          refine X_as ?_
          refine X_getIN hg (j := 2) cf_1 (Nat.le_of_ble_eq_true rfl) (Or.inl rfl) m_440 dX7_sumOfLengths_33 (fun x6 _ => ?_)
          refine X_aload hg 0 rfl dX7_sumOfLengths_36 ?_
          refine X_as ?_
          refine X_getRN hg (j := 0) cf_1 (Nat.le_of_ble_eq_true rfl) (Or.inr ⟨_, rfl⟩) m_436 dX7_sumOfLengths_38 (fun x7 _ => ?_)
          refine X_as ?_
          refine X_aln hg (Or.inl rfl) dX7_sumOfLengths_41 (fun x8 _ => ?_)
          refine X_imul hg dX7_sumOfLengths_42 ?_
          refine X_iadd hg dX7_sumOfLengths_43 ?_
          refine X_istore_n hg rfl (Nat.le_of_ble_eq_true rfl) (lv' := [(1, .int (l1 + (x6 * x8))), (5, .ref (nB g.1 + q5)), (2, .ref (nB g.1 + l2)), (3, .int l3), (4, .int l4)]) rfl dX7_sumOfLengths_44 ?_
          refine X_lv [0, 2, 3, 4] rfl ?_
          exact hk4 (l1 + (x6 * x8))
      · refine X_iinc hg 3 rfl (v := (l4 + (nI 1))) (icc ic_i_1) (Nat.le_of_ble_eq_true rfl) (lv' := [(4, .int (l4 + (nI 1))), (1, .int v4), (2, .ref (nB g.1 + l2)), (3, .int l3)]) rfl dX7_sumOfLengths_45 ?_
        refine X_goto hg (tgt := 13) dX7_sumOfLengths_48 rfl ?_
        refine X_lv [1, 2, 3, 0] rfl ?_
        exact ih _ _
set_option maxRecDepth 10000 in
theorem c_X7_sumOfLengths (en : EN) (a0 : Nat) (h : Hp) (x0 : Int32) (e : f_X7_sumOfLengths a0 h = some x0) : Ct en yX7_sumOfLengths cX7_sumOfLengths 6 (some .int) 0 0 0 0 [.ref (nB en + a0)] h (some (.int x0)) h := by
  refine Ct.of (by decide) rfl (Nat.le_of_ble_eq_true rfl) e (fun g hen hg hr => ?_)
  subst hen
  unfold f_X7_sumOfLengths
  refine X_gd ?_
  refine X_iconst hg ic_i_0 dX7_sumOfLengths_0 ?_
  refine X_istore_n hg rfl (Nat.le_of_ble_eq_true rfl) (lv' := [(1, .int (nI 0)), (0, .ref (nB g.1 + a0))]) rfl dX7_sumOfLengths_1 ?_
  refine X_aload_n hg 1 rfl dX7_sumOfLengths_2 ?_
  refine X_getR hg (j := 0) cf_7 (Nat.le_of_ble_eq_true rfl) (Or.inr ⟨_, rfl⟩) m_160 dX7_sumOfLengths_3 (fun x1 _ => ?_)
  refine X_astore_n hg rfl (Nat.le_of_ble_eq_true rfl) (lv' := [(2, .ref (nB g.1 + x1)), (1, .int (nI 0)), (0, .ref (nB g.1 + a0))]) rfl dX7_sumOfLengths_6 ?_
  refine X_aload_n hg 0 rfl dX7_sumOfLengths_7 ?_
  refine X_aln hg (Or.inr (Or.inl rfl)) dX7_sumOfLengths_8 (fun x2 _ => ?_)
  refine X_istore_n hg rfl (Nat.le_of_ble_eq_true rfl) (lv' := [(3, .int x2), (2, .ref (nB g.1 + x1)), (1, .int (nI 0)), (0, .ref (nB g.1 + a0))]) rfl dX7_sumOfLengths_9 ?_
  refine X_iconst hg ic_i_0 dX7_sumOfLengths_10 ?_
  refine X_istore hg (Nat.le_of_ble_eq_true rfl) (lv' := [(4, .int (nI 0)), (3, .int x2), (2, .ref (nB g.1 + x1)), (1, .int (nI 0)), (0, .ref (nB g.1 + a0))]) rfl dX7_sumOfLengths_11 ?_
  refine X_lv [3, 2, 1, 0] rfl ?_
  refine l_X7_sumOfLengths_13 hg _ _ _ hr _ (fun y11 => ?_) _ _ _
  refine X_iload_n hg 0 rfl dX7_sumOfLengths_51 ?_
  exact X_iret hg hr (Nat.le_of_ble_eq_true rfl) (Nat.le_of_ble_eq_true rfl) dX7_sumOfLengths_52
set_option maxRecDepth 10000 in
theorem c_X8_removeLast (en : EN) (a0 : Nat) (h : Hp) (x0 : Hp) (e : f_X8_removeLast a0 h = some x0) : Ct en yX8_removeLast cX8_removeLast 1 none 0 0 0 0 [.ref (nB en + a0)] h none x0 := by
  refine Ct.of (by decide) rfl (Nat.le_of_ble_eq_true rfl) e (fun g hen hg hr => ?_)
  subst hen
  unfold f_X8_removeLast
  refine X_gd ?_
  refine X_aload_n hg 0 rfl dX8_removeLast_0 ?_
  refine X_getI hg (j := 1) cf_8 (Nat.le_of_ble_eq_true rfl) (Or.inl rfl) m_123 dX8_removeLast_1 (fun x1 _ => ?_)
  refine X_reg (fun (v2 : Hp) o => Xo g x0 1 0 0 17 [] [] v2 o) (fun kv2 hk2 => ?_) (fun v2 => ?_)
  · refine X_ib ?_
    refine X_if_le hg (tgt := 17) dX8_removeLast_4 rfl (fun c5 => ?_) (fun c5 => ?_)
    · refine X_lv [] rfl ?_
      exact hk2 h
    · refine X_aload_n hg 0 rfl dX8_removeLast_7 ?_
      refine X_dup hg rfl dX8_removeLast_8 ?_
      refine X_as ?_
      refine X_getI hg (j := 1) cf_8 (Nat.le_of_ble_eq_true rfl) (Or.inl rfl) m_123 dX8_removeLast_9 (fun x3 _ => ?_)
      refine X_iconst hg ic_i_1 dX8_removeLast_12 ?_
      refine X_isub hg dX8_removeLast_13 ?_
      refine X_as ?_
      refine X_putI hg (j := 1) cf_8 (Nat.le_of_ble_eq_true rfl) rfl (Or.inl rfl) m_123 dX8_removeLast_14 (fun h4 _ => ?_)
      refine X_lv [] rfl ?_
      exact hk2 h4
  · exact X_vret hg hr (Nat.le_of_ble_eq_true rfl) (Nat.le_of_ble_eq_true rfl) dX8_removeLast_17
