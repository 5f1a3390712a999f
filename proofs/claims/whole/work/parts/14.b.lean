set_option maxRecDepth 10000 in
theorem c_X9_init (en : EN) (a0 : Nat) (h : Hp) (x0 : Hp) (e : f_X9_init a0 h = some x0) : Ct en yX9_init cX9_init 1 none 3 65 76 3205 [.ref (nB en + a0)] h none x0 := by
  refine Ct.of (by decide) rfl (Nat.le_of_ble_eq_true rfl) e (fun g hen hg hr => ?_)
  subst hen
  unfold f_X9_init
  refine X_gd ?_
  refine X_aload_n hg 0 rfl dX9_init_0 ?_
  refine X_obji hg m_110 m_oi m_oc (Nat.le_of_ble_eq_true rfl) (Nat.le_of_ble_eq_true rfl) dX9_init_1 ?_
  refine X_aload_n hg 0 rfl dX9_init_4 ?_
  refine X_newO hg cf_8 ok_8 m_113 m_114 m_92 (Nat.le_of_ble_eq_true rfl) (Nat.le_of_ble_eq_true rfl) dX9_init_5 (fun h1 _ => ?_)
  refine X_dup hg rfl dX9_init_8 ?_
  refine X_bipush hg ic_b_50 dX9_init_9 ?_
  refine X_cIV hg mf_X8_init rfl rfl m_116 m_115 (fun y e => c_X8_init g.1 (hN h) (nI 50) h1 y e) (As := [.int (nI 50)]) rfl (Nat.le_of_ble_eq_true rfl) rfl (Nat.le_of_ble_eq_true rfl) (Nat.le_of_ble_eq_true rfl) (Nat.le_of_ble_eq_true rfl) (Nat.le_of_ble_eq_true rfl) dX9_init_11 (fun h2 _ => ?_)
  refine X_putRF hg hr.2.2.1 (j := 0) cf_9 (Nat.le_of_ble_eq_true rfl) rfl rfl (Or.inl ⟨_, rfl⟩) m_277 dX9_init_14 (fun h3 _ => ?_)
  refine X_aload_n hg 0 rfl dX9_init_17 ?_
  refine X_newO hg cf_8 ok_8 m_113 m_114 m_92 (Nat.le_of_ble_eq_true rfl) (Nat.le_of_ble_eq_true rfl) dX9_init_18 (fun h4 _ => ?_)
  refine X_dup hg rfl dX9_init_21 ?_
  refine X_bipush hg ic_b_10 dX9_init_22 ?_
  refine X_cIV hg mf_X8_init rfl rfl m_116 m_115 (fun y e => c_X8_init g.1 (hN h3) (nI 10) h4 y e) (As := [.int (nI 10)]) rfl (Nat.le_of_ble_eq_true rfl) rfl (Nat.le_of_ble_eq_true rfl) (Nat.le_of_ble_eq_true rfl) (Nat.le_of_ble_eq_true rfl) (Nat.le_of_ble_eq_true rfl) dX9_init_24 (fun h5 _ => ?_)
  refine X_putRF hg hr.2.2.1 (j := 1) cf_9 (Nat.le_of_ble_eq_true rfl) rfl rfl (Or.inl ⟨_, rfl⟩) m_278 dX9_init_27 (fun h6 _ => ?_)
  refine X_aload_n hg 0 rfl dX9_init_30 ?_
  refine X_newO hg cf_2 ok_2 m_130 m_131 m_94 (Nat.le_of_ble_eq_true rfl) (Nat.le_of_ble_eq_true rfl) dX9_init_31 (fun h7 _ => ?_)
  refine X_dup hg rfl dX9_init_34 ?_
  refine X_cINV hg mf_X2_init rfl rfl m_133 m_132 (fun y e => c_X2_init g.1 (hN h6) h7 y e) (As := []) rfl (Nat.le_of_ble_eq_true rfl) rfl (Nat.le_of_ble_eq_true rfl) (Nat.le_of_ble_eq_true rfl) (Nat.le_of_ble_eq_true rfl) (Nat.le_of_ble_eq_true rfl) dX9_init_35 (fun h8 _ => ?_)
  refine X_putRF hg hr.2.2.1 (j := 2) cf_9 (Nat.le_of_ble_eq_true rfl) rfl rfl (Or.inl ⟨_, rfl⟩) m_279 dX9_init_38 (fun h9 _ => ?_)
  refine X_aload_n hg 0 rfl dX9_init_41 ?_
  refine X_newO hg cf_7 ok_7 m_152 m_153 m_95 (Nat.le_of_ble_eq_true rfl) (Nat.le_of_ble_eq_true rfl) dX9_init_42 (fun h10 _ => ?_)
  refine X_dup hg rfl dX9_init_45 ?_
  refine X_cINV hg mf_X7_init rfl rfl m_155 m_154 (fun y e => c_X7_init g.1 (hN h9) h10 y e) (As := []) rfl (Nat.le_of_ble_eq_true rfl) rfl (Nat.le_of_ble_eq_true rfl) (Nat.le_of_ble_eq_true rfl) (Nat.le_of_ble_eq_true rfl) (Nat.le_of_ble_eq_true rfl) dX9_init_46 (fun h11 _ => ?_)
  refine X_putRF hg hr.2.2.1 (j := 3) cf_9 (Nat.le_of_ble_eq_true rfl) rfl rfl (Or.inl ⟨_, rfl⟩) m_280 dX9_init_49 (fun h12 _ => ?_)
  refine X_aload_n hg 0 rfl dX9_init_52 ?_
  refine X_newO hg cf_3 ok_3 m_167 m_168 m_96 (Nat.le_of_ble_eq_true rfl) (Nat.le_of_ble_eq_true rfl) dX9_init_53 (fun h13 _ => ?_)
  refine X_dup hg rfl dX9_init_56 ?_
  refine X_cINV hg mf_X3_init rfl rfl m_170 m_169 (fun y e => c_X3_init g.1 (hN h12) h13 y e) (As := []) rfl (Nat.le_of_ble_eq_true rfl) rfl (Nat.le_of_ble_eq_true rfl) (Nat.le_of_ble_eq_true rfl) (Nat.le_of_ble_eq_true rfl) (Nat.le_of_ble_eq_true rfl) dX9_init_57 (fun h14 _ => ?_)
  refine X_putRF hg hr.2.2.1 (j := 4) cf_9 (Nat.le_of_ble_eq_true rfl) rfl rfl (Or.inl ⟨_, rfl⟩) m_281 dX9_init_60 (fun h15 _ => ?_)
  refine X_aload_n hg 0 rfl dX9_init_63 ?_
  refine X_newO hg cf_0 ok_0 m_192 m_193 m_97 (Nat.le_of_ble_eq_true rfl) (Nat.le_of_ble_eq_true rfl) dX9_init_64 (fun h16 _ => ?_)
  refine X_dup hg rfl dX9_init_67 ?_
  refine X_cINV hg mf_X0_init rfl rfl m_195 m_194 (fun y e => c_X0_init g.1 (hN h15) h16 y e) (As := []) rfl (Nat.le_of_ble_eq_true rfl) rfl (Nat.le_of_ble_eq_true rfl) (Nat.le_of_ble_eq_true rfl) (Nat.le_of_ble_eq_true rfl) (Nat.le_of_ble_eq_true rfl) dX9_init_68 (fun h17 _ => ?_)
  refine X_putRF hg hr.2.2.1 (j := 5) cf_9 (Nat.le_of_ble_eq_true rfl) rfl rfl (Or.inl ⟨_, rfl⟩) m_282 dX9_init_71 (fun h18 _ => ?_)
  refine X_aload_n hg 0 rfl dX9_init_74 ?_
  refine X_newO hg cf_6 ok_6 m_204 m_205 m_98 (Nat.le_of_ble_eq_true rfl) (Nat.le_of_ble_eq_true rfl) dX9_init_75 (fun h19 _ => ?_)
  refine X_dup hg rfl dX9_init_78 ?_
  refine X_cINV hg mf_X6_init rfl rfl m_207 m_206 (fun y e => c_X6_init g.1 (hN h18) h19 y e) (As := []) rfl (Nat.le_of_ble_eq_true rfl) rfl (Nat.le_of_ble_eq_true rfl) (Nat.le_of_ble_eq_true rfl) (Nat.le_of_ble_eq_true rfl) (Nat.le_of_ble_eq_true rfl) dX9_init_79 (fun h20 _ => ?_)
  refine X_putRF hg hr.2.2.1 (j := 6) cf_9 (Nat.le_of_ble_eq_true rfl) rfl rfl (Or.inl ⟨_, rfl⟩) m_283 dX9_init_82 (fun h21 _ => ?_)
  refine X_aload_n hg 0 rfl dX9_init_85 ?_
  refine X_newO hg cf_5 ok_5 m_228 m_229 m_99 (Nat.le_of_ble_eq_true rfl) (Nat.le_of_ble_eq_true rfl) dX9_init_86 (fun h22 _ => ?_)
  refine X_dup hg rfl dX9_init_89 ?_
  refine X_cINV hg mf_X5_init rfl rfl m_231 m_230 (fun y e => c_X5_init g.1 (hN h21) h22 y e) (As := []) rfl (Nat.le_of_ble_eq_true rfl) rfl (Nat.le_of_ble_eq_true rfl) (Nat.le_of_ble_eq_true rfl) (Nat.le_of_ble_eq_true rfl) (Nat.le_of_ble_eq_true rfl) dX9_init_90 (fun h23 _ => ?_)
  refine X_putRF hg hr.2.2.1 (j := 7) cf_9 (Nat.le_of_ble_eq_true rfl) rfl rfl (Or.inl ⟨_, rfl⟩) m_284 dX9_init_93 (fun h24 _ => ?_)
  refine X_aload_n hg 0 rfl dX9_init_96 ?_
  refine X_newO hg cf_4 ok_4 m_249 m_250 m_100 (Nat.le_of_ble_eq_true rfl) (Nat.le_of_ble_eq_true rfl) dX9_init_97 (fun h25 _ => ?_)
  refine X_dup hg rfl dX9_init_100 ?_
  refine X_cINV hg mf_X4_init rfl rfl m_252 m_251 (fun y e => c_X4_init g.1 (hN h24) h25 y e) (As := []) rfl (Nat.le_of_ble_eq_true rfl) rfl (Nat.le_of_ble_eq_true rfl) (Nat.le_of_ble_eq_true rfl) (Nat.le_of_ble_eq_true rfl) (Nat.le_of_ble_eq_true rfl) dX9_init_101 (fun h26 _ => ?_)
  refine X_putR hg (j := 8) cf_9 (Nat.le_of_ble_eq_true rfl) rfl (Or.inl ⟨_, rfl⟩) m_285 dX9_init_104 (fun h27 _ => ?_)
  refine X_aload_n hg 0 rfl dX9_init_107 ?_
  refine X_newO hg cf_4 ok_4 m_249 m_250 m_100 (Nat.le_of_ble_eq_true rfl) (Nat.le_of_ble_eq_true rfl) dX9_init_108 (fun h28 _ => ?_)
  refine X_dup hg rfl dX9_init_111 ?_
  refine X_cINV hg mf_X4_init rfl rfl m_252 m_251 (fun y e => c_X4_init g.1 (hN h27) h28 y e) (As := []) rfl (Nat.le_of_ble_eq_true rfl) rfl (Nat.le_of_ble_eq_true rfl) (Nat.le_of_ble_eq_true rfl) (Nat.le_of_ble_eq_true rfl) (Nat.le_of_ble_eq_true rfl) dX9_init_112 (fun h29 _ => ?_)
  refine X_putR hg (j := 9) cf_9 (Nat.le_of_ble_eq_true rfl) rfl (Or.inl ⟨_, rfl⟩) m_286 dX9_init_115 (fun h30 _ => ?_)
  exact X_vret hg hr (Nat.le_of_ble_eq_true rfl) (Nat.le_of_ble_eq_true rfl) dX9_init_118
set_option maxRecDepth 10000 in
theorem c_X9_letter (en : EN) (a0 : Nat) (a1 : Int32) (h : Hp) (x0 : Int32 × Hp) (e : f_X9_letter a0 a1 h = some x0) : Ct en yX9_letter cX9_letter 2 (some .int) 2 41 0 0 [.ref (nB en + a0), .int a1] h (some (.int x0.1)) x0.2 := by
  refine Ct.of (by decide) rfl (Nat.le_of_ble_eq_true rfl) e (fun g hen hg hr => ?_)
  subst hen
  unfold f_X9_letter
  refine X_gd ?_
  refine X_iload_n hg 1 rfl dX9_letter_0 ?_
  refine X_bipush hg ic_b_32 dX9_letter_1 ?_
  refine X_icmp_lt hg (tgt := 12) dX9_letter_3 rfl (fun c9 => ?_) (fun c9 => ?_)
  · refine X_bipush hg ic_b_m102 dX9_letter_12 ?_
    exact X_iretW hg hr (Nat.le_of_ble_eq_true rfl) (Nat.le_of_ble_eq_true rfl) dX9_letter_14
  · refine X_iload_n hg 1 rfl dX9_letter_6 ?_
    refine X_bipush hg ic_b_126 dX9_letter_7 ?_
    refine X_icmp_le hg (tgt := 15) dX9_letter_9 rfl (fun c8 => ?_) (fun c8 => ?_)
    · refine X_aload_n hg 0 rfl dX9_letter_15 ?_
      refine X_getR hg (j := 0) cf_9 (Nat.le_of_ble_eq_true rfl) (Or.inl ⟨_, rfl⟩) m_277 dX9_letter_16 (fun x1 _ => ?_)
      refine X_cVI0 hg mf_X8_isFull m_328 m_329 m_327 cf_8 (fun _ e => gd_isO e) (fun y e => c_X8_isFull g.1 x1 h y e) (As := []) rfl (Nat.le_of_ble_eq_true rfl) rfl (Nat.le_of_ble_eq_true rfl) (Nat.le_of_ble_eq_true rfl) (Nat.le_of_ble_eq_true rfl) (Nat.le_of_ble_eq_true rfl) dX9_letter_19 (fun x2 _ => ?_)
      refine X_if_eq hg (tgt := 28) dX9_letter_22 rfl (fun c7 => ?_) (fun c7 => ?_)
      · refine X_aload_n hg 0 rfl dX9_letter_28 ?_
        refine X_getR hg (j := 0) cf_9 (Nat.le_of_ble_eq_true rfl) (Or.inl ⟨_, rfl⟩) m_277 dX9_letter_29 (fun x3 _ => ?_)
        refine X_iload_n hg 1 rfl dX9_letter_32 ?_
        refine X_cVV0 hg mf_X8_add m_332 m_333 m_331 cf_8 (fun _ e => gd_isO e) (fun y e => c_X8_add g.1 x3 a1 h y e) (As := [.int a1]) rfl (Nat.le_of_ble_eq_true rfl) rfl (Nat.le_of_ble_eq_true rfl) (Nat.le_of_ble_eq_true rfl) (Nat.le_of_ble_eq_true rfl) (Nat.le_of_ble_eq_true rfl) dX9_letter_33 (fun h4 _ => ?_)
        refine X_aload_n hg 0 rfl dX9_letter_36 ?_
        refine X_getR hg (j := 0) cf_9 (Nat.le_of_ble_eq_true rfl) (Or.inl ⟨_, rfl⟩) m_277 dX9_letter_37 (fun x5 _ => ?_)
        refine X_cVI0 hg mf_X8_size m_337 m_338 m_336 cf_8 (fun _ e => gd_isO e) (fun y e => c_X8_size g.1 x5 h4 y e) (As := []) rfl (Nat.le_of_ble_eq_true rfl) rfl (Nat.le_of_ble_eq_true rfl) (Nat.le_of_ble_eq_true rfl) (Nat.le_of_ble_eq_true rfl) (Nat.le_of_ble_eq_true rfl) dX9_letter_40 (fun x6 _ => ?_)
        exact X_iretW hg hr (Nat.le_of_ble_eq_true rfl) (Nat.le_of_ble_eq_true rfl) dX9_letter_43
      · refine X_bipush hg ic_b_m104 dX9_letter_25 ?_
        exact X_iretW hg hr (Nat.le_of_ble_eq_true rfl) (Nat.le_of_ble_eq_true rfl) dX9_letter_27
    · refine X_bipush hg ic_b_m102 dX9_letter_12 ?_
      exact X_iretW hg hr (Nat.le_of_ble_eq_true rfl) (Nat.le_of_ble_eq_true rfl) dX9_letter_14
set_option maxRecDepth 10000 in
theorem c_X9_blank (en : EN) (a0 : Nat) (h : Hp) (x0 : Int32 × Hp) (e : f_X9_blank a0 h = some x0) : Ct en yX9_blank cX9_blank 1 (some .int) 1 21 0 0 [.ref (nB en + a0)] h (some (.int x0.1)) x0.2 := by
  refine Ct.of (by decide) rfl (Nat.le_of_ble_eq_true rfl) e (fun g hen hg hr => ?_)
  subst hen
  unfold f_X9_blank
  refine X_gd ?_
  refine X_aload_n hg 0 rfl dX9_blank_0 ?_
  refine X_getR hg (j := 0) cf_9 (Nat.le_of_ble_eq_true rfl) (Or.inl ⟨_, rfl⟩) m_277 dX9_blank_1 (fun x1 _ => ?_)
  refine X_cVIW0 hg mf_X8_clear m_345 m_346 m_344 cf_8 (fun _ e => gd_isO e) (fun y e => c_X8_clear g.1 x1 h y e) (As := []) rfl (Nat.le_of_ble_eq_true rfl) rfl (Nat.le_of_ble_eq_true rfl) (Nat.le_of_ble_eq_true rfl) (Nat.le_of_ble_eq_true rfl) (Nat.le_of_ble_eq_true rfl) dX9_blank_4 (fun p2 _ => ?_)
  exact X_iretW hg hr (Nat.le_of_ble_eq_true rfl) (Nat.le_of_ble_eq_true rfl) dX9_blank_7
set_option maxRecDepth 10000 in
theorem c_X9_fault (en : EN) (a0 : Nat) (h : Hp) (x0 : Int32 × Hp) (e : f_X9_fault a0 h = some x0) : Ct en yX9_fault cX9_fault 1 (some .int) 6 138 0 0 [.ref (nB en + a0)] h (some (.int x0.1)) x0.2 := by
  refine Ct.of (by decide) rfl (Nat.le_of_ble_eq_true rfl) e (fun g hen hg hr => ?_)
  subst hen
  unfold f_X9_fault
  refine X_gd ?_
  refine X_aload_n hg 0 rfl dX9_fault_0 ?_
  refine X_getR hg (j := 4) cf_9 (Nat.le_of_ble_eq_true rfl) (Or.inl ⟨_, rfl⟩) m_281 dX9_fault_1 (fun x1 _ => ?_)
  refine X_aload_n hg 0 rfl dX9_fault_4 ?_
  refine X_getR hg (j := 0) cf_9 (Nat.le_of_ble_eq_true rfl) (Or.inl ⟨_, rfl⟩) m_277 dX9_fault_5 (fun x2 _ => ?_)
  refine X_cVIW0 hg mf_X3_scan m_353 m_354 m_352 cf_3 (fun _ e => gd_isO e) (fun y e => c_X3_scan g.1 x1 x2 h y e) (As := [.ref (nB g.1 + x2)]) rfl (Nat.le_of_ble_eq_true rfl) rfl (Nat.le_of_ble_eq_true rfl) (Nat.le_of_ble_eq_true rfl) (Nat.le_of_ble_eq_true rfl) (Nat.le_of_ble_eq_true rfl) dX9_fault_8 (fun p3 _ => ?_)
  exact X_iretW hg hr (Nat.le_of_ble_eq_true rfl) (Nat.le_of_ble_eq_true rfl) dX9_fault_11
set_option maxRecDepth 10000 in
theorem l_X9_isAnyItemKnown_2 {g : XC} {x0 : Int32} (hg : XG g RX9 cX9_isAnyItemKnown 2 3 72 0 0) (l0 : Nat) (h : Hp) (hr : XR g (some .boolean) "isAnyItemKnown" (some (.int x0)) h 0 0) (K : Option (Int32)) (hK0 : Xo g x0 2 0 0 51 [] [] h K) : ∀ (n : Nat) (l1 : Int32), Xo g x0 2 0 0 2 [(0, .ref (nB g.1 + l0)), (1, .int l1)] [] h (f_X9_isAnyItemKnown_L2 l0 h K n l1) := by
  intro n
  induction n with
  | zero =>
    intro l1
    exact X_none
  | succ n ih =>
    intro l1
    unfold f_X9_isAnyItemKnown_L2
    refine X_iload_n hg 1 rfl dX9_isAnyItemKnown_2 ?_
    refine X_aload_n hg 0 rfl dX9_isAnyItemKnown_3 ?_
    refine X_getR hg (j := 4) cf_9 (Nat.le_of_ble_eq_true rfl) (Or.inl ⟨_, rfl⟩) m_281 dX9_isAnyItemKnown_4 (fun x1 _ => ?_)
    refine X_cVI0 hg mf_X3_items m_398 m_399 m_397 cf_3 (fun _ e => gd_isO e) (fun y e => c_X3_items g.1 x1 h y e) (As := []) rfl (Nat.le_of_ble_eq_true rfl) rfl (Nat.le_of_ble_eq_true rfl) (Nat.le_of_ble_eq_true rfl) (Nat.le_of_ble_eq_true rfl) (Nat.le_of_ble_eq_true rfl) dX9_isAnyItemKnown_7 (fun x2 _ => ?_)
    refine X_icmp_ge hg (tgt := 51) dX9_isAnyItemKnown_10 rfl (fun c11 => ?_) (fun c11 => ?_)
    · refine X_lv [] rfl ?_
      exact hK0 
    · refine X_aload_n hg 0 rfl dX9_isAnyItemKnown_13 ?_
      refine X_getR hg (j := 3) cf_9 (Nat.le_of_ble_eq_true rfl) (Or.inl ⟨_, rfl⟩) m_280 dX9_isAnyItemKnown_14 (fun x3 _ => ?_)
      refine X_aload_n hg 0 rfl dX9_isAnyItemKnown_17 ?_
      refine X_getR hg (j := 0) cf_9 (Nat.le_of_ble_eq_true rfl) (Or.inl ⟨_, rfl⟩) m_277 dX9_isAnyItemKnown_18 (fun x4 _ => ?_)
      refine X_aload_n hg 0 rfl dX9_isAnyItemKnown_21 ?_
      refine X_getR hg (j := 4) cf_9 (Nat.le_of_ble_eq_true rfl) (Or.inl ⟨_, rfl⟩) m_281 dX9_isAnyItemKnown_22 (fun x5 _ => ?_)
      refine X_iload_n hg 1 rfl dX9_isAnyItemKnown_25 ?_
      refine X_cVI0 hg mf_X3_startOf m_402 m_403 m_401 cf_3 (fun _ e => gd_isO e) (fun y e => c_X3_startOf g.1 x5 l1 h y e) (As := [.int l1]) rfl (Nat.le_of_ble_eq_true rfl) rfl (Nat.le_of_ble_eq_true rfl) (Nat.le_of_ble_eq_true rfl) (Nat.le_of_ble_eq_true rfl) (Nat.le_of_ble_eq_true rfl) dX9_isAnyItemKnown_26 (fun x6 _ => ?_)
      refine X_aload_n hg 0 rfl dX9_isAnyItemKnown_29 ?_
      refine X_getR hg (j := 4) cf_9 (Nat.le_of_ble_eq_true rfl) (Or.inl ⟨_, rfl⟩) m_281 dX9_isAnyItemKnown_30 (fun x7 _ => ?_)
      refine X_iload_n hg 1 rfl dX9_isAnyItemKnown_33 ?_
      refine X_cVI0 hg mf_X3_lengthOf m_406 m_407 m_405 cf_3 (fun _ e => gd_isO e) (fun y e => c_X3_lengthOf g.1 x7 l1 h y e) (As := [.int l1]) rfl (Nat.le_of_ble_eq_true rfl) rfl (Nat.le_of_ble_eq_true rfl) (Nat.le_of_ble_eq_true rfl) (Nat.le_of_ble_eq_true rfl) (Nat.le_of_ble_eq_true rfl) dX9_isAnyItemKnown_34 (fun x8 _ => ?_)
      refine X_cVI0 hg mf_X7_contains m_410 m_411 m_409 cf_7 (fun _ e => gd_isO e) (fun y e => c_X7_contains g.1 x3 x4 x6 x8 h y e) (As := [.ref (nB g.1 + x4), .int x6, .int x8]) rfl (Nat.le_of_ble_eq_true rfl) rfl (Nat.le_of_ble_eq_true rfl) (Nat.le_of_ble_eq_true rfl) (Nat.le_of_ble_eq_true rfl) (Nat.le_of_ble_eq_true rfl) dX9_isAnyItemKnown_37 (fun x9 _ => ?_)
      refine X_if_eq hg (tgt := 45) dX9_isAnyItemKnown_40 rfl (fun c10 => ?_) (fun c10 => ?_)
      · refine X_iinc hg 1 rfl (v := (l1 + (nI 1))) (icc ic_i_1) (Nat.le_of_ble_eq_true rfl) (lv' := [(1, .int (l1 + (nI 1))), (0, .ref (nB g.1 + l0))]) rfl dX9_isAnyItemKnown_45 ?_
        refine X_goto hg (tgt := 2) dX9_isAnyItemKnown_48 rfl ?_
        refine X_lv [1, 0] rfl ?_
        exact ih _
      · refine X_iconst hg ic_i_1 dX9_isAnyItemKnown_43 ?_
        exact X_zret hg hr (Nat.le_of_ble_eq_true rfl) (Nat.le_of_ble_eq_true rfl) dX9_isAnyItemKnown_44
set_option maxRecDepth 10000 in
theorem c_X9_isAnyItemKnown (en : EN) (a0 : Nat) (h : Hp) (x0 : Int32) (e : f_X9_isAnyItemKnown a0 h = some x0) : Ct en yX9_isAnyItemKnown cX9_isAnyItemKnown 2 (some .boolean) 3 72 0 0 [.ref (nB en + a0)] h (some (.int x0)) h := by
  refine Ct.of (by decide) rfl (Nat.le_of_ble_eq_true rfl) e (fun g hen hg hr => ?_)
  subst hen
  unfold f_X9_isAnyItemKnown
  refine X_gd ?_
  refine X_iconst hg ic_i_0 dX9_isAnyItemKnown_0 ?_
  refine X_istore_n hg rfl (Nat.le_of_ble_eq_true rfl) (lv' := [(1, .int (nI 0)), (0, .ref (nB g.1 + a0))]) rfl dX9_isAnyItemKnown_1 ?_
  refine X_lv [1, 0] rfl ?_
  refine l_X9_isAnyItemKnown_2 hg _ _ hr _ ?_ _ _
  refine X_iconst hg ic_i_0 dX9_isAnyItemKnown_51 ?_
  exact X_zret hg hr (Nat.le_of_ble_eq_true rfl) (Nat.le_of_ble_eq_true rfl) dX9_isAnyItemKnown_52
set_option maxRecDepth 10000 in
theorem l_X9_names_78 {g : XC} {x0 : Int32 × Hp} (hg : XG g RX9 cX9_names 5 6 138 48 304) (l0 : Nat) (l2 : Int32) (hr : XR g (some .int) "names" (some (.int x0.1)) x0.2 48 304) (K : Hp → Option (Int32 × Hp)) (hK0 : ∀ (k n0 : Nat), k ≤ 48 → n0 ≤ 304 → ∀  (h : Hp), Xo g x0 5 k n0 121 [(0, .ref (nB g.1 + l0)), (2, .int l2)] [] h (K  h)) : ∀ (n k n0 : Nat), k + 3 * n ≤ 48 → n0 + 19 * n ≤ 304 → ∀ (l3 : Int32) (h : Hp), Xo g x0 5 k n0 78 [(0, .ref (nB g.1 + l0)), (2, .int l2), (3, .int l3)] [] h (f_X9_names_L78 l0 l2 K n l3 h) := by
  intro n
  induction n with
  | zero =>
    intro k n0 _ _
    intro l3 h
    exact X_none
  | succ n ih =>
    intro k n0 hk1 hn1
    intro l3 h
    unfold f_X9_names_L78
    refine X_iload_n hg 2 rfl dX9_names_78 ?_
    refine X_iload_n hg 1 rfl dX9_names_79 ?_
    refine X_icmp_ge hg (tgt := 121) dX9_names_80 rfl (fun c22 => ?_) (fun c22 => ?_)
    · refine X_lv [0, 1] rfl ?_
      exact hK0 _ _ (by omega) (by omega)  _
    · refine X_aload_n hg 0 rfl dX9_names_83 ?_
      refine X_getR hg (j := 4) cf_9 (Nat.le_of_ble_eq_true rfl) (Or.inl ⟨_, rfl⟩) m_281 dX9_names_84 (fun x15 _ => ?_)
      refine X_aload_n hg 0 rfl dX9_names_87 ?_
      refine X_getR hg (j := 0) cf_9 (Nat.le_of_ble_eq_true rfl) (Or.inl ⟨_, rfl⟩) m_277 dX9_names_88 (fun x16 _ => ?_)
      refine X_iload_n hg 2 rfl dX9_names_91 ?_
      refine X_cVAW hg mf_X3_entryOf m_423 m_424 m_422 cf_3 (fun _ e => gd_isO e) (fun y e => c_X3_entryOf g.1 x15 x16 l3 h y e) (As := [.ref (nB g.1 + x16), .int l3]) rfl (Nat.le_of_ble_eq_true rfl) rfl (Nat.le_of_ble_eq_true rfl) (Nat.le_of_ble_eq_true rfl) (by omega) (by omega) dX9_names_92 (fun p17 _ => ?_)
      refine X_astore hg (Nat.le_of_ble_eq_true rfl) (lv' := [(4, .ref (nB g.1 + p17.1)), (0, .ref (nB g.1 + l0)), (2, .int l2), (3, .int l3)]) rfl dX9_names_95 ?_
      refine X_aload hg 0 rfl dX9_names_97 ?_
      refine X_aload_n hg 1 rfl dX9_names_99 ?_
      refine X_getR hg (j := 2) cf_9 (Nat.le_of_ble_eq_true rfl) (Or.inl ⟨_, rfl⟩) m_279 dX9_names_100 (fun x18 _ => ?_)
      refine X_cVV0 hg mf_X1_encode m_449 m_450 m_448 cf_1 (fun _ e => gd_isO e) (fun y e => c_X1_encode g.1 p17.1 x18 p17.2 y e) (As := [.ref (nB g.1 + x18)]) rfl (Nat.le_of_ble_eq_true rfl) rfl (Nat.le_of_ble_eq_true rfl) (Nat.le_of_ble_eq_true rfl) (by omega) (by omega) dX9_names_103 (fun h19 _ => ?_)
      refine X_aload_n hg 1 rfl dX9_names_106 ?_
      refine X_getR hg (j := 3) cf_9 (Nat.le_of_ble_eq_true rfl) (Or.inl ⟨_, rfl⟩) m_280 dX9_names_107 (fun x20 _ => ?_)
      refine X_aload hg 0 rfl dX9_names_110 ?_
      refine X_cVV0 hg mf_X7_insert m_457 m_458 m_456 cf_7 (fun _ e => gd_isO e) (fun y e => c_X7_insert g.1 x20 p17.1 h19 y e) (As := [.ref (nB g.1 + p17.1)]) rfl (Nat.le_of_ble_eq_true rfl) rfl (Nat.le_of_ble_eq_true rfl) (Nat.le_of_ble_eq_true rfl) (by omega) (by omega) dX9_names_112 (fun h21 _ => ?_)
      refine X_iinc hg 3 rfl (v := (l3 + (nI 1))) (icc ic_i_1) (Nat.le_of_ble_eq_true rfl) (lv' := [(3, .int (l3 + (nI 1))), (4, .ref (nB g.1 + p17.1)), (0, .ref (nB g.1 + l0)), (2, .int l2)]) rfl dX9_names_115 ?_
      refine X_goto hg (tgt := 78) dX9_names_118 rfl ?_
      refine X_lv [2, 3, 0] rfl ?_
      exact ih _ _ (by omega) (by omega) _ _
set_option maxRecDepth 10000 in
theorem c_X9_names (en : EN) (a0 : Nat) (h : Hp) (x0 : Int32 × Hp) (e : f_X9_names a0 h = some x0) : Ct en yX9_names cX9_names 5 (some .int) 6 138 48 304 [.ref (nB en + a0)] h (some (.int x0.1)) x0.2 := by
  refine Ct.of (by decide) rfl (Nat.le_of_ble_eq_true rfl) e (fun g hen hg hr => ?_)
  subst hen
  unfold f_X9_names
  refine X_gd ?_
  refine X_aload_n hg 0 rfl dX9_names_0 ?_
  refine X_getR hg (j := 4) cf_9 (Nat.le_of_ble_eq_true rfl) (Or.inl ⟨_, rfl⟩) m_281 dX9_names_1 (fun x1 _ => ?_)
  refine X_aload_n hg 0 rfl dX9_names_4 ?_
  refine X_getR hg (j := 0) cf_9 (Nat.le_of_ble_eq_true rfl) (Or.inl ⟨_, rfl⟩) m_277 dX9_names_5 (fun x2 _ => ?_)
  refine X_cVIW0 hg mf_X3_scan m_353 m_354 m_352 cf_3 (fun _ e => gd_isO e) (fun y e => c_X3_scan g.1 x1 x2 h y e) (As := [.ref (nB g.1 + x2)]) rfl (Nat.le_of_ble_eq_true rfl) rfl (Nat.le_of_ble_eq_true rfl) (Nat.le_of_ble_eq_true rfl) (by omega) (by omega) dX9_names_8 (fun p3 _ => ?_)
  refine X_aload_n hg 0 rfl dX9_names_11 ?_
  refine X_getR hg (j := 0) cf_9 (Nat.le_of_ble_eq_true rfl) (Or.inl ⟨_, rfl⟩) m_277 dX9_names_12 (fun x4 _ => ?_)
  refine X_cVI0 hg mf_X8_size m_337 m_338 m_336 cf_8 (fun _ e => gd_isO e) (fun y e => c_X8_size g.1 x4 p3.2 y e) (As := []) rfl (Nat.le_of_ble_eq_true rfl) rfl (Nat.le_of_ble_eq_true rfl) (Nat.le_of_ble_eq_true rfl) (by omega) (by omega) dX9_names_15 (fun x5 _ => ?_)
  refine X_reg (fun (v6 : Int32) o => Xo g x0 5 0 0 26 [(0, .ref (nB g.1 + a0))] [.int v6] p3.2 o) (fun kv6 hk6 => ?_) (fun v6 => ?_)
  · refine X_ib ?_
    refine X_icmp_ne hg (tgt := 25) dX9_names_18 rfl (fun c7 => ?_) (fun c7 => ?_)
    · refine X_iconst hg ic_i_1 dX9_names_21 ?_
      refine X_goto hg (tgt := 26) dX9_names_22 rfl ?_
      exact hk6 (nI 1)
    · refine X_iconst hg ic_i_0 dX9_names_25 ?_
      exact hk6 (nI 0)
  · refine X_istore_n hg rfl (Nat.le_of_ble_eq_true rfl) (lv' := [(1, .int v6), (0, .ref (nB g.1 + a0))]) rfl dX9_names_26 ?_
    refine X_iload_n hg 0 rfl dX9_names_27 ?_
    refine X_if_eq hg (tgt := 48) dX9_names_28 rfl (fun c32 => ?_) (fun c32 => ?_)
    · refine X_bipush hg ic_b_m103 dX9_names_48 ?_
      exact X_iretW hg hr (by omega) (by omega) dX9_names_50
    · refine X_aload_n hg 1 rfl dX9_names_31 ?_
      refine X_getR hg (j := 4) cf_9 (Nat.le_of_ble_eq_true rfl) (Or.inl ⟨_, rfl⟩) m_281 dX9_names_32 (fun x8 _ => ?_)
      refine X_cVI0 hg mf_X3_endsWithItem m_390 m_391 m_389 cf_3 (fun _ e => gd_isO e) (fun y e => c_X3_endsWithItem g.1 x8 p3.2 y e) (As := []) rfl (Nat.le_of_ble_eq_true rfl) rfl (Nat.le_of_ble_eq_true rfl) (Nat.le_of_ble_eq_true rfl) (by omega) (by omega) dX9_names_35 (fun x9 _ => ?_)
      refine X_if_eq hg (tgt := 48) dX9_names_38 rfl (fun c31 => ?_) (fun c31 => ?_)
      · refine X_bipush hg ic_b_m103 dX9_names_48 ?_
        exact X_iretW hg hr (by omega) (by omega) dX9_names_50
      · refine X_aload_n hg 1 rfl dX9_names_41 ?_
        refine X_cVI0 hg mf_X9_isAnyItemKnown m_395 m_6 m_393 cf_9 (fun _ e => gd_isO e) (fun y e => c_X9_isAnyItemKnown g.1 a0 p3.2 y e) (As := []) rfl (Nat.le_of_ble_eq_true rfl) rfl (Nat.le_of_ble_eq_true rfl) (Nat.le_of_ble_eq_true rfl) (by omega) (by omega) dX9_names_42 (fun x10 _ => ?_)
        refine X_if_eq hg (tgt := 51) dX9_names_45 rfl (fun c30 => ?_) (fun c30 => ?_)
        · refine X_aload_n hg 1 rfl dX9_names_51 ?_
          refine X_getR hg (j := 4) cf_9 (Nat.le_of_ble_eq_true rfl) (Or.inl ⟨_, rfl⟩) m_281 dX9_names_52 (fun x11 _ => ?_)
          refine X_cVI0 hg mf_X3_items m_398 m_399 m_397 cf_3 (fun _ e => gd_isO e) (fun y e => c_X3_items g.1 x11 p3.2 y e) (As := []) rfl (Nat.le_of_ble_eq_true rfl) rfl (Nat.le_of_ble_eq_true rfl) (Nat.le_of_ble_eq_true rfl) (by omega) (by omega) dX9_names_55 (fun x12 _ => ?_)
          refine X_istore_n hg rfl (Nat.le_of_ble_eq_true rfl) (lv' := [(2, .int x12), (1, .int v6), (0, .ref (nB g.1 + a0))]) rfl dX9_names_58 ?_
          refine X_aload_n hg 2 rfl dX9_names_59 ?_
          refine X_getR hg (j := 3) cf_9 (Nat.le_of_ble_eq_true rfl) (Or.inl ⟨_, rfl⟩) m_280 dX9_names_60 (fun x13 _ => ?_)
          refine X_cVI0 hg mf_X7_size m_419 m_420 m_418 cf_7 (fun _ e => gd_isO e) (fun y e => c_X7_size g.1 x13 p3.2 y e) (As := []) rfl (Nat.le_of_ble_eq_true rfl) rfl (Nat.le_of_ble_eq_true rfl) (Nat.le_of_ble_eq_true rfl) (by omega) (by omega) dX9_names_63 (fun x14 _ => ?_)
          refine X_iload_n hg 0 rfl dX9_names_66 ?_
          refine X_iadd hg dX9_names_67 ?_
          refine X_bipush hg ic_b_14 dX9_names_68 ?_
          refine X_icmp_le hg (tgt := 76) dX9_names_70 rfl (fun c29 => ?_) (fun c29 => ?_)
          · refine X_iconst hg ic_i_0 dX9_names_76 ?_
            refine X_istore_n hg rfl (Nat.le_of_ble_eq_true rfl) (lv' := [(3, .int (nI 0)), (2, .int x12), (1, .int v6), (0, .ref (nB g.1 + a0))]) rfl dX9_names_77 ?_
            refine X_lv [3, 1, 0] rfl ?_
            refine l_X9_names_78 hg _ _ hr _ (fun _ _ hk1 hn1 h23 => ?_) 16 _ _ (by omega) (by omega) _ _
            refine X_aload_n hg 0 rfl dX9_names_121 ?_
            refine X_getR hg (j := 0) cf_9 (Nat.le_of_ble_eq_true rfl) (Or.inl ⟨_, rfl⟩) m_277 dX9_names_122 (fun x24 _ => ?_)
            refine X_cVIW0 hg mf_X8_clear m_345 m_346 m_344 cf_8 (fun _ e => gd_isO e) (fun y e => c_X8_clear g.1 x24 h23 y e) (As := []) rfl (Nat.le_of_ble_eq_true rfl) rfl (Nat.le_of_ble_eq_true rfl) (Nat.le_of_ble_eq_true rfl) (by omega) (by omega) dX9_names_125 (fun p25 _ => ?_)
            refine X_pop hg rfl dX9_names_128 ?_
            refine X_aload_n hg 0 rfl dX9_names_129 ?_
            refine X_iconst hg ic_i_0 dX9_names_130 ?_
            refine X_putI hg (j := 10) cf_9 (Nat.le_of_ble_eq_true rfl) rfl (Or.inr ⟨rfl, Or.inl rfl⟩) m_287 dX9_names_131 (fun h26 _ => ?_)
            refine X_aload_n hg 0 rfl dX9_names_134 ?_
            refine X_dup hg rfl dX9_names_135 ?_
            refine X_getI hg (j := 12) cf_9 (Nat.le_of_ble_eq_true rfl) (Or.inl rfl) m_289 dX9_names_136 (fun x27 _ => ?_)
            refine X_iconst hg ic_i_1 dX9_names_139 ?_
            refine X_iadd hg dX9_names_140 ?_
            refine X_putI hg (j := 12) cf_9 (Nat.le_of_ble_eq_true rfl) rfl (Or.inl rfl) m_289 dX9_names_141 (fun h28 _ => ?_)
            refine X_iload_n hg 1 rfl dX9_names_144 ?_
            exact X_iretW hg hr (by omega) (by omega) dX9_names_145
          · refine X_bipush hg ic_b_m104 dX9_names_73 ?_
            exact X_iretW hg hr (by omega) (by omega) dX9_names_75
        · refine X_bipush hg ic_b_m103 dX9_names_48 ?_
          exact X_iretW hg hr (by omega) (by omega) dX9_names_50
set_option maxRecDepth 10000 in
theorem c_X9_dial (en : EN) (a0 : Nat) (h : Hp) (x0 : Int32 × Hp) (e : f_X9_dial a0 h = some x0) : Ct en yX9_dial cX9_dial 2 (some .int) 3 68 0 0 [.ref (nB en + a0)] h (some (.int x0.1)) x0.2 := by
  refine Ct.of (by decide) rfl (Nat.le_of_ble_eq_true rfl) e (fun g hen hg hr => ?_)
  subst hen
  unfold f_X9_dial
  refine X_gd ?_
  refine X_aload_n hg 0 rfl dX9_dial_0 ?_
  refine X_getR hg (j := 2) cf_9 (Nat.le_of_ble_eq_true rfl) (Or.inl ⟨_, rfl⟩) m_279 dX9_dial_1 (fun x1 _ => ?_)
  refine X_aload_n hg 0 rfl dX9_dial_4 ?_
  refine X_getR hg (j := 0) cf_9 (Nat.le_of_ble_eq_true rfl) (Or.inl ⟨_, rfl⟩) m_277 dX9_dial_5 (fun x2 _ => ?_)
  refine X_cVIW0 hg mf_X2_read m_473 m_474 m_472 cf_2 (fun _ e => gd_isO e) (fun y e => c_X2_read g.1 x1 x2 h y e) (As := [.ref (nB g.1 + x2)]) rfl (Nat.le_of_ble_eq_true rfl) rfl (Nat.le_of_ble_eq_true rfl) (Nat.le_of_ble_eq_true rfl) (Nat.le_of_ble_eq_true rfl) (Nat.le_of_ble_eq_true rfl) dX9_dial_8 (fun p3 _ => ?_)
  refine X_istore_n hg rfl (Nat.le_of_ble_eq_true rfl) (lv' := [(1, .int p3.1), (0, .ref (nB g.1 + a0))]) rfl dX9_dial_11 ?_
  refine X_iload_n hg 0 rfl dX9_dial_12 ?_
  refine X_if_ne hg (tgt := 19) dX9_dial_13 rfl (fun c11 => ?_) (fun c11 => ?_)
  · refine X_bipush hg ic_b_m103 dX9_dial_16 ?_
    exact X_iretW hg hr (Nat.le_of_ble_eq_true rfl) (Nat.le_of_ble_eq_true rfl) dX9_dial_18
  · refine X_aload_n hg 1 rfl dX9_dial_19 ?_
    refine X_getR hg (j := 3) cf_9 (Nat.le_of_ble_eq_true rfl) (Or.inl ⟨_, rfl⟩) m_280 dX9_dial_20 (fun x4 _ => ?_)
    refine X_aload_n hg 1 rfl dX9_dial_23 ?_
    refine X_getR hg (j := 2) cf_9 (Nat.le_of_ble_eq_true rfl) (Or.inl ⟨_, rfl⟩) m_279 dX9_dial_24 (fun x5 _ => ?_)
    refine X_cVV0 hg mf_X7_encode m_483 m_484 m_482 cf_7 (fun _ e => gd_isO e) (fun y e => c_X7_encode g.1 x4 x5 p3.2 y e) (As := [.ref (nB g.1 + x5)]) rfl (Nat.le_of_ble_eq_true rfl) rfl (Nat.le_of_ble_eq_true rfl) (Nat.le_of_ble_eq_true rfl) (Nat.le_of_ble_eq_true rfl) (Nat.le_of_ble_eq_true rfl) dX9_dial_27 (fun h6 _ => ?_)
    refine X_aload_n hg 1 rfl dX9_dial_30 ?_
    refine X_getR hg (j := 0) cf_9 (Nat.le_of_ble_eq_true rfl) (Or.inl ⟨_, rfl⟩) m_277 dX9_dial_31 (fun x7 _ => ?_)
    refine X_cVIW0 hg mf_X8_clear m_345 m_346 m_344 cf_8 (fun _ e => gd_isO e) (fun y e => c_X8_clear g.1 x7 h6 y e) (As := []) rfl (Nat.le_of_ble_eq_true rfl) rfl (Nat.le_of_ble_eq_true rfl) (Nat.le_of_ble_eq_true rfl) (Nat.le_of_ble_eq_true rfl) (Nat.le_of_ble_eq_true rfl) dX9_dial_34 (fun p8 _ => ?_)
    refine X_pop hg rfl dX9_dial_37 ?_
    refine X_aload_n hg 1 rfl dX9_dial_38 ?_
    refine X_dup hg rfl dX9_dial_39 ?_
    refine X_getI hg (j := 13) cf_9 (Nat.le_of_ble_eq_true rfl) (Or.inl rfl) m_290 dX9_dial_40 (fun x9 _ => ?_)
    refine X_iconst hg ic_i_1 dX9_dial_43 ?_
    refine X_iadd hg dX9_dial_44 ?_
    refine X_putI hg (j := 13) cf_9 (Nat.le_of_ble_eq_true rfl) rfl (Or.inl rfl) m_290 dX9_dial_45 (fun h10 _ => ?_)
    refine X_iload_n hg 0 rfl dX9_dial_48 ?_
    exact X_iretW hg hr (Nat.le_of_ble_eq_true rfl) (Nat.le_of_ble_eq_true rfl) dX9_dial_49
set_option maxRecDepth 10000 in
theorem c_X9_drop (en : EN) (a0 : Nat) (a1 : Int32) (h : Hp) (x0 : Int32 × Hp) (e : f_X9_drop a0 a1 h = some x0) : Ct en yX9_drop cX9_drop 2 (some .int) 3 64 0 0 [.ref (nB en + a0), .int a1] h (some (.int x0.1)) x0.2 := by
  refine Ct.of (by decide) rfl (Nat.le_of_ble_eq_true rfl) e (fun g hen hg hr => ?_)
  subst hen
  unfold f_X9_drop
  refine X_gd ?_
  refine X_aload_n hg 0 rfl dX9_drop_0 ?_
  refine X_getR hg (j := 3) cf_9 (Nat.le_of_ble_eq_true rfl) (Or.inl ⟨_, rfl⟩) m_280 dX9_drop_1 (fun x1 _ => ?_)
  refine X_iload_n hg 1 rfl dX9_drop_4 ?_
  refine X_cVI0 hg mf_X7_has m_492 m_493 m_491 cf_7 (fun _ e => gd_isO e) (fun y e => c_X7_has g.1 x1 a1 h y e) (As := [.int a1]) rfl (Nat.le_of_ble_eq_true rfl) rfl (Nat.le_of_ble_eq_true rfl) (Nat.le_of_ble_eq_true rfl) (Nat.le_of_ble_eq_true rfl) (Nat.le_of_ble_eq_true rfl) dX9_drop_5 (fun x2 _ => ?_)
  refine X_if_ne hg (tgt := 14) dX9_drop_8 rfl (fun c10 => ?_) (fun c10 => ?_)
  · refine X_bipush hg ic_b_m101 dX9_drop_11 ?_
    exact X_iretW hg hr (Nat.le_of_ble_eq_true rfl) (Nat.le_of_ble_eq_true rfl) dX9_drop_13
  · refine X_aload_n hg 0 rfl dX9_drop_14 ?_
    refine X_getR hg (j := 3) cf_9 (Nat.le_of_ble_eq_true rfl) (Or.inl ⟨_, rfl⟩) m_280 dX9_drop_15 (fun x3 _ => ?_)
    refine X_iload_n hg 1 rfl dX9_drop_18 ?_
    refine X_cVV0 hg mf_X7_remove m_500 m_501 m_499 cf_7 (fun _ e => gd_isO e) (fun y e => c_X7_remove g.1 x3 a1 h y e) (As := [.int a1]) rfl (Nat.le_of_ble_eq_true rfl) rfl (Nat.le_of_ble_eq_true rfl) (Nat.le_of_ble_eq_true rfl) (Nat.le_of_ble_eq_true rfl) (Nat.le_of_ble_eq_true rfl) dX9_drop_19 (fun h4 _ => ?_)
    refine X_aload_n hg 0 rfl dX9_drop_22 ?_
    refine X_iconst hg ic_i_0 dX9_drop_23 ?_
    refine X_putI hg (j := 10) cf_9 (Nat.le_of_ble_eq_true rfl) rfl (Or.inr ⟨rfl, Or.inl rfl⟩) m_287 dX9_drop_24 (fun h5 _ => ?_)
    refine X_aload_n hg 0 rfl dX9_drop_27 ?_
    refine X_dup hg rfl dX9_drop_28 ?_
    refine X_getI hg (j := 14) cf_9 (Nat.le_of_ble_eq_true rfl) (Or.inl rfl) m_291 dX9_drop_29 (fun x6 _ => ?_)
    refine X_iconst hg ic_i_1 dX9_drop_32 ?_
    refine X_iadd hg dX9_drop_33 ?_
    refine X_putI hg (j := 14) cf_9 (Nat.le_of_ble_eq_true rfl) rfl (Or.inl rfl) m_291 dX9_drop_34 (fun h7 _ => ?_)
    refine X_aload_n hg 0 rfl dX9_drop_37 ?_
    refine X_getR hg (j := 3) cf_9 (Nat.le_of_ble_eq_true rfl) (Or.inl ⟨_, rfl⟩) m_280 dX9_drop_38 (fun x8 _ => ?_)
    refine X_cVI0 hg mf_X7_size m_419 m_420 m_418 cf_7 (fun _ e => gd_isO e) (fun y e => c_X7_size g.1 x8 h7 y e) (As := []) rfl (Nat.le_of_ble_eq_true rfl) rfl (Nat.le_of_ble_eq_true rfl) (Nat.le_of_ble_eq_true rfl) (Nat.le_of_ble_eq_true rfl) (Nat.le_of_ble_eq_true rfl) dX9_drop_41 (fun x9 _ => ?_)
    exact X_iretW hg hr (Nat.le_of_ble_eq_true rfl) (Nat.le_of_ble_eq_true rfl) dX9_drop_44
set_option maxRecDepth 10000 in
theorem c_X9_use (en : EN) (a0 : Nat) (a1 : Int32) (a2 : Int32) (h : Hp) (x0 : Int32 × Hp) (e : f_X9_use a0 a1 a2 h = some x0) : Ct en yX9_use cX9_use 3 (some .int) 2 45 0 0 [.ref (nB en + a0), .int a1, .int a2] h (some (.int x0.1)) x0.2 := by
  refine Ct.of (by decide) rfl (Nat.le_of_ble_eq_true rfl) e (fun g hen hg hr => ?_)
  subst hen
  unfold f_X9_use
  refine X_gd ?_
  refine X_aload_n hg 0 rfl dX9_use_0 ?_
  refine X_getR hg (j := 3) cf_9 (Nat.le_of_ble_eq_true rfl) (Or.inl ⟨_, rfl⟩) m_280 dX9_use_1 (fun x1 _ => ?_)
  refine X_iload_n hg 1 rfl dX9_use_4 ?_
  refine X_cVI0 hg mf_X7_has m_492 m_493 m_491 cf_7 (fun _ e => gd_isO e) (fun y e => c_X7_has g.1 x1 a1 h y e) (As := [.int a1]) rfl (Nat.le_of_ble_eq_true rfl) rfl (Nat.le_of_ble_eq_true rfl) (Nat.le_of_ble_eq_true rfl) (Nat.le_of_ble_eq_true rfl) (Nat.le_of_ble_eq_true rfl) dX9_use_5 (fun x2 _ => ?_)
  refine X_if_ne hg (tgt := 14) dX9_use_8 rfl (fun c7 => ?_) (fun c7 => ?_)
  · refine X_bipush hg ic_b_m101 dX9_use_11 ?_
    exact X_iretW hg hr (Nat.le_of_ble_eq_true rfl) (Nat.le_of_ble_eq_true rfl) dX9_use_13
  · refine X_iload_n hg 2 rfl dX9_use_14 ?_
    refine X_iconst hg ic_i_1 dX9_use_15 ?_
    refine X_icmp_lt hg (tgt := 25) dX9_use_16 rfl (fun c6 => ?_) (fun c6 => ?_)
    · refine X_bipush hg ic_b_m102 dX9_use_25 ?_
      exact X_iretW hg hr (Nat.le_of_ble_eq_true rfl) (Nat.le_of_ble_eq_true rfl) dX9_use_27
    · refine X_iload_n hg 2 rfl dX9_use_19 ?_
      refine X_bipush hg ic_b_99 dX9_use_20 ?_
      refine X_icmp_le hg (tgt := 28) dX9_use_22 rfl (fun c5 => ?_) (fun c5 => ?_)
      · refine X_aload_n hg 0 rfl dX9_use_28 ?_
        refine X_getR hg (j := 3) cf_9 (Nat.le_of_ble_eq_true rfl) (Or.inl ⟨_, rfl⟩) m_280 dX9_use_29 (fun x3 _ => ?_)
        refine X_iload_n hg 1 rfl dX9_use_32 ?_
        refine X_iload_n hg 2 rfl dX9_use_33 ?_
        refine X_cVIW0 hg mf_X7_setFrequency m_509 m_510 m_508 cf_7 (fun _ e => gd_isO e) (fun y e => c_X7_setFrequency g.1 x3 a1 a2 h y e) (As := [.int a1, .int a2]) rfl (Nat.le_of_ble_eq_true rfl) rfl (Nat.le_of_ble_eq_true rfl) (Nat.le_of_ble_eq_true rfl) (Nat.le_of_ble_eq_true rfl) (Nat.le_of_ble_eq_true rfl) dX9_use_34 (fun p4 _ => ?_)
        exact X_iretW hg hr (Nat.le_of_ble_eq_true rfl) (Nat.le_of_ble_eq_true rfl) dX9_use_37
      · refine X_bipush hg ic_b_m102 dX9_use_25 ?_
        exact X_iretW hg hr (Nat.le_of_ble_eq_true rfl) (Nat.le_of_ble_eq_true rfl) dX9_use_27
set_option maxRecDepth 10000 in
theorem c_X9_name (en : EN) (a0 : Nat) (a1 : Int32) (a2 : Int32) (h : Hp) (x0 : Int32 × Hp) (e : f_X9_name a0 a1 a2 h = some x0) : Ct en yX9_name cX9_name 3 (some .int) 4 101 0 0 [.ref (nB en + a0), .int a1, .int a2] h (some (.int x0.1)) x0.2 := by
  refine Ct.of (by decide) rfl (Nat.le_of_ble_eq_true rfl) e (fun g hen hg hr => ?_)
  subst hen
  unfold f_X9_name
  refine X_gd ?_
  refine X_aload_n hg 0 rfl dX9_name_0 ?_
  refine X_getR hg (j := 3) cf_9 (Nat.le_of_ble_eq_true rfl) (Or.inl ⟨_, rfl⟩) m_280 dX9_name_1 (fun x1 _ => ?_)
  refine X_iload_n hg 1 rfl dX9_name_4 ?_
  refine X_cVI0 hg mf_X7_has m_492 m_493 m_491 cf_7 (fun _ e => gd_isO e) (fun y e => c_X7_has g.1 x1 a1 h y e) (As := [.int a1]) rfl (Nat.le_of_ble_eq_true rfl) rfl (Nat.le_of_ble_eq_true rfl) (Nat.le_of_ble_eq_true rfl) (Nat.le_of_ble_eq_true rfl) (Nat.le_of_ble_eq_true rfl) dX9_name_5 (fun x2 _ => ?_)
  refine X_if_ne hg (tgt := 14) dX9_name_8 rfl (fun c39 => ?_) (fun c39 => ?_)
  · refine X_bipush hg ic_b_m101 dX9_name_11 ?_
    exact X_iretW hg hr (Nat.le_of_ble_eq_true rfl) (Nat.le_of_ble_eq_true rfl) dX9_name_13
  · refine X_iload_n hg 2 rfl dX9_name_14 ?_
    refine X_tsw hg (v := (nI 0)) (tgt := 60) dX9_name_15 (by decide) (by decide) rfl rfl (fun c5 => ?_) (fun c5 => ?_)
    · refine X_aload_n hg 0 rfl dX9_name_60 ?_
      refine X_getR hg (j := 3) cf_9 (Nat.le_of_ble_eq_true rfl) (Or.inl ⟨_, rfl⟩) m_280 dX9_name_61 (fun x3 _ => ?_)
      refine X_iload_n hg 1 rfl dX9_name_64 ?_
      refine X_cVI0 hg mf_X7_lengthOf m_517 m_518 m_516 cf_7 (fun _ e => gd_isO e) (fun y e => c_X7_lengthOf g.1 x3 a1 h y e) (As := [.int a1]) rfl (Nat.le_of_ble_eq_true rfl) rfl (Nat.le_of_ble_eq_true rfl) (Nat.le_of_ble_eq_true rfl) (Nat.le_of_ble_eq_true rfl) (Nat.le_of_ble_eq_true rfl) dX9_name_65 (fun x4 _ => ?_)
      exact X_iretW hg hr (Nat.le_of_ble_eq_true rfl) (Nat.le_of_ble_eq_true rfl) dX9_name_68
    · skip
      refine X_tsw hg (v := (nI 1)) (tgt := 69) dX9_name_15 (by decide) (by decide) rfl rfl (fun c8 => ?_) (fun c8 => ?_)
      · refine X_aload_n hg 0 rfl dX9_name_69 ?_
        refine X_getR hg (j := 3) cf_9 (Nat.le_of_ble_eq_true rfl) (Or.inl ⟨_, rfl⟩) m_280 dX9_name_70 (fun x6 _ => ?_)
        refine X_iload_n hg 1 rfl dX9_name_73 ?_
        refine X_cVI0 hg mf_X7_frequencyOf m_521 m_522 m_520 cf_7 (fun _ e => gd_isO e) (fun y e => c_X7_frequencyOf g.1 x6 a1 h y e) (As := [.int a1]) rfl (Nat.le_of_ble_eq_true rfl) rfl (Nat.le_of_ble_eq_true rfl) (Nat.le_of_ble_eq_true rfl) (Nat.le_of_ble_eq_true rfl) (Nat.le_of_ble_eq_true rfl) dX9_name_74 (fun x7 _ => ?_)
        exact X_iretW hg hr (Nat.le_of_ble_eq_true rfl) (Nat.le_of_ble_eq_true rfl) dX9_name_77
      · skip
        refine X_tsw hg (v := (nI 2)) (tgt := 78) dX9_name_15 (by decide) (by decide) rfl rfl (fun c12 => ?_) (fun c12 => ?_)
        · refine X_aload_n hg 0 rfl dX9_name_78 ?_
          refine X_getR hg (j := 5) cf_9 (Nat.le_of_ble_eq_true rfl) (Or.inl ⟨_, rfl⟩) m_282 dX9_name_79 (fun x9 _ => ?_)
          refine X_aload_n hg 0 rfl dX9_name_82 ?_
          refine X_getR hg (j := 3) cf_9 (Nat.le_of_ble_eq_true rfl) (Or.inl ⟨_, rfl⟩) m_280 dX9_name_83 (fun x10 _ => ?_)
          refine X_iload_n hg 1 rfl dX9_name_86 ?_
          refine X_cVI0 hg mf_X0_twins m_525 m_526 m_524 cf_0 (fun _ e => gd_isO e) (fun y e => c_X0_twins g.1 x9 x10 a1 h y e) (As := [.ref (nB g.1 + x10), .int a1]) rfl (Nat.le_of_ble_eq_true rfl) rfl (Nat.le_of_ble_eq_true rfl) (Nat.le_of_ble_eq_true rfl) (Nat.le_of_ble_eq_true rfl) (Nat.le_of_ble_eq_true rfl) dX9_name_87 (fun x11 _ => ?_)
          exact X_iretW hg hr (Nat.le_of_ble_eq_true rfl) (Nat.le_of_ble_eq_true rfl) dX9_name_90
        · skip
          refine X_tsw hg (v := (nI 3)) (tgt := 91) dX9_name_15 (by decide) (by decide) rfl rfl (fun c16 => ?_) (fun c16 => ?_)
          · refine X_aload_n hg 0 rfl dX9_name_91 ?_
            refine X_getR hg (j := 5) cf_9 (Nat.le_of_ble_eq_true rfl) (Or.inl ⟨_, rfl⟩) m_282 dX9_name_92 (fun x13 _ => ?_)
            refine X_aload_n hg 0 rfl dX9_name_95 ?_
            refine X_getR hg (j := 3) cf_9 (Nat.le_of_ble_eq_true rfl) (Or.inl ⟨_, rfl⟩) m_280 dX9_name_96 (fun x14 _ => ?_)
            refine X_iload_n hg 1 rfl dX9_name_99 ?_
            refine X_cVI0 hg mf_X0_distinguishingLength m_542 m_543 m_541 cf_0 (fun _ e => gd_isO e) (fun y e => c_X0_distinguishingLength g.1 x13 x14 a1 h y e) (As := [.ref (nB g.1 + x14), .int a1]) rfl (Nat.le_of_ble_eq_true rfl) rfl (Nat.le_of_ble_eq_true rfl) (Nat.le_of_ble_eq_true rfl) (Nat.le_of_ble_eq_true rfl) (Nat.le_of_ble_eq_true rfl) dX9_name_100 (fun x15 _ => ?_)
            exact X_iretW hg hr (Nat.le_of_ble_eq_true rfl) (Nat.le_of_ble_eq_true rfl) dX9_name_103
          · skip
            refine X_tsw hg (v := (nI 4)) (tgt := 104) dX9_name_15 (by decide) (by decide) rfl rfl (fun c20 => ?_) (fun c20 => ?_)
            · refine X_aload_n hg 0 rfl dX9_name_104 ?_
              refine X_getR hg (j := 5) cf_9 (Nat.le_of_ble_eq_true rfl) (Or.inl ⟨_, rfl⟩) m_282 dX9_name_105 (fun x17 _ => ?_)
              refine X_aload_n hg 0 rfl dX9_name_108 ?_
              refine X_getR hg (j := 3) cf_9 (Nat.le_of_ble_eq_true rfl) (Or.inl ⟨_, rfl⟩) m_280 dX9_name_109 (fun x18 _ => ?_)
              refine X_iload_n hg 1 rfl dX9_name_112 ?_
              refine X_cVI0 hg mf_X0_presses m_552 m_553 m_551 cf_0 (fun _ e => gd_isO e) (fun y e => c_X0_presses g.1 x17 x18 a1 h y e) (As := [.ref (nB g.1 + x18), .int a1]) rfl (Nat.le_of_ble_eq_true rfl) rfl (Nat.le_of_ble_eq_true rfl) (Nat.le_of_ble_eq_true rfl) (Nat.le_of_ble_eq_true rfl) (Nat.le_of_ble_eq_true rfl) dX9_name_113 (fun x19 _ => ?_)
              exact X_iretW hg hr (Nat.le_of_ble_eq_true rfl) (Nat.le_of_ble_eq_true rfl) dX9_name_116
            · skip
              refine X_tsw hg (v := (nI 5)) (tgt := 117) dX9_name_15 (by decide) (by decide) rfl rfl (fun c26 => ?_) (fun c26 => ?_)
              · refine X_aload_n hg 0 rfl dX9_name_117 ?_
                refine X_getR hg (j := 5) cf_9 (Nat.le_of_ble_eq_true rfl) (Or.inl ⟨_, rfl⟩) m_282 dX9_name_118 (fun x21 _ => ?_)
                refine X_aload_n hg 0 rfl dX9_name_121 ?_
                refine X_getR hg (j := 3) cf_9 (Nat.le_of_ble_eq_true rfl) (Or.inl ⟨_, rfl⟩) m_280 dX9_name_122 (fun x22 _ => ?_)
                refine X_aload_n hg 0 rfl dX9_name_125 ?_
                refine X_getR hg (j := 3) cf_9 (Nat.le_of_ble_eq_true rfl) (Or.inl ⟨_, rfl⟩) m_280 dX9_name_126 (fun x23 _ => ?_)
                refine X_iload_n hg 1 rfl dX9_name_129 ?_
                refine X_cVI0 hg mf_X7_lengthOf m_517 m_518 m_516 cf_7 (fun _ e => gd_isO e) (fun y e => c_X7_lengthOf g.1 x23 a1 h y e) (As := [.int a1]) rfl (Nat.le_of_ble_eq_true rfl) rfl (Nat.le_of_ble_eq_true rfl) (Nat.le_of_ble_eq_true rfl) (Nat.le_of_ble_eq_true rfl) (Nat.le_of_ble_eq_true rfl) dX9_name_130 (fun x24 _ => ?_)
                refine X_iload_n hg 1 rfl dX9_name_133 ?_
                refine X_cVI0 hg mf_X0_placeIn m_556 m_557 m_566 cf_0 (fun _ e => gd_isO e) (fun y e => c_X0_placeIn g.1 x21 x22 x24 a1 h y e) (As := [.ref (nB g.1 + x22), .int x24, .int a1]) rfl (Nat.le_of_ble_eq_true rfl) rfl (Nat.le_of_ble_eq_true rfl) (Nat.le_of_ble_eq_true rfl) (Nat.le_of_ble_eq_true rfl) (Nat.le_of_ble_eq_true rfl) dX9_name_134 (fun x25 _ => ?_)
                exact X_iretW hg hr (Nat.le_of_ble_eq_true rfl) (Nat.le_of_ble_eq_true rfl) dX9_name_137
              · skip
                refine X_tsw hg (v := (nI 6)) (tgt := 138) dX9_name_15 (by decide) (by decide) rfl rfl (fun c32 => ?_) (fun c32 => ?_)
                · refine X_aload_n hg 0 rfl dX9_name_138 ?_
                  refine X_getI hg (j := 10) cf_9 (Nat.le_of_ble_eq_true rfl) (Or.inr rfl) m_287 dX9_name_139 (fun x27 _ => ?_)
                  refine X_reg (fun (v28 : Int32) o => Xo g x0 3 0 0 157 [] [.int v28] h o) (fun kv28 hk28 => ?_) (fun v28 => ?_)
                  · refine X_ib ?_
                    refine X_if_eq hg (tgt := 156) dX9_name_142 rfl (fun c31 => ?_) (fun c31 => ?_)
                    · refine X_iconst hg ic_i_m1 dX9_name_156 ?_
                      refine X_lv [] rfl ?_
                      exact hk28 m1
                    · refine X_aload_n hg 0 rfl dX9_name_145 ?_
                      refine X_as ?_
                      refine X_getR hg (j := 8) cf_9 (Nat.le_of_ble_eq_true rfl) (Or.inl ⟨_, rfl⟩) m_285 dX9_name_146 (fun x29 _ => ?_)
                      refine X_iload_n hg 1 rfl dX9_name_149 ?_
                      refine X_as ?_
                      refine X_cVI0 hg mf_X4_lengthOf m_568 m_569 m_567 cf_4 (fun _ e => gd_isO e) (fun y e => c_X4_lengthOf g.1 x29 a1 h y e) (As := [.int a1]) rfl (Nat.le_of_ble_eq_true rfl) rfl (Nat.le_of_ble_eq_true rfl) (Nat.le_of_ble_eq_true rfl) (Nat.le_of_ble_eq_true rfl) (Nat.le_of_ble_eq_true rfl) dX9_name_150 (fun x30 _ => ?_)
                      refine X_goto hg (tgt := 157) dX9_name_153 rfl ?_
                      refine X_lv [] rfl ?_
                      exact hk28 x30
                  · exact X_iretW hg hr (Nat.le_of_ble_eq_true rfl) (Nat.le_of_ble_eq_true rfl) dX9_name_157
                · skip
                  refine X_tsw hg (v := (nI 7)) (tgt := 158) dX9_name_15 (by decide) (by decide) rfl rfl (fun c38 => ?_) (fun c38 => ?_)
                  · refine X_aload_n hg 0 rfl dX9_name_158 ?_
                    refine X_getR hg (j := 7) cf_9 (Nat.le_of_ble_eq_true rfl) (Or.inl ⟨_, rfl⟩) m_284 dX9_name_159 (fun x33 _ => ?_)
                    refine X_aload_n hg 0 rfl dX9_name_162 ?_
                    refine X_getR hg (j := 9) cf_9 (Nat.le_of_ble_eq_true rfl) (Or.inl ⟨_, rfl⟩) m_286 dX9_name_163 (fun x34 _ => ?_)
                    refine X_aload_n hg 0 rfl dX9_name_166 ?_
                    refine X_getR hg (j := 3) cf_9 (Nat.le_of_ble_eq_true rfl) (Or.inl ⟨_, rfl⟩) m_280 dX9_name_167 (fun x35 _ => ?_)
                    refine X_iconst hg ic_i_3 dX9_name_170 ?_
                    refine X_cVAW0 hg mf_X5_planInto m_576 m_577 m_575 cf_5 (fun _ e => gd_isO e) (fun y e => c_X5_planInto g.1 x33 x34 x35 (nI 3) h y e) (As := [.ref (nB g.1 + x34), .ref (nB g.1 + x35), .int (nI 3)]) rfl (Nat.le_of_ble_eq_true rfl) rfl (Nat.le_of_ble_eq_true rfl) (Nat.le_of_ble_eq_true rfl) (Nat.le_of_ble_eq_true rfl) (Nat.le_of_ble_eq_true rfl) dX9_name_171 (fun p36 _ => ?_)
                    refine X_iload_n hg 1 rfl dX9_name_174 ?_
                    refine X_cVI0 hg mf_X4_lengthOf m_568 m_569 m_567 cf_4 (fun _ e => gd_isO e) (fun y e => c_X4_lengthOf g.1 p36.1 a1 p36.2 y e) (As := [.int a1]) rfl (Nat.le_of_ble_eq_true rfl) rfl (Nat.le_of_ble_eq_true rfl) (Nat.le_of_ble_eq_true rfl) (Nat.le_of_ble_eq_true rfl) (Nat.le_of_ble_eq_true rfl) dX9_name_175 (fun x37 _ => ?_)
                    exact X_iretW hg hr (Nat.le_of_ble_eq_true rfl) (Nat.le_of_ble_eq_true rfl) dX9_name_178
                  · skip
                    refine X_tsd hg (tgt := 179) dX9_name_15 (by have q0 := lv_neT c5 (a := 0) rfl; have q1 := lv_neT c8 (a := 1) rfl; have q2 := lv_neT c12 (a := 2) rfl; have q3 := lv_neT c16 (a := 3) rfl; have q4 := lv_neT c20 (a := 4) rfl; have q5 := lv_neT c26 (a := 5) rfl; have q6 := lv_neT c32 (a := 6) rfl; have q7 := lv_neT c38 (a := 7) rfl; omega) rfl ?_
                    refine X_bipush hg ic_b_m102 dX9_name_179 ?_
                    exact X_iretW hg hr (Nat.le_of_ble_eq_true rfl) (Nat.le_of_ble_eq_true rfl) dX9_name_181
set_option maxRecDepth 10000 in
theorem c_X9_sign (en : EN) (a0 : Nat) (a1 : Int32) (a2 : Int32) (h : Hp) (x0 : Int32) (e : f_X9_sign a0 a1 a2 h = some x0) : Ct en yX9_sign cX9_sign 3 (some .int) 2 44 0 0 [.ref (nB en + a0), .int a1, .int a2] h (some (.int x0)) h := by
  refine Ct.of (by decide) rfl (Nat.le_of_ble_eq_true rfl) e (fun g hen hg hr => ?_)
  subst hen
  unfold f_X9_sign
  refine X_gd ?_
  refine X_aload_n hg 0 rfl dX9_sign_0 ?_
  refine X_getR hg (j := 3) cf_9 (Nat.le_of_ble_eq_true rfl) (Or.inl ⟨_, rfl⟩) m_280 dX9_sign_1 (fun x1 _ => ?_)
  refine X_iload_n hg 1 rfl dX9_sign_4 ?_
  refine X_iload_n hg 2 rfl dX9_sign_5 ?_
  refine X_cVI0 hg mf_X7_letterAt m_627 m_628 m_626 cf_7 (fun _ e => gd_isO e) (fun y e => c_X7_letterAt g.1 x1 a1 a2 h y e) (As := [.int a1, .int a2]) rfl (Nat.le_of_ble_eq_true rfl) rfl (Nat.le_of_ble_eq_true rfl) (Nat.le_of_ble_eq_true rfl) (Nat.le_of_ble_eq_true rfl) (Nat.le_of_ble_eq_true rfl) dX9_sign_6 (fun x2 _ => ?_)
  exact X_iret hg hr (Nat.le_of_ble_eq_true rfl) (Nat.le_of_ble_eq_true rfl) dX9_sign_9
set_option maxRecDepth 10000 in
theorem c_X9_digit (en : EN) (a0 : Nat) (a1 : Int32) (a2 : Int32) (h : Hp) (x0 : Int32) (e : f_X9_digit a0 a1 a2 h = some x0) : Ct en yX9_digit cX9_digit 3 (some .int) 2 44 0 0 [.ref (nB en + a0), .int a1, .int a2] h (some (.int x0)) h := by
  refine Ct.of (by decide) rfl (Nat.le_of_ble_eq_true rfl) e (fun g hen hg hr => ?_)
  subst hen
  unfold f_X9_digit
  refine X_gd ?_
  refine X_aload_n hg 0 rfl dX9_digit_0 ?_
  refine X_getR hg (j := 3) cf_9 (Nat.le_of_ble_eq_true rfl) (Or.inl ⟨_, rfl⟩) m_280 dX9_digit_1 (fun x1 _ => ?_)
  refine X_iload_n hg 1 rfl dX9_digit_4 ?_
  refine X_iload_n hg 2 rfl dX9_digit_5 ?_
  refine X_cVI0 hg mf_X7_digitAt m_639 m_640 m_638 cf_7 (fun _ e => gd_isO e) (fun y e => c_X7_digitAt g.1 x1 a1 a2 h y e) (As := [.int a1, .int a2]) rfl (Nat.le_of_ble_eq_true rfl) rfl (Nat.le_of_ble_eq_true rfl) (Nat.le_of_ble_eq_true rfl) (Nat.le_of_ble_eq_true rfl) (Nat.le_of_ble_eq_true rfl) dX9_digit_6 (fun x2 _ => ?_)
  exact X_iret hg hr (Nat.le_of_ble_eq_true rfl) (Nat.le_of_ble_eq_true rfl) dX9_digit_9
set_option maxRecDepth 10000 in
theorem c_X9_laid (en : EN) (a0 : Nat) (a1 : Int32) (h : Hp) (x0 : Int32) (e : f_X9_laid a0 a1 h = some x0) : Ct en yX9_laid cX9_laid 2 (some .int) 1 21 0 0 [.ref (nB en + a0), .int a1] h (some (.int x0)) h := by
  refine Ct.of (by decide) rfl (Nat.le_of_ble_eq_true rfl) e (fun g hen hg hr => ?_)
  subst hen
  unfold f_X9_laid
  refine X_gd ?_
  refine X_aload_n hg 0 rfl dX9_laid_0 ?_
  refine X_getR hg (j := 2) cf_9 (Nat.le_of_ble_eq_true rfl) (Or.inl ⟨_, rfl⟩) m_279 dX9_laid_1 (fun x1 _ => ?_)
  refine X_iload_n hg 1 rfl dX9_laid_4 ?_
  refine X_cVI0 hg mf_X2_digitOf m_453 m_454 m_650 cf_2 (fun _ e => gd_isO e) (fun y e => c_X2_digitOf g.1 x1 a1 h y e) (As := [.int a1]) rfl (Nat.le_of_ble_eq_true rfl) rfl (Nat.le_of_ble_eq_true rfl) (Nat.le_of_ble_eq_true rfl) (Nat.le_of_ble_eq_true rfl) (Nat.le_of_ble_eq_true rfl) dX9_laid_5 (fun x2 _ => ?_)
  exact X_iret hg hr (Nat.le_of_ble_eq_true rfl) (Nat.le_of_ble_eq_true rfl) dX9_laid_8
set_option maxRecDepth 10000 in
theorem c_X9_about (en : EN) (a0 : Nat) (a1 : Int32) (h : Hp) (x0 : Int32) (e : f_X9_about a0 a1 h = some x0) : Ct en yX9_about cX9_about 2 (some .int) 5 118 0 0 [.ref (nB en + a0), .int a1] h (some (.int x0)) h := by
  refine Ct.of (by decide) rfl (Nat.le_of_ble_eq_true rfl) e (fun g hen hg hr => ?_)
  subst hen
  unfold f_X9_about
  refine X_gd ?_
  refine X_iload_n hg 1 rfl dX9_about_0 ?_
  refine X_tsw hg (v := (nI 0)) (tgt := 44) dX9_about_1 (by decide) (by decide) rfl rfl (fun c3 => ?_) (fun c3 => ?_)
  · refine X_aload_n hg 0 rfl dX9_about_44 ?_
    refine X_getR hg (j := 3) cf_9 (Nat.le_of_ble_eq_true rfl) (Or.inl ⟨_, rfl⟩) m_280 dX9_about_45 (fun x1 _ => ?_)
    refine X_cVI0 hg mf_X7_size m_419 m_420 m_418 cf_7 (fun _ e => gd_isO e) (fun y e => c_X7_size g.1 x1 h y e) (As := []) rfl (Nat.le_of_ble_eq_true rfl) rfl (Nat.le_of_ble_eq_true rfl) (Nat.le_of_ble_eq_true rfl) (Nat.le_of_ble_eq_true rfl) (Nat.le_of_ble_eq_true rfl) dX9_about_48 (fun x2 _ => ?_)
    exact X_iret hg hr (Nat.le_of_ble_eq_true rfl) (Nat.le_of_ble_eq_true rfl) dX9_about_51
  · skip
    refine X_tsw hg (v := (nI 1)) (tgt := 52) dX9_about_1 (by decide) (by decide) rfl rfl (fun c6 => ?_) (fun c6 => ?_)
    · refine X_aload_n hg 0 rfl dX9_about_52 ?_
      refine X_getR hg (j := 3) cf_9 (Nat.le_of_ble_eq_true rfl) (Or.inl ⟨_, rfl⟩) m_280 dX9_about_53 (fun x4 _ => ?_)
      refine X_cVI0 hg mf_X7_sumOfFrequencies m_656 m_657 m_655 cf_7 (fun _ e => gd_isO e) (fun y e => c_X7_sumOfFrequencies g.1 x4 h y e) (As := []) rfl (Nat.le_of_ble_eq_true rfl) rfl (Nat.le_of_ble_eq_true rfl) (Nat.le_of_ble_eq_true rfl) (Nat.le_of_ble_eq_true rfl) (Nat.le_of_ble_eq_true rfl) dX9_about_56 (fun x5 _ => ?_)
      exact X_iret hg hr (Nat.le_of_ble_eq_true rfl) (Nat.le_of_ble_eq_true rfl) dX9_about_59
    · skip
      refine X_tsw hg (v := (nI 2)) (tgt := 60) dX9_about_1 (by decide) (by decide) rfl rfl (fun c10 => ?_) (fun c10 => ?_)
      · refine X_aload_n hg 0 rfl dX9_about_60 ?_
        refine X_getR hg (j := 5) cf_9 (Nat.le_of_ble_eq_true rfl) (Or.inl ⟨_, rfl⟩) m_282 dX9_about_61 (fun x7 _ => ?_)
        refine X_aload_n hg 0 rfl dX9_about_64 ?_
        refine X_getR hg (j := 3) cf_9 (Nat.le_of_ble_eq_true rfl) (Or.inl ⟨_, rfl⟩) m_280 dX9_about_65 (fun x8 _ => ?_)
        refine X_cVI0 hg mf_X0_namesWithTwins m_660 m_661 m_659 cf_0 (fun _ e => gd_isO e) (fun y e => c_X0_namesWithTwins g.1 x7 x8 h y e) (As := [.ref (nB g.1 + x8)]) rfl (Nat.le_of_ble_eq_true rfl) rfl (Nat.le_of_ble_eq_true rfl) (Nat.le_of_ble_eq_true rfl) (Nat.le_of_ble_eq_true rfl) (Nat.le_of_ble_eq_true rfl) dX9_about_68 (fun x9 _ => ?_)
        exact X_iret hg hr (Nat.le_of_ble_eq_true rfl) (Nat.le_of_ble_eq_true rfl) dX9_about_71
      · skip
        refine X_tsw hg (v := (nI 3)) (tgt := 72) dX9_about_1 (by decide) (by decide) rfl rfl (fun c14 => ?_) (fun c14 => ?_)
        · refine X_aload_n hg 0 rfl dX9_about_72 ?_
          refine X_getR hg (j := 5) cf_9 (Nat.le_of_ble_eq_true rfl) (Or.inl ⟨_, rfl⟩) m_282 dX9_about_73 (fun x11 _ => ?_)
          refine X_aload_n hg 0 rfl dX9_about_76 ?_
          refine X_getR hg (j := 3) cf_9 (Nat.le_of_ble_eq_true rfl) (Or.inl ⟨_, rfl⟩) m_280 dX9_about_77 (fun x12 _ => ?_)
          refine X_cVI0 hg mf_X0_differentCodes m_665 m_666 m_664 cf_0 (fun _ e => gd_isO e) (fun y e => c_X0_differentCodes g.1 x11 x12 h y e) (As := [.ref (nB g.1 + x12)]) rfl (Nat.le_of_ble_eq_true rfl) rfl (Nat.le_of_ble_eq_true rfl) (Nat.le_of_ble_eq_true rfl) (Nat.le_of_ble_eq_true rfl) (Nat.le_of_ble_eq_true rfl) dX9_about_80 (fun x13 _ => ?_)
          exact X_iret hg hr (Nat.le_of_ble_eq_true rfl) (Nat.le_of_ble_eq_true rfl) dX9_about_83
        · skip
          refine X_tsw hg (v := (nI 4)) (tgt := 84) dX9_about_1 (by decide) (by decide) rfl rfl (fun c18 => ?_) (fun c18 => ?_)
          · refine X_aload_n hg 0 rfl dX9_about_84 ?_
            refine X_getR hg (j := 5) cf_9 (Nat.le_of_ble_eq_true rfl) (Or.inl ⟨_, rfl⟩) m_282 dX9_about_85 (fun x15 _ => ?_)
            refine X_aload_n hg 0 rfl dX9_about_88 ?_
            refine X_getR hg (j := 3) cf_9 (Nat.le_of_ble_eq_true rfl) (Or.inl ⟨_, rfl⟩) m_280 dX9_about_89 (fun x16 _ => ?_)
            refine X_cVI0 hg mf_X0_greatestDistinguishingLength m_669 m_670 m_668 cf_0 (fun _ e => gd_isO e) (fun y e => c_X0_greatestDistinguishingLength g.1 x15 x16 h y e) (As := [.ref (nB g.1 + x16)]) rfl (Nat.le_of_ble_eq_true rfl) rfl (Nat.le_of_ble_eq_true rfl) (Nat.le_of_ble_eq_true rfl) (Nat.le_of_ble_eq_true rfl) (Nat.le_of_ble_eq_true rfl) dX9_about_92 (fun x17 _ => ?_)
            exact X_iret hg hr (Nat.le_of_ble_eq_true rfl) (Nat.le_of_ble_eq_true rfl) dX9_about_95
          · skip
            refine X_tsw hg (v := (nI 5)) (tgt := 96) dX9_about_1 (by decide) (by decide) rfl rfl (fun c22 => ?_) (fun c22 => ?_)
            · refine X_aload_n hg 0 rfl dX9_about_96 ?_
              refine X_getR hg (j := 5) cf_9 (Nat.le_of_ble_eq_true rfl) (Or.inl ⟨_, rfl⟩) m_282 dX9_about_97 (fun x19 _ => ?_)
              refine X_aload_n hg 0 rfl dX9_about_100 ?_
              refine X_getR hg (j := 3) cf_9 (Nat.le_of_ble_eq_true rfl) (Or.inl ⟨_, rfl⟩) m_280 dX9_about_101 (fun x20 _ => ?_)
              refine X_cVI0 hg mf_X0_sumOfPresses m_674 m_675 m_673 cf_0 (fun _ e => gd_isO e) (fun y e => c_X0_sumOfPresses g.1 x19 x20 h y e) (As := [.ref (nB g.1 + x20)]) rfl (Nat.le_of_ble_eq_true rfl) rfl (Nat.le_of_ble_eq_true rfl) (Nat.le_of_ble_eq_true rfl) (Nat.le_of_ble_eq_true rfl) (Nat.le_of_ble_eq_true rfl) dX9_about_104 (fun x21 _ => ?_)
              exact X_iret hg hr (Nat.le_of_ble_eq_true rfl) (Nat.le_of_ble_eq_true rfl) dX9_about_107
            · skip
              refine X_tsw hg (v := (nI 6)) (tgt := 108) dX9_about_1 (by decide) (by decide) rfl rfl (fun c25 => ?_) (fun c25 => ?_)
              · refine X_aload_n hg 0 rfl dX9_about_108 ?_
                refine X_getR hg (j := 3) cf_9 (Nat.le_of_ble_eq_true rfl) (Or.inl ⟨_, rfl⟩) m_280 dX9_about_109 (fun x23 _ => ?_)
                refine X_cVI0 hg mf_X7_sumOfLengths m_680 m_681 m_679 cf_7 (fun _ e => gd_isO e) (fun y e => c_X7_sumOfLengths g.1 x23 h y e) (As := []) rfl (Nat.le_of_ble_eq_true rfl) rfl (Nat.le_of_ble_eq_true rfl) (Nat.le_of_ble_eq_true rfl) (Nat.le_of_ble_eq_true rfl) (Nat.le_of_ble_eq_true rfl) dX9_about_112 (fun x24 _ => ?_)
                exact X_iret hg hr (Nat.le_of_ble_eq_true rfl) (Nat.le_of_ble_eq_true rfl) dX9_about_115
              · skip
                refine X_tsd hg (tgt := 116) dX9_about_1 (by have q0 := lv_neT c3 (a := 0) rfl; have q1 := lv_neT c6 (a := 1) rfl; have q2 := lv_neT c10 (a := 2) rfl; have q3 := lv_neT c14 (a := 3) rfl; have q4 := lv_neT c18 (a := 4) rfl; have q5 := lv_neT c22 (a := 5) rfl; have q6 := lv_neT c25 (a := 6) rfl; omega) rfl ?_
                refine X_bipush hg ic_b_m102 dX9_about_116 ?_
                exact X_iret hg hr (Nat.le_of_ble_eq_true rfl) (Nat.le_of_ble_eq_true rfl) dX9_about_118
set_option maxRecDepth 10000 in
theorem c_X9_press (en : EN) (a0 : Nat) (a1 : Int32) (h : Hp) (x0 : Int32 × Hp) (e : f_X9_press a0 a1 h = some x0) : Ct en yX9_press cX9_press 2 (some .int) 2 41 0 0 [.ref (nB en + a0), .int a1] h (some (.int x0.1)) x0.2 := by
  refine Ct.of (by decide) rfl (Nat.le_of_ble_eq_true rfl) e (fun g hen hg hr => ?_)
  subst hen
  unfold f_X9_press
  refine X_gd ?_
  refine X_iload_n hg 1 rfl dX9_press_0 ?_
  refine X_iconst hg ic_i_2 dX9_press_1 ?_
  refine X_icmp_lt hg (tgt := 11) dX9_press_2 rfl (fun c9 => ?_) (fun c9 => ?_)
  · refine X_bipush hg ic_b_m102 dX9_press_11 ?_
    exact X_iretW hg hr (Nat.le_of_ble_eq_true rfl) (Nat.le_of_ble_eq_true rfl) dX9_press_13
  · refine X_iload_n hg 1 rfl dX9_press_5 ?_
    refine X_bipush hg ic_b_9 dX9_press_6 ?_
    refine X_icmp_le hg (tgt := 14) dX9_press_8 rfl (fun c8 => ?_) (fun c8 => ?_)
    · refine X_aload_n hg 0 rfl dX9_press_14 ?_
      refine X_getR hg (j := 1) cf_9 (Nat.le_of_ble_eq_true rfl) (Or.inl ⟨_, rfl⟩) m_278 dX9_press_15 (fun x1 _ => ?_)
      refine X_cVI0 hg mf_X8_isFull m_328 m_329 m_327 cf_8 (fun _ e => gd_isO e) (fun y e => c_X8_isFull g.1 x1 h y e) (As := []) rfl (Nat.le_of_ble_eq_true rfl) rfl (Nat.le_of_ble_eq_true rfl) (Nat.le_of_ble_eq_true rfl) (Nat.le_of_ble_eq_true rfl) (Nat.le_of_ble_eq_true rfl) dX9_press_18 (fun x2 _ => ?_)
      refine X_if_eq hg (tgt := 27) dX9_press_21 rfl (fun c7 => ?_) (fun c7 => ?_)
      · refine X_aload_n hg 0 rfl dX9_press_27 ?_
        refine X_getR hg (j := 1) cf_9 (Nat.le_of_ble_eq_true rfl) (Or.inl ⟨_, rfl⟩) m_278 dX9_press_28 (fun x3 _ => ?_)
        refine X_iload_n hg 1 rfl dX9_press_31 ?_
        refine X_cVV0 hg mf_X8_add m_332 m_333 m_331 cf_8 (fun _ e => gd_isO e) (fun y e => c_X8_add g.1 x3 a1 h y e) (As := [.int a1]) rfl (Nat.le_of_ble_eq_true rfl) rfl (Nat.le_of_ble_eq_true rfl) (Nat.le_of_ble_eq_true rfl) (Nat.le_of_ble_eq_true rfl) (Nat.le_of_ble_eq_true rfl) dX9_press_32 (fun h4 _ => ?_)
        refine X_aload_n hg 0 rfl dX9_press_35 ?_
        refine X_getR hg (j := 1) cf_9 (Nat.le_of_ble_eq_true rfl) (Or.inl ⟨_, rfl⟩) m_278 dX9_press_36 (fun x5 _ => ?_)
        refine X_cVI0 hg mf_X8_size m_337 m_338 m_336 cf_8 (fun _ e => gd_isO e) (fun y e => c_X8_size g.1 x5 h4 y e) (As := []) rfl (Nat.le_of_ble_eq_true rfl) rfl (Nat.le_of_ble_eq_true rfl) (Nat.le_of_ble_eq_true rfl) (Nat.le_of_ble_eq_true rfl) (Nat.le_of_ble_eq_true rfl) dX9_press_39 (fun x6 _ => ?_)
        exact X_iretW hg hr (Nat.le_of_ble_eq_true rfl) (Nat.le_of_ble_eq_true rfl) dX9_press_42
      · refine X_bipush hg ic_b_m104 dX9_press_24 ?_
        exact X_iretW hg hr (Nat.le_of_ble_eq_true rfl) (Nat.le_of_ble_eq_true rfl) dX9_press_26
    · refine X_bipush hg ic_b_m102 dX9_press_11 ?_
      exact X_iretW hg hr (Nat.le_of_ble_eq_true rfl) (Nat.le_of_ble_eq_true rfl) dX9_press_13
set_option maxRecDepth 10000 in
theorem c_X9_back (en : EN) (a0 : Nat) (h : Hp) (x0 : Int32 × Hp) (e : f_X9_back a0 h = some x0) : Ct en yX9_back cX9_back 1 (some .int) 1 20 0 0 [.ref (nB en + a0)] h (some (.int x0.1)) x0.2 := by
  refine Ct.of (by decide) rfl (Nat.le_of_ble_eq_true rfl) e (fun g hen hg hr => ?_)
  subst hen
  unfold f_X9_back
  refine X_gd ?_
  refine X_aload_n hg 0 rfl dX9_back_0 ?_
  refine X_getR hg (j := 1) cf_9 (Nat.le_of_ble_eq_true rfl) (Or.inl ⟨_, rfl⟩) m_278 dX9_back_1 (fun x1 _ => ?_)
  refine X_cVI0 hg mf_X8_size m_337 m_338 m_336 cf_8 (fun _ e => gd_isO e) (fun y e => c_X8_size g.1 x1 h y e) (As := []) rfl (Nat.le_of_ble_eq_true rfl) rfl (Nat.le_of_ble_eq_true rfl) (Nat.le_of_ble_eq_true rfl) (Nat.le_of_ble_eq_true rfl) (Nat.le_of_ble_eq_true rfl) dX9_back_4 (fun x2 _ => ?_)
  refine X_if_ne hg (tgt := 13) dX9_back_7 rfl (fun c7 => ?_) (fun c7 => ?_)
  · refine X_bipush hg ic_b_m103 dX9_back_10 ?_
    exact X_iretW hg hr (Nat.le_of_ble_eq_true rfl) (Nat.le_of_ble_eq_true rfl) dX9_back_12
  · refine X_aload_n hg 0 rfl dX9_back_13 ?_
    refine X_getR hg (j := 1) cf_9 (Nat.le_of_ble_eq_true rfl) (Or.inl ⟨_, rfl⟩) m_278 dX9_back_14 (fun x3 _ => ?_)
    refine X_cVV0 hg mf_X8_removeLast m_692 m_693 m_691 cf_8 (fun _ e => gd_isO e) (fun y e => c_X8_removeLast g.1 x3 h y e) (As := []) rfl (Nat.le_of_ble_eq_true rfl) rfl (Nat.le_of_ble_eq_true rfl) (Nat.le_of_ble_eq_true rfl) (Nat.le_of_ble_eq_true rfl) (Nat.le_of_ble_eq_true rfl) dX9_back_17 (fun h4 _ => ?_)
    refine X_aload_n hg 0 rfl dX9_back_20 ?_
    refine X_getR hg (j := 1) cf_9 (Nat.le_of_ble_eq_true rfl) (Or.inl ⟨_, rfl⟩) m_278 dX9_back_21 (fun x5 _ => ?_)
    refine X_cVI0 hg mf_X8_size m_337 m_338 m_336 cf_8 (fun _ e => gd_isO e) (fun y e => c_X8_size g.1 x5 h4 y e) (As := []) rfl (Nat.le_of_ble_eq_true rfl) rfl (Nat.le_of_ble_eq_true rfl) (Nat.le_of_ble_eq_true rfl) (Nat.le_of_ble_eq_true rfl) (Nat.le_of_ble_eq_true rfl) dX9_back_24 (fun x6 _ => ?_)
    exact X_iretW hg hr (Nat.le_of_ble_eq_true rfl) (Nat.le_of_ble_eq_true rfl) dX9_back_27
set_option maxRecDepth 10000 in
theorem c_X9_wipe (en : EN) (a0 : Nat) (h : Hp) (x0 : Int32 × Hp) (e : f_X9_wipe a0 h = some x0) : Ct en yX9_wipe cX9_wipe 1 (some .int) 1 21 0 0 [.ref (nB en + a0)] h (some (.int x0.1)) x0.2 := by
  refine Ct.of (by decide) rfl (Nat.le_of_ble_eq_true rfl) e (fun g hen hg hr => ?_)
  subst hen
  unfold f_X9_wipe
  refine X_gd ?_
  refine X_aload_n hg 0 rfl dX9_wipe_0 ?_
  refine X_getR hg (j := 1) cf_9 (Nat.le_of_ble_eq_true rfl) (Or.inl ⟨_, rfl⟩) m_278 dX9_wipe_1 (fun x1 _ => ?_)
  refine X_cVIW0 hg mf_X8_clear m_345 m_346 m_344 cf_8 (fun _ e => gd_isO e) (fun y e => c_X8_clear g.1 x1 h y e) (As := []) rfl (Nat.le_of_ble_eq_true rfl) rfl (Nat.le_of_ble_eq_true rfl) (Nat.le_of_ble_eq_true rfl) (Nat.le_of_ble_eq_true rfl) (Nat.le_of_ble_eq_true rfl) dX9_wipe_4 (fun p2 _ => ?_)
  exact X_iretW hg hr (Nat.le_of_ble_eq_true rfl) (Nat.le_of_ble_eq_true rfl) dX9_wipe_7
set_option maxRecDepth 10000 in
theorem c_X9_typed (en : EN) (a0 : Nat) (a1 : Int32) (h : Hp) (x0 : Int32) (e : f_X9_typed a0 a1 h = some x0) : Ct en yX9_typed cX9_typed 2 (some .int) 1 21 0 0 [.ref (nB en + a0), .int a1] h (some (.int x0)) h := by
  refine Ct.of (by decide) rfl (Nat.le_of_ble_eq_true rfl) e (fun g hen hg hr => ?_)
  subst hen
  unfold f_X9_typed
  refine X_gd ?_
  refine X_aload_n hg 0 rfl dX9_typed_0 ?_
  refine X_getR hg (j := 1) cf_9 (Nat.le_of_ble_eq_true rfl) (Or.inl ⟨_, rfl⟩) m_278 dX9_typed_1 (fun x1 _ => ?_)
  refine X_iload_n hg 1 rfl dX9_typed_4 ?_
  refine X_cVI0 hg mf_X8_get m_358 m_359 m_703 cf_8 (fun _ e => gd_isO e) (fun y e => c_X8_get g.1 x1 a1 h y e) (As := [.int a1]) rfl (Nat.le_of_ble_eq_true rfl) rfl (Nat.le_of_ble_eq_true rfl) (Nat.le_of_ble_eq_true rfl) (Nat.le_of_ble_eq_true rfl) (Nat.le_of_ble_eq_true rfl) dX9_typed_5 (fun x2 _ => ?_)
  exact X_iret hg hr (Nat.le_of_ble_eq_true rfl) (Nat.le_of_ble_eq_true rfl) dX9_typed_8
set_option maxRecDepth 10000 in
theorem c_X9_choice (en : EN) (a0 : Nat) (a1 : Int32) (h : Hp) (x0 : Int32 × Hp) (e : f_X9_choice a0 a1 h = some x0) : Ct en yX9_choice cX9_choice 2 (some .int) 4 91 0 0 [.ref (nB en + a0), .int a1] h (some (.int x0.1)) x0.2 := by
  refine Ct.of (by decide) rfl (Nat.le_of_ble_eq_true rfl) e (fun g hen hg hr => ?_)
  subst hen
  unfold f_X9_choice
  refine X_gd ?_
  refine X_aload_n hg 0 rfl dX9_choice_0 ?_
  refine X_getR hg (j := 5) cf_9 (Nat.le_of_ble_eq_true rfl) (Or.inl ⟨_, rfl⟩) m_282 dX9_choice_1 (fun x1 _ => ?_)
  refine X_aload_n hg 0 rfl dX9_choice_4 ?_
  refine X_getR hg (j := 3) cf_9 (Nat.le_of_ble_eq_true rfl) (Or.inl ⟨_, rfl⟩) m_280 dX9_choice_5 (fun x2 _ => ?_)
  refine X_aload_n hg 0 rfl dX9_choice_8 ?_
  refine X_getR hg (j := 1) cf_9 (Nat.le_of_ble_eq_true rfl) (Or.inl ⟨_, rfl⟩) m_278 dX9_choice_9 (fun x3 _ => ?_)
  refine X_cVAW0 hg mf_X0_listFor m_709 m_710 m_708 cf_0 (fun _ e => gd_isO e) (fun y e => c_X0_listFor g.1 x1 x2 x3 h y e) (As := [.ref (nB g.1 + x2), .ref (nB g.1 + x3)]) rfl (Nat.le_of_ble_eq_true rfl) rfl (Nat.le_of_ble_eq_true rfl) (Nat.le_of_ble_eq_true rfl) (Nat.le_of_ble_eq_true rfl) (Nat.le_of_ble_eq_true rfl) dX9_choice_12 (fun p4 _ => ?_)
  refine X_iload_n hg 1 rfl dX9_choice_15 ?_
  refine X_cVI0 hg mf_X8_get m_358 m_359 m_703 cf_8 (fun _ e => gd_isO e) (fun y e => c_X8_get g.1 p4.1 a1 p4.2 y e) (As := [.int a1]) rfl (Nat.le_of_ble_eq_true rfl) rfl (Nat.le_of_ble_eq_true rfl) (Nat.le_of_ble_eq_true rfl) (Nat.le_of_ble_eq_true rfl) (Nat.le_of_ble_eq_true rfl) dX9_choice_16 (fun x5 _ => ?_)
  exact X_iretW hg hr (Nat.le_of_ble_eq_true rfl) (Nat.le_of_ble_eq_true rfl) dX9_choice_19
set_option maxRecDepth 10000 in
theorem c_X9_spelling (en : EN) (a0 : Nat) (a1 : Int32) (h : Hp) (x0 : Int32 × Hp) (e : f_X9_spelling a0 a1 h = some x0) : Ct en yX9_spelling cX9_spelling 2 (some .int) 6 142 0 0 [.ref (nB en + a0), .int a1] h (some (.int x0.1)) x0.2 := by
  refine Ct.of (by decide) rfl (Nat.le_of_ble_eq_true rfl) e (fun g hen hg hr => ?_)
  subst hen
  unfold f_X9_spelling
  refine X_gd ?_
  refine X_aload_n hg 0 rfl dX9_spelling_0 ?_
  refine X_getR hg (j := 6) cf_9 (Nat.le_of_ble_eq_true rfl) (Or.inl ⟨_, rfl⟩) m_283 dX9_spelling_1 (fun x1 _ => ?_)
  refine X_aload_n hg 0 rfl dX9_spelling_4 ?_
  refine X_getR hg (j := 3) cf_9 (Nat.le_of_ble_eq_true rfl) (Or.inl ⟨_, rfl⟩) m_280 dX9_spelling_5 (fun x2 _ => ?_)
  refine X_aload_n hg 0 rfl dX9_spelling_8 ?_
  refine X_getR hg (j := 1) cf_9 (Nat.le_of_ble_eq_true rfl) (Or.inl ⟨_, rfl⟩) m_278 dX9_spelling_9 (fun x3 _ => ?_)
  refine X_cVV0 hg mf_X6_study m_738 m_739 m_737 cf_6 (fun _ e => gd_isO e) (fun y e => c_X6_study g.1 x1 x2 x3 h y e) (As := [.ref (nB g.1 + x2), .ref (nB g.1 + x3)]) rfl (Nat.le_of_ble_eq_true rfl) rfl (Nat.le_of_ble_eq_true rfl) (Nat.le_of_ble_eq_true rfl) (Nat.le_of_ble_eq_true rfl) (Nat.le_of_ble_eq_true rfl) dX9_spelling_12 (fun h4 _ => ?_)
  refine X_aload_n hg 0 rfl dX9_spelling_15 ?_
  refine X_getR hg (j := 6) cf_9 (Nat.le_of_ble_eq_true rfl) (Or.inl ⟨_, rfl⟩) m_283 dX9_spelling_16 (fun x5 _ => ?_)
  refine X_iload_n hg 1 rfl dX9_spelling_19 ?_
  refine X_cVI0 hg mf_X6_number m_781 m_782 m_780 cf_6 (fun _ e => gd_isO e) (fun y e => c_X6_number g.1 x5 a1 h4 y e) (As := [.int a1]) rfl (Nat.le_of_ble_eq_true rfl) rfl (Nat.le_of_ble_eq_true rfl) (Nat.le_of_ble_eq_true rfl) (Nat.le_of_ble_eq_true rfl) (Nat.le_of_ble_eq_true rfl) dX9_spelling_20 (fun x6 _ => ?_)
  exact X_iretW hg hr (Nat.le_of_ble_eq_true rfl) (Nat.le_of_ble_eq_true rfl) dX9_spelling_23
set_option maxRecDepth 10000 in
theorem c_X9_piece (en : EN) (a0 : Nat) (a1 : Int32) (h : Hp) (x0 : Int32 × Hp) (e : f_X9_piece a0 a1 h = some x0) : Ct en yX9_piece cX9_piece 2 (some .int) 6 142 0 0 [.ref (nB en + a0), .int a1] h (some (.int x0.1)) x0.2 := by
  refine Ct.of (by decide) rfl (Nat.le_of_ble_eq_true rfl) e (fun g hen hg hr => ?_)
  subst hen
  unfold f_X9_piece
  refine X_gd ?_
  refine X_aload_n hg 0 rfl dX9_piece_0 ?_
  refine X_getR hg (j := 6) cf_9 (Nat.le_of_ble_eq_true rfl) (Or.inl ⟨_, rfl⟩) m_283 dX9_piece_1 (fun x1 _ => ?_)
  refine X_aload_n hg 0 rfl dX9_piece_4 ?_
  refine X_getR hg (j := 3) cf_9 (Nat.le_of_ble_eq_true rfl) (Or.inl ⟨_, rfl⟩) m_280 dX9_piece_5 (fun x2 _ => ?_)
  refine X_aload_n hg 0 rfl dX9_piece_8 ?_
  refine X_getR hg (j := 1) cf_9 (Nat.le_of_ble_eq_true rfl) (Or.inl ⟨_, rfl⟩) m_278 dX9_piece_9 (fun x3 _ => ?_)
  refine X_cVV0 hg mf_X6_study m_738 m_739 m_737 cf_6 (fun _ e => gd_isO e) (fun y e => c_X6_study g.1 x1 x2 x3 h y e) (As := [.ref (nB g.1 + x2), .ref (nB g.1 + x3)]) rfl (Nat.le_of_ble_eq_true rfl) rfl (Nat.le_of_ble_eq_true rfl) (Nat.le_of_ble_eq_true rfl) (Nat.le_of_ble_eq_true rfl) (Nat.le_of_ble_eq_true rfl) dX9_piece_12 (fun h4 _ => ?_)
  refine X_aload_n hg 0 rfl dX9_piece_15 ?_
  refine X_getR hg (j := 6) cf_9 (Nat.le_of_ble_eq_true rfl) (Or.inl ⟨_, rfl⟩) m_283 dX9_piece_16 (fun x5 _ => ?_)
  refine X_cVA0 hg mf_X6_best m_789 m_790 m_788 cf_6 (fun _ e => gd_isO e) (fun y e => c_X6_best g.1 x5 h4 y e) (As := []) rfl (Nat.le_of_ble_eq_true rfl) rfl (Nat.le_of_ble_eq_true rfl) (Nat.le_of_ble_eq_true rfl) (Nat.le_of_ble_eq_true rfl) (Nat.le_of_ble_eq_true rfl) dX9_piece_19 (fun x6 _ => ?_)
  refine X_iload_n hg 1 rfl dX9_piece_22 ?_
  refine X_cVI0 hg mf_X8_get m_358 m_359 m_703 cf_8 (fun _ e => gd_isO e) (fun y e => c_X8_get g.1 x6 a1 h4 y e) (As := [.int a1]) rfl (Nat.le_of_ble_eq_true rfl) rfl (Nat.le_of_ble_eq_true rfl) (Nat.le_of_ble_eq_true rfl) (Nat.le_of_ble_eq_true rfl) (Nat.le_of_ble_eq_true rfl) dX9_piece_23 (fun x7 _ => ?_)
  exact X_iretW hg hr (Nat.le_of_ble_eq_true rfl) (Nat.le_of_ble_eq_true rfl) dX9_piece_26
set_option maxRecDepth 10000 in
theorem c_X9_adoptSpare (en : EN) (a0 : Nat) (h : Hp) (x0 : Hp) (e : f_X9_adoptSpare a0 h = some x0) : Ct en yX9_adoptSpare cX9_adoptSpare 2 none 0 0 0 0 [.ref (nB en + a0)] h none x0 := by
  refine Ct.of (by decide) rfl (Nat.le_of_ble_eq_true rfl) e (fun g hen hg hr => ?_)
  subst hen
  unfold f_X9_adoptSpare
  refine X_gd ?_
  refine X_aload_n hg 0 rfl dX9_adoptSpare_0 ?_
  refine X_getR hg (j := 8) cf_9 (Nat.le_of_ble_eq_true rfl) (Or.inl ⟨_, rfl⟩) m_285 dX9_adoptSpare_1 (fun x1 _ => ?_)
  refine X_astore_n hg rfl (Nat.le_of_ble_eq_true rfl) (lv' := [(1, .ref (nB g.1 + x1)), (0, .ref (nB g.1 + a0))]) rfl dX9_adoptSpare_4 ?_
  refine X_aload_n hg 1 rfl dX9_adoptSpare_5 ?_
  refine X_aload_n hg 1 rfl dX9_adoptSpare_6 ?_
  refine X_getR hg (j := 9) cf_9 (Nat.le_of_ble_eq_true rfl) (Or.inl ⟨_, rfl⟩) m_286 dX9_adoptSpare_7 (fun x2 _ => ?_)
  refine X_putR hg (j := 8) cf_9 (Nat.le_of_ble_eq_true rfl) rfl (Or.inl ⟨_, rfl⟩) m_285 dX9_adoptSpare_10 (fun h3 _ => ?_)
  refine X_aload_n hg 1 rfl dX9_adoptSpare_13 ?_
  refine X_aload_n hg 0 rfl dX9_adoptSpare_14 ?_
  refine X_putR hg (j := 9) cf_9 (Nat.le_of_ble_eq_true rfl) rfl (Or.inl ⟨_, rfl⟩) m_286 dX9_adoptSpare_15 (fun h4 _ => ?_)
  refine X_aload_n hg 1 rfl dX9_adoptSpare_18 ?_
  refine X_iconst hg ic_i_1 dX9_adoptSpare_19 ?_
  refine X_putI hg (j := 10) cf_9 (Nat.le_of_ble_eq_true rfl) rfl (Or.inr ⟨rfl, Or.inr rfl⟩) m_287 dX9_adoptSpare_20 (fun h5 _ => ?_)
  refine X_aload_n hg 1 rfl dX9_adoptSpare_23 ?_
  refine X_dup hg rfl dX9_adoptSpare_24 ?_
  refine X_getI hg (j := 11) cf_9 (Nat.le_of_ble_eq_true rfl) (Or.inl rfl) m_288 dX9_adoptSpare_25 (fun x6 _ => ?_)
  refine X_iconst hg ic_i_1 dX9_adoptSpare_28 ?_
  refine X_iadd hg dX9_adoptSpare_29 ?_
  refine X_putI hg (j := 11) cf_9 (Nat.le_of_ble_eq_true rfl) rfl (Or.inl rfl) m_288 dX9_adoptSpare_30 (fun h7 _ => ?_)
  exact X_vret hg hr (Nat.le_of_ble_eq_true rfl) (Nat.le_of_ble_eq_true rfl) dX9_adoptSpare_33
set_option maxRecDepth 10000 in
theorem c_X9_build (en : EN) (a0 : Nat) (a1 : Int32) (h : Hp) (x0 : Int32 × Hp) (e : f_X9_build a0 a1 h = some x0) : Ct en yX9_build cX9_build 3 (some .int) 4 101 0 0 [.ref (nB en + a0), .int a1] h (some (.int x0.1)) x0.2 := by
  refine Ct.of (by decide) rfl (Nat.le_of_ble_eq_true rfl) e (fun g hen hg hr => ?_)
  subst hen
  unfold f_X9_build
  refine X_gd ?_
  refine X_iload_n hg 1 rfl dX9_build_0 ?_
  refine X_iconst hg ic_i_2 dX9_build_1 ?_
  refine X_icmp_lt hg (tgt := 10) dX9_build_2 rfl (fun c12 => ?_) (fun c12 => ?_)
  · refine X_bipush hg ic_b_m102 dX9_build_10 ?_
    exact X_iretW hg hr (Nat.le_of_ble_eq_true rfl) (Nat.le_of_ble_eq_true rfl) dX9_build_12
  · refine X_iload_n hg 1 rfl dX9_build_5 ?_
    refine X_iconst hg ic_i_4 dX9_build_6 ?_
    refine X_icmp_le hg (tgt := 13) dX9_build_7 rfl (fun c11 => ?_) (fun c11 => ?_)
    · refine X_aload_n hg 0 rfl dX9_build_13 ?_
      refine X_getR hg (j := 3) cf_9 (Nat.le_of_ble_eq_true rfl) (Or.inl ⟨_, rfl⟩) m_280 dX9_build_14 (fun x1 _ => ?_)
      refine X_cVI0 hg mf_X7_size m_419 m_420 m_418 cf_7 (fun _ e => gd_isO e) (fun y e => c_X7_size g.1 x1 h y e) (As := []) rfl (Nat.le_of_ble_eq_true rfl) rfl (Nat.le_of_ble_eq_true rfl) (Nat.le_of_ble_eq_true rfl) (Nat.le_of_ble_eq_true rfl) (Nat.le_of_ble_eq_true rfl) dX9_build_17 (fun x2 _ => ?_)
      refine X_if_ne hg (tgt := 26) dX9_build_20 rfl (fun c10 => ?_) (fun c10 => ?_)
      · refine X_bipush hg ic_b_m103 dX9_build_23 ?_
        exact X_iretW hg hr (Nat.le_of_ble_eq_true rfl) (Nat.le_of_ble_eq_true rfl) dX9_build_25
      · refine X_aload_n hg 0 rfl dX9_build_26 ?_
        refine X_getR hg (j := 7) cf_9 (Nat.le_of_ble_eq_true rfl) (Or.inl ⟨_, rfl⟩) m_284 dX9_build_27 (fun x3 _ => ?_)
        refine X_aload_n hg 0 rfl dX9_build_30 ?_
        refine X_getR hg (j := 9) cf_9 (Nat.le_of_ble_eq_true rfl) (Or.inl ⟨_, rfl⟩) m_286 dX9_build_31 (fun x4 _ => ?_)
        refine X_aload_n hg 0 rfl dX9_build_34 ?_
        refine X_getR hg (j := 3) cf_9 (Nat.le_of_ble_eq_true rfl) (Or.inl ⟨_, rfl⟩) m_280 dX9_build_35 (fun x5 _ => ?_)
        refine X_iload_n hg 1 rfl dX9_build_38 ?_
        refine X_cVAW0 hg mf_X5_planInto m_576 m_577 m_575 cf_5 (fun _ e => gd_isO e) (fun y e => c_X5_planInto g.1 x3 x4 x5 a1 h y e) (As := [.ref (nB g.1 + x4), .ref (nB g.1 + x5), .int a1]) rfl (Nat.le_of_ble_eq_true rfl) rfl (Nat.le_of_ble_eq_true rfl) (Nat.le_of_ble_eq_true rfl) (Nat.le_of_ble_eq_true rfl) (Nat.le_of_ble_eq_true rfl) dX9_build_39 (fun p6 _ => ?_)
        refine X_aload_n hg 0 rfl dX9_build_42 ?_
        refine X_getR hg (j := 3) cf_9 (Nat.le_of_ble_eq_true rfl) (Or.inl ⟨_, rfl⟩) m_280 dX9_build_43 (fun x7 _ => ?_)
        refine X_cVI0 hg mf_X4_cost m_797 m_798 m_796 cf_4 (fun _ e => gd_isO e) (fun y e => c_X4_cost g.1 p6.1 x7 p6.2 y e) (As := [.ref (nB g.1 + x7)]) rfl (Nat.le_of_ble_eq_true rfl) rfl (Nat.le_of_ble_eq_true rfl) (Nat.le_of_ble_eq_true rfl) (Nat.le_of_ble_eq_true rfl) (Nat.le_of_ble_eq_true rfl) dX9_build_46 (fun x8 _ => ?_)
        refine X_istore_n hg rfl (Nat.le_of_ble_eq_true rfl) (lv' := [(2, .int x8), (0, .ref (nB g.1 + a0)), (1, .int a1)]) rfl dX9_build_49 ?_
        refine X_aload_n hg 1 rfl dX9_build_50 ?_
        refine X_cVV0 hg mf_X9_adoptSpare m_803 m_22 m_801 cf_9 (fun _ e => gd_isO e) (fun y e => c_X9_adoptSpare g.1 a0 p6.2 y e) (As := []) rfl (Nat.le_of_ble_eq_true rfl) rfl (Nat.le_of_ble_eq_true rfl) (Nat.le_of_ble_eq_true rfl) (Nat.le_of_ble_eq_true rfl) (Nat.le_of_ble_eq_true rfl) dX9_build_51 (fun h9 _ => ?_)
        refine X_iload_n hg 0 rfl dX9_build_54 ?_
        exact X_iretW hg hr (Nat.le_of_ble_eq_true rfl) (Nat.le_of_ble_eq_true rfl) dX9_build_55
    · refine X_bipush hg ic_b_m102 dX9_build_10 ?_
      exact X_iretW hg hr (Nat.le_of_ble_eq_true rfl) (Nat.le_of_ble_eq_true rfl) dX9_build_12
set_option maxRecDepth 10000 in
theorem c_X9_tend (en : EN) (a0 : Nat) (a1 : Int32) (h : Hp) (x0 : Int32 × Hp) (e : f_X9_tend a0 a1 h = some x0) : Ct en yX9_tend cX9_tend 4 (some .int) 4 101 0 0 [.ref (nB en + a0), .int a1] h (some (.int x0.1)) x0.2 := by
  refine Ct.of (by decide) rfl (Nat.le_of_ble_eq_true rfl) e (fun g hen hg hr => ?_)
  subst hen
  unfold f_X9_tend
  refine X_gd ?_
  refine X_aload_n hg 0 rfl dX9_tend_0 ?_
  refine X_getI hg (j := 10) cf_9 (Nat.le_of_ble_eq_true rfl) (Or.inr rfl) m_287 dX9_tend_1 (fun x1 _ => ?_)
  refine X_if_ne hg (tgt := 10) dX9_tend_4 rfl (fun c20 => ?_) (fun c20 => ?_)
  · refine X_bipush hg ic_b_m103 dX9_tend_7 ?_
    exact X_iretW hg hr (Nat.le_of_ble_eq_true rfl) (Nat.le_of_ble_eq_true rfl) dX9_tend_9
  · refine X_iload_n hg 1 rfl dX9_tend_10 ?_
    refine X_if_lt hg (tgt := 20) dX9_tend_11 rfl (fun c19 => ?_) (fun c19 => ?_)
    · refine X_bipush hg ic_b_m102 dX9_tend_20 ?_
      exact X_iretW hg hr (Nat.le_of_ble_eq_true rfl) (Nat.le_of_ble_eq_true rfl) dX9_tend_22
    · refine X_iload_n hg 1 rfl dX9_tend_14 ?_
      refine X_bipush hg ic_b_100 dX9_tend_15 ?_
      refine X_icmp_le hg (tgt := 23) dX9_tend_17 rfl (fun c18 => ?_) (fun c18 => ?_)
      · refine X_aload_n hg 0 rfl dX9_tend_23 ?_
        refine X_getR hg (j := 7) cf_9 (Nat.le_of_ble_eq_true rfl) (Or.inl ⟨_, rfl⟩) m_284 dX9_tend_24 (fun x2 _ => ?_)
        refine X_aload_n hg 0 rfl dX9_tend_27 ?_
        refine X_getR hg (j := 9) cf_9 (Nat.le_of_ble_eq_true rfl) (Or.inl ⟨_, rfl⟩) m_286 dX9_tend_28 (fun x3 _ => ?_)
        refine X_aload_n hg 0 rfl dX9_tend_31 ?_
        refine X_getR hg (j := 3) cf_9 (Nat.le_of_ble_eq_true rfl) (Or.inl ⟨_, rfl⟩) m_280 dX9_tend_32 (fun x4 _ => ?_)
        refine X_aload_n hg 0 rfl dX9_tend_35 ?_
        refine X_getR hg (j := 8) cf_9 (Nat.le_of_ble_eq_true rfl) (Or.inl ⟨_, rfl⟩) m_285 dX9_tend_36 (fun x5 _ => ?_)
        refine X_cVI0 hg mf_X4_width m_810 m_811 m_809 cf_4 (fun _ e => gd_isO e) (fun y e => c_X4_width g.1 x5 h y e) (As := []) rfl (Nat.le_of_ble_eq_true rfl) rfl (Nat.le_of_ble_eq_true rfl) (Nat.le_of_ble_eq_true rfl) (Nat.le_of_ble_eq_true rfl) (Nat.le_of_ble_eq_true rfl) dX9_tend_39 (fun x6 _ => ?_)
        refine X_cVAW0 hg mf_X5_planInto m_576 m_577 m_575 cf_5 (fun _ e => gd_isO e) (fun y e => c_X5_planInto g.1 x2 x3 x4 x6 h y e) (As := [.ref (nB g.1 + x3), .ref (nB g.1 + x4), .int x6]) rfl (Nat.le_of_ble_eq_true rfl) rfl (Nat.le_of_ble_eq_true rfl) (Nat.le_of_ble_eq_true rfl) (Nat.le_of_ble_eq_true rfl) (Nat.le_of_ble_eq_true rfl) dX9_tend_42 (fun p7 _ => ?_)
        refine X_aload_n hg 0 rfl dX9_tend_45 ?_
        refine X_getR hg (j := 3) cf_9 (Nat.le_of_ble_eq_true rfl) (Or.inl ⟨_, rfl⟩) m_280 dX9_tend_46 (fun x8 _ => ?_)
        refine X_cVI0 hg mf_X4_cost m_797 m_798 m_796 cf_4 (fun _ e => gd_isO e) (fun y e => c_X4_cost g.1 p7.1 x8 p7.2 y e) (As := [.ref (nB g.1 + x8)]) rfl (Nat.le_of_ble_eq_true rfl) rfl (Nat.le_of_ble_eq_true rfl) (Nat.le_of_ble_eq_true rfl) (Nat.le_of_ble_eq_true rfl) (Nat.le_of_ble_eq_true rfl) dX9_tend_49 (fun x9 _ => ?_)
        refine X_istore_n hg rfl (Nat.le_of_ble_eq_true rfl) (lv' := [(2, .int x9), (0, .ref (nB g.1 + a0)), (1, .int a1)]) rfl dX9_tend_52 ?_
        refine X_bipush hg ic_b_100 dX9_tend_53 ?_
        refine X_aload_n hg 1 rfl dX9_tend_55 ?_
        refine X_getR hg (j := 8) cf_9 (Nat.le_of_ble_eq_true rfl) (Or.inl ⟨_, rfl⟩) m_285 dX9_tend_56 (fun x10 _ => ?_)
        refine X_aload_n hg 1 rfl dX9_tend_59 ?_
        refine X_getR hg (j := 3) cf_9 (Nat.le_of_ble_eq_true rfl) (Or.inl ⟨_, rfl⟩) m_280 dX9_tend_60 (fun x11 _ => ?_)
        refine X_cVI0 hg mf_X4_cost m_797 m_798 m_796 cf_4 (fun _ e => gd_isO e) (fun y e => c_X4_cost g.1 x10 x11 p7.2 y e) (As := [.ref (nB g.1 + x11)]) rfl (Nat.le_of_ble_eq_true rfl) rfl (Nat.le_of_ble_eq_true rfl) (Nat.le_of_ble_eq_true rfl) (Nat.le_of_ble_eq_true rfl) (Nat.le_of_ble_eq_true rfl) dX9_tend_63 (fun x12 _ => ?_)
        refine X_iload_n hg 0 rfl dX9_tend_66 ?_
        refine X_isub hg dX9_tend_67 ?_
        refine X_imul hg dX9_tend_68 ?_
        refine X_iload_n hg 2 rfl dX9_tend_69 ?_
        refine X_iload_n hg 0 rfl dX9_tend_70 ?_
        refine X_imul hg dX9_tend_71 ?_
        refine X_icmp_gt hg (tgt := 77) dX9_tend_72 rfl (fun c17 => ?_) (fun c17 => ?_)
        · refine X_aload_n hg 1 rfl dX9_tend_77 ?_
          refine X_getR hg (j := 8) cf_9 (Nat.le_of_ble_eq_true rfl) (Or.inl ⟨_, rfl⟩) m_285 dX9_tend_78 (fun x13 _ => ?_)
          refine X_aload_n hg 1 rfl dX9_tend_81 ?_
          refine X_getR hg (j := 9) cf_9 (Nat.le_of_ble_eq_true rfl) (Or.inl ⟨_, rfl⟩) m_286 dX9_tend_82 (fun x14 _ => ?_)
          refine X_cVI0 hg mf_X4_differentPaths m_814 m_815 m_813 cf_4 (fun _ e => gd_isO e) (fun y e => c_X4_differentPaths g.1 x13 x14 p7.2 y e) (As := [.ref (nB g.1 + x14)]) rfl (Nat.le_of_ble_eq_true rfl) rfl (Nat.le_of_ble_eq_true rfl) (Nat.le_of_ble_eq_true rfl) (Nat.le_of_ble_eq_true rfl) (Nat.le_of_ble_eq_true rfl) dX9_tend_85 (fun x15 _ => ?_)
          refine X_istore_n hg rfl (Nat.le_of_ble_eq_true rfl) (lv' := [(3, .int x15), (2, .int x9), (0, .ref (nB g.1 + a0)), (1, .int a1)]) rfl dX9_tend_88 ?_
          refine X_aload_n hg 2 rfl dX9_tend_89 ?_
          refine X_cVV0 hg mf_X9_adoptSpare m_803 m_22 m_801 cf_9 (fun _ e => gd_isO e) (fun y e => c_X9_adoptSpare g.1 a0 p7.2 y e) (As := []) rfl (Nat.le_of_ble_eq_true rfl) rfl (Nat.le_of_ble_eq_true rfl) (Nat.le_of_ble_eq_true rfl) (Nat.le_of_ble_eq_true rfl) (Nat.le_of_ble_eq_true rfl) dX9_tend_90 (fun h16 _ => ?_)
          refine X_iload_n hg 0 rfl dX9_tend_93 ?_
          exact X_iretW hg hr (Nat.le_of_ble_eq_true rfl) (Nat.le_of_ble_eq_true rfl) dX9_tend_94
        · refine X_iconst hg ic_i_m1 dX9_tend_75 ?_
          exact X_iretW hg hr (Nat.le_of_ble_eq_true rfl) (Nat.le_of_ble_eq_true rfl) dX9_tend_76
      · refine X_bipush hg ic_b_m102 dX9_tend_20 ?_
        exact X_iretW hg hr (Nat.le_of_ble_eq_true rfl) (Nat.le_of_ble_eq_true rfl) dX9_tend_22
set_option maxRecDepth 10000 in
theorem c_X9_path (en : EN) (a0 : Nat) (a1 : Int32) (a2 : Int32) (h : Hp) (x0 : Int32) (e : f_X9_path a0 a1 a2 h = some x0) : Ct en yX9_path cX9_path 3 (some .int) 2 43 0 0 [.ref (nB en + a0), .int a1, .int a2] h (some (.int x0)) h := by
  refine Ct.of (by decide) rfl (Nat.le_of_ble_eq_true rfl) e (fun g hen hg hr => ?_)
  subst hen
  unfold f_X9_path
  refine X_gd ?_
  refine X_aload_n hg 0 rfl dX9_path_0 ?_
  refine X_getI hg (j := 10) cf_9 (Nat.le_of_ble_eq_true rfl) (Or.inr rfl) m_287 dX9_path_1 (fun x1 _ => ?_)
  refine X_reg (fun (v2 : Int32) o => Xo g x0 3 0 0 21 [] [.int v2] h o) (fun kv2 hk2 => ?_) (fun v2 => ?_)
  · refine X_ib ?_
    refine X_if_eq hg (tgt := 19) dX9_path_4 rfl (fun c5 => ?_) (fun c5 => ?_)
    · refine X_bipush hg ic_b_m103 dX9_path_19 ?_
      refine X_lv [] rfl ?_
      exact hk2 m103
    · refine X_aload_n hg 0 rfl dX9_path_7 ?_
      refine X_as ?_
      refine X_getR hg (j := 8) cf_9 (Nat.le_of_ble_eq_true rfl) (Or.inl ⟨_, rfl⟩) m_285 dX9_path_8 (fun x3 _ => ?_)
      refine X_iload_n hg 1 rfl dX9_path_11 ?_
      refine X_iload_n hg 2 rfl dX9_path_12 ?_
      refine X_as ?_
      refine X_cVI0 hg mf_X4_stepOf m_822 m_823 m_829 cf_4 (fun _ e => gd_isO e) (fun y e => c_X4_stepOf g.1 x3 a1 a2 h y e) (As := [.int a1, .int a2]) rfl (Nat.le_of_ble_eq_true rfl) rfl (Nat.le_of_ble_eq_true rfl) (Nat.le_of_ble_eq_true rfl) (Nat.le_of_ble_eq_true rfl) (Nat.le_of_ble_eq_true rfl) dX9_path_13 (fun x4 _ => ?_)
      refine X_goto hg (tgt := 21) dX9_path_16 rfl ?_
      refine X_lv [] rfl ?_
      exact hk2 x4
  · exact X_iret hg hr (Nat.le_of_ble_eq_true rfl) (Nat.le_of_ble_eq_true rfl) dX9_path_21
set_option maxRecDepth 10000 in
theorem c_X9_leads (en : EN) (a0 : Nat) (a1 : Int32) (h : Hp) (x0 : Int32 × Hp) (e : f_X9_leads a0 a1 h = some x0) : Ct en yX9_leads cX9_leads 2 (some .int) 4 88 0 0 [.ref (nB en + a0), .int a1] h (some (.int x0.1)) x0.2 := by
  refine Ct.of (by decide) rfl (Nat.le_of_ble_eq_true rfl) e (fun g hen hg hr => ?_)
  subst hen
  unfold f_X9_leads
  refine X_gd ?_
  refine X_aload_n hg 0 rfl dX9_leads_0 ?_
  refine X_getI hg (j := 10) cf_9 (Nat.le_of_ble_eq_true rfl) (Or.inr rfl) m_287 dX9_leads_1 (fun x1 _ => ?_)
  refine X_reg (fun (v2 : Int32 × Hp) o => Xo g x0 2 0 0 20 [] [.int v2.1] v2.2 o) (fun kv2 hk2 => ?_) (fun v2 => ?_)
  · refine X_ib ?_
    refine X_if_eq hg (tgt := 18) dX9_leads_4 rfl (fun c5 => ?_) (fun c5 => ?_)
    · refine X_bipush hg ic_b_m103 dX9_leads_18 ?_
      refine X_lv [] rfl ?_
      exact hk2 (m103, h)
    · refine X_aload_n hg 0 rfl dX9_leads_7 ?_
      refine X_as ?_
      refine X_getR hg (j := 8) cf_9 (Nat.le_of_ble_eq_true rfl) (Or.inl ⟨_, rfl⟩) m_285 dX9_leads_8 (fun x3 _ => ?_)
      refine X_iload_n hg 1 rfl dX9_leads_11 ?_
      refine X_as ?_
      refine X_cVIW0 hg mf_X4_follow m_835 m_836 m_834 cf_4 (fun _ e => gd_isO e) (fun y e => c_X4_follow g.1 x3 a1 h y e) (As := [.int a1]) rfl (Nat.le_of_ble_eq_true rfl) rfl (Nat.le_of_ble_eq_true rfl) (Nat.le_of_ble_eq_true rfl) (Nat.le_of_ble_eq_true rfl) (Nat.le_of_ble_eq_true rfl) dX9_leads_12 (fun p4 _ => ?_)
      refine X_goto hg (tgt := 20) dX9_leads_15 rfl ?_
      refine X_lv [] rfl ?_
      exact hk2 (p4.1, p4.2)
  · exact X_iretW hg hr (Nat.le_of_ble_eq_true rfl) (Nat.le_of_ble_eq_true rfl) dX9_leads_20
set_option maxRecDepth 10000 in
theorem c_X9_menu (en : EN) (a0 : Nat) (a1 : Int32) (h : Hp) (x0 : Int32 × Hp) (e : f_X9_menu a0 a1 h = some x0) : Ct en yX9_menu cX9_menu 2 (some .int) 4 101 0 0 [.ref (nB en + a0), .int a1] h (some (.int x0.1)) x0.2 := by
  refine Ct.of (by decide) rfl (Nat.le_of_ble_eq_true rfl) e (fun g hen hg hr => ?_)
  subst hen
  unfold f_X9_menu
  refine X_gd ?_
  refine X_aload_n hg 0 rfl dX9_menu_0 ?_
  refine X_getI hg (j := 10) cf_9 (Nat.le_of_ble_eq_true rfl) (Or.inr rfl) m_287 dX9_menu_1 (fun x1 _ => ?_)
  refine X_if_ne hg (tgt := 10) dX9_menu_4 rfl (fun c29 => ?_) (fun c29 => ?_)
  · refine X_bipush hg ic_b_m103 dX9_menu_7 ?_
    exact X_iretW hg hr (Nat.le_of_ble_eq_true rfl) (Nat.le_of_ble_eq_true rfl) dX9_menu_9
  · refine X_iload_n hg 1 rfl dX9_menu_10 ?_
    refine X_tsw hg (v := (nI 0)) (tgt := 52) dX9_menu_11 (by decide) (by decide) rfl rfl (fun c4 => ?_) (fun c4 => ?_)
    · refine X_aload_n hg 0 rfl dX9_menu_52 ?_
      refine X_getR hg (j := 8) cf_9 (Nat.le_of_ble_eq_true rfl) (Or.inl ⟨_, rfl⟩) m_285 dX9_menu_53 (fun x2 _ => ?_)
      refine X_cVI0 hg mf_X4_width m_810 m_811 m_809 cf_4 (fun _ e => gd_isO e) (fun y e => c_X4_width g.1 x2 h y e) (As := []) rfl (Nat.le_of_ble_eq_true rfl) rfl (Nat.le_of_ble_eq_true rfl) (Nat.le_of_ble_eq_true rfl) (Nat.le_of_ble_eq_true rfl) (Nat.le_of_ble_eq_true rfl) dX9_menu_56 (fun x3 _ => ?_)
      exact X_iretW hg hr (Nat.le_of_ble_eq_true rfl) (Nat.le_of_ble_eq_true rfl) dX9_menu_59
    · skip
      refine X_tsw hg (v := (nI 1)) (tgt := 60) dX9_menu_11 (by decide) (by decide) rfl rfl (fun c8 => ?_) (fun c8 => ?_)
      · refine X_aload_n hg 0 rfl dX9_menu_60 ?_
        refine X_getR hg (j := 8) cf_9 (Nat.le_of_ble_eq_true rfl) (Or.inl ⟨_, rfl⟩) m_285 dX9_menu_61 (fun x5 _ => ?_)
        refine X_aload_n hg 0 rfl dX9_menu_64 ?_
        refine X_getR hg (j := 3) cf_9 (Nat.le_of_ble_eq_true rfl) (Or.inl ⟨_, rfl⟩) m_280 dX9_menu_65 (fun x6 _ => ?_)
        refine X_cVI0 hg mf_X4_cost m_797 m_798 m_796 cf_4 (fun _ e => gd_isO e) (fun y e => c_X4_cost g.1 x5 x6 h y e) (As := [.ref (nB g.1 + x6)]) rfl (Nat.le_of_ble_eq_true rfl) rfl (Nat.le_of_ble_eq_true rfl) (Nat.le_of_ble_eq_true rfl) (Nat.le_of_ble_eq_true rfl) (Nat.le_of_ble_eq_true rfl) dX9_menu_68 (fun x7 _ => ?_)
        exact X_iretW hg hr (Nat.le_of_ble_eq_true rfl) (Nat.le_of_ble_eq_true rfl) dX9_menu_71
      · skip
        refine X_tsw hg (v := (nI 2)) (tgt := 72) dX9_menu_11 (by decide) (by decide) rfl rfl (fun c17 => ?_) (fun c17 => ?_)
        · refine X_aload_n hg 0 rfl dX9_menu_72 ?_
          refine X_getR hg (j := 7) cf_9 (Nat.le_of_ble_eq_true rfl) (Or.inl ⟨_, rfl⟩) m_284 dX9_menu_73 (fun x9 _ => ?_)
          refine X_aload_n hg 0 rfl dX9_menu_76 ?_
          refine X_getR hg (j := 9) cf_9 (Nat.le_of_ble_eq_true rfl) (Or.inl ⟨_, rfl⟩) m_286 dX9_menu_77 (fun x10 _ => ?_)
          refine X_aload_n hg 0 rfl dX9_menu_80 ?_
          refine X_getR hg (j := 3) cf_9 (Nat.le_of_ble_eq_true rfl) (Or.inl ⟨_, rfl⟩) m_280 dX9_menu_81 (fun x11 _ => ?_)
          refine X_aload_n hg 0 rfl dX9_menu_84 ?_
          refine X_getR hg (j := 8) cf_9 (Nat.le_of_ble_eq_true rfl) (Or.inl ⟨_, rfl⟩) m_285 dX9_menu_85 (fun x12 _ => ?_)
          refine X_cVI0 hg mf_X4_width m_810 m_811 m_809 cf_4 (fun _ e => gd_isO e) (fun y e => c_X4_width g.1 x12 h y e) (As := []) rfl (Nat.le_of_ble_eq_true rfl) rfl (Nat.le_of_ble_eq_true rfl) (Nat.le_of_ble_eq_true rfl) (Nat.le_of_ble_eq_true rfl) (Nat.le_of_ble_eq_true rfl) dX9_menu_88 (fun x13 _ => ?_)
          refine X_cVAW0 hg mf_X5_planInto m_576 m_577 m_575 cf_5 (fun _ e => gd_isO e) (fun y e => c_X5_planInto g.1 x9 x10 x11 x13 h y e) (As := [.ref (nB g.1 + x10), .ref (nB g.1 + x11), .int x13]) rfl (Nat.le_of_ble_eq_true rfl) rfl (Nat.le_of_ble_eq_true rfl) (Nat.le_of_ble_eq_true rfl) (Nat.le_of_ble_eq_true rfl) (Nat.le_of_ble_eq_true rfl) dX9_menu_91 (fun p14 _ => ?_)
          refine X_aload_n hg 0 rfl dX9_menu_94 ?_
          refine X_getR hg (j := 3) cf_9 (Nat.le_of_ble_eq_true rfl) (Or.inl ⟨_, rfl⟩) m_280 dX9_menu_95 (fun x15 _ => ?_)
          refine X_cVI0 hg mf_X4_cost m_797 m_798 m_796 cf_4 (fun _ e => gd_isO e) (fun y e => c_X4_cost g.1 p14.1 x15 p14.2 y e) (As := [.ref (nB g.1 + x15)]) rfl (Nat.le_of_ble_eq_true rfl) rfl (Nat.le_of_ble_eq_true rfl) (Nat.le_of_ble_eq_true rfl) (Nat.le_of_ble_eq_true rfl) (Nat.le_of_ble_eq_true rfl) dX9_menu_98 (fun x16 _ => ?_)
          exact X_iretW hg hr (Nat.le_of_ble_eq_true rfl) (Nat.le_of_ble_eq_true rfl) dX9_menu_101
        · skip
          refine X_tsw hg (v := (nI 3)) (tgt := 102) dX9_menu_11 (by decide) (by decide) rfl rfl (fun c20 => ?_) (fun c20 => ?_)
          · refine X_aload_n hg 0 rfl dX9_menu_102 ?_
            refine X_getR hg (j := 8) cf_9 (Nat.le_of_ble_eq_true rfl) (Or.inl ⟨_, rfl⟩) m_285 dX9_menu_103 (fun x18 _ => ?_)
            refine X_cVI0 hg mf_X4_longestPath m_855 m_856 m_854 cf_4 (fun _ e => gd_isO e) (fun y e => c_X4_longestPath g.1 x18 h y e) (As := []) rfl (Nat.le_of_ble_eq_true rfl) rfl (Nat.le_of_ble_eq_true rfl) (Nat.le_of_ble_eq_true rfl) (Nat.le_of_ble_eq_true rfl) (Nat.le_of_ble_eq_true rfl) dX9_menu_106 (fun x19 _ => ?_)
            exact X_iretW hg hr (Nat.le_of_ble_eq_true rfl) (Nat.le_of_ble_eq_true rfl) dX9_menu_109
          · skip
            refine X_tsw hg (v := (nI 4)) (tgt := 110) dX9_menu_11 (by decide) (by decide) rfl rfl (fun c23 => ?_) (fun c23 => ?_)
            · refine X_aload_n hg 0 rfl dX9_menu_110 ?_
              refine X_getR hg (j := 8) cf_9 (Nat.le_of_ble_eq_true rfl) (Or.inl ⟨_, rfl⟩) m_285 dX9_menu_111 (fun x21 _ => ?_)
              refine X_cVI0 hg mf_X4_branchings m_859 m_860 m_858 cf_4 (fun _ e => gd_isO e) (fun y e => c_X4_branchings g.1 x21 h y e) (As := []) rfl (Nat.le_of_ble_eq_true rfl) rfl (Nat.le_of_ble_eq_true rfl) (Nat.le_of_ble_eq_true rfl) (Nat.le_of_ble_eq_true rfl) (Nat.le_of_ble_eq_true rfl) dX9_menu_114 (fun x22 _ => ?_)
              exact X_iretW hg hr (Nat.le_of_ble_eq_true rfl) (Nat.le_of_ble_eq_true rfl) dX9_menu_117
            · skip
              refine X_tsw hg (v := (nI 5)) (tgt := 118) dX9_menu_11 (by decide) (by decide) rfl rfl (fun c26 => ?_) (fun c26 => ?_)
              · refine X_aload_n hg 0 rfl dX9_menu_118 ?_
                refine X_getR hg (j := 8) cf_9 (Nat.le_of_ble_eq_true rfl) (Or.inl ⟨_, rfl⟩) m_285 dX9_menu_119 (fun x24 _ => ?_)
                refine X_cVI0 hg mf_X4_partsOfWhole m_863 m_864 m_862 cf_4 (fun _ e => gd_isO e) (fun y e => c_X4_partsOfWhole g.1 x24 h y e) (As := []) rfl (Nat.le_of_ble_eq_true rfl) rfl (Nat.le_of_ble_eq_true rfl) (Nat.le_of_ble_eq_true rfl) (Nat.le_of_ble_eq_true rfl) (Nat.le_of_ble_eq_true rfl) dX9_menu_122 (fun x25 _ => ?_)
                exact X_iretW hg hr (Nat.le_of_ble_eq_true rfl) (Nat.le_of_ble_eq_true rfl) dX9_menu_125
              · skip
                refine X_tsw hg (v := (nI 6)) (tgt := 126) dX9_menu_11 (by decide) (by decide) rfl rfl (fun c28 => ?_) (fun c28 => ?_)
                · refine X_aload_n hg 0 rfl dX9_menu_126 ?_
                  refine X_getI hg (j := 11) cf_9 (Nat.le_of_ble_eq_true rfl) (Or.inl rfl) m_288 dX9_menu_127 (fun x27 _ => ?_)
                  exact X_iretW hg hr (Nat.le_of_ble_eq_true rfl) (Nat.le_of_ble_eq_true rfl) dX9_menu_130
                · skip
                  refine X_tsd hg (tgt := 131) dX9_menu_11 (by have q0 := lv_neT c4 (a := 0) rfl; have q1 := lv_neT c8 (a := 1) rfl; have q2 := lv_neT c17 (a := 2) rfl; have q3 := lv_neT c20 (a := 3) rfl; have q4 := lv_neT c23 (a := 4) rfl; have q5 := lv_neT c26 (a := 5) rfl; have q6 := lv_neT c28 (a := 6) rfl; omega) rfl ?_
                  refine X_bipush hg ic_b_m102 dX9_menu_131 ?_
                  exact X_iretW hg hr (Nat.le_of_ble_eq_true rfl) (Nat.le_of_ble_eq_true rfl) dX9_menu_133
set_option maxRecDepth 10000 in
theorem c_X9_count (en : EN) (a0 : Nat) (a1 : Int32) (h : Hp) (x0 : Int32) (e : f_X9_count a0 a1 h = some x0) : Ct en yX9_count cX9_count 2 (some .int) 1 20 0 0 [.ref (nB en + a0), .int a1] h (some (.int x0)) h := by
  refine Ct.of (by decide) rfl (Nat.le_of_ble_eq_true rfl) e (fun g hen hg hr => ?_)
  subst hen
  unfold f_X9_count
  refine X_gd ?_
  refine X_iload_n hg 1 rfl dX9_count_0 ?_
  refine X_tsw hg (v := (nI 0)) (tgt := 40) dX9_count_1 (by decide) (by decide) rfl rfl (fun c3 => ?_) (fun c3 => ?_)
  · refine X_aload_n hg 0 rfl dX9_count_40 ?_
    refine X_getR hg (j := 3) cf_9 (Nat.le_of_ble_eq_true rfl) (Or.inl ⟨_, rfl⟩) m_280 dX9_count_41 (fun x1 _ => ?_)
    refine X_cVI0 hg mf_X7_size m_419 m_420 m_418 cf_7 (fun _ e => gd_isO e) (fun y e => c_X7_size g.1 x1 h y e) (As := []) rfl (Nat.le_of_ble_eq_true rfl) rfl (Nat.le_of_ble_eq_true rfl) (Nat.le_of_ble_eq_true rfl) (Nat.le_of_ble_eq_true rfl) (Nat.le_of_ble_eq_true rfl) dX9_count_44 (fun x2 _ => ?_)
    exact X_iret hg hr (Nat.le_of_ble_eq_true rfl) (Nat.le_of_ble_eq_true rfl) dX9_count_47
  · skip
    refine X_tsw hg (v := (nI 1)) (tgt := 48) dX9_count_1 (by decide) (by decide) rfl rfl (fun c6 => ?_) (fun c6 => ?_)
    · refine X_aload_n hg 0 rfl dX9_count_48 ?_
      refine X_getR hg (j := 0) cf_9 (Nat.le_of_ble_eq_true rfl) (Or.inl ⟨_, rfl⟩) m_277 dX9_count_49 (fun x4 _ => ?_)
      refine X_cVI0 hg mf_X8_size m_337 m_338 m_336 cf_8 (fun _ e => gd_isO e) (fun y e => c_X8_size g.1 x4 h y e) (As := []) rfl (Nat.le_of_ble_eq_true rfl) rfl (Nat.le_of_ble_eq_true rfl) (Nat.le_of_ble_eq_true rfl) (Nat.le_of_ble_eq_true rfl) (Nat.le_of_ble_eq_true rfl) dX9_count_52 (fun x5 _ => ?_)
      exact X_iret hg hr (Nat.le_of_ble_eq_true rfl) (Nat.le_of_ble_eq_true rfl) dX9_count_55
    · skip
      refine X_tsw hg (v := (nI 2)) (tgt := 56) dX9_count_1 (by decide) (by decide) rfl rfl (fun c9 => ?_) (fun c9 => ?_)
      · refine X_aload_n hg 0 rfl dX9_count_56 ?_
        refine X_getR hg (j := 1) cf_9 (Nat.le_of_ble_eq_true rfl) (Or.inl ⟨_, rfl⟩) m_278 dX9_count_57 (fun x7 _ => ?_)
        refine X_cVI0 hg mf_X8_size m_337 m_338 m_336 cf_8 (fun _ e => gd_isO e) (fun y e => c_X8_size g.1 x7 h y e) (As := []) rfl (Nat.le_of_ble_eq_true rfl) rfl (Nat.le_of_ble_eq_true rfl) (Nat.le_of_ble_eq_true rfl) (Nat.le_of_ble_eq_true rfl) (Nat.le_of_ble_eq_true rfl) dX9_count_60 (fun x8 _ => ?_)
        exact X_iret hg hr (Nat.le_of_ble_eq_true rfl) (Nat.le_of_ble_eq_true rfl) dX9_count_63
      · skip
        refine X_tsw hg (v := (nI 3)) (tgt := 64) dX9_count_1 (by decide) (by decide) rfl rfl (fun c11 => ?_) (fun c11 => ?_)
        · refine X_aload_n hg 0 rfl dX9_count_64 ?_
          refine X_getI hg (j := 12) cf_9 (Nat.le_of_ble_eq_true rfl) (Or.inl rfl) m_289 dX9_count_65 (fun x10 _ => ?_)
          exact X_iret hg hr (Nat.le_of_ble_eq_true rfl) (Nat.le_of_ble_eq_true rfl) dX9_count_68
        · skip
          refine X_tsw hg (v := (nI 4)) (tgt := 69) dX9_count_1 (by decide) (by decide) rfl rfl (fun c13 => ?_) (fun c13 => ?_)
          · refine X_aload_n hg 0 rfl dX9_count_69 ?_
            refine X_getI hg (j := 13) cf_9 (Nat.le_of_ble_eq_true rfl) (Or.inl rfl) m_290 dX9_count_70 (fun x12 _ => ?_)
            exact X_iret hg hr (Nat.le_of_ble_eq_true rfl) (Nat.le_of_ble_eq_true rfl) dX9_count_73
          · skip
            refine X_tsw hg (v := (nI 5)) (tgt := 74) dX9_count_1 (by decide) (by decide) rfl rfl (fun c15 => ?_) (fun c15 => ?_)
            · refine X_aload_n hg 0 rfl dX9_count_74 ?_
              refine X_getI hg (j := 14) cf_9 (Nat.le_of_ble_eq_true rfl) (Or.inl rfl) m_291 dX9_count_75 (fun x14 _ => ?_)
              exact X_iret hg hr (Nat.le_of_ble_eq_true rfl) (Nat.le_of_ble_eq_true rfl) dX9_count_78
            · skip
              refine X_tsd hg (tgt := 79) dX9_count_1 (by have q0 := lv_neT c3 (a := 0) rfl; have q1 := lv_neT c6 (a := 1) rfl; have q2 := lv_neT c9 (a := 2) rfl; have q3 := lv_neT c11 (a := 3) rfl; have q4 := lv_neT c13 (a := 4) rfl; have q5 := lv_neT c15 (a := 5) rfl; omega) rfl ?_
              refine X_bipush hg ic_b_m102 dX9_count_79 ?_
              exact X_iret hg hr (Nat.le_of_ble_eq_true rfl) (Nat.le_of_ble_eq_true rfl) dX9_count_81
set_option maxRecDepth 10000 in
theorem c_X9_mix (en : EN) (a0 : Int64) (a1 : Int32) (h : Hp) (x0 : Int64) (e : f_X9_mix a0 a1 h = some x0) : Ct en yX9_mix cX9_mix 3 (some .long) 0 0 0 0 [.long a0, .int a1] h (some (.long x0)) h := by
  refine Ct.of (by decide) rfl (Nat.le_of_ble_eq_true rfl) e (fun g hen hg hr => ?_)
  subst hen
  unfold f_X9_mix
  refine X_ldc2 hg m_878 dX9_mix_0 ?_
  refine X_lload_n hg 0 rfl dX9_mix_3 ?_
  refine X_lmul hg dX9_mix_4 ?_
  refine X_iload_n hg 1 rfl dX9_mix_5 ?_
  refine X_i2l hg dX9_mix_6 ?_
  refine X_ladd hg dX9_mix_7 ?_
  exact X_lret hg hr (Nat.le_of_ble_eq_true rfl) (Nat.le_of_ble_eq_true rfl) dX9_mix_8
set_option maxRecDepth 10000 in
theorem l_X9_mixNames_49 {g : XC} {x0 : Int64 × Hp} (hg : XG g RX9 cX9_mixNames 9 5 123 0 0) (l0 : Nat) (l5 : Nat) (l6 : Int32) (l7 : Int32) (h : Hp) (hr : XR g (some .long) "mixNames" (some (.long x0.1)) x0.2 0 0) (K : Int64 → Option (Int64 × Hp)) (hK0 : ∀ (l3 : Int64), Xo g x0 9 0 0 78 [(0, .ref (nB g.1 + l0)), (3, .long l3), (5, .ref (nB g.1 + l5)), (6, .int l6), (7, .int l7)] [] h (K l3)) : ∀ (n : Nat) (l3 : Int64) (l8 : Int32), Xo g x0 9 0 0 49 [(0, .ref (nB g.1 + l0)), (3, .long l3), (5, .ref (nB g.1 + l5)), (6, .int l6), (7, .int l7), (8, .int l8)] [] h (f_X9_mixNames_L49 l0 l5 l6 l7 h K n l3 l8) := by
  intro n
  induction n with
  | zero =>
    intro l3 l8
    exact X_none
  | succ n ih =>
    intro l3 l8
    unfold f_X9_mixNames_L49
    refine X_iload hg 5 rfl dX9_mixNames_49 ?_
    refine X_iload hg 4 rfl dX9_mixNames_51 ?_
    refine X_icmp_ge hg (tgt := 78) dX9_mixNames_53 rfl (fun c12 => ?_) (fun c12 => ?_)
    · refine X_lv [0, 1, 2, 3, 4] rfl ?_
      exact hK0 _
    · refine X_lload_n hg 1 rfl dX9_mixNames_56 ?_
      refine X_aload_n hg 0 rfl dX9_mixNames_57 ?_
      refine X_getR hg (j := 3) cf_9 (Nat.le_of_ble_eq_true rfl) (Or.inl ⟨_, rfl⟩) m_280 dX9_mixNames_58 (fun x9 _ => ?_)
      refine X_iload hg 3 rfl dX9_mixNames_61 ?_
      refine X_iload hg 5 rfl dX9_mixNames_63 ?_
      refine X_cVI0 hg mf_X7_letterAt m_627 m_628 m_626 cf_7 (fun _ e => gd_isO e) (fun y e => c_X7_letterAt g.1 x9 l6 l8 h y e) (As := [.int l6, .int l8]) rfl (Nat.le_of_ble_eq_true rfl) rfl (Nat.le_of_ble_eq_true rfl) (Nat.le_of_ble_eq_true rfl) (Nat.le_of_ble_eq_true rfl) (Nat.le_of_ble_eq_true rfl) dX9_mixNames_65 (fun x10 _ => ?_)
      refine X_cSJ0 hg mf_X9_mix m_876 m_875 (fun y e => c_X9_mix g.1 l3 x10 h y e) (As := [.long l3, .int x10]) rfl (Nat.le_of_ble_eq_true rfl) rfl (Nat.le_of_ble_eq_true rfl) (Nat.le_of_ble_eq_true rfl) (Nat.le_of_ble_eq_true rfl) (Nat.le_of_ble_eq_true rfl) dX9_mixNames_68 (fun x11 _ => ?_)
      refine X_lstore_n hg rfl (Nat.le_of_ble_eq_true rfl) (lv' := [(3, .long x11), (0, .ref (nB g.1 + l0)), (5, .ref (nB g.1 + l5)), (6, .int l6), (7, .int l7), (8, .int l8)]) rfl dX9_mixNames_71 ?_
      refine X_iinc hg 5 rfl (v := (l8 + (nI 1))) (icc ic_i_1) (Nat.le_of_ble_eq_true rfl) (lv' := [(8, .int (l8 + (nI 1))), (3, .long x11), (0, .ref (nB g.1 + l0)), (5, .ref (nB g.1 + l5)), (6, .int l6), (7, .int l7)]) rfl dX9_mixNames_72 ?_
      refine X_goto hg (tgt := 49) dX9_mixNames_75 rfl ?_
      refine X_lv [2, 1, 3, 4, 5, 0] rfl ?_
      exact ih _ _
set_option maxRecDepth 10000 in
theorem l_X9_mixNames_81 {g : XC} {x0 : Int64 × Hp} (hg : XG g RX9 cX9_mixNames 9 5 123 0 0) (l0 : Nat) (l5 : Nat) (l6 : Int32) (l7 : Int32) (hr : XR g (some .long) "mixNames" (some (.long x0.1)) x0.2 0 0) (K : Int64 → Hp → Option (Int64 × Hp)) (hK0 : ∀ (l3 : Int64) (h : Hp), Xo g x0 9 0 0 107 [(0, .ref (nB g.1 + l0)), (3, .long l3), (5, .ref (nB g.1 + l5)), (6, .int l6), (7, .int l7)] [] h (K l3 h)) : ∀ (n : Nat) (l3 : Int64) (l8 : Int32) (h : Hp), Xo g x0 9 0 0 81 [(0, .ref (nB g.1 + l0)), (3, .long l3), (5, .ref (nB g.1 + l5)), (6, .int l6), (7, .int l7), (8, .int l8)] [] h (f_X9_mixNames_L81 l0 l5 l6 l7 K n l3 l8 h) := by
  intro n
  induction n with
  | zero =>
    intro l3 l8 h
    exact X_none
  | succ n ih =>
    intro l3 l8 h
    unfold f_X9_mixNames_L81
    refine X_iload hg 5 rfl dX9_mixNames_81 ?_
    refine X_bipush hg ic_b_6 dX9_mixNames_83 ?_
    refine X_icmp_gt hg (tgt := 107) dX9_mixNames_85 rfl (fun c16 => ?_) (fun c16 => ?_)
    · refine X_lv [0, 1, 2, 3, 4] rfl ?_
      exact hK0 _ _
    · refine X_lload_n hg 1 rfl dX9_mixNames_88 ?_
      refine X_aload_n hg 0 rfl dX9_mixNames_89 ?_
      refine X_iload hg 3 rfl dX9_mixNames_90 ?_
      refine X_iload hg 5 rfl dX9_mixNames_92 ?_
      refine X_cVIW0 hg mf_X9_name m_513 m_514 m_883 cf_9 (fun _ e => gd_isO e) (fun y e => c_X9_name g.1 l0 l6 l8 h y e) (As := [.int l6, .int l8]) rfl (Nat.le_of_ble_eq_true rfl) rfl (Nat.le_of_ble_eq_true rfl) (Nat.le_of_ble_eq_true rfl) (Nat.le_of_ble_eq_true rfl) (Nat.le_of_ble_eq_true rfl) dX9_mixNames_94 (fun p14 _ => ?_)
      refine X_cSJ0 hg mf_X9_mix m_876 m_875 (fun y e => c_X9_mix g.1 l3 p14.1 p14.2 y e) (As := [.long l3, .int p14.1]) rfl (Nat.le_of_ble_eq_true rfl) rfl (Nat.le_of_ble_eq_true rfl) (Nat.le_of_ble_eq_true rfl) (Nat.le_of_ble_eq_true rfl) (Nat.le_of_ble_eq_true rfl) dX9_mixNames_97 (fun x15 _ => ?_)
      refine X_lstore_n hg rfl (Nat.le_of_ble_eq_true rfl) (lv' := [(3, .long x15), (0, .ref (nB g.1 + l0)), (5, .ref (nB g.1 + l5)), (6, .int l6), (7, .int l7), (8, .int l8)]) rfl dX9_mixNames_100 ?_
      refine X_iinc hg 5 rfl (v := (l8 + (nI 1))) (icc ic_i_1) (Nat.le_of_ble_eq_true rfl) (lv' := [(8, .int (l8 + (nI 1))), (3, .long x15), (0, .ref (nB g.1 + l0)), (5, .ref (nB g.1 + l5)), (6, .int l6), (7, .int l7)]) rfl dX9_mixNames_101 ?_
      refine X_goto hg (tgt := 81) dX9_mixNames_104 rfl ?_
      refine X_lv [2, 1, 3, 4, 5, 0] rfl ?_
      exact ih _ _ _
set_option maxRecDepth 10000 in
theorem l_X9_mixNames_122 {g : XC} {x0 : Int64 × Hp} (hg : XG g RX9 cX9_mixNames 9 5 123 0 0) (l0 : Nat) (l5 : Nat) (l6 : Int32) (l7 : Int32) (h : Hp) (hr : XR g (some .long) "mixNames" (some (.long x0.1)) x0.2 0 0) (K : Int64 → Option (Int64 × Hp)) (hK0 : ∀ (l3 : Int64), Xo g x0 9 0 0 151 [(0, .ref (nB g.1 + l0)), (3, .long l3), (5, .ref (nB g.1 + l5)), (6, .int l6)] [] h (K l3)) : ∀ (n : Nat) (l3 : Int64) (l8 : Int32), Xo g x0 9 0 0 122 [(0, .ref (nB g.1 + l0)), (3, .long l3), (5, .ref (nB g.1 + l5)), (6, .int l6), (7, .int l7), (8, .int l8)] [] h (f_X9_mixNames_L122 l0 l5 l6 l7 h K n l3 l8) := by
  intro n
  induction n with
  | zero =>
    intro l3 l8
    exact X_none
  | succ n ih =>
    intro l3 l8
    unfold f_X9_mixNames_L122
    refine X_iload hg 5 rfl dX9_mixNames_122 ?_
    refine X_iload hg 4 rfl dX9_mixNames_124 ?_
    refine X_icmp_ge hg (tgt := 151) dX9_mixNames_126 rfl (fun c24 => ?_) (fun c24 => ?_)
    · refine X_lv [0, 1, 2, 3] rfl ?_
      exact hK0 _
    · refine X_lload_n hg 1 rfl dX9_mixNames_129 ?_
      refine X_aload_n hg 0 rfl dX9_mixNames_130 ?_
      refine X_getR hg (j := 3) cf_9 (Nat.le_of_ble_eq_true rfl) (Or.inl ⟨_, rfl⟩) m_280 dX9_mixNames_131 (fun x21 _ => ?_)
      refine X_iload hg 3 rfl dX9_mixNames_134 ?_
      refine X_iload hg 5 rfl dX9_mixNames_136 ?_
      refine X_cVI0 hg mf_X7_digitAt m_639 m_640 m_638 cf_7 (fun _ e => gd_isO e) (fun y e => c_X7_digitAt g.1 x21 l6 l8 h y e) (As := [.int l6, .int l8]) rfl (Nat.le_of_ble_eq_true rfl) rfl (Nat.le_of_ble_eq_true rfl) (Nat.le_of_ble_eq_true rfl) (Nat.le_of_ble_eq_true rfl) (Nat.le_of_ble_eq_true rfl) dX9_mixNames_138 (fun x22 _ => ?_)
      refine X_cSJ0 hg mf_X9_mix m_876 m_875 (fun y e => c_X9_mix g.1 l3 x22 h y e) (As := [.long l3, .int x22]) rfl (Nat.le_of_ble_eq_true rfl) rfl (Nat.le_of_ble_eq_true rfl) (Nat.le_of_ble_eq_true rfl) (Nat.le_of_ble_eq_true rfl) (Nat.le_of_ble_eq_true rfl) dX9_mixNames_141 (fun x23 _ => ?_)
      refine X_lstore_n hg rfl (Nat.le_of_ble_eq_true rfl) (lv' := [(3, .long x23), (0, .ref (nB g.1 + l0)), (5, .ref (nB g.1 + l5)), (6, .int l6), (7, .int l7), (8, .int l8)]) rfl dX9_mixNames_144 ?_
      refine X_iinc hg 5 rfl (v := (l8 + (nI 1))) (icc ic_i_1) (Nat.le_of_ble_eq_true rfl) (lv' := [(8, .int (l8 + (nI 1))), (3, .long x23), (0, .ref (nB g.1 + l0)), (5, .ref (nB g.1 + l5)), (6, .int l6), (7, .int l7)]) rfl dX9_mixNames_145 ?_
      refine X_goto hg (tgt := 122) dX9_mixNames_148 rfl ?_
      refine X_lv [2, 1, 3, 4, 5, 0] rfl ?_
      exact ih _ _
set_option maxRecDepth 10000 in
theorem l_X9_mixNames_23 {g : XC} {x0 : Int64 × Hp} (hg : XG g RX9 cX9_mixNames 9 5 123 0 0) (l0 : Nat) (l5 : Nat) (hr : XR g (some .long) "mixNames" (some (.long x0.1)) x0.2 0 0) (K : Int64 → Hp → Option (Int64 × Hp)) (hK0 : ∀ (l3 : Int64) (h : Hp), Xo g x0 9 0 0 157 [(3, .long l3)] [] h (K l3 h)) : ∀ (n : Nat) (l3 : Int64) (l6 : Int32) (h : Hp), Xo g x0 9 0 0 23 [(0, .ref (nB g.1 + l0)), (3, .long l3), (5, .ref (nB g.1 + l5)), (6, .int l6)] [] h (f_X9_mixNames_L23 l0 l5 K n l3 l6 h) := by
  intro n
  induction n with
  | zero =>
    intro l3 l6 h
    exact X_none
  | succ n ih =>
    intro l3 l6 h
    unfold f_X9_mixNames_L23
    refine X_iload hg 3 rfl dX9_mixNames_23 ?_
    refine X_aload_n hg 0 rfl dX9_mixNames_25 ?_
    refine X_getR hg (j := 3) cf_9 (Nat.le_of_ble_eq_true rfl) (Or.inl ⟨_, rfl⟩) m_280 dX9_mixNames_26 (fun x5 _ => ?_)
    refine X_cVI0 hg mf_X7_size m_419 m_420 m_418 cf_7 (fun _ e => gd_isO e) (fun y e => c_X7_size g.1 x5 h y e) (As := []) rfl (Nat.le_of_ble_eq_true rfl) rfl (Nat.le_of_ble_eq_true rfl) (Nat.le_of_ble_eq_true rfl) (Nat.le_of_ble_eq_true rfl) (Nat.le_of_ble_eq_true rfl) dX9_mixNames_29 (fun x6 _ => ?_)
    refine X_icmp_ge hg (tgt := 157) dX9_mixNames_32 rfl (fun c26 => ?_) (fun c26 => ?_)
    · refine X_lv [1] rfl ?_
      exact hK0 _ _
    · refine X_aload_n hg 0 rfl dX9_mixNames_35 ?_
      refine X_getR hg (j := 3) cf_9 (Nat.le_of_ble_eq_true rfl) (Or.inl ⟨_, rfl⟩) m_280 dX9_mixNames_36 (fun x7 _ => ?_)
      refine X_iload hg 3 rfl dX9_mixNames_39 ?_
      refine X_cVI0 hg mf_X7_lengthOf m_517 m_518 m_516 cf_7 (fun _ e => gd_isO e) (fun y e => c_X7_lengthOf g.1 x7 l6 h y e) (As := [.int l6]) rfl (Nat.le_of_ble_eq_true rfl) rfl (Nat.le_of_ble_eq_true rfl) (Nat.le_of_ble_eq_true rfl) (Nat.le_of_ble_eq_true rfl) (Nat.le_of_ble_eq_true rfl) dX9_mixNames_41 (fun x8 _ => ?_)
      refine X_istore hg (Nat.le_of_ble_eq_true rfl) (lv' := [(7, .int x8), (0, .ref (nB g.1 + l0)), (3, .long l3), (5, .ref (nB g.1 + l5)), (6, .int l6)]) rfl dX9_mixNames_44 ?_
      refine X_iconst hg ic_i_0 dX9_mixNames_46 ?_
      refine X_istore hg (Nat.le_of_ble_eq_true rfl) (lv' := [(8, .int (nI 0)), (7, .int x8), (0, .ref (nB g.1 + l0)), (3, .long l3), (5, .ref (nB g.1 + l5)), (6, .int l6)]) rfl dX9_mixNames_47 ?_
      refine X_lv [2, 3, 4, 5, 1, 0] rfl ?_
      refine l_X9_mixNames_49 hg _ _ _ _ _ hr _ (fun y13 => ?_) _ _ _
      refine X_iconst hg ic_i_0 dX9_mixNames_78 ?_
      refine X_istore hg (Nat.le_of_ble_eq_true rfl) (lv' := [(8, .int (nI 0)), (0, .ref (nB g.1 + l0)), (3, .long y13), (5, .ref (nB g.1 + l5)), (6, .int l6), (7, .int x8)]) rfl dX9_mixNames_79 ?_
      refine X_lv [1, 2, 3, 4, 5, 0] rfl ?_
      refine l_X9_mixNames_81 hg _ _ _ _ hr _ (fun y17 h18 => ?_) _ _ _ _
      refine X_lload_n hg 1 rfl dX9_mixNames_107 ?_
      refine X_aload hg 2 rfl dX9_mixNames_108 ?_
      refine X_iload hg 3 rfl dX9_mixNames_110 ?_
      refine X_cVI0 hg mf_X4_lengthOf m_568 m_569 m_567 cf_4 (fun _ e => gd_isO e) (fun y e => c_X4_lengthOf g.1 l5 l6 h18 y e) (As := [.int l6]) rfl (Nat.le_of_ble_eq_true rfl) rfl (Nat.le_of_ble_eq_true rfl) (Nat.le_of_ble_eq_true rfl) (Nat.le_of_ble_eq_true rfl) (Nat.le_of_ble_eq_true rfl) dX9_mixNames_112 (fun x19 _ => ?_)
      refine X_cSJ0 hg mf_X9_mix m_876 m_875 (fun y e => c_X9_mix g.1 y17 x19 h18 y e) (As := [.long y17, .int x19]) rfl (Nat.le_of_ble_eq_true rfl) rfl (Nat.le_of_ble_eq_true rfl) (Nat.le_of_ble_eq_true rfl) (Nat.le_of_ble_eq_true rfl) (Nat.le_of_ble_eq_true rfl) dX9_mixNames_115 (fun x20 _ => ?_)
      refine X_lstore_n hg rfl (Nat.le_of_ble_eq_true rfl) (lv' := [(3, .long x20), (0, .ref (nB g.1 + l0)), (5, .ref (nB g.1 + l5)), (6, .int l6), (7, .int x8)]) rfl dX9_mixNames_118 ?_
      refine X_iconst hg ic_i_0 dX9_mixNames_119 ?_
      refine X_istore hg (Nat.le_of_ble_eq_true rfl) (lv' := [(8, .int (nI 0)), (3, .long x20), (0, .ref (nB g.1 + l0)), (5, .ref (nB g.1 + l5)), (6, .int l6), (7, .int x8)]) rfl dX9_mixNames_120 ?_
      refine X_lv [2, 1, 3, 4, 5, 0] rfl ?_
      refine l_X9_mixNames_122 hg _ _ _ _ _ hr _ (fun y25 => ?_) _ _ _
      refine X_iinc hg 3 rfl (v := (l6 + (nI 1))) (icc ic_i_1) (Nat.le_of_ble_eq_true rfl) (lv' := [(6, .int (l6 + (nI 1))), (0, .ref (nB g.1 + l0)), (3, .long y25), (5, .ref (nB g.1 + l5))]) rfl dX9_mixNames_151 ?_
      refine X_goto hg (tgt := 23) dX9_mixNames_154 rfl ?_
      refine X_lv [1, 2, 3, 0] rfl ?_
      exact ih _ _ _
set_option maxRecDepth 10000 in
theorem c_X9_mixNames (en : EN) (a0 : Nat) (a1 : Int64) (h : Hp) (x0 : Int64 × Hp) (e : f_X9_mixNames a0 a1 h = some x0) : Ct en yX9_mixNames cX9_mixNames 9 (some .long) 5 123 0 0 [.ref (nB en + a0), .long a1] h (some (.long x0.1)) x0.2 := by
  refine Ct.of (by decide) rfl (Nat.le_of_ble_eq_true rfl) e (fun g hen hg hr => ?_)
  subst hen
  unfold f_X9_mixNames
  refine X_gd ?_
  refine X_lload_n hg 1 rfl dX9_mixNames_0 ?_
  refine X_lstore_n hg rfl (Nat.le_of_ble_eq_true rfl) (lv' := [(3, .long a1), (0, .ref (nB g.1 + a0)), (1, .long a1)]) rfl dX9_mixNames_1 ?_
  refine X_aload_n hg 1 rfl dX9_mixNames_2 ?_
  refine X_getR hg (j := 7) cf_9 (Nat.le_of_ble_eq_true rfl) (Or.inl ⟨_, rfl⟩) m_284 dX9_mixNames_3 (fun x1 _ => ?_)
  refine X_aload_n hg 1 rfl dX9_mixNames_6 ?_
  refine X_getR hg (j := 9) cf_9 (Nat.le_of_ble_eq_true rfl) (Or.inl ⟨_, rfl⟩) m_286 dX9_mixNames_7 (fun x2 _ => ?_)
  refine X_aload_n hg 1 rfl dX9_mixNames_10 ?_
  refine X_getR hg (j := 3) cf_9 (Nat.le_of_ble_eq_true rfl) (Or.inl ⟨_, rfl⟩) m_280 dX9_mixNames_11 (fun x3 _ => ?_)
  refine X_iconst hg ic_i_3 dX9_mixNames_14 ?_
  refine X_cVAW0 hg mf_X5_planInto m_576 m_577 m_575 cf_5 (fun _ e => gd_isO e) (fun y e => c_X5_planInto g.1 x1 x2 x3 (nI 3) h y e) (As := [.ref (nB g.1 + x2), .ref (nB g.1 + x3), .int (nI 3)]) rfl (Nat.le_of_ble_eq_true rfl) rfl (Nat.le_of_ble_eq_true rfl) (Nat.le_of_ble_eq_true rfl) (Nat.le_of_ble_eq_true rfl) (Nat.le_of_ble_eq_true rfl) dX9_mixNames_15 (fun p4 _ => ?_)
  refine X_astore hg (Nat.le_of_ble_eq_true rfl) (lv' := [(5, .ref (nB g.1 + p4.1)), (3, .long a1), (0, .ref (nB g.1 + a0)), (1, .long a1)]) rfl dX9_mixNames_18 ?_
  refine X_iconst hg ic_i_0 dX9_mixNames_20 ?_
  refine X_istore hg (Nat.le_of_ble_eq_true rfl) (lv' := [(6, .int (nI 0)), (5, .ref (nB g.1 + p4.1)), (3, .long a1), (0, .ref (nB g.1 + a0)), (1, .long a1)]) rfl dX9_mixNames_21 ?_
  refine X_lv [3, 2, 1, 0] rfl ?_
  refine l_X9_mixNames_23 hg _ _ hr _ (fun y27 h28 => ?_) _ _ _ _
  refine X_lload_n hg 0 rfl dX9_mixNames_157 ?_
  exact X_lretW hg hr (Nat.le_of_ble_eq_true rfl) (Nat.le_of_ble_eq_true rfl) dX9_mixNames_158
set_option maxRecDepth 10000 in
theorem l_X9_mixPaths_31 {g : XC} {x0 : Int64} (hg : XG g RX9 cX9_mixPaths 8 2 43 0 0) (l0 : Nat) (l5 : Int32) (l6 : Int32) (h : Hp) (hr : XR g (some .long) "mixPaths" (some (.long x0)) h 0 0) (K : Int64 → Option (Int64)) (hK0 : ∀ (l3 : Int64), Xo g x0 8 0 0 60 [(0, .ref (nB g.1 + l0)), (3, .long l3), (5, .int l5)] [] h (K l3)) : ∀ (n : Nat) (l3 : Int64) (l7 : Int32), Xo g x0 8 0 0 31 [(0, .ref (nB g.1 + l0)), (3, .long l3), (5, .int l5), (6, .int l6), (7, .int l7)] [] h (f_X9_mixPaths_L31 l0 l5 l6 h K n l3 l7) := by
  intro n
  induction n with
  | zero =>
    intro l3 l7
    exact X_none
  | succ n ih =>
    intro l3 l7
    unfold f_X9_mixPaths_L31
    refine X_iload hg 4 rfl dX9_mixPaths_31 ?_
    refine X_iload hg 3 rfl dX9_mixPaths_33 ?_
    refine X_icmp_ge hg (tgt := 60) dX9_mixPaths_35 rfl (fun c8 => ?_) (fun c8 => ?_)
    · refine X_lv [0, 1, 2] rfl ?_
      exact hK0 _
    · refine X_lload_n hg 1 rfl dX9_mixPaths_38 ?_
      refine X_aload_n hg 0 rfl dX9_mixPaths_39 ?_
      refine X_getR hg (j := 8) cf_9 (Nat.le_of_ble_eq_true rfl) (Or.inl ⟨_, rfl⟩) m_285 dX9_mixPaths_40 (fun x5 _ => ?_)
      refine X_iload hg 2 rfl dX9_mixPaths_43 ?_
      refine X_iload hg 4 rfl dX9_mixPaths_45 ?_
      refine X_cVI0 hg mf_X4_stepOf m_822 m_823 m_829 cf_4 (fun _ e => gd_isO e) (fun y e => c_X4_stepOf g.1 x5 l5 l7 h y e) (As := [.int l5, .int l7]) rfl (Nat.le_of_ble_eq_true rfl) rfl (Nat.le_of_ble_eq_true rfl) (Nat.le_of_ble_eq_true rfl) (Nat.le_of_ble_eq_true rfl) (Nat.le_of_ble_eq_true rfl) dX9_mixPaths_47 (fun x6 _ => ?_)
      refine X_cSJ0 hg mf_X9_mix m_876 m_875 (fun y e => c_X9_mix g.1 l3 x6 h y e) (As := [.long l3, .int x6]) rfl (Nat.le_of_ble_eq_true rfl) rfl (Nat.le_of_ble_eq_true rfl) (Nat.le_of_ble_eq_true rfl) (Nat.le_of_ble_eq_true rfl) (Nat.le_of_ble_eq_true rfl) dX9_mixPaths_50 (fun x7 _ => ?_)
      refine X_lstore_n hg rfl (Nat.le_of_ble_eq_true rfl) (lv' := [(3, .long x7), (0, .ref (nB g.1 + l0)), (5, .int l5), (6, .int l6), (7, .int l7)]) rfl dX9_mixPaths_53 ?_
      refine X_iinc hg 4 rfl (v := (l7 + (nI 1))) (icc ic_i_1) (Nat.le_of_ble_eq_true rfl) (lv' := [(7, .int (l7 + (nI 1))), (3, .long x7), (0, .ref (nB g.1 + l0)), (5, .int l5), (6, .int l6)]) rfl dX9_mixPaths_54 ?_
      refine X_goto hg (tgt := 31) dX9_mixPaths_57 rfl ?_
      refine X_lv [2, 1, 3, 4, 0] rfl ?_
      exact ih _ _
set_option maxRecDepth 10000 in
theorem l_X9_mixPaths_5 {g : XC} {x0 : Int64} (hg : XG g RX9 cX9_mixPaths 8 2 43 0 0) (l0 : Nat) (h : Hp) (hr : XR g (some .long) "mixPaths" (some (.long x0)) h 0 0) (K : Int64 → Option (Int64)) (hK0 : ∀ (l3 : Int64), Xo g x0 8 0 0 66 [(3, .long l3)] [] h (K l3)) : ∀ (n : Nat) (l3 : Int64) (l5 : Int32), Xo g x0 8 0 0 5 [(0, .ref (nB g.1 + l0)), (3, .long l3), (5, .int l5)] [] h (f_X9_mixPaths_L5 l0 h K n l3 l5) := by
  intro n
  induction n with
  | zero =>
    intro l3 l5
    exact X_none
  | succ n ih =>
    intro l3 l5
    unfold f_X9_mixPaths_L5
    refine X_iload hg 2 rfl dX9_mixPaths_5 ?_
    refine X_aload_n hg 0 rfl dX9_mixPaths_7 ?_
    refine X_getR hg (j := 3) cf_9 (Nat.le_of_ble_eq_true rfl) (Or.inl ⟨_, rfl⟩) m_280 dX9_mixPaths_8 (fun x1 _ => ?_)
    refine X_cVI0 hg mf_X7_size m_419 m_420 m_418 cf_7 (fun _ e => gd_isO e) (fun y e => c_X7_size g.1 x1 h y e) (As := []) rfl (Nat.le_of_ble_eq_true rfl) rfl (Nat.le_of_ble_eq_true rfl) (Nat.le_of_ble_eq_true rfl) (Nat.le_of_ble_eq_true rfl) (Nat.le_of_ble_eq_true rfl) dX9_mixPaths_11 (fun x2 _ => ?_)
    refine X_icmp_ge hg (tgt := 66) dX9_mixPaths_14 rfl (fun c10 => ?_) (fun c10 => ?_)
    · refine X_lv [1] rfl ?_
      exact hK0 _
    · refine X_aload_n hg 0 rfl dX9_mixPaths_17 ?_
      refine X_getR hg (j := 8) cf_9 (Nat.le_of_ble_eq_true rfl) (Or.inl ⟨_, rfl⟩) m_285 dX9_mixPaths_18 (fun x3 _ => ?_)
      refine X_iload hg 2 rfl dX9_mixPaths_21 ?_
      refine X_cVI0 hg mf_X4_lengthOf m_568 m_569 m_567 cf_4 (fun _ e => gd_isO e) (fun y e => c_X4_lengthOf g.1 x3 l5 h y e) (As := [.int l5]) rfl (Nat.le_of_ble_eq_true rfl) rfl (Nat.le_of_ble_eq_true rfl) (Nat.le_of_ble_eq_true rfl) (Nat.le_of_ble_eq_true rfl) (Nat.le_of_ble_eq_true rfl) dX9_mixPaths_23 (fun x4 _ => ?_)
      refine X_istore hg (Nat.le_of_ble_eq_true rfl) (lv' := [(6, .int x4), (0, .ref (nB g.1 + l0)), (3, .long l3), (5, .int l5)]) rfl dX9_mixPaths_26 ?_
      refine X_iconst hg ic_i_0 dX9_mixPaths_28 ?_
      refine X_istore hg (Nat.le_of_ble_eq_true rfl) (lv' := [(7, .int (nI 0)), (6, .int x4), (0, .ref (nB g.1 + l0)), (3, .long l3), (5, .int l5)]) rfl dX9_mixPaths_29 ?_
      refine X_lv [2, 3, 4, 1, 0] rfl ?_
      refine l_X9_mixPaths_31 hg _ _ _ _ hr _ (fun y9 => ?_) _ _ _
      refine X_iinc hg 2 rfl (v := (l5 + (nI 1))) (icc ic_i_1) (Nat.le_of_ble_eq_true rfl) (lv' := [(5, .int (l5 + (nI 1))), (0, .ref (nB g.1 + l0)), (3, .long y9)]) rfl dX9_mixPaths_60 ?_
      refine X_goto hg (tgt := 5) dX9_mixPaths_63 rfl ?_
      refine X_lv [1, 2, 0] rfl ?_
      exact ih _ _
set_option maxRecDepth 10000 in
theorem c_X9_mixPaths (en : EN) (a0 : Nat) (a1 : Int64) (h : Hp) (x0 : Int64) (e : f_X9_mixPaths a0 a1 h = some x0) : Ct en yX9_mixPaths cX9_mixPaths 8 (some .long) 2 43 0 0 [.ref (nB en + a0), .long a1] h (some (.long x0)) h := by
  refine Ct.of (by decide) rfl (Nat.le_of_ble_eq_true rfl) e (fun g hen hg hr => ?_)
  subst hen
  unfold f_X9_mixPaths
  refine X_gd ?_
  refine X_lload_n hg 1 rfl dX9_mixPaths_0 ?_
  refine X_lstore_n hg rfl (Nat.le_of_ble_eq_true rfl) (lv' := [(3, .long a1), (0, .ref (nB g.1 + a0)), (1, .long a1)]) rfl dX9_mixPaths_1 ?_
  refine X_iconst hg ic_i_0 dX9_mixPaths_2 ?_
  refine X_istore hg (Nat.le_of_ble_eq_true rfl) (lv' := [(5, .int (nI 0)), (3, .long a1), (0, .ref (nB g.1 + a0)), (1, .long a1)]) rfl dX9_mixPaths_3 ?_
  refine X_lv [2, 1, 0] rfl ?_
  refine l_X9_mixPaths_5 hg _ _ hr _ (fun y11 => ?_) _ _ _
  refine X_lload_n hg 0 rfl dX9_mixPaths_66 ?_
  exact X_lret hg hr (Nat.le_of_ble_eq_true rfl) (Nat.le_of_ble_eq_true rfl) dX9_mixPaths_67
set_option maxRecDepth 10000 in
theorem l_X9_mixRow_5 {g : XC} {x0 : Int64} (hg : XG g RX9 cX9_mixRow 6 1 22 0 0) (l2 : Nat) (h : Hp) (hr : XR g (some .long) "mixRow" (some (.long x0)) h 0 0) (K : Int64 → Option (Int64)) (hK0 : ∀ (l3 : Int64), Xo g x0 6 0 0 31 [(3, .long l3)] [] h (K l3)) : ∀ (n : Nat) (l3 : Int64) (l5 : Int32), Xo g x0 6 0 0 5 [(2, .ref (nB g.1 + l2)), (3, .long l3), (5, .int l5)] [] h (f_X9_mixRow_L5 l2 h K n l3 l5) := by
  intro n
  induction n with
  | zero =>
    intro l3 l5
    exact X_none
  | succ n ih =>
    intro l3 l5
    unfold f_X9_mixRow_L5
    refine X_iload hg 2 rfl dX9_mixRow_5 ?_
    refine X_aload_n hg 0 rfl dX9_mixRow_7 ?_
    refine X_cVI0 hg mf_X8_size m_337 m_338 m_336 cf_8 (fun _ e => gd_isO e) (fun y e => c_X8_size g.1 l2 h y e) (As := []) rfl (Nat.le_of_ble_eq_true rfl) rfl (Nat.le_of_ble_eq_true rfl) (Nat.le_of_ble_eq_true rfl) (Nat.le_of_ble_eq_true rfl) (Nat.le_of_ble_eq_true rfl) dX9_mixRow_8 (fun x1 _ => ?_)
    refine X_icmp_ge hg (tgt := 31) dX9_mixRow_11 rfl (fun c4 => ?_) (fun c4 => ?_)
    · refine X_lv [1] rfl ?_
      exact hK0 _
    · refine X_lload_n hg 1 rfl dX9_mixRow_14 ?_
      refine X_aload_n hg 0 rfl dX9_mixRow_15 ?_
      refine X_iload hg 2 rfl dX9_mixRow_16 ?_
      refine X_cVI0 hg mf_X8_get m_358 m_359 m_703 cf_8 (fun _ e => gd_isO e) (fun y e => c_X8_get g.1 l2 l5 h y e) (As := [.int l5]) rfl (Nat.le_of_ble_eq_true rfl) rfl (Nat.le_of_ble_eq_true rfl) (Nat.le_of_ble_eq_true rfl) (Nat.le_of_ble_eq_true rfl) (Nat.le_of_ble_eq_true rfl) dX9_mixRow_18 (fun x2 _ => ?_)
      refine X_cSJ0 hg mf_X9_mix m_876 m_875 (fun y e => c_X9_mix g.1 l3 x2 h y e) (As := [.long l3, .int x2]) rfl (Nat.le_of_ble_eq_true rfl) rfl (Nat.le_of_ble_eq_true rfl) (Nat.le_of_ble_eq_true rfl) (Nat.le_of_ble_eq_true rfl) (Nat.le_of_ble_eq_true rfl) dX9_mixRow_21 (fun x3 _ => ?_)
      refine X_lstore_n hg rfl (Nat.le_of_ble_eq_true rfl) (lv' := [(3, .long x3), (2, .ref (nB g.1 + l2)), (5, .int l5)]) rfl dX9_mixRow_24 ?_
      refine X_iinc hg 2 rfl (v := (l5 + (nI 1))) (icc ic_i_1) (Nat.le_of_ble_eq_true rfl) (lv' := [(5, .int (l5 + (nI 1))), (3, .long x3), (2, .ref (nB g.1 + l2))]) rfl dX9_mixRow_25 ?_
      refine X_goto hg (tgt := 5) dX9_mixRow_28 rfl ?_
      refine X_lv [2, 1, 0] rfl ?_
      exact ih _ _
set_option maxRecDepth 10000 in
theorem c_X9_mixRow (en : EN) (a0 : Int64) (a1 : Nat) (h : Hp) (x0 : Int64) (e : f_X9_mixRow a0 a1 h = some x0) : Ct en yX9_mixRow cX9_mixRow 6 (some .long) 1 22 0 0 [.long a0, .ref (nB en + a1)] h (some (.long x0)) h := by
  refine Ct.of (by decide) rfl (Nat.le_of_ble_eq_true rfl) e (fun g hen hg hr => ?_)
  subst hen
  unfold f_X9_mixRow
  refine X_lload_n hg 0 rfl dX9_mixRow_0 ?_
  refine X_lstore_n hg rfl (Nat.le_of_ble_eq_true rfl) (lv' := [(3, .long a0), (0, .long a0), (2, .ref (nB g.1 + a1))]) rfl dX9_mixRow_1 ?_
  refine X_iconst hg ic_i_0 dX9_mixRow_2 ?_
  refine X_istore hg (Nat.le_of_ble_eq_true rfl) (lv' := [(5, .int (nI 0)), (3, .long a0), (0, .long a0), (2, .ref (nB g.1 + a1))]) rfl dX9_mixRow_3 ?_
  refine X_lv [3, 1, 0] rfl ?_
  refine l_X9_mixRow_5 hg _ _ hr _ (fun y5 => ?_) _ _ _
  refine X_lload_n hg 0 rfl dX9_mixRow_31 ?_
  exact X_lret hg hr (Nat.le_of_ble_eq_true rfl) (Nat.le_of_ble_eq_true rfl) dX9_mixRow_32
set_option maxRecDepth 10000 in
theorem l_X9_digest_7 {g : XC} {x0 : Int64 × Hp} (hg : XG g RX9 cX9_digest 4 6 151 0 0) (l0 : Nat) (h : Hp) (hr : XR g (some .long) "digest" (some (.long x0.1)) x0.2 0 0) (K : Int64 → Option (Int64 × Hp)) (hK0 : ∀ (l1 : Int64), Xo g x0 4 0 0 32 [(0, .ref (nB g.1 + l0)), (1, .long l1)] [] h (K l1)) : ∀ (n : Nat) (l1 : Int64) (l3 : Int32), Xo g x0 4 0 0 7 [(0, .ref (nB g.1 + l0)), (1, .long l1), (3, .int l3)] [] h (f_X9_digest_L7 l0 h K n l1 l3) := by
  intro n
  induction n with
  | zero =>
    intro l1 l3
    exact X_none
  | succ n ih =>
    intro l1 l3
    unfold f_X9_digest_L7
    refine X_iload_n hg 2 rfl dX9_digest_7 ?_
    refine X_bipush hg ic_b_122 dX9_digest_8 ?_
    refine X_icmp_gt hg (tgt := 32) dX9_digest_10 rfl (fun c4 => ?_) (fun c4 => ?_)
    · refine X_lv [0, 1] rfl ?_
      exact hK0 _
    · refine X_lload_n hg 1 rfl dX9_digest_13 ?_
      refine X_aload_n hg 0 rfl dX9_digest_14 ?_
      refine X_getR hg (j := 2) cf_9 (Nat.le_of_ble_eq_true rfl) (Or.inl ⟨_, rfl⟩) m_279 dX9_digest_15 (fun x1 _ => ?_)
      refine X_iload_n hg 2 rfl dX9_digest_18 ?_
      refine X_cVI0 hg mf_X2_digitOf m_453 m_454 m_650 cf_2 (fun _ e => gd_isO e) (fun y e => c_X2_digitOf g.1 x1 l3 h y e) (As := [.int l3]) rfl (Nat.le_of_ble_eq_true rfl) rfl (Nat.le_of_ble_eq_true rfl) (Nat.le_of_ble_eq_true rfl) (Nat.le_of_ble_eq_true rfl) (Nat.le_of_ble_eq_true rfl) dX9_digest_19 (fun x2 _ => ?_)
      refine X_cSJ0 hg mf_X9_mix m_876 m_875 (fun y e => c_X9_mix g.1 l1 x2 h y e) (As := [.long l1, .int x2]) rfl (Nat.le_of_ble_eq_true rfl) rfl (Nat.le_of_ble_eq_true rfl) (Nat.le_of_ble_eq_true rfl) (Nat.le_of_ble_eq_true rfl) (Nat.le_of_ble_eq_true rfl) dX9_digest_22 (fun x3 _ => ?_)
      refine X_lstore_n hg rfl (Nat.le_of_ble_eq_true rfl) (lv' := [(1, .long x3), (0, .ref (nB g.1 + l0)), (3, .int l3)]) rfl dX9_digest_25 ?_
      refine X_iinc hg 2 rfl (v := (l3 + (nI 1))) (icc ic_i_1) (Nat.le_of_ble_eq_true rfl) (lv' := [(3, .int (l3 + (nI 1))), (1, .long x3), (0, .ref (nB g.1 + l0))]) rfl dX9_digest_26 ?_
      refine X_goto hg (tgt := 7) dX9_digest_29 rfl ?_
      refine X_lv [2, 1, 0] rfl ?_
      exact ih _ _
set_option maxRecDepth 10000 in
theorem l_X9_digest_40 {g : XC} {x0 : Int64 × Hp} (hg : XG g RX9 cX9_digest 4 6 151 0 0) (l0 : Nat) (h : Hp) (hr : XR g (some .long) "digest" (some (.long x0.1)) x0.2 0 0) (K : Int64 → Option (Int64 × Hp)) (hK0 : ∀ (l1 : Int64), Xo g x0 4 0 0 62 [(0, .ref (nB g.1 + l0)), (1, .long l1)] [] h (K l1)) : ∀ (n : Nat) (l1 : Int64) (l3 : Int32), Xo g x0 4 0 0 40 [(0, .ref (nB g.1 + l0)), (1, .long l1), (3, .int l3)] [] h (f_X9_digest_L40 l0 h K n l1 l3) := by
  intro n
  induction n with
  | zero =>
    intro l1 l3
    exact X_none
  | succ n ih =>
    intro l1 l3
    unfold f_X9_digest_L40
    refine X_iload_n hg 2 rfl dX9_digest_40 ?_
    refine X_bipush hg ic_b_6 dX9_digest_41 ?_
    refine X_icmp_gt hg (tgt := 62) dX9_digest_43 rfl (fun c9 => ?_) (fun c9 => ?_)
    · refine X_lv [0, 1] rfl ?_
      exact hK0 _
    · refine X_lload_n hg 1 rfl dX9_digest_46 ?_
      refine X_aload_n hg 0 rfl dX9_digest_47 ?_
      refine X_iload_n hg 2 rfl dX9_digest_48 ?_
      refine X_cVI0 hg mf_X9_about m_652 m_653 m_884 cf_9 (fun _ e => gd_isO e) (fun y e => c_X9_about g.1 l0 l3 h y e) (As := [.int l3]) rfl (Nat.le_of_ble_eq_true rfl) rfl (Nat.le_of_ble_eq_true rfl) (Nat.le_of_ble_eq_true rfl) (Nat.le_of_ble_eq_true rfl) (Nat.le_of_ble_eq_true rfl) dX9_digest_49 (fun x7 _ => ?_)
      refine X_cSJ0 hg mf_X9_mix m_876 m_875 (fun y e => c_X9_mix g.1 l1 x7 h y e) (As := [.long l1, .int x7]) rfl (Nat.le_of_ble_eq_true rfl) rfl (Nat.le_of_ble_eq_true rfl) (Nat.le_of_ble_eq_true rfl) (Nat.le_of_ble_eq_true rfl) (Nat.le_of_ble_eq_true rfl) dX9_digest_52 (fun x8 _ => ?_)
      refine X_lstore_n hg rfl (Nat.le_of_ble_eq_true rfl) (lv' := [(1, .long x8), (0, .ref (nB g.1 + l0)), (3, .int l3)]) rfl dX9_digest_55 ?_
      refine X_iinc hg 2 rfl (v := (l3 + (nI 1))) (icc ic_i_1) (Nat.le_of_ble_eq_true rfl) (lv' := [(3, .int (l3 + (nI 1))), (1, .long x8), (0, .ref (nB g.1 + l0))]) rfl dX9_digest_56 ?_
      refine X_goto hg (tgt := 40) dX9_digest_59 rfl ?_
      refine X_lv [2, 1, 0] rfl ?_
      exact ih _ _
set_option maxRecDepth 10000 in
theorem l_X9_digest_108 {g : XC} {x0 : Int64 × Hp} (hg : XG g RX9 cX9_digest 4 6 151 0 0) (l0 : Nat) (h : Hp) (hr : XR g (some .long) "digest" (some (.long x0.1)) x0.2 0 0) (K : Int64 → Option (Int64 × Hp)) (hK0 : ∀ (l1 : Int64), Xo g x0 4 0 0 132 [(0, .ref (nB g.1 + l0)), (1, .long l1)] [] h (K l1)) : ∀ (n : Nat) (l1 : Int64) (l3 : Int32), Xo g x0 4 0 0 108 [(0, .ref (nB g.1 + l0)), (1, .long l1), (3, .int l3)] [] h (f_X9_digest_L108 l0 h K n l1 l3) := by
  intro n
  induction n with
  | zero =>
    intro l1 l3
    exact X_none
  | succ n ih =>
    intro l1 l3
    unfold f_X9_digest_L108
    refine X_iload_n hg 2 rfl dX9_digest_108 ?_
    refine X_iconst hg ic_i_3 dX9_digest_109 ?_
    refine X_icmp_gt hg (tgt := 132) dX9_digest_110 rfl (fun c25 => ?_) (fun c25 => ?_)
    · refine X_lv [0, 1] rfl ?_
      exact hK0 _
    · refine X_lload_n hg 1 rfl dX9_digest_113 ?_
      refine X_aload_n hg 0 rfl dX9_digest_114 ?_
      refine X_getR hg (j := 6) cf_9 (Nat.le_of_ble_eq_true rfl) (Or.inl ⟨_, rfl⟩) m_283 dX9_digest_115 (fun x22 _ => ?_)
      refine X_iload_n hg 2 rfl dX9_digest_118 ?_
      refine X_cVI0 hg mf_X6_number m_781 m_782 m_780 cf_6 (fun _ e => gd_isO e) (fun y e => c_X6_number g.1 x22 l3 h y e) (As := [.int l3]) rfl (Nat.le_of_ble_eq_true rfl) rfl (Nat.le_of_ble_eq_true rfl) (Nat.le_of_ble_eq_true rfl) (Nat.le_of_ble_eq_true rfl) (Nat.le_of_ble_eq_true rfl) dX9_digest_119 (fun x23 _ => ?_)
      refine X_cSJ0 hg mf_X9_mix m_876 m_875 (fun y e => c_X9_mix g.1 l1 x23 h y e) (As := [.long l1, .int x23]) rfl (Nat.le_of_ble_eq_true rfl) rfl (Nat.le_of_ble_eq_true rfl) (Nat.le_of_ble_eq_true rfl) (Nat.le_of_ble_eq_true rfl) (Nat.le_of_ble_eq_true rfl) dX9_digest_122 (fun x24 _ => ?_)
      refine X_lstore_n hg rfl (Nat.le_of_ble_eq_true rfl) (lv' := [(1, .long x24), (0, .ref (nB g.1 + l0)), (3, .int l3)]) rfl dX9_digest_125 ?_
      refine X_iinc hg 2 rfl (v := (l3 + (nI 1))) (icc ic_i_1) (Nat.le_of_ble_eq_true rfl) (lv' := [(3, .int (l3 + (nI 1))), (1, .long x24), (0, .ref (nB g.1 + l0))]) rfl dX9_digest_126 ?_
      refine X_goto hg (tgt := 108) dX9_digest_129 rfl ?_
      refine X_lv [2, 1, 0] rfl ?_
      exact ih _ _
set_option maxRecDepth 10000 in
theorem l_X9_digest_192 {g : XC} {x0 : Int64 × Hp} (hg : XG g RX9 cX9_digest 4 6 151 0 0) (l0 : Nat) (h : Hp) (hr : XR g (some .long) "digest" (some (.long x0.1)) x0.2 0 0) (K : Int64 → Option (Int64 × Hp)) (hK0 : ∀ (l1 : Int64), Xo g x0 4 0 0 213 [(1, .long l1)] [] h (K l1)) : ∀ (n : Nat) (l1 : Int64) (l3 : Int32), Xo g x0 4 0 0 192 [(0, .ref (nB g.1 + l0)), (1, .long l1), (3, .int l3)] [] h (f_X9_digest_L192 l0 h K n l1 l3) := by
  intro n
  induction n with
  | zero =>
    intro l1 l3
    exact X_none
  | succ n ih =>
    intro l1 l3
    unfold f_X9_digest_L192
    refine X_iload_n hg 2 rfl dX9_digest_192 ?_
    refine X_iconst hg ic_i_5 dX9_digest_193 ?_
    refine X_icmp_gt hg (tgt := 213) dX9_digest_194 rfl (fun c35 => ?_) (fun c35 => ?_)
    · refine X_lv [1] rfl ?_
      exact hK0 _
    · refine X_lload_n hg 1 rfl dX9_digest_197 ?_
      refine X_aload_n hg 0 rfl dX9_digest_198 ?_
      refine X_iload_n hg 2 rfl dX9_digest_199 ?_
      refine X_cVI0 hg mf_X9_count m_867 m_868 m_893 cf_9 (fun _ e => gd_isO e) (fun y e => c_X9_count g.1 l0 l3 h y e) (As := [.int l3]) rfl (Nat.le_of_ble_eq_true rfl) rfl (Nat.le_of_ble_eq_true rfl) (Nat.le_of_ble_eq_true rfl) (Nat.le_of_ble_eq_true rfl) (Nat.le_of_ble_eq_true rfl) dX9_digest_200 (fun x33 _ => ?_)
      refine X_cSJ0 hg mf_X9_mix m_876 m_875 (fun y e => c_X9_mix g.1 l1 x33 h y e) (As := [.long l1, .int x33]) rfl (Nat.le_of_ble_eq_true rfl) rfl (Nat.le_of_ble_eq_true rfl) (Nat.le_of_ble_eq_true rfl) (Nat.le_of_ble_eq_true rfl) (Nat.le_of_ble_eq_true rfl) dX9_digest_203 (fun x34 _ => ?_)
      refine X_lstore_n hg rfl (Nat.le_of_ble_eq_true rfl) (lv' := [(1, .long x34), (0, .ref (nB g.1 + l0)), (3, .int l3)]) rfl dX9_digest_206 ?_
      refine X_iinc hg 2 rfl (v := (l3 + (nI 1))) (icc ic_i_1) (Nat.le_of_ble_eq_true rfl) (lv' := [(3, .int (l3 + (nI 1))), (1, .long x34), (0, .ref (nB g.1 + l0))]) rfl dX9_digest_207 ?_
      refine X_goto hg (tgt := 192) dX9_digest_210 rfl ?_
      refine X_lv [2, 1, 0] rfl ?_
      exact ih _ _
set_option maxRecDepth 10000 in
theorem j_X9_digest_181 {g : XC} {x0 : Int64 × Hp} (hg : XG g RX9 cX9_digest 4 6 151 0 0) (l0 : Nat) (l1 : Int64) (h : Hp) (hr : XR g (some .long) "digest" (some (.long x0.1)) x0.2 0 0) : Xo g x0 4 0 0 181 [(0, .ref (nB g.1 + l0)), (1, .long l1)] [] h (f_X9_digest_J181 l0 l1 h) := by
  unfold f_X9_digest_J181
  refine X_lload_n hg 1 rfl dX9_digest_181 ?_
  refine X_aload_n hg 0 rfl dX9_digest_182 ?_
  refine X_getR hg (j := 0) cf_9 (Nat.le_of_ble_eq_true rfl) (Or.inl ⟨_, rfl⟩) m_277 dX9_digest_183 (fun x31 _ => ?_)
  refine X_cSJ0 hg mf_X9_mixRow m_886 m_885 (fun y e => c_X9_mixRow g.1 l1 x31 h y e) (As := [.long l1, .ref (nB g.1 + x31)]) rfl (Nat.le_of_ble_eq_true rfl) rfl (Nat.le_of_ble_eq_true rfl) (Nat.le_of_ble_eq_true rfl) (Nat.le_of_ble_eq_true rfl) (Nat.le_of_ble_eq_true rfl) dX9_digest_186 (fun x32 _ => ?_)
  refine X_lstore_n hg rfl (Nat.le_of_ble_eq_true rfl) (lv' := [(1, .long x32), (0, .ref (nB g.1 + l0))]) rfl dX9_digest_189 ?_
  refine X_iconst hg ic_i_0 dX9_digest_190 ?_
  refine X_istore_n hg rfl (Nat.le_of_ble_eq_true rfl) (lv' := [(3, .int (nI 0)), (1, .long x32), (0, .ref (nB g.1 + l0))]) rfl dX9_digest_191 ?_
  refine X_lv [2, 1, 0] rfl ?_
  refine l_X9_digest_192 hg _ _ hr _ (fun y36 => ?_) _ _ _
  refine X_lload_n hg 0 rfl dX9_digest_213 ?_
  exact X_lretW hg hr (Nat.le_of_ble_eq_true rfl) (Nat.le_of_ble_eq_true rfl) dX9_digest_214
set_option maxRecDepth 10000 in
theorem l_X9_digest_153 {g : XC} {x0 : Int64 × Hp} (hg : XG g RX9 cX9_digest 4 6 151 0 0) (l0 : Nat) (hr : XR g (some .long) "digest" (some (.long x0.1)) x0.2 0 0) (K : Int64 → Hp → Option (Int64 × Hp)) (hK0 : ∀ (l1 : Int64) (h : Hp), Xo g x0 4 0 0 175 [(0, .ref (nB g.1 + l0)), (1, .long l1)] [] h (K l1 h)) : ∀ (n : Nat) (l1 : Int64) (l3 : Int32) (h : Hp), Xo g x0 4 0 0 153 [(0, .ref (nB g.1 + l0)), (1, .long l1), (3, .int l3)] [] h (f_X9_digest_L153 l0 K n l1 l3 h) := by
  intro n
  induction n with
  | zero =>
    intro l1 l3 h
    exact X_none
  | succ n ih =>
    intro l1 l3 h
    unfold f_X9_digest_L153
    refine X_iload_n hg 2 rfl dX9_digest_153 ?_
    refine X_bipush hg ic_b_6 dX9_digest_154 ?_
    refine X_icmp_gt hg (tgt := 175) dX9_digest_156 rfl (fun c39 => ?_) (fun c39 => ?_)
    · refine X_lv [0, 1] rfl ?_
      exact hK0 _ _
    · refine X_lload_n hg 1 rfl dX9_digest_159 ?_
      refine X_aload_n hg 0 rfl dX9_digest_160 ?_
      refine X_iload_n hg 2 rfl dX9_digest_161 ?_
      refine X_cVIW0 hg mf_X9_menu m_851 m_852 m_888 cf_9 (fun _ e => gd_isO e) (fun y e => c_X9_menu g.1 l0 l3 h y e) (As := [.int l3]) rfl (Nat.le_of_ble_eq_true rfl) rfl (Nat.le_of_ble_eq_true rfl) (Nat.le_of_ble_eq_true rfl) (Nat.le_of_ble_eq_true rfl) (Nat.le_of_ble_eq_true rfl) dX9_digest_162 (fun p37 _ => ?_)
      refine X_cSJ0 hg mf_X9_mix m_876 m_875 (fun y e => c_X9_mix g.1 l1 p37.1 p37.2 y e) (As := [.long l1, .int p37.1]) rfl (Nat.le_of_ble_eq_true rfl) rfl (Nat.le_of_ble_eq_true rfl) (Nat.le_of_ble_eq_true rfl) (Nat.le_of_ble_eq_true rfl) (Nat.le_of_ble_eq_true rfl) dX9_digest_165 (fun x38 _ => ?_)
      refine X_lstore_n hg rfl (Nat.le_of_ble_eq_true rfl) (lv' := [(1, .long x38), (0, .ref (nB g.1 + l0)), (3, .int l3)]) rfl dX9_digest_168 ?_
      refine X_iinc hg 2 rfl (v := (l3 + (nI 1))) (icc ic_i_1) (Nat.le_of_ble_eq_true rfl) (lv' := [(3, .int (l3 + (nI 1))), (1, .long x38), (0, .ref (nB g.1 + l0))]) rfl dX9_digest_169 ?_
      refine X_goto hg (tgt := 153) dX9_digest_172 rfl ?_
      refine X_lv [2, 1, 0] rfl ?_
      exact ih _ _ _
set_option maxRecDepth 10000 in
theorem c_X9_digest (en : EN) (a0 : Nat) (h : Hp) (x0 : Int64 × Hp) (e : f_X9_digest a0 h = some x0) : Ct en yX9_digest cX9_digest 4 (some .long) 6 151 0 0 [.ref (nB en + a0)] h (some (.long x0.1)) x0.2 := by
  refine Ct.of (by decide) rfl (Nat.le_of_ble_eq_true rfl) e (fun g hen hg hr => ?_)
  subst hen
  unfold f_X9_digest
  refine X_gd ?_
  refine X_ldc2 hg m_874 dX9_digest_0 ?_
  refine X_lstore_n hg rfl (Nat.le_of_ble_eq_true rfl) (lv' := [(1, .long (1571 : Int64)), (0, .ref (nB g.1 + a0))]) rfl dX9_digest_3 ?_
  refine X_bipush hg ic_b_97 dX9_digest_4 ?_
  refine X_istore_n hg rfl (Nat.le_of_ble_eq_true rfl) (lv' := [(3, .int (nI 97)), (1, .long (1571 : Int64)), (0, .ref (nB g.1 + a0))]) rfl dX9_digest_6 ?_
  refine X_lv [2, 1, 0] rfl ?_
  refine l_X9_digest_7 hg _ _ hr _ (fun y5 => ?_) _ _ _
  refine X_aload_n hg 0 rfl dX9_digest_32 ?_
  refine X_lload_n hg 1 rfl dX9_digest_33 ?_
  refine X_cVJW0 hg mf_X9_mixNames m_881 m_26 m_879 cf_9 (fun _ e => gd_isO e) (fun y e => c_X9_mixNames g.1 a0 y5 h y e) (As := [.long y5]) rfl (Nat.le_of_ble_eq_true rfl) rfl (Nat.le_of_ble_eq_true rfl) (Nat.le_of_ble_eq_true rfl) (Nat.le_of_ble_eq_true rfl) (Nat.le_of_ble_eq_true rfl) dX9_digest_34 (fun p6 _ => ?_)
  refine X_lstore_n hg rfl (Nat.le_of_ble_eq_true rfl) (lv' := [(1, .long p6.1), (0, .ref (nB g.1 + a0))]) rfl dX9_digest_37 ?_
  refine X_iconst hg ic_i_0 dX9_digest_38 ?_
  refine X_istore_n hg rfl (Nat.le_of_ble_eq_true rfl) (lv' := [(3, .int (nI 0)), (1, .long p6.1), (0, .ref (nB g.1 + a0))]) rfl dX9_digest_39 ?_
  refine X_lv [2, 1, 0] rfl ?_
  refine l_X9_digest_40 hg _ _ hr _ (fun y10 => ?_) _ _ _
  refine X_lload_n hg 1 rfl dX9_digest_62 ?_
  refine X_aload_n hg 0 rfl dX9_digest_63 ?_
  refine X_getR hg (j := 1) cf_9 (Nat.le_of_ble_eq_true rfl) (Or.inl ⟨_, rfl⟩) m_278 dX9_digest_64 (fun x11 _ => ?_)
  refine X_cSJ0 hg mf_X9_mixRow m_886 m_885 (fun y e => c_X9_mixRow g.1 y10 x11 p6.2 y e) (As := [.long y10, .ref (nB g.1 + x11)]) rfl (Nat.le_of_ble_eq_true rfl) rfl (Nat.le_of_ble_eq_true rfl) (Nat.le_of_ble_eq_true rfl) (Nat.le_of_ble_eq_true rfl) (Nat.le_of_ble_eq_true rfl) dX9_digest_67 (fun x12 _ => ?_)
  refine X_lstore_n hg rfl (Nat.le_of_ble_eq_true rfl) (lv' := [(1, .long x12), (0, .ref (nB g.1 + a0))]) rfl dX9_digest_70 ?_
  refine X_lload_n hg 0 rfl dX9_digest_71 ?_
  refine X_aload_n hg 1 rfl dX9_digest_72 ?_
  refine X_getR hg (j := 5) cf_9 (Nat.le_of_ble_eq_true rfl) (Or.inl ⟨_, rfl⟩) m_282 dX9_digest_73 (fun x13 _ => ?_)
  refine X_aload_n hg 1 rfl dX9_digest_76 ?_
  refine X_getR hg (j := 3) cf_9 (Nat.le_of_ble_eq_true rfl) (Or.inl ⟨_, rfl⟩) m_280 dX9_digest_77 (fun x14 _ => ?_)
  refine X_aload_n hg 1 rfl dX9_digest_80 ?_
  refine X_getR hg (j := 1) cf_9 (Nat.le_of_ble_eq_true rfl) (Or.inl ⟨_, rfl⟩) m_278 dX9_digest_81 (fun x15 _ => ?_)
  refine X_cVAW0 hg mf_X0_listFor m_709 m_710 m_708 cf_0 (fun _ e => gd_isO e) (fun y e => c_X0_listFor g.1 x13 x14 x15 p6.2 y e) (As := [.ref (nB g.1 + x14), .ref (nB g.1 + x15)]) rfl (Nat.le_of_ble_eq_true rfl) rfl (Nat.le_of_ble_eq_true rfl) (Nat.le_of_ble_eq_true rfl) (Nat.le_of_ble_eq_true rfl) (Nat.le_of_ble_eq_true rfl) dX9_digest_84 (fun p16 _ => ?_)
  refine X_cSJ0 hg mf_X9_mixRow m_886 m_885 (fun y e => c_X9_mixRow g.1 x12 p16.1 p16.2 y e) (As := [.long x12, .ref (nB g.1 + p16.1)]) rfl (Nat.le_of_ble_eq_true rfl) rfl (Nat.le_of_ble_eq_true rfl) (Nat.le_of_ble_eq_true rfl) (Nat.le_of_ble_eq_true rfl) (Nat.le_of_ble_eq_true rfl) dX9_digest_87 (fun x17 _ => ?_)
  refine X_lstore_n hg rfl (Nat.le_of_ble_eq_true rfl) (lv' := [(1, .long x17), (0, .ref (nB g.1 + a0))]) rfl dX9_digest_90 ?_
  refine X_aload_n hg 1 rfl dX9_digest_91 ?_
  refine X_getR hg (j := 6) cf_9 (Nat.le_of_ble_eq_true rfl) (Or.inl ⟨_, rfl⟩) m_283 dX9_digest_92 (fun x18 _ => ?_)
  refine X_aload_n hg 1 rfl dX9_digest_95 ?_
  refine X_getR hg (j := 3) cf_9 (Nat.le_of_ble_eq_true rfl) (Or.inl ⟨_, rfl⟩) m_280 dX9_digest_96 (fun x19 _ => ?_)
  refine X_aload_n hg 1 rfl dX9_digest_99 ?_
  refine X_getR hg (j := 1) cf_9 (Nat.le_of_ble_eq_true rfl) (Or.inl ⟨_, rfl⟩) m_278 dX9_digest_100 (fun x20 _ => ?_)
  refine X_cVV0 hg mf_X6_study m_738 m_739 m_737 cf_6 (fun _ e => gd_isO e) (fun y e => c_X6_study g.1 x18 x19 x20 p16.2 y e) (As := [.ref (nB g.1 + x19), .ref (nB g.1 + x20)]) rfl (Nat.le_of_ble_eq_true rfl) rfl (Nat.le_of_ble_eq_true rfl) (Nat.le_of_ble_eq_true rfl) (Nat.le_of_ble_eq_true rfl) (Nat.le_of_ble_eq_true rfl) dX9_digest_103 (fun h21 _ => ?_)
  refine X_iconst hg ic_i_0 dX9_digest_106 ?_
  refine X_istore_n hg rfl (Nat.le_of_ble_eq_true rfl) (lv' := [(3, .int (nI 0)), (1, .long x17), (0, .ref (nB g.1 + a0))]) rfl dX9_digest_107 ?_
  refine X_lv [2, 1, 0] rfl ?_
  refine l_X9_digest_108 hg _ _ hr _ (fun y26 => ?_) _ _ _
  refine X_lload_n hg 1 rfl dX9_digest_132 ?_
  refine X_aload_n hg 0 rfl dX9_digest_133 ?_
  refine X_getR hg (j := 6) cf_9 (Nat.le_of_ble_eq_true rfl) (Or.inl ⟨_, rfl⟩) m_283 dX9_digest_134 (fun x27 _ => ?_)
  refine X_cVA0 hg mf_X6_best m_789 m_790 m_788 cf_6 (fun _ e => gd_isO e) (fun y e => c_X6_best g.1 x27 h21 y e) (As := []) rfl (Nat.le_of_ble_eq_true rfl) rfl (Nat.le_of_ble_eq_true rfl) (Nat.le_of_ble_eq_true rfl) (Nat.le_of_ble_eq_true rfl) (Nat.le_of_ble_eq_true rfl) dX9_digest_137 (fun x28 _ => ?_)
  refine X_cSJ0 hg mf_X9_mixRow m_886 m_885 (fun y e => c_X9_mixRow g.1 y26 x28 h21 y e) (As := [.long y26, .ref (nB g.1 + x28)]) rfl (Nat.le_of_ble_eq_true rfl) rfl (Nat.le_of_ble_eq_true rfl) (Nat.le_of_ble_eq_true rfl) (Nat.le_of_ble_eq_true rfl) (Nat.le_of_ble_eq_true rfl) dX9_digest_140 (fun x29 _ => ?_)
  refine X_lstore_n hg rfl (Nat.le_of_ble_eq_true rfl) (lv' := [(1, .long x29), (0, .ref (nB g.1 + a0))]) rfl dX9_digest_143 ?_
  refine X_aload_n hg 1 rfl dX9_digest_144 ?_
  refine X_getI hg (j := 10) cf_9 (Nat.le_of_ble_eq_true rfl) (Or.inr rfl) m_287 dX9_digest_145 (fun x30 _ => ?_)
  refine X_if_eq hg (tgt := 181) dX9_digest_148 rfl (fun c43 => ?_) (fun c43 => ?_)
  · refine X_lv [1, 0] rfl ?_
    exact j_X9_digest_181 hg _ _ _ hr
  · refine X_iconst hg ic_i_0 dX9_digest_151 ?_
    refine X_istore_n hg rfl (Nat.le_of_ble_eq_true rfl) (lv' := [(3, .int (nI 0)), (1, .long x29), (0, .ref (nB g.1 + a0))]) rfl dX9_digest_152 ?_
    refine X_lv [2, 1, 0] rfl ?_
    refine l_X9_digest_153 hg _ hr _ (fun y40 h41 => ?_) _ _ _ _
    refine X_aload_n hg 0 rfl dX9_digest_175 ?_
    refine X_lload_n hg 1 rfl dX9_digest_176 ?_
    refine X_cVJ0 hg mf_X9_mixPaths m_891 m_27 m_889 cf_9 (fun _ e => gd_isO e) (fun y e => c_X9_mixPaths g.1 a0 y40 h41 y e) (As := [.long y40]) rfl (Nat.le_of_ble_eq_true rfl) rfl (Nat.le_of_ble_eq_true rfl) (Nat.le_of_ble_eq_true rfl) (Nat.le_of_ble_eq_true rfl) (Nat.le_of_ble_eq_true rfl) dX9_digest_177 (fun x42 _ => ?_)
    refine X_lstore_n hg rfl (Nat.le_of_ble_eq_true rfl) (lv' := [(1, .long x42), (0, .ref (nB g.1 + a0))]) rfl dX9_digest_180 ?_
    refine X_lv [1, 0] rfl ?_
    exact j_X9_digest_181 hg _ _ _ hr
