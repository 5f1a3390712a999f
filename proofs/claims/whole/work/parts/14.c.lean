set_option maxRecDepth 10000 in
theorem l_X10_init_178 {g : XC} {x0 : Hp} (hg : XG g RX10 cX10_init 2 1 24 21 2216) (l0 : Nat) (hr : XR g none "<init>" none x0 21 2216) (K : Hp → Option (Hp)) (hK0 : ∀ (h : Hp), Xo g x0 2 21 2216 234 [] [] h (K h)) : ∀ (n : Nat) (l1 : Int32) (h : Hp), Xo g x0 2 21 2216 178 [(0, .ref (nB g.1 + l0)), (1, .int l1)] [] h (f_X10_init_L178 l0 K n l1 h) := by
  intro n
  induction n with
  | zero =>
    intro l1 h
    exact X_none
  | succ n ih =>
    intro l1 h
    unfold f_X10_init_L178
    refine X_iload_n hg 1 rfl dX10_init_178 ?_
    refine X_bipush hg ic_b_26 dX10_init_179 ?_
    refine X_icmp_ge hg (tgt := 234) dX10_init_181 rfl (fun c49 => ?_) (fun c49 => ?_)
    · refine X_lv [] rfl ?_
      exact hK0  _
    · refine X_aload_n hg 0 rfl dX10_init_184 ?_
      refine X_getR hg (j := 9) cf_10 (Nat.le_of_ble_eq_true rfl) (Or.inr ⟨_, rfl⟩) m_909 dX10_init_185 (fun x43 _ => ?_)
      refine X_iload_n hg 1 rfl dX10_init_188 ?_
      refine X_iload_n hg 1 rfl dX10_init_189 ?_
      refine X_bipush hg ic_b_15 dX10_init_190 ?_
      refine X_reg (fun (v44 : Int32) o => Xo g x0 2 21 2216 227 [(0, .ref (nB g.1 + l0)), (1, .int l1)] [.int v44, .int l1, .ref (nB g.1 + x43)] h o) (fun kv44 hk44 => ?_) (fun v44 => ?_)
      · refine X_ib ?_
        refine X_icmp_ge hg (tgt := 203) dX10_init_192 rfl (fun c47 => ?_) (fun c47 => ?_)
        · refine X_iload_n hg 1 rfl dX10_init_203 ?_
          refine X_bipush hg ic_b_19 dX10_init_204 ?_
          refine X_ib ?_
          refine X_icmp_ge hg (tgt := 214) dX10_init_206 rfl (fun c46 => ?_) (fun c46 => ?_)
          · refine X_iload_n hg 1 rfl dX10_init_214 ?_
            refine X_bipush hg ic_b_22 dX10_init_215 ?_
            refine X_ib ?_
            refine X_icmp_ge hg (tgt := 225) dX10_init_217 rfl (fun c45 => ?_) (fun c45 => ?_)
            · refine X_bipush hg ic_b_9 dX10_init_225 ?_
              exact hk44 (nI 9)
            · refine X_bipush hg ic_b_8 dX10_init_220 ?_
              refine X_goto hg (tgt := 227) dX10_init_222 rfl ?_
              exact hk44 (nI 8)
          · refine X_bipush hg ic_b_7 dX10_init_209 ?_
            refine X_goto hg (tgt := 227) dX10_init_211 rfl ?_
            exact hk44 (nI 7)
        · refine X_iconst hg ic_i_2 dX10_init_195 ?_
          refine X_iload_n hg 1 rfl dX10_init_196 ?_
          refine X_iconst hg ic_i_3 dX10_init_197 ?_
          refine X_idiv hg (by decide) dX10_init_198 ?_
          refine X_iadd hg dX10_init_199 ?_
          refine X_goto hg (tgt := 227) dX10_init_200 rfl ?_
          exact hk44 ((nI 2) + (l1 / (nI 3)))
      · refine X_ast hg dX10_init_227 (fun h48 _ => ?_)
        refine X_iinc hg 1 rfl (v := (l1 + (nI 1))) (icc ic_i_1) (Nat.le_of_ble_eq_true rfl) (lv' := [(1, .int (l1 + (nI 1))), (0, .ref (nB g.1 + l0))]) rfl dX10_init_228 ?_
        refine X_goto hg (tgt := 178) dX10_init_231 rfl ?_
        refine X_lv [1, 0] rfl ?_
        exact ih _ _
set_option maxRecDepth 10000 in
theorem c_X10_init (en : EN) (a0 : Nat) (h : Hp) (x0 : Hp) (e : f_X10_init a0 h = some x0) : Ct en yX10_init cX10_init 2 none 1 24 21 2216 [.ref (nB en + a0)] h none x0 := by
  refine Ct.of (by decide) rfl (Nat.le_of_ble_eq_true rfl) e (fun g hen hg hr => ?_)
  subst hen
  unfold f_X10_init
  refine X_gd ?_
  refine X_aload_n hg 0 rfl dX10_init_0 ?_
  refine X_obji hg m_899 m_oi m_oc (Nat.le_of_ble_eq_true rfl) (Nat.le_of_ble_eq_true rfl) dX10_init_1 ?_
  refine X_aload_n hg 0 rfl dX10_init_4 ?_
  refine X_bipush hg ic_b_50 dX10_init_5 ?_
  refine X_newA hg m_arrI (Nat.le_of_ble_eq_true rfl) (Nat.le_of_ble_eq_true rfl) (Nat.le_of_ble_eq_true rfl) dX10_init_7 (fun h1 _ => ?_)
  refine X_putRF hg hr.2.2.1 (j := 1) cf_10 (Nat.le_of_ble_eq_true rfl) rfl rfl (Or.inr ⟨_, rfl⟩) m_901 dX10_init_9 (fun h2 _ => ?_)
  refine X_aload_n hg 0 rfl dX10_init_12 ?_
  refine X_bipush hg ic_b_14 dX10_init_13 ?_
  refine X_newA hg m_arrI (Nat.le_of_ble_eq_true rfl) (Nat.le_of_ble_eq_true rfl) (Nat.le_of_ble_eq_true rfl) dX10_init_15 (fun h3 _ => ?_)
  refine X_putRF hg hr.2.2.1 (j := 3) cf_10 (Nat.le_of_ble_eq_true rfl) rfl rfl (Or.inr ⟨_, rfl⟩) m_903 dX10_init_17 (fun h4 _ => ?_)
  refine X_aload_n hg 0 rfl dX10_init_20 ?_
  refine X_bipush hg ic_b_112 dX10_init_21 ?_
  refine X_newA hg m_arrI (Nat.le_of_ble_eq_true rfl) (Nat.le_of_ble_eq_true rfl) (Nat.le_of_ble_eq_true rfl) dX10_init_23 (fun h5 _ => ?_)
  refine X_putRF hg hr.2.2.1 (j := 4) cf_10 (Nat.le_of_ble_eq_true rfl) rfl rfl (Or.inr ⟨_, rfl⟩) m_904 dX10_init_25 (fun h6 _ => ?_)
  refine X_aload_n hg 0 rfl dX10_init_28 ?_
  refine X_bipush hg ic_b_14 dX10_init_29 ?_
  refine X_newA hg m_arrI (Nat.le_of_ble_eq_true rfl) (Nat.le_of_ble_eq_true rfl) (Nat.le_of_ble_eq_true rfl) dX10_init_31 (fun h7 _ => ?_)
  refine X_putRF hg hr.2.2.1 (j := 5) cf_10 (Nat.le_of_ble_eq_true rfl) rfl rfl (Or.inr ⟨_, rfl⟩) m_905 dX10_init_33 (fun h8 _ => ?_)
  refine X_aload_n hg 0 rfl dX10_init_36 ?_
  refine X_bipush hg ic_b_26 dX10_init_37 ?_
  refine X_newA hg m_arrI (Nat.le_of_ble_eq_true rfl) (Nat.le_of_ble_eq_true rfl) (Nat.le_of_ble_eq_true rfl) dX10_init_39 (fun h9 _ => ?_)
  refine X_putRF hg hr.2.2.1 (j := 9) cf_10 (Nat.le_of_ble_eq_true rfl) rfl rfl (Or.inr ⟨_, rfl⟩) m_909 dX10_init_41 (fun h10 _ => ?_)
  refine X_aload_n hg 0 rfl dX10_init_44 ?_
  refine X_bipush hg ic_b_10 dX10_init_45 ?_
  refine X_newA hg m_arrI (Nat.le_of_ble_eq_true rfl) (Nat.le_of_ble_eq_true rfl) (Nat.le_of_ble_eq_true rfl) dX10_init_47 (fun h11 _ => ?_)
  refine X_putRF hg hr.2.2.1 (j := 11) cf_10 (Nat.le_of_ble_eq_true rfl) rfl rfl (Or.inr ⟨_, rfl⟩) m_911 dX10_init_49 (fun h12 _ => ?_)
  refine X_aload_n hg 0 rfl dX10_init_52 ?_
  refine X_bipush hg ic_b_14 dX10_init_53 ?_
  refine X_newA hg m_arrI (Nat.le_of_ble_eq_true rfl) (Nat.le_of_ble_eq_true rfl) (Nat.le_of_ble_eq_true rfl) dX10_init_55 (fun h13 _ => ?_)
  refine X_putRF hg hr.2.2.1 (j := 13) cf_10 (Nat.le_of_ble_eq_true rfl) rfl rfl (Or.inr ⟨_, rfl⟩) m_913 dX10_init_57 (fun h14 _ => ?_)
  refine X_aload_n hg 0 rfl dX10_init_60 ?_
  refine X_sipush hg ic_s_196 dX10_init_61 ?_
  refine X_newA hg m_arrI (Nat.le_of_ble_eq_true rfl) (Nat.le_of_ble_eq_true rfl) (Nat.le_of_ble_eq_true rfl) dX10_init_64 (fun h15 _ => ?_)
  refine X_putRF hg hr.2.2.1 (j := 14) cf_10 (Nat.le_of_ble_eq_true rfl) rfl rfl (Or.inr ⟨_, rfl⟩) m_914 dX10_init_66 (fun h16 _ => ?_)
  refine X_aload_n hg 0 rfl dX10_init_69 ?_
  refine X_bipush hg ic_b_14 dX10_init_70 ?_
  refine X_newA hg m_arrI (Nat.le_of_ble_eq_true rfl) (Nat.le_of_ble_eq_true rfl) (Nat.le_of_ble_eq_true rfl) dX10_init_72 (fun h17 _ => ?_)
  refine X_putRF hg hr.2.2.1 (j := 18) cf_10 (Nat.le_of_ble_eq_true rfl) rfl rfl (Or.inr ⟨_, rfl⟩) m_918 dX10_init_74 (fun h18 _ => ?_)
  refine X_aload_n hg 0 rfl dX10_init_77 ?_
  refine X_bipush hg ic_b_112 dX10_init_78 ?_
  refine X_newA hg m_arrI (Nat.le_of_ble_eq_true rfl) (Nat.le_of_ble_eq_true rfl) (Nat.le_of_ble_eq_true rfl) dX10_init_80 (fun h19 _ => ?_)
  refine X_putRF hg hr.2.2.1 (j := 19) cf_10 (Nat.le_of_ble_eq_true rfl) rfl rfl (Or.inr ⟨_, rfl⟩) m_919 dX10_init_82 (fun h20 _ => ?_)
  refine X_aload_n hg 0 rfl dX10_init_85 ?_
  refine X_bipush hg ic_b_14 dX10_init_86 ?_
  refine X_newA hg m_arrI (Nat.le_of_ble_eq_true rfl) (Nat.le_of_ble_eq_true rfl) (Nat.le_of_ble_eq_true rfl) dX10_init_88 (fun h21 _ => ?_)
  refine X_putRF hg hr.2.2.1 (j := 20) cf_10 (Nat.le_of_ble_eq_true rfl) rfl rfl (Or.inr ⟨_, rfl⟩) m_920 dX10_init_90 (fun h22 _ => ?_)
  refine X_aload_n hg 0 rfl dX10_init_93 ?_
  refine X_bipush hg ic_b_26 dX10_init_94 ?_
  refine X_newA hg m_arrI (Nat.le_of_ble_eq_true rfl) (Nat.le_of_ble_eq_true rfl) (Nat.le_of_ble_eq_true rfl) dX10_init_96 (fun h23 _ => ?_)
  refine X_putRF hg hr.2.2.1 (j := 21) cf_10 (Nat.le_of_ble_eq_true rfl) rfl rfl (Or.inr ⟨_, rfl⟩) m_921 dX10_init_98 (fun h24 _ => ?_)
  refine X_aload_n hg 0 rfl dX10_init_101 ?_
  refine X_bipush hg ic_b_11 dX10_init_102 ?_
  refine X_newA hg m_arrI (Nat.le_of_ble_eq_true rfl) (Nat.le_of_ble_eq_true rfl) (Nat.le_of_ble_eq_true rfl) dX10_init_104 (fun h25 _ => ?_)
  refine X_putRF hg hr.2.2.1 (j := 22) cf_10 (Nat.le_of_ble_eq_true rfl) rfl rfl (Or.inr ⟨_, rfl⟩) m_922 dX10_init_106 (fun h26 _ => ?_)
  refine X_aload_n hg 0 rfl dX10_init_109 ?_
  refine X_bipush hg ic_b_11 dX10_init_110 ?_
  refine X_newA hg m_arrI (Nat.le_of_ble_eq_true rfl) (Nat.le_of_ble_eq_true rfl) (Nat.le_of_ble_eq_true rfl) dX10_init_112 (fun h27 _ => ?_)
  refine X_putRF hg hr.2.2.1 (j := 23) cf_10 (Nat.le_of_ble_eq_true rfl) rfl rfl (Or.inr ⟨_, rfl⟩) m_923 dX10_init_114 (fun h28 _ => ?_)
  refine X_aload_n hg 0 rfl dX10_init_117 ?_
  refine X_bipush hg ic_b_11 dX10_init_118 ?_
  refine X_newA hg m_arrI (Nat.le_of_ble_eq_true rfl) (Nat.le_of_ble_eq_true rfl) (Nat.le_of_ble_eq_true rfl) dX10_init_120 (fun h29 _ => ?_)
  refine X_putRF hg hr.2.2.1 (j := 24) cf_10 (Nat.le_of_ble_eq_true rfl) rfl rfl (Or.inr ⟨_, rfl⟩) m_924 dX10_init_122 (fun h30 _ => ?_)
  refine X_aload_n hg 0 rfl dX10_init_125 ?_
  refine X_bipush hg ic_b_11 dX10_init_126 ?_
  refine X_newA hg m_arrI (Nat.le_of_ble_eq_true rfl) (Nat.le_of_ble_eq_true rfl) (Nat.le_of_ble_eq_true rfl) dX10_init_128 (fun h31 _ => ?_)
  refine X_putRF hg hr.2.2.1 (j := 25) cf_10 (Nat.le_of_ble_eq_true rfl) rfl rfl (Or.inr ⟨_, rfl⟩) m_925 dX10_init_130 (fun h32 _ => ?_)
  refine X_aload_n hg 0 rfl dX10_init_133 ?_
  refine X_sipush hg ic_s_225 dX10_init_134 ?_
  refine X_newA hg m_arrI (Nat.le_of_ble_eq_true rfl) (Nat.le_of_ble_eq_true rfl) (Nat.le_of_ble_eq_true rfl) dX10_init_137 (fun h33 _ => ?_)
  refine X_putRF hg hr.2.2.1 (j := 26) cf_10 (Nat.le_of_ble_eq_true rfl) rfl rfl (Or.inr ⟨_, rfl⟩) m_926 dX10_init_139 (fun h34 _ => ?_)
  refine X_aload_n hg 0 rfl dX10_init_142 ?_
  refine X_sipush hg ic_s_1125 dX10_init_143 ?_
  refine X_newA hg m_arrI (Nat.le_of_ble_eq_true rfl) (Nat.le_of_ble_eq_true rfl) (Nat.le_of_ble_eq_true rfl) dX10_init_146 (fun h35 _ => ?_)
  refine X_putRF hg hr.2.2.1 (j := 27) cf_10 (Nat.le_of_ble_eq_true rfl) rfl rfl (Or.inr ⟨_, rfl⟩) m_927 dX10_init_148 (fun h36 _ => ?_)
  refine X_aload_n hg 0 rfl dX10_init_151 ?_
  refine X_bipush hg ic_b_14 dX10_init_152 ?_
  refine X_newA hg m_arrI (Nat.le_of_ble_eq_true rfl) (Nat.le_of_ble_eq_true rfl) (Nat.le_of_ble_eq_true rfl) dX10_init_154 (fun h37 _ => ?_)
  refine X_putRF hg hr.2.2.1 (j := 28) cf_10 (Nat.le_of_ble_eq_true rfl) rfl rfl (Or.inr ⟨_, rfl⟩) m_928 dX10_init_156 (fun h38 _ => ?_)
  refine X_aload_n hg 0 rfl dX10_init_159 ?_
  refine X_sipush hg ic_s_196 dX10_init_160 ?_
  refine X_newA hg m_arrI (Nat.le_of_ble_eq_true rfl) (Nat.le_of_ble_eq_true rfl) (Nat.le_of_ble_eq_true rfl) dX10_init_163 (fun h39 _ => ?_)
  refine X_putRF hg hr.2.2.1 (j := 29) cf_10 (Nat.le_of_ble_eq_true rfl) rfl rfl (Or.inr ⟨_, rfl⟩) m_929 dX10_init_165 (fun h40 _ => ?_)
  refine X_aload_n hg 0 rfl dX10_init_168 ?_
  refine X_bipush hg ic_b_10 dX10_init_169 ?_
  refine X_newA hg m_arrI (Nat.le_of_ble_eq_true rfl) (Nat.le_of_ble_eq_true rfl) (Nat.le_of_ble_eq_true rfl) dX10_init_171 (fun h41 _ => ?_)
  refine X_putRF hg hr.2.2.1 (j := 31) cf_10 (Nat.le_of_ble_eq_true rfl) rfl rfl (Or.inr ⟨_, rfl⟩) m_931 dX10_init_173 (fun h42 _ => ?_)
  refine X_iconst hg ic_i_0 dX10_init_176 ?_
  refine X_istore_n hg rfl (Nat.le_of_ble_eq_true rfl) (lv' := [(1, .int (nI 0)), (0, .ref (nB g.1 + a0))]) rfl dX10_init_177 ?_
  refine X_lv [1, 0] rfl ?_
  refine l_X10_init_178 hg _ hr _ (fun h50 => ?_) _ _ _
  exact X_vret hg hr (Nat.le_of_ble_eq_true rfl) (Nat.le_of_ble_eq_true rfl) dX10_init_234
set_option maxRecDepth 10000 in
theorem c_X10_within (en : EN) (a0 : Int32) (a1 : Int32) (a2 : Int32) (h : Hp) (x0 : Int32) (e : f_X10_within a0 a1 a2 h = some x0) : Ct en yX10_within cX10_within 3 (some .boolean) 0 0 0 0 [.int a0, .int a1, .int a2] h (some (.int x0)) h := by
  refine Ct.of (by decide) rfl (Nat.le_of_ble_eq_true rfl) e (fun g hen hg hr => ?_)
  subst hen
  unfold f_X10_within
  refine X_iload_n hg 0 rfl dX10_within_0 ?_
  refine X_iload_n hg 1 rfl dX10_within_1 ?_
  refine X_reg (fun (v1 : Int32) o => Xo g x0 3 0 0 15 [] [.int v1] h o) (fun kv1 hk1 => ?_) (fun v1 => ?_)
  · refine X_ib ?_
    refine X_icmp_lt hg (tgt := 14) dX10_within_2 rfl (fun c3 => ?_) (fun c3 => ?_)
    · refine X_iconst hg ic_i_0 dX10_within_14 ?_
      refine X_lv [] rfl ?_
      exact hk1 (nI 0)
    · refine X_iload_n hg 0 rfl dX10_within_5 ?_
      refine X_iload_n hg 2 rfl dX10_within_6 ?_
      refine X_ib ?_
      refine X_icmp_gt hg (tgt := 14) dX10_within_7 rfl (fun c2 => ?_) (fun c2 => ?_)
      · refine X_iconst hg ic_i_0 dX10_within_14 ?_
        refine X_lv [] rfl ?_
        exact hk1 (nI 0)
      · refine X_iconst hg ic_i_1 dX10_within_10 ?_
        refine X_goto hg (tgt := 15) dX10_within_11 rfl ?_
        refine X_lv [] rfl ?_
        exact hk1 (nI 1)
  · exact X_zret hg hr (Nat.le_of_ble_eq_true rfl) (Nat.le_of_ble_eq_true rfl) dX10_within_15
set_option maxRecDepth 10000 in
theorem c_X10_letter (en : EN) (a0 : Nat) (a1 : Int32) (h : Hp) (x0 : Int32 × Hp) (e : f_X10_letter a0 a1 h = some x0) : Ct en yX10_letter cX10_letter 2 (some .int) 1 22 0 0 [.ref (nB en + a0), .int a1] h (some (.int x0.1)) x0.2 := by
  refine Ct.of (by decide) rfl (Nat.le_of_ble_eq_true rfl) e (fun g hen hg hr => ?_)
  subst hen
  unfold f_X10_letter
  refine X_gd ?_
  refine X_iload_n hg 1 rfl dX10_letter_0 ?_
  refine X_bipush hg ic_b_32 dX10_letter_1 ?_
  refine X_bipush hg ic_b_126 dX10_letter_3 ?_
  refine X_cSI0 hg mf_X10_within m_1005 m_1004 (fun y e => c_X10_within g.1 a1 (nI 32) (nI 126) h y e) (As := [.int a1, .int (nI 32), .int (nI 126)]) rfl (Nat.le_of_ble_eq_true rfl) rfl (Nat.le_of_ble_eq_true rfl) (Nat.le_of_ble_eq_true rfl) (Nat.le_of_ble_eq_true rfl) (Nat.le_of_ble_eq_true rfl) dX10_letter_5 (fun x1 _ => ?_)
  refine X_if_ne hg (tgt := 14) dX10_letter_8 rfl (fun c10 => ?_) (fun c10 => ?_)
  · refine X_bipush hg ic_b_m102 dX10_letter_11 ?_
    exact X_iretW hg hr (Nat.le_of_ble_eq_true rfl) (Nat.le_of_ble_eq_true rfl) dX10_letter_13
  · refine X_aload_n hg 0 rfl dX10_letter_14 ?_
    refine X_getI hg (j := 0) cf_10 (Nat.le_of_ble_eq_true rfl) (Or.inl rfl) m_900 dX10_letter_15 (fun x2 _ => ?_)
    refine X_bipush hg ic_b_50 dX10_letter_18 ?_
    refine X_icmp_ne hg (tgt := 26) dX10_letter_20 rfl (fun c9 => ?_) (fun c9 => ?_)
    · refine X_bipush hg ic_b_m104 dX10_letter_23 ?_
      exact X_iretW hg hr (Nat.le_of_ble_eq_true rfl) (Nat.le_of_ble_eq_true rfl) dX10_letter_25
    · refine X_aload_n hg 0 rfl dX10_letter_26 ?_
      refine X_getR hg (j := 1) cf_10 (Nat.le_of_ble_eq_true rfl) (Or.inr ⟨_, rfl⟩) m_901 dX10_letter_27 (fun x3 _ => ?_)
      refine X_aload_n hg 0 rfl dX10_letter_30 ?_
      refine X_getI hg (j := 0) cf_10 (Nat.le_of_ble_eq_true rfl) (Or.inl rfl) m_900 dX10_letter_31 (fun x4 _ => ?_)
      refine X_iload_n hg 1 rfl dX10_letter_34 ?_
      refine X_ast hg dX10_letter_35 (fun h5 _ => ?_)
      refine X_aload_n hg 0 rfl dX10_letter_36 ?_
      refine X_dup hg rfl dX10_letter_37 ?_
      refine X_getI hg (j := 0) cf_10 (Nat.le_of_ble_eq_true rfl) (Or.inl rfl) m_900 dX10_letter_38 (fun x6 _ => ?_)
      refine X_iconst hg ic_i_1 dX10_letter_41 ?_
      refine X_iadd hg dX10_letter_42 ?_
      refine X_putI hg (j := 0) cf_10 (Nat.le_of_ble_eq_true rfl) rfl (Or.inl rfl) m_900 dX10_letter_43 (fun h7 _ => ?_)
      refine X_aload_n hg 0 rfl dX10_letter_46 ?_
      refine X_getI hg (j := 0) cf_10 (Nat.le_of_ble_eq_true rfl) (Or.inl rfl) m_900 dX10_letter_47 (fun x8 _ => ?_)
      exact X_iretW hg hr (Nat.le_of_ble_eq_true rfl) (Nat.le_of_ble_eq_true rfl) dX10_letter_50
set_option maxRecDepth 10000 in
theorem c_X10_blank (en : EN) (a0 : Nat) (h : Hp) (x0 : Int32 × Hp) (e : f_X10_blank a0 h = some x0) : Ct en yX10_blank cX10_blank 2 (some .int) 0 0 0 0 [.ref (nB en + a0)] h (some (.int x0.1)) x0.2 := by
  refine Ct.of (by decide) rfl (Nat.le_of_ble_eq_true rfl) e (fun g hen hg hr => ?_)
  subst hen
  unfold f_X10_blank
  refine X_gd ?_
  refine X_aload_n hg 0 rfl dX10_blank_0 ?_
  refine X_getI hg (j := 0) cf_10 (Nat.le_of_ble_eq_true rfl) (Or.inl rfl) m_900 dX10_blank_1 (fun x1 _ => ?_)
  refine X_istore_n hg rfl (Nat.le_of_ble_eq_true rfl) (lv' := [(1, .int x1), (0, .ref (nB g.1 + a0))]) rfl dX10_blank_4 ?_
  refine X_aload_n hg 1 rfl dX10_blank_5 ?_
  refine X_iconst hg ic_i_0 dX10_blank_6 ?_
  refine X_putI hg (j := 0) cf_10 (Nat.le_of_ble_eq_true rfl) rfl (Or.inl rfl) m_900 dX10_blank_7 (fun h2 _ => ?_)
  refine X_iload_n hg 0 rfl dX10_blank_10 ?_
  exact X_iretW hg hr (Nat.le_of_ble_eq_true rfl) (Nat.le_of_ble_eq_true rfl) dX10_blank_11
set_option maxRecDepth 10000 in
theorem c_X10_goes (en : EN) (a0 : Nat) (a1 : Int32) (a2 : Int32) (h : Hp) (x0 : Int32 × Hp) (e : f_X10_goes a0 a1 a2 h = some x0) : Ct en yX10_goes cX10_goes 3 (some .boolean) 0 0 0 0 [.ref (nB en + a0), .int a1, .int a2] h (some (.int x0.1)) x0.2 := by
  refine Ct.of (by decide) rfl (Nat.le_of_ble_eq_true rfl) e (fun g hen hg hr => ?_)
  subst hen
  unfold f_X10_goes
  refine X_gd ?_
  refine X_aload_n hg 0 rfl dX10_goes_0 ?_
  refine X_iload_n hg 1 rfl dX10_goes_1 ?_
  refine X_reg (fun (v1 : Int32) o => Xo g x0 3 0 0 13 [(1, .int a1)] [.int v1, .ref (nB g.1 + a0)] h o) (fun kv1 hk1 => ?_) (fun v1 => ?_)
  · refine X_ib ?_
    refine X_if_eq hg (tgt := 9) dX10_goes_2 rfl (fun c3 => ?_) (fun c3 => ?_)
    · refine X_aload_n hg 0 rfl dX10_goes_9 ?_
      refine X_as ?_
      refine X_getI hg (j := 16) cf_10 (Nat.le_of_ble_eq_true rfl) (Or.inl rfl) m_916 dX10_goes_10 (fun x2 _ => ?_)
      refine X_lv [1] rfl ?_
      exact hk1 x2
    · refine X_iload_n hg 2 rfl dX10_goes_5 ?_
      refine X_goto hg (tgt := 13) dX10_goes_6 rfl ?_
      refine X_lv [1] rfl ?_
      exact hk1 a2
  · refine X_putI hg (j := 16) cf_10 (Nat.le_of_ble_eq_true rfl) rfl (Or.inl rfl) m_916 dX10_goes_13 (fun h4 _ => ?_)
    refine X_iload_n hg 0 rfl dX10_goes_16 ?_
    exact X_zretW hg hr (Nat.le_of_ble_eq_true rfl) (Nat.le_of_ble_eq_true rfl) dX10_goes_17
set_option maxRecDepth 10000 in
theorem l_X10_isNewTwice_39 {g : XC} {x0 : Int32} (hg : XG g RX10 cX10_isNewTwice 5 0 0 0 0) (l0 : Nat) (l1 : Int32) (l2 : Int32) (h : Hp) (hr : XR g (some .boolean) "isNewTwice" (some (.int x0)) h 0 0) (K : Int32 → Option (Int32)) (hK0 : ∀ (l3 : Int32), Xo g x0 5 0 0 99 [(0, .ref (nB g.1 + l0)), (1, .int l1), (2, .int l2), (3, .int l3)] [] h (K l3)) : ∀ (n : Nat) (l3 : Int32) (l4 : Int32), Xo g x0 5 0 0 39 [(0, .ref (nB g.1 + l0)), (1, .int l1), (2, .int l2), (3, .int l3), (4, .int l4)] [] h (f_X10_isNewTwice_L39 l0 l1 l2 h K n l3 l4) := by
  intro n
  induction n with
  | zero =>
    intro l3 l4
    exact X_none
  | succ n ih =>
    intro l3 l4
    unfold f_X10_isNewTwice_L39
    refine X_iload hg 4 rfl dX10_isNewTwice_39 ?_
    refine X_aload_n hg 0 rfl dX10_isNewTwice_41 ?_
    refine X_getR hg (j := 18) cf_10 (Nat.le_of_ble_eq_true rfl) (Or.inr ⟨_, rfl⟩) m_918 dX10_isNewTwice_42 (fun x9 _ => ?_)
    refine X_aload_n hg 0 rfl dX10_isNewTwice_45 ?_
    refine X_getI hg (j := 17) cf_10 (Nat.le_of_ble_eq_true rfl) (Or.inl rfl) m_917 dX10_isNewTwice_46 (fun x10 _ => ?_)
    refine X_ald hg dX10_isNewTwice_49 (fun x11 _ => ?_)
    refine X_icmp_ge hg (tgt := 99) dX10_isNewTwice_50 rfl (fun c20 => ?_) (fun c20 => ?_)
    · refine X_lv [0, 1, 2, 3] rfl ?_
      exact hK0 _
    · refine X_iload_n hg 3 rfl dX10_isNewTwice_53 ?_
      refine X_reg (fun (v12 : Int32) o => Xo g x0 5 0 0 92 [(0, .ref (nB g.1 + l0)), (1, .int l1), (2, .int l2), (4, .int l4)] [.int v12] h o) (fun kv12 hk12 => ?_) (fun v12 => ?_)
      · refine X_ib ?_
        refine X_if_eq hg (tgt := 91) dX10_isNewTwice_54 rfl (fun c19 => ?_) (fun c19 => ?_)
        · refine X_iconst hg ic_i_0 dX10_isNewTwice_91 ?_
          refine X_lv [0, 1, 2, 4] rfl ?_
          exact hk12 (nI 0)
        · refine X_aload_n hg 0 rfl dX10_isNewTwice_57 ?_
          refine X_as ?_
          refine X_getR hg (j := 19) cf_10 (Nat.le_of_ble_eq_true rfl) (Or.inr ⟨_, rfl⟩) m_919 dX10_isNewTwice_58 (fun x13 _ => ?_)
          refine X_bipush hg ic_b_8 dX10_isNewTwice_61 ?_
          refine X_iload_n hg 2 rfl dX10_isNewTwice_63 ?_
          refine X_imul hg dX10_isNewTwice_64 ?_
          refine X_iload hg 4 rfl dX10_isNewTwice_65 ?_
          refine X_iadd hg dX10_isNewTwice_67 ?_
          refine X_as ?_
          refine X_ald hg dX10_isNewTwice_68 (fun x14 _ => ?_)
          refine X_aload_n hg 0 rfl dX10_isNewTwice_69 ?_
          refine X_as ?_
          refine X_getR hg (j := 19) cf_10 (Nat.le_of_ble_eq_true rfl) (Or.inr ⟨_, rfl⟩) m_919 dX10_isNewTwice_70 (fun x15 _ => ?_)
          refine X_bipush hg ic_b_8 dX10_isNewTwice_73 ?_
          refine X_aload_n hg 0 rfl dX10_isNewTwice_75 ?_
          refine X_as ?_
          refine X_getI hg (j := 17) cf_10 (Nat.le_of_ble_eq_true rfl) (Or.inl rfl) m_917 dX10_isNewTwice_76 (fun x16 _ => ?_)
          refine X_imul hg dX10_isNewTwice_79 ?_
          refine X_iload hg 4 rfl dX10_isNewTwice_80 ?_
          refine X_iadd hg dX10_isNewTwice_82 ?_
          refine X_as ?_
          refine X_ald hg dX10_isNewTwice_83 (fun x17 _ => ?_)
          refine X_ib ?_
          refine X_icmp_ne hg (tgt := 91) dX10_isNewTwice_84 rfl (fun c18 => ?_) (fun c18 => ?_)
          · refine X_iconst hg ic_i_1 dX10_isNewTwice_87 ?_
            refine X_goto hg (tgt := 92) dX10_isNewTwice_88 rfl ?_
            refine X_lv [0, 1, 2, 4] rfl ?_
            exact hk12 (nI 1)
          · refine X_iconst hg ic_i_0 dX10_isNewTwice_91 ?_
            refine X_lv [0, 1, 2, 4] rfl ?_
            exact hk12 (nI 0)
      · refine X_istore_n hg rfl (Nat.le_of_ble_eq_true rfl) (lv' := [(3, .int v12), (0, .ref (nB g.1 + l0)), (1, .int l1), (2, .int l2), (4, .int l4)]) rfl dX10_isNewTwice_92 ?_
        refine X_iinc hg 4 rfl (v := (l4 + (nI 1))) (icc ic_i_1) (Nat.le_of_ble_eq_true rfl) (lv' := [(4, .int (l4 + (nI 1))), (3, .int v12), (0, .ref (nB g.1 + l0)), (1, .int l1), (2, .int l2)]) rfl dX10_isNewTwice_93 ?_
        refine X_goto hg (tgt := 39) dX10_isNewTwice_96 rfl ?_
        refine X_lv [2, 3, 4, 1, 0] rfl ?_
        exact ih _ _
set_option maxRecDepth 10000 in
theorem l_X10_isNewTwice_4 {g : XC} {x0 : Int32} (hg : XG g RX10 cX10_isNewTwice 5 0 0 0 0) (l0 : Nat) (h : Hp) (hr : XR g (some .boolean) "isNewTwice" (some (.int x0)) h 0 0) (K : Int32 → Option (Int32)) (hK0 : ∀ (l1 : Int32), Xo g x0 5 0 0 119 [(1, .int l1)] [] h (K l1)) : ∀ (n : Nat) (l1 : Int32) (l2 : Int32), Xo g x0 5 0 0 4 [(0, .ref (nB g.1 + l0)), (1, .int l1), (2, .int l2)] [] h (f_X10_isNewTwice_L4 l0 h K n l1 l2) := by
  intro n
  induction n with
  | zero =>
    intro l1 l2
    exact X_none
  | succ n ih =>
    intro l1 l2
    unfold f_X10_isNewTwice_L4
    refine X_iload_n hg 2 rfl dX10_isNewTwice_4 ?_
    refine X_aload_n hg 0 rfl dX10_isNewTwice_5 ?_
    refine X_getI hg (j := 17) cf_10 (Nat.le_of_ble_eq_true rfl) (Or.inl rfl) m_917 dX10_isNewTwice_6 (fun x1 _ => ?_)
    refine X_icmp_ge hg (tgt := 119) dX10_isNewTwice_9 rfl (fun c25 => ?_) (fun c25 => ?_)
    · refine X_lv [1] rfl ?_
      exact hK0 _
    · refine X_aload_n hg 0 rfl dX10_isNewTwice_12 ?_
      refine X_getR hg (j := 18) cf_10 (Nat.le_of_ble_eq_true rfl) (Or.inr ⟨_, rfl⟩) m_918 dX10_isNewTwice_13 (fun x2 _ => ?_)
      refine X_iload_n hg 2 rfl dX10_isNewTwice_16 ?_
      refine X_ald hg dX10_isNewTwice_17 (fun x3 _ => ?_)
      refine X_aload_n hg 0 rfl dX10_isNewTwice_18 ?_
      refine X_getR hg (j := 18) cf_10 (Nat.le_of_ble_eq_true rfl) (Or.inr ⟨_, rfl⟩) m_918 dX10_isNewTwice_19 (fun x4 _ => ?_)
      refine X_aload_n hg 0 rfl dX10_isNewTwice_22 ?_
      refine X_getI hg (j := 17) cf_10 (Nat.le_of_ble_eq_true rfl) (Or.inl rfl) m_917 dX10_isNewTwice_23 (fun x5 _ => ?_)
      refine X_ald hg dX10_isNewTwice_26 (fun x6 _ => ?_)
      refine X_reg (fun (v7 : Int32) o => Xo g x0 5 0 0 35 [(0, .ref (nB g.1 + l0)), (1, .int l1), (2, .int l2)] [.int v7] h o) (fun kv7 hk7 => ?_) (fun v7 => ?_)
      · refine X_ib ?_
        refine X_icmp_ne hg (tgt := 34) dX10_isNewTwice_27 rfl (fun c8 => ?_) (fun c8 => ?_)
        · refine X_iconst hg ic_i_1 dX10_isNewTwice_30 ?_
          refine X_goto hg (tgt := 35) dX10_isNewTwice_31 rfl ?_
          exact hk7 (nI 1)
        · refine X_iconst hg ic_i_0 dX10_isNewTwice_34 ?_
          exact hk7 (nI 0)
      · refine X_istore_n hg rfl (Nat.le_of_ble_eq_true rfl) (lv' := [(3, .int v7), (0, .ref (nB g.1 + l0)), (1, .int l1), (2, .int l2)]) rfl dX10_isNewTwice_35 ?_
        refine X_iconst hg ic_i_0 dX10_isNewTwice_36 ?_
        refine X_istore hg (Nat.le_of_ble_eq_true rfl) (lv' := [(4, .int (nI 0)), (3, .int v7), (0, .ref (nB g.1 + l0)), (1, .int l1), (2, .int l2)]) rfl dX10_isNewTwice_37 ?_
        refine X_lv [2, 3, 4, 1, 0] rfl ?_
        refine l_X10_isNewTwice_39 hg _ _ _ _ hr _ (fun y21 => ?_) _ _ _
        refine X_iload_n hg 1 rfl dX10_isNewTwice_99 ?_
        refine X_reg (fun (v22 : Int32) o => Xo g x0 5 0 0 112 [(0, .ref (nB g.1 + l0)), (2, .int l2)] [.int v22] h o) (fun kv22 hk22 => ?_) (fun v22 => ?_)
        · refine X_ib ?_
          refine X_if_ne hg (tgt := 107) dX10_isNewTwice_100 rfl (fun c24 => ?_) (fun c24 => ?_)
          · refine X_iload_n hg 3 rfl dX10_isNewTwice_103 ?_
            refine X_ib ?_
            refine X_if_eq hg (tgt := 111) dX10_isNewTwice_104 rfl (fun c23 => ?_) (fun c23 => ?_)
            · refine X_iconst hg ic_i_0 dX10_isNewTwice_111 ?_
              refine X_lv [0, 2] rfl ?_
              exact hk22 (nI 0)
            · refine X_iconst hg ic_i_1 dX10_isNewTwice_107 ?_
              refine X_goto hg (tgt := 112) dX10_isNewTwice_108 rfl ?_
              refine X_lv [0, 2] rfl ?_
              exact hk22 (nI 1)
          · refine X_iconst hg ic_i_1 dX10_isNewTwice_107 ?_
            refine X_goto hg (tgt := 112) dX10_isNewTwice_108 rfl ?_
            refine X_lv [0, 2] rfl ?_
            exact hk22 (nI 1)
        · refine X_istore_n hg rfl (Nat.le_of_ble_eq_true rfl) (lv' := [(1, .int v22), (0, .ref (nB g.1 + l0)), (2, .int l2)]) rfl dX10_isNewTwice_112 ?_
          refine X_iinc hg 2 rfl (v := (l2 + (nI 1))) (icc ic_i_1) (Nat.le_of_ble_eq_true rfl) (lv' := [(2, .int (l2 + (nI 1))), (1, .int v22), (0, .ref (nB g.1 + l0))]) rfl dX10_isNewTwice_113 ?_
          refine X_goto hg (tgt := 4) dX10_isNewTwice_116 rfl ?_
          refine X_lv [2, 1, 0] rfl ?_
          exact ih _ _
set_option maxRecDepth 10000 in
theorem c_X10_isNewTwice (en : EN) (a0 : Nat) (h : Hp) (x0 : Int32) (e : f_X10_isNewTwice a0 h = some x0) : Ct en yX10_isNewTwice cX10_isNewTwice 5 (some .boolean) 0 0 0 0 [.ref (nB en + a0)] h (some (.int x0)) h := by
  refine Ct.of (by decide) rfl (Nat.le_of_ble_eq_true rfl) e (fun g hen hg hr => ?_)
  subst hen
  unfold f_X10_isNewTwice
  refine X_gd ?_
  refine X_iconst hg ic_i_0 dX10_isNewTwice_0 ?_
  refine X_istore_n hg rfl (Nat.le_of_ble_eq_true rfl) (lv' := [(1, .int (nI 0)), (0, .ref (nB g.1 + a0))]) rfl dX10_isNewTwice_1 ?_
  refine X_iconst hg ic_i_0 dX10_isNewTwice_2 ?_
  refine X_istore_n hg rfl (Nat.le_of_ble_eq_true rfl) (lv' := [(2, .int (nI 0)), (1, .int (nI 0)), (0, .ref (nB g.1 + a0))]) rfl dX10_isNewTwice_3 ?_
  refine X_lv [2, 1, 0] rfl ?_
  refine l_X10_isNewTwice_4 hg _ _ hr _ (fun y26 => ?_) _ _ _
  refine X_iload_n hg 0 rfl dX10_isNewTwice_119 ?_
  exact X_zret hg hr (Nat.le_of_ble_eq_true rfl) (Nat.le_of_ble_eq_true rfl) dX10_isNewTwice_120
set_option maxRecDepth 10000 in
theorem c_X10_takesName (en : EN) (a0 : Nat) (a1 : Int32) (h : Hp) (x0 : Int32 × Hp) (e : f_X10_takesName a0 a1 h = some x0) : Ct en yX10_takesName cX10_takesName 3 (some .boolean) 1 24 0 0 [.ref (nB en + a0), .int a1] h (some (.int x0.1)) x0.2 := by
  refine Ct.of (by decide) rfl (Nat.le_of_ble_eq_true rfl) e (fun g hen hg hr => ?_)
  subst hen
  unfold f_X10_takesName
  refine X_gd ?_
  refine X_aload_n hg 0 rfl dX10_takesName_0 ?_
  refine X_getI hg (j := 16) cf_10 (Nat.le_of_ble_eq_true rfl) (Or.inl rfl) m_916 dX10_takesName_1 (fun x1 _ => ?_)
  refine X_reg (fun (v2 : Hp) o => Xo g x0 3 0 0 17 [(0, .ref (nB g.1 + a0)), (1, .int a1)] [] v2 o) (fun kv2 hk2 => ?_) (fun v2 => ?_)
  · refine X_ib ?_
    refine X_if_ne hg (tgt := 17) dX10_takesName_4 rfl (fun c6 => ?_) (fun c6 => ?_)
    · refine X_aload_n hg 0 rfl dX10_takesName_7 ?_
      refine X_as ?_
      refine X_getR hg (j := 18) cf_10 (Nat.le_of_ble_eq_true rfl) (Or.inr ⟨_, rfl⟩) m_918 dX10_takesName_8 (fun x3 _ => ?_)
      refine X_aload_n hg 0 rfl dX10_takesName_11 ?_
      refine X_as ?_
      refine X_getI hg (j := 17) cf_10 (Nat.le_of_ble_eq_true rfl) (Or.inl rfl) m_917 dX10_takesName_12 (fun x4 _ => ?_)
      refine X_iconst hg ic_i_0 dX10_takesName_15 ?_
      refine X_as ?_
      refine X_ast hg dX10_takesName_16 (fun h5 _ => ?_)
      exact hk2 h5
    · exact hk2 h
  · refine X_iload_n hg 1 rfl dX10_takesName_17 ?_
    refine X_bipush hg ic_b_58 dX10_takesName_18 ?_
    refine X_icmp_ne hg (tgt := 49) dX10_takesName_20 rfl (fun c53 => ?_) (fun c53 => ?_)
    · refine X_aload_n hg 0 rfl dX10_takesName_23 ?_
      refine X_getI hg (j := 16) cf_10 (Nat.le_of_ble_eq_true rfl) (Or.inl rfl) m_916 dX10_takesName_24 (fun x7 _ => ?_)
      refine X_iconst hg ic_i_1 dX10_takesName_27 ?_
      refine X_icmp_ne hg (tgt := 49) dX10_takesName_28 rfl (fun c32 => ?_) (fun c32 => ?_)
      · refine X_aload_n hg 0 rfl dX10_takesName_31 ?_
        refine X_aload_n hg 0 rfl dX10_takesName_32 ?_
        refine X_cVI0 hg mf_X10_isNewTwice m_1029 m_31 m_1027 cf_10 (fun _ e => gd_isO e) (fun y e => c_X10_isNewTwice g.1 a0 v2 y e) (As := []) rfl (Nat.le_of_ble_eq_true rfl) rfl (Nat.le_of_ble_eq_true rfl) (Nat.le_of_ble_eq_true rfl) (Nat.le_of_ble_eq_true rfl) (Nat.le_of_ble_eq_true rfl) dX10_takesName_33 (fun x8 _ => ?_)
        refine X_reg (fun (v9 : Int32) o => Xo g x0 3 0 0 44 [] [.int v9, .ref (nB g.1 + a0)] v2 o) (fun kv9 hk9 => ?_) (fun v9 => ?_)
        · refine X_ib ?_
          refine X_if_ne hg (tgt := 43) dX10_takesName_36 rfl (fun c10 => ?_) (fun c10 => ?_)
          · refine X_iconst hg ic_i_1 dX10_takesName_39 ?_
            refine X_goto hg (tgt := 44) dX10_takesName_40 rfl ?_
            refine X_lv [] rfl ?_
            exact hk9 (nI 1)
          · refine X_iconst hg ic_i_0 dX10_takesName_43 ?_
            refine X_lv [] rfl ?_
            exact hk9 (nI 0)
        · refine X_iconst hg ic_i_2 dX10_takesName_44 ?_
          refine X_cVIW0 hg mf_X10_goes m_1033 m_32 m_1031 cf_10 (fun _ e => gd_isO e) (fun y e => c_X10_goes g.1 a0 v9 (nI 2) v2 y e) (As := [.int v9, .int (nI 2)]) rfl (Nat.le_of_ble_eq_true rfl) rfl (Nat.le_of_ble_eq_true rfl) (Nat.le_of_ble_eq_true rfl) (Nat.le_of_ble_eq_true rfl) (Nat.le_of_ble_eq_true rfl) dX10_takesName_45 (fun p11 _ => ?_)
          exact X_zretW hg hr (Nat.le_of_ble_eq_true rfl) (Nat.le_of_ble_eq_true rfl) dX10_takesName_48
      · refine X_iload_n hg 1 rfl dX10_takesName_49 ?_
        refine X_bipush hg ic_b_97 dX10_takesName_50 ?_
        refine X_bipush hg ic_b_122 dX10_takesName_52 ?_
        refine X_cSI0 hg mf_X10_within m_1005 m_1004 (fun y e => c_X10_within g.1 a1 (nI 97) (nI 122) v2 y e) (As := [.int a1, .int (nI 97), .int (nI 122)]) rfl (Nat.le_of_ble_eq_true rfl) rfl (Nat.le_of_ble_eq_true rfl) (Nat.le_of_ble_eq_true rfl) (Nat.le_of_ble_eq_true rfl) (Nat.le_of_ble_eq_true rfl) dX10_takesName_54 (fun x12 _ => ?_)
        refine X_reg (fun (v13 : Int32) o => Xo g x0 3 0 0 79 [(0, .ref (nB g.1 + a0)), (1, .int a1)] [.int v13] v2 o) (fun kv13 hk13 => ?_) (fun v13 => ?_)
        · refine X_ib ?_
          refine X_if_eq hg (tgt := 78) dX10_takesName_57 rfl (fun c18 => ?_) (fun c18 => ?_)
          · refine X_iconst hg ic_i_0 dX10_takesName_78 ?_
            exact hk13 (nI 0)
          · refine X_aload_n hg 0 rfl dX10_takesName_60 ?_
            refine X_as ?_
            refine X_getR hg (j := 18) cf_10 (Nat.le_of_ble_eq_true rfl) (Or.inr ⟨_, rfl⟩) m_918 dX10_takesName_61 (fun x14 _ => ?_)
            refine X_aload_n hg 0 rfl dX10_takesName_64 ?_
            refine X_as ?_
            refine X_getI hg (j := 17) cf_10 (Nat.le_of_ble_eq_true rfl) (Or.inl rfl) m_917 dX10_takesName_65 (fun x15 _ => ?_)
            refine X_as ?_
            refine X_ald hg dX10_takesName_68 (fun x16 _ => ?_)
            refine X_bipush hg ic_b_8 dX10_takesName_69 ?_
            refine X_ib ?_
            refine X_icmp_ge hg (tgt := 78) dX10_takesName_71 rfl (fun c17 => ?_) (fun c17 => ?_)
            · refine X_iconst hg ic_i_0 dX10_takesName_78 ?_
              exact hk13 (nI 0)
            · refine X_iconst hg ic_i_1 dX10_takesName_74 ?_
              refine X_goto hg (tgt := 79) dX10_takesName_75 rfl ?_
              exact hk13 (nI 1)
        · refine X_istore_n hg rfl (Nat.le_of_ble_eq_true rfl) (lv' := [(2, .int v13), (0, .ref (nB g.1 + a0)), (1, .int a1)]) rfl dX10_takesName_79 ?_
          refine X_iload_n hg 0 rfl dX10_takesName_80 ?_
          refine X_reg (fun (v19 : Hp) o => Xo g x0 3 0 0 120 [(0, .ref (nB g.1 + a0)), (2, .int v13)] [] v19 o) (fun kv19 hk19 => ?_) (fun v19 => ?_)
          · refine X_ib ?_
            refine X_if_eq hg (tgt := 120) dX10_takesName_81 rfl (fun c30 => ?_) (fun c30 => ?_)
            · refine X_lv [1, 0] rfl ?_
              exact hk19 v2
            · refine X_aload_n hg 1 rfl dX10_takesName_84 ?_
              refine X_as ?_
              refine X_getR hg (j := 19) cf_10 (Nat.le_of_ble_eq_true rfl) (Or.inr ⟨_, rfl⟩) m_919 dX10_takesName_85 (fun x20 _ => ?_)
              refine X_bipush hg ic_b_8 dX10_takesName_88 ?_
              refine X_aload_n hg 1 rfl dX10_takesName_90 ?_
              refine X_as ?_
              refine X_getI hg (j := 17) cf_10 (Nat.le_of_ble_eq_true rfl) (Or.inl rfl) m_917 dX10_takesName_91 (fun x21 _ => ?_)
              refine X_imul hg dX10_takesName_94 ?_
              refine X_aload_n hg 1 rfl dX10_takesName_95 ?_
              refine X_as ?_
              refine X_getR hg (j := 18) cf_10 (Nat.le_of_ble_eq_true rfl) (Or.inr ⟨_, rfl⟩) m_918 dX10_takesName_96 (fun x22 _ => ?_)
              refine X_aload_n hg 1 rfl dX10_takesName_99 ?_
              refine X_as ?_
              refine X_getI hg (j := 17) cf_10 (Nat.le_of_ble_eq_true rfl) (Or.inl rfl) m_917 dX10_takesName_100 (fun x23 _ => ?_)
              refine X_as ?_
              refine X_ald hg dX10_takesName_103 (fun x24 _ => ?_)
              refine X_iadd hg dX10_takesName_104 ?_
              refine X_iload_n hg 2 rfl dX10_takesName_105 ?_
              refine X_as ?_
              refine X_ast hg dX10_takesName_106 (fun h25 _ => ?_)
              refine X_aload_n hg 1 rfl dX10_takesName_107 ?_
              refine X_as ?_
              refine X_getR hg (j := 18) cf_10 (Nat.le_of_ble_eq_true rfl) (Or.inr ⟨_, rfl⟩) m_918 dX10_takesName_108 (fun x26 _ => ?_)
              refine X_aload_n hg 1 rfl dX10_takesName_111 ?_
              refine X_as ?_
              refine X_getI hg (j := 17) cf_10 (Nat.le_of_ble_eq_true rfl) (Or.inl rfl) m_917 dX10_takesName_112 (fun x27 _ => ?_)
              refine X_dup2 hg rfl rfl dX10_takesName_115 ?_
              refine X_as ?_
              refine X_ald hg dX10_takesName_116 (fun x28 _ => ?_)
              refine X_iconst hg ic_i_1 dX10_takesName_117 ?_
              refine X_iadd hg dX10_takesName_118 ?_
              refine X_as ?_
              refine X_ast hg dX10_takesName_119 (fun h29 _ => ?_)
              refine X_lv [1, 0] rfl ?_
              exact hk19 h29
          · refine X_aload_n hg 0 rfl dX10_takesName_120 ?_
            refine X_iload_n hg 1 rfl dX10_takesName_121 ?_
            refine X_iconst hg ic_i_1 dX10_takesName_122 ?_
            refine X_cVIW0 hg mf_X10_goes m_1033 m_32 m_1031 cf_10 (fun _ e => gd_isO e) (fun y e => c_X10_goes g.1 a0 v13 (nI 1) v19 y e) (As := [.int v13, .int (nI 1)]) rfl (Nat.le_of_ble_eq_true rfl) rfl (Nat.le_of_ble_eq_true rfl) (Nat.le_of_ble_eq_true rfl) (Nat.le_of_ble_eq_true rfl) (Nat.le_of_ble_eq_true rfl) dX10_takesName_123 (fun p31 _ => ?_)
            exact X_zretW hg hr (Nat.le_of_ble_eq_true rfl) (Nat.le_of_ble_eq_true rfl) dX10_takesName_126
    · refine X_iload_n hg 1 rfl dX10_takesName_49 ?_
      refine X_bipush hg ic_b_97 dX10_takesName_50 ?_
      refine X_bipush hg ic_b_122 dX10_takesName_52 ?_
      refine X_cSI0 hg mf_X10_within m_1005 m_1004 (fun y e => c_X10_within g.1 a1 (nI 97) (nI 122) v2 y e) (As := [.int a1, .int (nI 97), .int (nI 122)]) rfl (Nat.le_of_ble_eq_true rfl) rfl (Nat.le_of_ble_eq_true rfl) (Nat.le_of_ble_eq_true rfl) (Nat.le_of_ble_eq_true rfl) (Nat.le_of_ble_eq_true rfl) dX10_takesName_54 (fun x33 _ => ?_)
      refine X_reg (fun (v34 : Int32) o => Xo g x0 3 0 0 79 [(0, .ref (nB g.1 + a0)), (1, .int a1)] [.int v34] v2 o) (fun kv34 hk34 => ?_) (fun v34 => ?_)
      · refine X_ib ?_
        refine X_if_eq hg (tgt := 78) dX10_takesName_57 rfl (fun c39 => ?_) (fun c39 => ?_)
        · refine X_iconst hg ic_i_0 dX10_takesName_78 ?_
          exact hk34 (nI 0)
        · refine X_aload_n hg 0 rfl dX10_takesName_60 ?_
          refine X_as ?_
          refine X_getR hg (j := 18) cf_10 (Nat.le_of_ble_eq_true rfl) (Or.inr ⟨_, rfl⟩) m_918 dX10_takesName_61 (fun x35 _ => ?_)
          refine X_aload_n hg 0 rfl dX10_takesName_64 ?_
          refine X_as ?_
          refine X_getI hg (j := 17) cf_10 (Nat.le_of_ble_eq_true rfl) (Or.inl rfl) m_917 dX10_takesName_65 (fun x36 _ => ?_)
          refine X_as ?_
          refine X_ald hg dX10_takesName_68 (fun x37 _ => ?_)
          refine X_bipush hg ic_b_8 dX10_takesName_69 ?_
          refine X_ib ?_
          refine X_icmp_ge hg (tgt := 78) dX10_takesName_71 rfl (fun c38 => ?_) (fun c38 => ?_)
          · refine X_iconst hg ic_i_0 dX10_takesName_78 ?_
            exact hk34 (nI 0)
          · refine X_iconst hg ic_i_1 dX10_takesName_74 ?_
            refine X_goto hg (tgt := 79) dX10_takesName_75 rfl ?_
            exact hk34 (nI 1)
      · refine X_istore_n hg rfl (Nat.le_of_ble_eq_true rfl) (lv' := [(2, .int v34), (0, .ref (nB g.1 + a0)), (1, .int a1)]) rfl dX10_takesName_79 ?_
        refine X_iload_n hg 0 rfl dX10_takesName_80 ?_
        refine X_reg (fun (v40 : Hp) o => Xo g x0 3 0 0 120 [(0, .ref (nB g.1 + a0)), (2, .int v34)] [] v40 o) (fun kv40 hk40 => ?_) (fun v40 => ?_)
        · refine X_ib ?_
          refine X_if_eq hg (tgt := 120) dX10_takesName_81 rfl (fun c51 => ?_) (fun c51 => ?_)
          · refine X_lv [1, 0] rfl ?_
            exact hk40 v2
          · refine X_aload_n hg 1 rfl dX10_takesName_84 ?_
            refine X_as ?_
            refine X_getR hg (j := 19) cf_10 (Nat.le_of_ble_eq_true rfl) (Or.inr ⟨_, rfl⟩) m_919 dX10_takesName_85 (fun x41 _ => ?_)
            refine X_bipush hg ic_b_8 dX10_takesName_88 ?_
            refine X_aload_n hg 1 rfl dX10_takesName_90 ?_
            refine X_as ?_
            refine X_getI hg (j := 17) cf_10 (Nat.le_of_ble_eq_true rfl) (Or.inl rfl) m_917 dX10_takesName_91 (fun x42 _ => ?_)
            refine X_imul hg dX10_takesName_94 ?_
            refine X_aload_n hg 1 rfl dX10_takesName_95 ?_
            refine X_as ?_
            refine X_getR hg (j := 18) cf_10 (Nat.le_of_ble_eq_true rfl) (Or.inr ⟨_, rfl⟩) m_918 dX10_takesName_96 (fun x43 _ => ?_)
            refine X_aload_n hg 1 rfl dX10_takesName_99 ?_
            refine X_as ?_
            refine X_getI hg (j := 17) cf_10 (Nat.le_of_ble_eq_true rfl) (Or.inl rfl) m_917 dX10_takesName_100 (fun x44 _ => ?_)
            refine X_as ?_
            refine X_ald hg dX10_takesName_103 (fun x45 _ => ?_)
            refine X_iadd hg dX10_takesName_104 ?_
            refine X_iload_n hg 2 rfl dX10_takesName_105 ?_
            refine X_as ?_
            refine X_ast hg dX10_takesName_106 (fun h46 _ => ?_)
            refine X_aload_n hg 1 rfl dX10_takesName_107 ?_
            refine X_as ?_
            refine X_getR hg (j := 18) cf_10 (Nat.le_of_ble_eq_true rfl) (Or.inr ⟨_, rfl⟩) m_918 dX10_takesName_108 (fun x47 _ => ?_)
            refine X_aload_n hg 1 rfl dX10_takesName_111 ?_
            refine X_as ?_
            refine X_getI hg (j := 17) cf_10 (Nat.le_of_ble_eq_true rfl) (Or.inl rfl) m_917 dX10_takesName_112 (fun x48 _ => ?_)
            refine X_dup2 hg rfl rfl dX10_takesName_115 ?_
            refine X_as ?_
            refine X_ald hg dX10_takesName_116 (fun x49 _ => ?_)
            refine X_iconst hg ic_i_1 dX10_takesName_117 ?_
            refine X_iadd hg dX10_takesName_118 ?_
            refine X_as ?_
            refine X_ast hg dX10_takesName_119 (fun h50 _ => ?_)
            refine X_lv [1, 0] rfl ?_
            exact hk40 h50
        · refine X_aload_n hg 0 rfl dX10_takesName_120 ?_
          refine X_iload_n hg 1 rfl dX10_takesName_121 ?_
          refine X_iconst hg ic_i_1 dX10_takesName_122 ?_
          refine X_cVIW0 hg mf_X10_goes m_1033 m_32 m_1031 cf_10 (fun _ e => gd_isO e) (fun y e => c_X10_goes g.1 a0 v34 (nI 1) v40 y e) (As := [.int v34, .int (nI 1)]) rfl (Nat.le_of_ble_eq_true rfl) rfl (Nat.le_of_ble_eq_true rfl) (Nat.le_of_ble_eq_true rfl) (Nat.le_of_ble_eq_true rfl) (Nat.le_of_ble_eq_true rfl) dX10_takesName_123 (fun p52 _ => ?_)
          exact X_zretW hg hr (Nat.le_of_ble_eq_true rfl) (Nat.le_of_ble_eq_true rfl) dX10_takesName_126
set_option maxRecDepth 10000 in
theorem c_X10_takesUse (en : EN) (a0 : Nat) (a1 : Int32) (h : Hp) (x0 : Int32 × Hp) (e : f_X10_takesUse a0 a1 h = some x0) : Ct en yX10_takesUse cX10_takesUse 4 (some .boolean) 1 22 0 0 [.ref (nB en + a0), .int a1] h (some (.int x0.1)) x0.2 := by
  refine Ct.of (by decide) rfl (Nat.le_of_ble_eq_true rfl) e (fun g hen hg hr => ?_)
  subst hen
  unfold f_X10_takesUse
  refine X_gd ?_
  refine X_iload_n hg 1 rfl dX10_takesUse_0 ?_
  refine X_bipush hg ic_b_48 dX10_takesUse_1 ?_
  refine X_isub hg dX10_takesUse_3 ?_
  refine X_istore_n hg rfl (Nat.le_of_ble_eq_true rfl) (lv' := [(2, .int (a1 - (nI 48))), (0, .ref (nB g.1 + a0)), (1, .int a1)]) rfl dX10_takesUse_4 ?_
  refine X_aload_n hg 1 rfl dX10_takesUse_5 ?_
  refine X_getI hg (j := 16) cf_10 (Nat.le_of_ble_eq_true rfl) (Or.inl rfl) m_916 dX10_takesUse_6 (fun x1 _ => ?_)
  refine X_iconst hg ic_i_2 dX10_takesUse_9 ?_
  refine X_icmp_ne hg (tgt := 60) dX10_takesUse_10 rfl (fun c31 => ?_) (fun c31 => ?_)
  · refine X_aload_n hg 1 rfl dX10_takesUse_13 ?_
    refine X_getR hg (j := 20) cf_10 (Nat.le_of_ble_eq_true rfl) (Or.inr ⟨_, rfl⟩) m_920 dX10_takesUse_14 (fun x2 _ => ?_)
    refine X_aload_n hg 1 rfl dX10_takesUse_17 ?_
    refine X_getI hg (j := 17) cf_10 (Nat.le_of_ble_eq_true rfl) (Or.inl rfl) m_917 dX10_takesUse_18 (fun x3 _ => ?_)
    refine X_iload_n hg 0 rfl dX10_takesUse_21 ?_
    refine X_ast hg dX10_takesUse_22 (fun h4 _ => ?_)
    refine X_aload_n hg 1 rfl dX10_takesUse_23 ?_
    refine X_dup hg rfl dX10_takesUse_24 ?_
    refine X_getI hg (j := 17) cf_10 (Nat.le_of_ble_eq_true rfl) (Or.inl rfl) m_917 dX10_takesUse_25 (fun x5 _ => ?_)
    refine X_iload_n hg 0 rfl dX10_takesUse_28 ?_
    refine X_iconst hg ic_i_1 dX10_takesUse_29 ?_
    refine X_bipush hg ic_b_9 dX10_takesUse_30 ?_
    refine X_cSI0 hg mf_X10_within m_1005 m_1004 (fun y e => c_X10_within g.1 (a1 - (nI 48)) (nI 1) (nI 9) h4 y e) (As := [.int (a1 - (nI 48)), .int (nI 1), .int (nI 9)]) rfl (Nat.le_of_ble_eq_true rfl) rfl (Nat.le_of_ble_eq_true rfl) (Nat.le_of_ble_eq_true rfl) (Nat.le_of_ble_eq_true rfl) (Nat.le_of_ble_eq_true rfl) dX10_takesUse_32 (fun x6 _ => ?_)
    refine X_reg (fun (v7 : Int32) o => Xo g x0 4 0 0 43 [(0, .ref (nB g.1 + a0)), (2, .int (a1 - (nI 48)))] [.int v7, .int x5, .ref (nB g.1 + a0)] h4 o) (fun kv7 hk7 => ?_) (fun v7 => ?_)
    · refine X_ib ?_
      refine X_if_eq hg (tgt := 42) dX10_takesUse_35 rfl (fun c8 => ?_) (fun c8 => ?_)
      · refine X_iconst hg ic_i_0 dX10_takesUse_42 ?_
        refine X_lv [1, 0] rfl ?_
        exact hk7 (nI 0)
      · refine X_iconst hg ic_i_1 dX10_takesUse_38 ?_
        refine X_goto hg (tgt := 43) dX10_takesUse_39 rfl ?_
        refine X_lv [1, 0] rfl ?_
        exact hk7 (nI 1)
    · refine X_iadd hg dX10_takesUse_43 ?_
      refine X_putI hg (j := 17) cf_10 (Nat.le_of_ble_eq_true rfl) rfl (Or.inl rfl) m_917 dX10_takesUse_44 (fun h9 _ => ?_)
      refine X_aload_n hg 0 rfl dX10_takesUse_47 ?_
      refine X_iload_n hg 1 rfl dX10_takesUse_48 ?_
      refine X_iconst hg ic_i_1 dX10_takesUse_49 ?_
      refine X_bipush hg ic_b_9 dX10_takesUse_50 ?_
      refine X_cSI0 hg mf_X10_within m_1005 m_1004 (fun y e => c_X10_within g.1 (a1 - (nI 48)) (nI 1) (nI 9) h9 y e) (As := [.int (a1 - (nI 48)), .int (nI 1), .int (nI 9)]) rfl (Nat.le_of_ble_eq_true rfl) rfl (Nat.le_of_ble_eq_true rfl) (Nat.le_of_ble_eq_true rfl) (Nat.le_of_ble_eq_true rfl) (Nat.le_of_ble_eq_true rfl) dX10_takesUse_52 (fun x10 _ => ?_)
      refine X_iconst hg ic_i_3 dX10_takesUse_55 ?_
      refine X_cVIW0 hg mf_X10_goes m_1033 m_32 m_1031 cf_10 (fun _ e => gd_isO e) (fun y e => c_X10_goes g.1 a0 x10 (nI 3) h9 y e) (As := [.int x10, .int (nI 3)]) rfl (Nat.le_of_ble_eq_true rfl) rfl (Nat.le_of_ble_eq_true rfl) (Nat.le_of_ble_eq_true rfl) (Nat.le_of_ble_eq_true rfl) (Nat.le_of_ble_eq_true rfl) dX10_takesUse_56 (fun p11 _ => ?_)
      exact X_zretW hg hr (Nat.le_of_ble_eq_true rfl) (Nat.le_of_ble_eq_true rfl) dX10_takesUse_59
  · refine X_iload_n hg 2 rfl dX10_takesUse_60 ?_
    refine X_bipush hg ic_b_59 dX10_takesUse_61 ?_
    refine X_icmp_ne hg (tgt := 86) dX10_takesUse_63 rfl (fun c30 => ?_) (fun c30 => ?_)
    · refine X_aload_n hg 1 rfl dX10_takesUse_66 ?_
      refine X_aload_n hg 1 rfl dX10_takesUse_67 ?_
      refine X_getI hg (j := 17) cf_10 (Nat.le_of_ble_eq_true rfl) (Or.inl rfl) m_917 dX10_takesUse_68 (fun x12 _ => ?_)
      refine X_bipush hg ic_b_14 dX10_takesUse_71 ?_
      refine X_reg (fun (v13 : Int32) o => Xo g x0 4 0 0 81 [] [.int v13, .ref (nB g.1 + a0)] h o) (fun kv13 hk13 => ?_) (fun v13 => ?_)
      · refine X_ib ?_
        refine X_icmp_ge hg (tgt := 80) dX10_takesUse_73 rfl (fun c14 => ?_) (fun c14 => ?_)
        · refine X_iconst hg ic_i_0 dX10_takesUse_80 ?_
          refine X_lv [] rfl ?_
          exact hk13 (nI 0)
        · refine X_iconst hg ic_i_1 dX10_takesUse_76 ?_
          refine X_goto hg (tgt := 81) dX10_takesUse_77 rfl ?_
          refine X_lv [] rfl ?_
          exact hk13 (nI 1)
      · refine X_iconst hg ic_i_0 dX10_takesUse_81 ?_
        refine X_cVIW0 hg mf_X10_goes m_1033 m_32 m_1031 cf_10 (fun _ e => gd_isO e) (fun y e => c_X10_goes g.1 a0 v13 (nI 0) h y e) (As := [.int v13, .int (nI 0)]) rfl (Nat.le_of_ble_eq_true rfl) rfl (Nat.le_of_ble_eq_true rfl) (Nat.le_of_ble_eq_true rfl) (Nat.le_of_ble_eq_true rfl) (Nat.le_of_ble_eq_true rfl) dX10_takesUse_82 (fun p15 _ => ?_)
        exact X_zretW hg hr (Nat.le_of_ble_eq_true rfl) (Nat.le_of_ble_eq_true rfl) dX10_takesUse_85
    · refine X_aload_n hg 1 rfl dX10_takesUse_86 ?_
      refine X_getI hg (j := 16) cf_10 (Nat.le_of_ble_eq_true rfl) (Or.inl rfl) m_916 dX10_takesUse_87 (fun x16 _ => ?_)
      refine X_iconst hg ic_i_3 dX10_takesUse_90 ?_
      refine X_reg (fun (v17 : Int32) o => Xo g x0 4 0 0 109 [(0, .ref (nB g.1 + a0)), (2, .int (a1 - (nI 48)))] [.int v17] h o) (fun kv17 hk17 => ?_) (fun v17 => ?_)
      · refine X_ib ?_
        refine X_icmp_ne hg (tgt := 108) dX10_takesUse_91 rfl (fun c20 => ?_) (fun c20 => ?_)
        · refine X_iload_n hg 0 rfl dX10_takesUse_94 ?_
          refine X_iconst hg ic_i_0 dX10_takesUse_95 ?_
          refine X_bipush hg ic_b_9 dX10_takesUse_96 ?_
          refine X_as ?_
          refine X_cSI0 hg mf_X10_within m_1005 m_1004 (fun y e => c_X10_within g.1 (a1 - (nI 48)) (nI 0) (nI 9) h y e) (As := [.int (a1 - (nI 48)), .int (nI 0), .int (nI 9)]) rfl (Nat.le_of_ble_eq_true rfl) rfl (Nat.le_of_ble_eq_true rfl) (Nat.le_of_ble_eq_true rfl) (Nat.le_of_ble_eq_true rfl) (Nat.le_of_ble_eq_true rfl) dX10_takesUse_98 (fun x18 _ => ?_)
          refine X_ib ?_
          refine X_if_eq hg (tgt := 108) dX10_takesUse_101 rfl (fun c19 => ?_) (fun c19 => ?_)
          · refine X_iconst hg ic_i_0 dX10_takesUse_108 ?_
            refine X_lv [1, 0] rfl ?_
            exact hk17 (nI 0)
          · refine X_iconst hg ic_i_1 dX10_takesUse_104 ?_
            refine X_goto hg (tgt := 109) dX10_takesUse_105 rfl ?_
            refine X_lv [1, 0] rfl ?_
            exact hk17 (nI 1)
        · refine X_iconst hg ic_i_0 dX10_takesUse_108 ?_
          refine X_lv [1, 0] rfl ?_
          exact hk17 (nI 0)
      · refine X_istore_n hg rfl (Nat.le_of_ble_eq_true rfl) (lv' := [(3, .int v17), (0, .ref (nB g.1 + a0)), (2, .int (a1 - (nI 48)))]) rfl dX10_takesUse_109 ?_
        refine X_iload_n hg 0 rfl dX10_takesUse_110 ?_
        refine X_reg (fun (v21 : Hp) o => Xo g x0 4 0 0 141 [(0, .ref (nB g.1 + a0)), (3, .int v17)] [] v21 o) (fun kv21 hk21 => ?_) (fun v21 => ?_)
        · refine X_ib ?_
          refine X_if_eq hg (tgt := 141) dX10_takesUse_111 rfl (fun c28 => ?_) (fun c28 => ?_)
          · refine X_lv [1, 0] rfl ?_
            exact hk21 h
          · refine X_aload_n hg 1 rfl dX10_takesUse_114 ?_
            refine X_as ?_
            refine X_getR hg (j := 20) cf_10 (Nat.le_of_ble_eq_true rfl) (Or.inr ⟨_, rfl⟩) m_920 dX10_takesUse_115 (fun x22 _ => ?_)
            refine X_aload_n hg 1 rfl dX10_takesUse_118 ?_
            refine X_as ?_
            refine X_getI hg (j := 17) cf_10 (Nat.le_of_ble_eq_true rfl) (Or.inl rfl) m_917 dX10_takesUse_119 (fun x23 _ => ?_)
            refine X_iconst hg ic_i_1 dX10_takesUse_122 ?_
            refine X_isub hg dX10_takesUse_123 ?_
            refine X_bipush hg ic_b_10 dX10_takesUse_124 ?_
            refine X_aload_n hg 1 rfl dX10_takesUse_126 ?_
            refine X_as ?_
            refine X_getR hg (j := 20) cf_10 (Nat.le_of_ble_eq_true rfl) (Or.inr ⟨_, rfl⟩) m_920 dX10_takesUse_127 (fun x24 _ => ?_)
            refine X_aload_n hg 1 rfl dX10_takesUse_130 ?_
            refine X_as ?_
            refine X_getI hg (j := 17) cf_10 (Nat.le_of_ble_eq_true rfl) (Or.inl rfl) m_917 dX10_takesUse_131 (fun x25 _ => ?_)
            refine X_iconst hg ic_i_1 dX10_takesUse_134 ?_
            refine X_isub hg dX10_takesUse_135 ?_
            refine X_as ?_
            refine X_ald hg dX10_takesUse_136 (fun x26 _ => ?_)
            refine X_imul hg dX10_takesUse_137 ?_
            refine X_iload_n hg 2 rfl dX10_takesUse_138 ?_
            refine X_iadd hg dX10_takesUse_139 ?_
            refine X_as ?_
            refine X_ast hg dX10_takesUse_140 (fun h27 _ => ?_)
            refine X_lv [1, 0] rfl ?_
            exact hk21 h27
        · refine X_aload_n hg 0 rfl dX10_takesUse_141 ?_
          refine X_iload_n hg 1 rfl dX10_takesUse_142 ?_
          refine X_iconst hg ic_i_4 dX10_takesUse_143 ?_
          refine X_cVIW0 hg mf_X10_goes m_1033 m_32 m_1031 cf_10 (fun _ e => gd_isO e) (fun y e => c_X10_goes g.1 a0 v17 (nI 4) v21 y e) (As := [.int v17, .int (nI 4)]) rfl (Nat.le_of_ble_eq_true rfl) rfl (Nat.le_of_ble_eq_true rfl) (Nat.le_of_ble_eq_true rfl) (Nat.le_of_ble_eq_true rfl) (Nat.le_of_ble_eq_true rfl) dX10_takesUse_144 (fun p29 _ => ?_)
          exact X_zretW hg hr (Nat.le_of_ble_eq_true rfl) (Nat.le_of_ble_eq_true rfl) dX10_takesUse_147
set_option maxRecDepth 10000 in
theorem c_X10_takes (en : EN) (a0 : Nat) (a1 : Int32) (h : Hp) (x0 : Int32 × Hp) (e : f_X10_takes a0 a1 h = some x0) : Ct en yX10_takes cX10_takes 2 (some .boolean) 2 46 0 0 [.ref (nB en + a0), .int a1] h (some (.int x0.1)) x0.2 := by
  refine Ct.of (by decide) rfl (Nat.le_of_ble_eq_true rfl) e (fun g hen hg hr => ?_)
  subst hen
  unfold f_X10_takes
  refine X_gd ?_
  refine X_aload_n hg 0 rfl dX10_takes_0 ?_
  refine X_getI hg (j := 16) cf_10 (Nat.le_of_ble_eq_true rfl) (Or.inl rfl) m_916 dX10_takes_1 (fun x1 _ => ?_)
  refine X_iconst hg ic_i_2 dX10_takes_4 ?_
  refine X_reg (fun (v2 : Int32 × Hp) o => Xo g x0 2 0 0 21 [] [.int v2.1] v2.2 o) (fun kv2 hk2 => ?_) (fun v2 => ?_)
  · refine X_ib ?_
    refine X_icmp_ge hg (tgt := 16) dX10_takes_5 rfl (fun c5 => ?_) (fun c5 => ?_)
    · refine X_aload_n hg 0 rfl dX10_takes_16 ?_
      refine X_iload_n hg 1 rfl dX10_takes_17 ?_
      refine X_as ?_
      refine X_cVIW0 hg mf_X10_takesUse m_1037 m_33 m_1035 cf_10 (fun _ e => gd_isO e) (fun y e => c_X10_takesUse g.1 a0 a1 h y e) (As := [.int a1]) rfl (Nat.le_of_ble_eq_true rfl) rfl (Nat.le_of_ble_eq_true rfl) (Nat.le_of_ble_eq_true rfl) (Nat.le_of_ble_eq_true rfl) (Nat.le_of_ble_eq_true rfl) dX10_takes_18 (fun p3 _ => ?_)
      refine X_lv [] rfl ?_
      exact hk2 (p3.1, p3.2)
    · refine X_aload_n hg 0 rfl dX10_takes_8 ?_
      refine X_iload_n hg 1 rfl dX10_takes_9 ?_
      refine X_as ?_
      refine X_cVIW0 hg mf_X10_takesName m_1025 m_30 m_1023 cf_10 (fun _ e => gd_isO e) (fun y e => c_X10_takesName g.1 a0 a1 h y e) (As := [.int a1]) rfl (Nat.le_of_ble_eq_true rfl) rfl (Nat.le_of_ble_eq_true rfl) (Nat.le_of_ble_eq_true rfl) (Nat.le_of_ble_eq_true rfl) (Nat.le_of_ble_eq_true rfl) dX10_takes_10 (fun p4 _ => ?_)
      refine X_goto hg (tgt := 21) dX10_takes_13 rfl ?_
      refine X_lv [] rfl ?_
      exact hk2 (p4.1, p4.2)
  · exact X_zretW hg hr (Nat.le_of_ble_eq_true rfl) (Nat.le_of_ble_eq_true rfl) dX10_takes_21
set_option maxRecDepth 10000 in
theorem l_X10_read_12 {g : XC} {x0 : Int32 × Hp} (hg : XG g RX10 cX10_read 2 3 67 0 0) (l0 : Nat) (hr : XR g (some .int) "read" (some (.int x0.1)) x0.2 0 0) (K : Int32 → Hp → Option (Int32 × Hp)) (hK0 : ∀ (l1 : Int32) (h : Hp), Xo g x0 2 0 0 39 [(1, .int l1)] [] h (K l1 h)) : ∀ (n : Nat) (l1 : Int32) (h : Hp), Xo g x0 2 0 0 12 [(0, .ref (nB g.1 + l0)), (1, .int l1)] [] h (f_X10_read_L12 l0 K n l1 h) := by
  intro n
  induction n with
  | zero =>
    intro l1 h
    exact X_none
  | succ n ih =>
    intro l1 h
    unfold f_X10_read_L12
    refine X_iload_n hg 1 rfl dX10_read_12 ?_
    refine X_aload_n hg 0 rfl dX10_read_13 ?_
    refine X_getI hg (j := 0) cf_10 (Nat.le_of_ble_eq_true rfl) (Or.inl rfl) m_900 dX10_read_14 (fun x3 _ => ?_)
    refine X_icmp_ge hg (tgt := 39) dX10_read_17 rfl (fun c8 => ?_) (fun c8 => ?_)
    · refine X_lv [1] rfl ?_
      exact hK0 _ _
    · refine X_aload_n hg 0 rfl dX10_read_20 ?_
      refine X_aload_n hg 0 rfl dX10_read_21 ?_
      refine X_getR hg (j := 1) cf_10 (Nat.le_of_ble_eq_true rfl) (Or.inr ⟨_, rfl⟩) m_901 dX10_read_22 (fun x4 _ => ?_)
      refine X_iload_n hg 1 rfl dX10_read_25 ?_
      refine X_ald hg dX10_read_26 (fun x5 _ => ?_)
      refine X_cVIW0 hg mf_X10_takes m_1021 m_29 m_1019 cf_10 (fun _ e => gd_isO e) (fun y e => c_X10_takes g.1 l0 x5 h y e) (As := [.int x5]) rfl (Nat.le_of_ble_eq_true rfl) rfl (Nat.le_of_ble_eq_true rfl) (Nat.le_of_ble_eq_true rfl) (Nat.le_of_ble_eq_true rfl) (Nat.le_of_ble_eq_true rfl) dX10_read_27 (fun p6 _ => ?_)
      refine X_if_eq hg (tgt := 39) dX10_read_30 rfl (fun c7 => ?_) (fun c7 => ?_)
      · refine X_lv [1] rfl ?_
        exact hK0 _ _
      · refine X_iinc hg 1 rfl (v := (l1 + (nI 1))) (icc ic_i_1) (Nat.le_of_ble_eq_true rfl) (lv' := [(1, .int (l1 + (nI 1))), (0, .ref (nB g.1 + l0))]) rfl dX10_read_33 ?_
        refine X_goto hg (tgt := 12) dX10_read_36 rfl ?_
        refine X_lv [1, 0] rfl ?_
        exact ih _ _
set_option maxRecDepth 10000 in
theorem c_X10_read (en : EN) (a0 : Nat) (h : Hp) (x0 : Int32 × Hp) (e : f_X10_read a0 h = some x0) : Ct en yX10_read cX10_read 2 (some .int) 3 67 0 0 [.ref (nB en + a0)] h (some (.int x0.1)) x0.2 := by
  refine Ct.of (by decide) rfl (Nat.le_of_ble_eq_true rfl) e (fun g hen hg hr => ?_)
  subst hen
  unfold f_X10_read
  refine X_gd ?_
  refine X_aload_n hg 0 rfl dX10_read_0 ?_
  refine X_iconst hg ic_i_0 dX10_read_1 ?_
  refine X_putI hg (j := 16) cf_10 (Nat.le_of_ble_eq_true rfl) rfl (Or.inl rfl) m_916 dX10_read_2 (fun h1 _ => ?_)
  refine X_aload_n hg 0 rfl dX10_read_5 ?_
  refine X_iconst hg ic_i_0 dX10_read_6 ?_
  refine X_putI hg (j := 17) cf_10 (Nat.le_of_ble_eq_true rfl) rfl (Or.inl rfl) m_917 dX10_read_7 (fun h2 _ => ?_)
  refine X_iconst hg ic_i_0 dX10_read_10 ?_
  refine X_istore_n hg rfl (Nat.le_of_ble_eq_true rfl) (lv' := [(1, .int (nI 0)), (0, .ref (nB g.1 + a0))]) rfl dX10_read_11 ?_
  refine X_lv [1, 0] rfl ?_
  refine l_X10_read_12 hg _ hr _ (fun y9 h10 => ?_) _ _ _
  refine X_iload_n hg 0 rfl dX10_read_39 ?_
  exact X_iretW hg hr (Nat.le_of_ble_eq_true rfl) (Nat.le_of_ble_eq_true rfl) dX10_read_40
set_option maxRecDepth 10000 in
theorem c_X10_fault (en : EN) (a0 : Nat) (h : Hp) (x0 : Int32 × Hp) (e : f_X10_fault a0 h = some x0) : Ct en yX10_fault cX10_fault 1 (some .int) 4 88 0 0 [.ref (nB en + a0)] h (some (.int x0.1)) x0.2 := by
  refine Ct.of (by decide) rfl (Nat.le_of_ble_eq_true rfl) e (fun g hen hg hr => ?_)
  subst hen
  unfold f_X10_fault
  refine X_gd ?_
  refine X_aload_n hg 0 rfl dX10_fault_0 ?_
  refine X_cVIW0 hg mf_X10_read m_1017 m_28 m_1015 cf_10 (fun _ e => gd_isO e) (fun y e => c_X10_read g.1 a0 h y e) (As := []) rfl (Nat.le_of_ble_eq_true rfl) rfl (Nat.le_of_ble_eq_true rfl) (Nat.le_of_ble_eq_true rfl) (Nat.le_of_ble_eq_true rfl) (Nat.le_of_ble_eq_true rfl) dX10_fault_1 (fun p1 _ => ?_)
  exact X_iretW hg hr (Nat.le_of_ble_eq_true rfl) (Nat.le_of_ble_eq_true rfl) dX10_fault_4
set_option maxRecDepth 10000 in
theorem l_X10_compareNew_2 {g : XC} {x0 : Int32} (hg : XG g RX10 cX10_compareNew 6 0 0 0 0) (l0 : Nat) (l1 : Int32) (l2 : Int32) (h : Hp) (hr : XR g (some .int) "compareNew" (some (.int x0)) h 0 0) (K : Option (Int32)) (hK0 : Xo g x0 6 0 0 88 [] [] h K) : ∀ (n : Nat) (l3 : Int32), Xo g x0 6 0 0 2 [(0, .ref (nB g.1 + l0)), (1, .int l1), (2, .int l2), (3, .int l3)] [] h (f_X10_compareNew_L2 l0 l1 l2 h K n l3) := by
  intro n
  induction n with
  | zero =>
    intro l3
    exact X_none
  | succ n ih =>
    intro l3
    unfold f_X10_compareNew_L2
    refine X_iload_n hg 3 rfl dX10_compareNew_2 ?_
    refine X_bipush hg ic_b_8 dX10_compareNew_3 ?_
    refine X_icmp_ge hg (tgt := 88) dX10_compareNew_5 rfl (fun c16 => ?_) (fun c16 => ?_)
    · refine X_lv [] rfl ?_
      exact hK0 
    · refine X_iload_n hg 3 rfl dX10_compareNew_8 ?_
      refine X_aload_n hg 0 rfl dX10_compareNew_9 ?_
      refine X_getR hg (j := 3) cf_10 (Nat.le_of_ble_eq_true rfl) (Or.inr ⟨_, rfl⟩) m_903 dX10_compareNew_10 (fun x1 _ => ?_)
      refine X_iload_n hg 1 rfl dX10_compareNew_13 ?_
      refine X_ald hg dX10_compareNew_14 (fun x2 _ => ?_)
      refine X_reg (fun (v3 : Int32) o => Xo g x0 6 0 0 33 [(0, .ref (nB g.1 + l0)), (1, .int l1), (2, .int l2), (3, .int l3)] [.int v3] h o) (fun kv3 hk3 => ?_) (fun v3 => ?_)
      · refine X_ib ?_
        refine X_icmp_ge hg (tgt := 32) dX10_compareNew_15 rfl (fun c6 => ?_) (fun c6 => ?_)
        · refine X_iconst hg ic_i_0 dX10_compareNew_32 ?_
          exact hk3 (nI 0)
        · refine X_aload_n hg 0 rfl dX10_compareNew_18 ?_
          refine X_as ?_
          refine X_getR hg (j := 4) cf_10 (Nat.le_of_ble_eq_true rfl) (Or.inr ⟨_, rfl⟩) m_904 dX10_compareNew_19 (fun x4 _ => ?_)
          refine X_bipush hg ic_b_8 dX10_compareNew_22 ?_
          refine X_iload_n hg 1 rfl dX10_compareNew_24 ?_
          refine X_imul hg dX10_compareNew_25 ?_
          refine X_iload_n hg 3 rfl dX10_compareNew_26 ?_
          refine X_iadd hg dX10_compareNew_27 ?_
          refine X_as ?_
          refine X_ald hg dX10_compareNew_28 (fun x5 _ => ?_)
          refine X_goto hg (tgt := 33) dX10_compareNew_29 rfl ?_
          exact hk3 x5
      · refine X_istore hg (Nat.le_of_ble_eq_true rfl) (lv' := [(4, .int v3), (0, .ref (nB g.1 + l0)), (1, .int l1), (2, .int l2), (3, .int l3)]) rfl dX10_compareNew_33 ?_
        refine X_iload_n hg 4 rfl dX10_compareNew_35 ?_
        refine X_aload_n hg 1 rfl dX10_compareNew_36 ?_
        refine X_getR hg (j := 18) cf_10 (Nat.le_of_ble_eq_true rfl) (Or.inr ⟨_, rfl⟩) m_918 dX10_compareNew_37 (fun x7 _ => ?_)
        refine X_iload_n hg 3 rfl dX10_compareNew_40 ?_
        refine X_ald hg dX10_compareNew_41 (fun x8 _ => ?_)
        refine X_reg (fun (v9 : Int32) o => Xo g x0 6 0 0 60 [(0, .ref (nB g.1 + l0)), (1, .int l1), (2, .int l2), (3, .int l3), (4, .int v3)] [.int v9] h o) (fun kv9 hk9 => ?_) (fun v9 => ?_)
        · refine X_ib ?_
          refine X_icmp_ge hg (tgt := 59) dX10_compareNew_42 rfl (fun c12 => ?_) (fun c12 => ?_)
          · refine X_iconst hg ic_i_0 dX10_compareNew_59 ?_
            refine X_lv [1, 2, 3, 4, 0] rfl ?_
            exact hk9 (nI 0)
          · refine X_aload_n hg 1 rfl dX10_compareNew_45 ?_
            refine X_as ?_
            refine X_getR hg (j := 19) cf_10 (Nat.le_of_ble_eq_true rfl) (Or.inr ⟨_, rfl⟩) m_919 dX10_compareNew_46 (fun x10 _ => ?_)
            refine X_bipush hg ic_b_8 dX10_compareNew_49 ?_
            refine X_iload_n hg 3 rfl dX10_compareNew_51 ?_
            refine X_imul hg dX10_compareNew_52 ?_
            refine X_iload_n hg 4 rfl dX10_compareNew_53 ?_
            refine X_iadd hg dX10_compareNew_54 ?_
            refine X_as ?_
            refine X_ald hg dX10_compareNew_55 (fun x11 _ => ?_)
            refine X_goto hg (tgt := 60) dX10_compareNew_56 rfl ?_
            refine X_lv [1, 2, 3, 4, 0] rfl ?_
            exact hk9 x11
        · refine X_istore hg (Nat.le_of_ble_eq_true rfl) (lv' := [(5, .int v9), (0, .ref (nB g.1 + l0)), (1, .int l1), (2, .int l2), (3, .int l3), (4, .int v3)]) rfl dX10_compareNew_60 ?_
          refine X_iload hg 5 rfl dX10_compareNew_62 ?_
          refine X_iload hg 0 rfl dX10_compareNew_64 ?_
          refine X_icmp_eq hg (tgt := 82) dX10_compareNew_66 rfl (fun c15 => ?_) (fun c15 => ?_)
          · refine X_iinc hg 4 rfl (v := (l3 + (nI 1))) (icc ic_i_1) (Nat.le_of_ble_eq_true rfl) (lv' := [(3, .int (l3 + (nI 1))), (5, .int v9), (0, .ref (nB g.1 + l0)), (1, .int l1), (2, .int l2), (4, .int v3)]) rfl dX10_compareNew_82 ?_
            refine X_goto hg (tgt := 2) dX10_compareNew_85 rfl ?_
            refine X_lv [2, 3, 4, 0] rfl ?_
            exact ih _
          · refine X_iload hg 5 rfl dX10_compareNew_69 ?_
            refine X_iload hg 0 rfl dX10_compareNew_71 ?_
            refine X_reg (fun (v13 : Int32) o => Xo g x0 6 0 0 81 [] [.int v13] h o) (fun kv13 hk13 => ?_) (fun v13 => ?_)
            · refine X_ib ?_
              refine X_icmp_ge hg (tgt := 80) dX10_compareNew_73 rfl (fun c14 => ?_) (fun c14 => ?_)
              · refine X_iconst hg ic_i_1 dX10_compareNew_80 ?_
                refine X_lv [] rfl ?_
                exact hk13 (nI 1)
              · refine X_iconst hg ic_i_m1 dX10_compareNew_76 ?_
                refine X_goto hg (tgt := 81) dX10_compareNew_77 rfl ?_
                refine X_lv [] rfl ?_
                exact hk13 m1
            · exact X_iret hg hr (Nat.le_of_ble_eq_true rfl) (Nat.le_of_ble_eq_true rfl) dX10_compareNew_81
set_option maxRecDepth 10000 in
theorem c_X10_compareNew (en : EN) (a0 : Nat) (a1 : Int32) (a2 : Int32) (h : Hp) (x0 : Int32) (e : f_X10_compareNew a0 a1 a2 h = some x0) : Ct en yX10_compareNew cX10_compareNew 6 (some .int) 0 0 0 0 [.ref (nB en + a0), .int a1, .int a2] h (some (.int x0)) h := by
  refine Ct.of (by decide) rfl (Nat.le_of_ble_eq_true rfl) e (fun g hen hg hr => ?_)
  subst hen
  unfold f_X10_compareNew
  refine X_gd ?_
  refine X_iconst hg ic_i_0 dX10_compareNew_0 ?_
  refine X_istore_n hg rfl (Nat.le_of_ble_eq_true rfl) (lv' := [(3, .int (nI 0)), (0, .ref (nB g.1 + a0)), (1, .int a1), (2, .int a2)]) rfl dX10_compareNew_1 ?_
  refine X_lv [1, 2, 3, 0] rfl ?_
  refine l_X10_compareNew_2 hg _ _ _ _ hr _ ?_ _ _
  refine X_iconst hg ic_i_0 dX10_compareNew_88 ?_
  exact X_iret hg hr (Nat.le_of_ble_eq_true rfl) (Nat.le_of_ble_eq_true rfl) dX10_compareNew_89
set_option maxRecDepth 10000 in
theorem l_X10_isThere_4 {g : XC} {x0 : Int32} (hg : XG g RX10 cX10_isThere 4 1 25 0 0) (l0 : Nat) (l1 : Int32) (h : Hp) (hr : XR g (some .boolean) "isThere" (some (.int x0)) h 0 0) (K : Int32 → Option (Int32)) (hK0 : ∀ (l2 : Int32), Xo g x0 4 0 0 37 [(2, .int l2)] [] h (K l2)) : ∀ (n : Nat) (l2 : Int32) (l3 : Int32), Xo g x0 4 0 0 4 [(0, .ref (nB g.1 + l0)), (1, .int l1), (2, .int l2), (3, .int l3)] [] h (f_X10_isThere_L4 l0 l1 h K n l2 l3) := by
  intro n
  induction n with
  | zero =>
    intro l2 l3
    exact X_none
  | succ n ih =>
    intro l2 l3
    unfold f_X10_isThere_L4
    refine X_iload_n hg 3 rfl dX10_isThere_4 ?_
    refine X_aload_n hg 0 rfl dX10_isThere_5 ?_
    refine X_getI hg (j := 2) cf_10 (Nat.le_of_ble_eq_true rfl) (Or.inl rfl) m_902 dX10_isThere_6 (fun x1 _ => ?_)
    refine X_icmp_ge hg (tgt := 37) dX10_isThere_9 rfl (fun c6 => ?_) (fun c6 => ?_)
    · refine X_lv [2] rfl ?_
      exact hK0 _
    · refine X_iload_n hg 2 rfl dX10_isThere_12 ?_
      refine X_reg (fun (v2 : Int32) o => Xo g x0 4 0 0 30 [(0, .ref (nB g.1 + l0)), (1, .int l1), (3, .int l3)] [.int v2] h o) (fun kv2 hk2 => ?_) (fun v2 => ?_)
      · refine X_ib ?_
        refine X_if_ne hg (tgt := 25) dX10_isThere_13 rfl (fun c5 => ?_) (fun c5 => ?_)
        · refine X_aload_n hg 0 rfl dX10_isThere_16 ?_
          refine X_iload_n hg 3 rfl dX10_isThere_17 ?_
          refine X_iload_n hg 1 rfl dX10_isThere_18 ?_
          refine X_as ?_
          refine X_cVI0 hg mf_X10_compareNew m_1049 m_35 m_1047 cf_10 (fun _ e => gd_isO e) (fun y e => c_X10_compareNew g.1 l0 l3 l1 h y e) (As := [.int l3, .int l1]) rfl (Nat.le_of_ble_eq_true rfl) rfl (Nat.le_of_ble_eq_true rfl) (Nat.le_of_ble_eq_true rfl) (Nat.le_of_ble_eq_true rfl) (Nat.le_of_ble_eq_true rfl) dX10_isThere_19 (fun x3 _ => ?_)
          refine X_ib ?_
          refine X_if_ne hg (tgt := 29) dX10_isThere_22 rfl (fun c4 => ?_) (fun c4 => ?_)
          · refine X_iconst hg ic_i_1 dX10_isThere_25 ?_
            refine X_goto hg (tgt := 30) dX10_isThere_26 rfl ?_
            refine X_lv [0, 1, 3] rfl ?_
            exact hk2 (nI 1)
          · refine X_iconst hg ic_i_0 dX10_isThere_29 ?_
            refine X_lv [0, 1, 3] rfl ?_
            exact hk2 (nI 0)
        · refine X_iconst hg ic_i_1 dX10_isThere_25 ?_
          refine X_goto hg (tgt := 30) dX10_isThere_26 rfl ?_
          refine X_lv [0, 1, 3] rfl ?_
          exact hk2 (nI 1)
      · refine X_istore_n hg rfl (Nat.le_of_ble_eq_true rfl) (lv' := [(2, .int v2), (0, .ref (nB g.1 + l0)), (1, .int l1), (3, .int l3)]) rfl dX10_isThere_30 ?_
        refine X_iinc hg 3 rfl (v := (l3 + (nI 1))) (icc ic_i_1) (Nat.le_of_ble_eq_true rfl) (lv' := [(3, .int (l3 + (nI 1))), (2, .int v2), (0, .ref (nB g.1 + l0)), (1, .int l1)]) rfl dX10_isThere_31 ?_
        refine X_goto hg (tgt := 4) dX10_isThere_34 rfl ?_
        refine X_lv [2, 3, 1, 0] rfl ?_
        exact ih _ _
set_option maxRecDepth 10000 in
theorem c_X10_isThere (en : EN) (a0 : Nat) (a1 : Int32) (h : Hp) (x0 : Int32) (e : f_X10_isThere a0 a1 h = some x0) : Ct en yX10_isThere cX10_isThere 4 (some .boolean) 1 25 0 0 [.ref (nB en + a0), .int a1] h (some (.int x0)) h := by
  refine Ct.of (by decide) rfl (Nat.le_of_ble_eq_true rfl) e (fun g hen hg hr => ?_)
  subst hen
  unfold f_X10_isThere
  refine X_gd ?_
  refine X_iconst hg ic_i_0 dX10_isThere_0 ?_
  refine X_istore_n hg rfl (Nat.le_of_ble_eq_true rfl) (lv' := [(2, .int (nI 0)), (0, .ref (nB g.1 + a0)), (1, .int a1)]) rfl dX10_isThere_1 ?_
  refine X_iconst hg ic_i_0 dX10_isThere_2 ?_
  refine X_istore_n hg rfl (Nat.le_of_ble_eq_true rfl) (lv' := [(3, .int (nI 0)), (2, .int (nI 0)), (0, .ref (nB g.1 + a0)), (1, .int a1)]) rfl dX10_isThere_3 ?_
  refine X_lv [2, 3, 1, 0] rfl ?_
  refine l_X10_isThere_4 hg _ _ _ hr _ (fun y7 => ?_) _ _ _
  refine X_iload_n hg 0 rfl dX10_isThere_37 ?_
  exact X_zret hg hr (Nat.le_of_ble_eq_true rfl) (Nat.le_of_ble_eq_true rfl) dX10_isThere_38
set_option maxRecDepth 10000 in
theorem l_X10_moveName_26 {g : XC} {x0 : Hp} (hg : XG g RX10 cX10_moveName 4 0 0 0 0) (l0 : Nat) (l1 : Int32) (l2 : Int32) (hr : XR g none "moveName" none x0 0 0) (K : Hp → Option (Hp)) (hK0 : ∀ (h : Hp), Xo g x0 4 0 0 60 [] [] h (K h)) : ∀ (n : Nat) (l3 : Int32) (h : Hp), Xo g x0 4 0 0 26 [(0, .ref (nB g.1 + l0)), (1, .int l1), (2, .int l2), (3, .int l3)] [] h (f_X10_moveName_L26 l0 l1 l2 K n l3 h) := by
  intro n
  induction n with
  | zero =>
    intro l3 h
    exact X_none
  | succ n ih =>
    intro l3 h
    unfold f_X10_moveName_L26
    refine X_iload_n hg 3 rfl dX10_moveName_26 ?_
    refine X_bipush hg ic_b_8 dX10_moveName_27 ?_
    refine X_icmp_ge hg (tgt := 60) dX10_moveName_29 rfl (fun c13 => ?_) (fun c13 => ?_)
    · refine X_lv [] rfl ?_
      exact hK0  _
    · refine X_aload_n hg 0 rfl dX10_moveName_32 ?_
      refine X_getR hg (j := 4) cf_10 (Nat.le_of_ble_eq_true rfl) (Or.inr ⟨_, rfl⟩) m_904 dX10_moveName_33 (fun x9 _ => ?_)
      refine X_bipush hg ic_b_8 dX10_moveName_36 ?_
      refine X_iload_n hg 2 rfl dX10_moveName_38 ?_
      refine X_imul hg dX10_moveName_39 ?_
      refine X_iload_n hg 3 rfl dX10_moveName_40 ?_
      refine X_iadd hg dX10_moveName_41 ?_
      refine X_aload_n hg 0 rfl dX10_moveName_42 ?_
      refine X_getR hg (j := 4) cf_10 (Nat.le_of_ble_eq_true rfl) (Or.inr ⟨_, rfl⟩) m_904 dX10_moveName_43 (fun x10 _ => ?_)
      refine X_bipush hg ic_b_8 dX10_moveName_46 ?_
      refine X_iload_n hg 1 rfl dX10_moveName_48 ?_
      refine X_imul hg dX10_moveName_49 ?_
      refine X_iload_n hg 3 rfl dX10_moveName_50 ?_
      refine X_iadd hg dX10_moveName_51 ?_
      refine X_ald hg dX10_moveName_52 (fun x11 _ => ?_)
      refine X_ast hg dX10_moveName_53 (fun h12 _ => ?_)
      refine X_iinc hg 3 rfl (v := (l3 + (nI 1))) (icc ic_i_1) (Nat.le_of_ble_eq_true rfl) (lv' := [(3, .int (l3 + (nI 1))), (0, .ref (nB g.1 + l0)), (1, .int l1), (2, .int l2)]) rfl dX10_moveName_54 ?_
      refine X_goto hg (tgt := 26) dX10_moveName_57 rfl ?_
      refine X_lv [1, 2, 3, 0] rfl ?_
      exact ih _ _
set_option maxRecDepth 10000 in
theorem c_X10_moveName (en : EN) (a0 : Nat) (a1 : Int32) (a2 : Int32) (h : Hp) (x0 : Hp) (e : f_X10_moveName a0 a1 a2 h = some x0) : Ct en yX10_moveName cX10_moveName 4 none 0 0 0 0 [.ref (nB en + a0), .int a1, .int a2] h none x0 := by
  refine Ct.of (by decide) rfl (Nat.le_of_ble_eq_true rfl) e (fun g hen hg hr => ?_)
  subst hen
  unfold f_X10_moveName
  refine X_gd ?_
  refine X_aload_n hg 0 rfl dX10_moveName_0 ?_
  refine X_getR hg (j := 3) cf_10 (Nat.le_of_ble_eq_true rfl) (Or.inr ⟨_, rfl⟩) m_903 dX10_moveName_1 (fun x1 _ => ?_)
  refine X_iload_n hg 2 rfl dX10_moveName_4 ?_
  refine X_aload_n hg 0 rfl dX10_moveName_5 ?_
  refine X_getR hg (j := 3) cf_10 (Nat.le_of_ble_eq_true rfl) (Or.inr ⟨_, rfl⟩) m_903 dX10_moveName_6 (fun x2 _ => ?_)
  refine X_iload_n hg 1 rfl dX10_moveName_9 ?_
  refine X_ald hg dX10_moveName_10 (fun x3 _ => ?_)
  refine X_ast hg dX10_moveName_11 (fun h4 _ => ?_)
  refine X_aload_n hg 0 rfl dX10_moveName_12 ?_
  refine X_getR hg (j := 5) cf_10 (Nat.le_of_ble_eq_true rfl) (Or.inr ⟨_, rfl⟩) m_905 dX10_moveName_13 (fun x5 _ => ?_)
  refine X_iload_n hg 2 rfl dX10_moveName_16 ?_
  refine X_aload_n hg 0 rfl dX10_moveName_17 ?_
  refine X_getR hg (j := 5) cf_10 (Nat.le_of_ble_eq_true rfl) (Or.inr ⟨_, rfl⟩) m_905 dX10_moveName_18 (fun x6 _ => ?_)
  refine X_iload_n hg 1 rfl dX10_moveName_21 ?_
  refine X_ald hg dX10_moveName_22 (fun x7 _ => ?_)
  refine X_ast hg dX10_moveName_23 (fun h8 _ => ?_)
  refine X_iconst hg ic_i_0 dX10_moveName_24 ?_
  refine X_istore_n hg rfl (Nat.le_of_ble_eq_true rfl) (lv' := [(3, .int (nI 0)), (0, .ref (nB g.1 + a0)), (1, .int a1), (2, .int a2)]) rfl dX10_moveName_25 ?_
  refine X_lv [1, 2, 3, 0] rfl ?_
  refine l_X10_moveName_26 hg _ _ _ hr _ (fun h14 => ?_) _ _ _
  exact X_vret hg hr (Nat.le_of_ble_eq_true rfl) (Nat.le_of_ble_eq_true rfl) dX10_moveName_60
set_option maxRecDepth 10000 in
theorem l_X10_comes_5 {g : XC} {x0 : Hp} (hg : XG g RX10 cX10_comes 4 1 25 0 0) (l0 : Nat) (l1 : Int32) (hr : XR g none "comes" none x0 0 0) (K : Int32 → Hp → Option (Hp)) (hK0 : ∀ (l2 : Int32) (h : Hp), Xo g x0 4 0 0 34 [(0, .ref (nB g.1 + l0)), (1, .int l1), (2, .int l2)] [] h (K l2 h)) : ∀ (n : Nat) (l2 : Int32) (h : Hp), Xo g x0 4 0 0 5 [(0, .ref (nB g.1 + l0)), (1, .int l1), (2, .int l2)] [] h (f_X10_comes_L5 l0 l1 K n l2 h) := by
  intro n
  induction n with
  | zero =>
    intro l2 h
    exact X_none
  | succ n ih =>
    intro l2 h
    unfold f_X10_comes_L5
    refine X_iload_n hg 2 rfl dX10_comes_5 ?_
    refine X_if_le hg (tgt := 34) dX10_comes_6 rfl (fun c5 => ?_) (fun c5 => ?_)
    · exact hK0 _ _
    · refine X_aload_n hg 0 rfl dX10_comes_9 ?_
      refine X_iload_n hg 2 rfl dX10_comes_10 ?_
      refine X_iconst hg ic_i_1 dX10_comes_11 ?_
      refine X_isub hg dX10_comes_12 ?_
      refine X_iload_n hg 1 rfl dX10_comes_13 ?_
      refine X_cVI0 hg mf_X10_compareNew m_1049 m_35 m_1047 cf_10 (fun _ e => gd_isO e) (fun y e => c_X10_compareNew g.1 l0 (l2 - (nI 1)) l1 h y e) (As := [.int (l2 - (nI 1)), .int l1]) rfl (Nat.le_of_ble_eq_true rfl) rfl (Nat.le_of_ble_eq_true rfl) (Nat.le_of_ble_eq_true rfl) (Nat.le_of_ble_eq_true rfl) (Nat.le_of_ble_eq_true rfl) dX10_comes_14 (fun x2 _ => ?_)
      refine X_if_le hg (tgt := 34) dX10_comes_17 rfl (fun c4 => ?_) (fun c4 => ?_)
      · exact hK0 _ _
      · refine X_aload_n hg 0 rfl dX10_comes_20 ?_
        refine X_iload_n hg 2 rfl dX10_comes_21 ?_
        refine X_iconst hg ic_i_1 dX10_comes_22 ?_
        refine X_isub hg dX10_comes_23 ?_
        refine X_iload_n hg 2 rfl dX10_comes_24 ?_
        refine X_cVV0 hg mf_X10_moveName m_1057 m_37 m_1055 cf_10 (fun _ e => gd_isO e) (fun y e => c_X10_moveName g.1 l0 (l2 - (nI 1)) l2 h y e) (As := [.int (l2 - (nI 1)), .int l2]) rfl (Nat.le_of_ble_eq_true rfl) rfl (Nat.le_of_ble_eq_true rfl) (Nat.le_of_ble_eq_true rfl) (Nat.le_of_ble_eq_true rfl) (Nat.le_of_ble_eq_true rfl) dX10_comes_25 (fun h3 _ => ?_)
        refine X_iinc hg 2 rfl (v := (l2 + m1)) (icc ic_i_m1) (Nat.le_of_ble_eq_true rfl) (lv' := [(2, .int (l2 + m1)), (0, .ref (nB g.1 + l0)), (1, .int l1)]) rfl dX10_comes_28 ?_
        refine X_goto hg (tgt := 5) dX10_comes_31 rfl ?_
        refine X_lv [1, 2, 0] rfl ?_
        exact ih _ _
set_option maxRecDepth 10000 in
theorem l_X10_comes_60 {g : XC} {x0 : Hp} (hg : XG g RX10 cX10_comes 4 1 25 0 0) (l0 : Nat) (l1 : Int32) (l2 : Int32) (hr : XR g none "comes" none x0 0 0) (K : Hp → Option (Hp)) (hK0 : ∀ (h : Hp), Xo g x0 4 0 0 94 [(0, .ref (nB g.1 + l0))] [] h (K h)) : ∀ (n : Nat) (l3 : Int32) (h : Hp), Xo g x0 4 0 0 60 [(0, .ref (nB g.1 + l0)), (1, .int l1), (2, .int l2), (3, .int l3)] [] h (f_X10_comes_L60 l0 l1 l2 K n l3 h) := by
  intro n
  induction n with
  | zero =>
    intro l3 h
    exact X_none
  | succ n ih =>
    intro l3 h
    unfold f_X10_comes_L60
    refine X_iload_n hg 3 rfl dX10_comes_60 ?_
    refine X_bipush hg ic_b_8 dX10_comes_61 ?_
    refine X_icmp_ge hg (tgt := 94) dX10_comes_63 rfl (fun c20 => ?_) (fun c20 => ?_)
    · refine X_lv [0] rfl ?_
      exact hK0  _
    · refine X_aload_n hg 0 rfl dX10_comes_66 ?_
      refine X_getR hg (j := 4) cf_10 (Nat.le_of_ble_eq_true rfl) (Or.inr ⟨_, rfl⟩) m_904 dX10_comes_67 (fun x16 _ => ?_)
      refine X_bipush hg ic_b_8 dX10_comes_70 ?_
      refine X_iload_n hg 2 rfl dX10_comes_72 ?_
      refine X_imul hg dX10_comes_73 ?_
      refine X_iload_n hg 3 rfl dX10_comes_74 ?_
      refine X_iadd hg dX10_comes_75 ?_
      refine X_aload_n hg 0 rfl dX10_comes_76 ?_
      refine X_getR hg (j := 19) cf_10 (Nat.le_of_ble_eq_true rfl) (Or.inr ⟨_, rfl⟩) m_919 dX10_comes_77 (fun x17 _ => ?_)
      refine X_bipush hg ic_b_8 dX10_comes_80 ?_
      refine X_iload_n hg 1 rfl dX10_comes_82 ?_
      refine X_imul hg dX10_comes_83 ?_
      refine X_iload_n hg 3 rfl dX10_comes_84 ?_
      refine X_iadd hg dX10_comes_85 ?_
      refine X_ald hg dX10_comes_86 (fun x18 _ => ?_)
      refine X_ast hg dX10_comes_87 (fun h19 _ => ?_)
      refine X_iinc hg 3 rfl (v := (l3 + (nI 1))) (icc ic_i_1) (Nat.le_of_ble_eq_true rfl) (lv' := [(3, .int (l3 + (nI 1))), (0, .ref (nB g.1 + l0)), (1, .int l1), (2, .int l2)]) rfl dX10_comes_88 ?_
      refine X_goto hg (tgt := 60) dX10_comes_91 rfl ?_
      refine X_lv [1, 2, 3, 0] rfl ?_
      exact ih _ _
set_option maxRecDepth 10000 in
theorem c_X10_comes (en : EN) (a0 : Nat) (a1 : Int32) (h : Hp) (x0 : Hp) (e : f_X10_comes a0 a1 h = some x0) : Ct en yX10_comes cX10_comes 4 none 1 25 0 0 [.ref (nB en + a0), .int a1] h none x0 := by
  refine Ct.of (by decide) rfl (Nat.le_of_ble_eq_true rfl) e (fun g hen hg hr => ?_)
  subst hen
  unfold f_X10_comes
  refine X_gd ?_
  refine X_aload_n hg 0 rfl dX10_comes_0 ?_
  refine X_getI hg (j := 2) cf_10 (Nat.le_of_ble_eq_true rfl) (Or.inl rfl) m_902 dX10_comes_1 (fun x1 _ => ?_)
  refine X_istore_n hg rfl (Nat.le_of_ble_eq_true rfl) (lv' := [(2, .int x1), (0, .ref (nB g.1 + a0)), (1, .int a1)]) rfl dX10_comes_4 ?_
  refine X_lv [1, 2, 0] rfl ?_
  refine l_X10_comes_5 hg _ _ hr _ (fun y6 h7 => ?_) _ _ _
  refine X_aload_n hg 0 rfl dX10_comes_34 ?_
  refine X_getR hg (j := 3) cf_10 (Nat.le_of_ble_eq_true rfl) (Or.inr ⟨_, rfl⟩) m_903 dX10_comes_35 (fun x8 _ => ?_)
  refine X_iload_n hg 2 rfl dX10_comes_38 ?_
  refine X_aload_n hg 0 rfl dX10_comes_39 ?_
  refine X_getR hg (j := 18) cf_10 (Nat.le_of_ble_eq_true rfl) (Or.inr ⟨_, rfl⟩) m_918 dX10_comes_40 (fun x9 _ => ?_)
  refine X_iload_n hg 1 rfl dX10_comes_43 ?_
  refine X_ald hg dX10_comes_44 (fun x10 _ => ?_)
  refine X_ast hg dX10_comes_45 (fun h11 _ => ?_)
  refine X_aload_n hg 0 rfl dX10_comes_46 ?_
  refine X_getR hg (j := 5) cf_10 (Nat.le_of_ble_eq_true rfl) (Or.inr ⟨_, rfl⟩) m_905 dX10_comes_47 (fun x12 _ => ?_)
  refine X_iload_n hg 2 rfl dX10_comes_50 ?_
  refine X_aload_n hg 0 rfl dX10_comes_51 ?_
  refine X_getR hg (j := 20) cf_10 (Nat.le_of_ble_eq_true rfl) (Or.inr ⟨_, rfl⟩) m_920 dX10_comes_52 (fun x13 _ => ?_)
  refine X_iload_n hg 1 rfl dX10_comes_55 ?_
  refine X_ald hg dX10_comes_56 (fun x14 _ => ?_)
  refine X_ast hg dX10_comes_57 (fun h15 _ => ?_)
  refine X_iconst hg ic_i_0 dX10_comes_58 ?_
  refine X_istore_n hg rfl (Nat.le_of_ble_eq_true rfl) (lv' := [(3, .int (nI 0)), (0, .ref (nB g.1 + a0)), (1, .int a1), (2, .int y6)]) rfl dX10_comes_59 ?_
  refine X_lv [1, 2, 3, 0] rfl ?_
  refine l_X10_comes_60 hg _ _ _ hr _ (fun h21 => ?_) _ _ _
  refine X_aload_n hg 0 rfl dX10_comes_94 ?_
  refine X_dup hg rfl dX10_comes_95 ?_
  refine X_getI hg (j := 2) cf_10 (Nat.le_of_ble_eq_true rfl) (Or.inl rfl) m_902 dX10_comes_96 (fun x22 _ => ?_)
  refine X_iconst hg ic_i_1 dX10_comes_99 ?_
  refine X_iadd hg dX10_comes_100 ?_
  refine X_putI hg (j := 2) cf_10 (Nat.le_of_ble_eq_true rfl) rfl (Or.inl rfl) m_902 dX10_comes_101 (fun h23 _ => ?_)
  exact X_vret hg hr (Nat.le_of_ble_eq_true rfl) (Nat.le_of_ble_eq_true rfl) dX10_comes_104
set_option maxRecDepth 10000 in
theorem l_X10_names_27 {g : XC} {x0 : Int32 × Hp} (hg : XG g RX10 cX10_names 3 4 88 0 0) (l0 : Nat) (h : Hp) (hr : XR g (some .int) "names" (some (.int x0.1)) x0.2 0 0) (K : Int32 → Option (Int32 × Hp)) (hK0 : ∀ (l1 : Int32), Xo g x0 3 0 0 59 [(0, .ref (nB g.1 + l0)), (1, .int l1)] [] h (K l1)) : ∀ (n : Nat) (l1 : Int32) (l2 : Int32), Xo g x0 3 0 0 27 [(0, .ref (nB g.1 + l0)), (1, .int l1), (2, .int l2)] [] h (f_X10_names_L27 l0 h K n l1 l2) := by
  intro n
  induction n with
  | zero =>
    intro l1 l2
    exact X_none
  | succ n ih =>
    intro l1 l2
    unfold f_X10_names_L27
    refine X_iload_n hg 2 rfl dX10_names_27 ?_
    refine X_aload_n hg 0 rfl dX10_names_28 ?_
    refine X_getI hg (j := 17) cf_10 (Nat.le_of_ble_eq_true rfl) (Or.inl rfl) m_917 dX10_names_29 (fun x7 _ => ?_)
    refine X_icmp_ge hg (tgt := 59) dX10_names_32 rfl (fun c12 => ?_) (fun c12 => ?_)
    · refine X_lv [0, 1] rfl ?_
      exact hK0 _
    · refine X_iload_n hg 1 rfl dX10_names_35 ?_
      refine X_if_eq hg (tgt := 59) dX10_names_36 rfl (fun c11 => ?_) (fun c11 => ?_)
      · refine X_lv [0, 1] rfl ?_
        exact hK0 _
      · refine X_aload_n hg 0 rfl dX10_names_39 ?_
        refine X_iload_n hg 2 rfl dX10_names_40 ?_
        refine X_cVI0 hg mf_X10_isThere m_1045 m_34 m_1043 cf_10 (fun _ e => gd_isO e) (fun y e => c_X10_isThere g.1 l0 l2 h y e) (As := [.int l2]) rfl (Nat.le_of_ble_eq_true rfl) rfl (Nat.le_of_ble_eq_true rfl) (Nat.le_of_ble_eq_true rfl) (Nat.le_of_ble_eq_true rfl) (Nat.le_of_ble_eq_true rfl) dX10_names_41 (fun x8 _ => ?_)
        refine X_reg (fun (v9 : Int32) o => Xo g x0 3 0 0 52 [(0, .ref (nB g.1 + l0)), (2, .int l2)] [.int v9] h o) (fun kv9 hk9 => ?_) (fun v9 => ?_)
        · refine X_ib ?_
          refine X_if_ne hg (tgt := 51) dX10_names_44 rfl (fun c10 => ?_) (fun c10 => ?_)
          · refine X_iconst hg ic_i_1 dX10_names_47 ?_
            refine X_goto hg (tgt := 52) dX10_names_48 rfl ?_
            refine X_lv [0, 2] rfl ?_
            exact hk9 (nI 1)
          · refine X_iconst hg ic_i_0 dX10_names_51 ?_
            refine X_lv [0, 2] rfl ?_
            exact hk9 (nI 0)
        · refine X_istore_n hg rfl (Nat.le_of_ble_eq_true rfl) (lv' := [(1, .int v9), (0, .ref (nB g.1 + l0)), (2, .int l2)]) rfl dX10_names_52 ?_
          refine X_iinc hg 2 rfl (v := (l2 + (nI 1))) (icc ic_i_1) (Nat.le_of_ble_eq_true rfl) (lv' := [(2, .int (l2 + (nI 1))), (1, .int v9), (0, .ref (nB g.1 + l0))]) rfl dX10_names_53 ?_
          refine X_goto hg (tgt := 27) dX10_names_56 rfl ?_
          refine X_lv [2, 1, 0] rfl ?_
          exact ih _ _
set_option maxRecDepth 10000 in
theorem l_X10_names_85 {g : XC} {x0 : Int32 × Hp} (hg : XG g RX10 cX10_names 3 4 88 0 0) (l0 : Nat) (hr : XR g (some .int) "names" (some (.int x0.1)) x0.2 0 0) (K : Hp → Option (Int32 × Hp)) (hK0 : ∀ (h : Hp), Xo g x0 3 0 0 104 [(0, .ref (nB g.1 + l0))] [] h (K h)) : ∀ (n : Nat) (l2 : Int32) (h : Hp), Xo g x0 3 0 0 85 [(0, .ref (nB g.1 + l0)), (2, .int l2)] [] h (f_X10_names_L85 l0 K n l2 h) := by
  intro n
  induction n with
  | zero =>
    intro l2 h
    exact X_none
  | succ n ih =>
    intro l2 h
    unfold f_X10_names_L85
    refine X_iload_n hg 1 rfl dX10_names_85 ?_
    refine X_aload_n hg 0 rfl dX10_names_86 ?_
    refine X_getI hg (j := 17) cf_10 (Nat.le_of_ble_eq_true rfl) (Or.inl rfl) m_917 dX10_names_87 (fun x16 _ => ?_)
    refine X_icmp_ge hg (tgt := 104) dX10_names_90 rfl (fun c18 => ?_) (fun c18 => ?_)
    · refine X_lv [0] rfl ?_
      exact hK0  _
    · refine X_aload_n hg 0 rfl dX10_names_93 ?_
      refine X_iload_n hg 1 rfl dX10_names_94 ?_
      refine X_cVV0 hg mf_X10_comes m_1053 m_36 m_1051 cf_10 (fun _ e => gd_isO e) (fun y e => c_X10_comes g.1 l0 l2 h y e) (As := [.int l2]) rfl (Nat.le_of_ble_eq_true rfl) rfl (Nat.le_of_ble_eq_true rfl) (Nat.le_of_ble_eq_true rfl) (Nat.le_of_ble_eq_true rfl) (Nat.le_of_ble_eq_true rfl) dX10_names_95 (fun h17 _ => ?_)
      refine X_iinc hg 1 rfl (v := (l2 + (nI 1))) (icc ic_i_1) (Nat.le_of_ble_eq_true rfl) (lv' := [(2, .int (l2 + (nI 1))), (0, .ref (nB g.1 + l0))]) rfl dX10_names_98 ?_
      refine X_goto hg (tgt := 85) dX10_names_101 rfl ?_
      refine X_lv [1, 0] rfl ?_
      exact ih _ _
set_option maxRecDepth 10000 in
theorem c_X10_names (en : EN) (a0 : Nat) (h : Hp) (x0 : Int32 × Hp) (e : f_X10_names a0 h = some x0) : Ct en yX10_names cX10_names 3 (some .int) 4 88 0 0 [.ref (nB en + a0)] h (some (.int x0.1)) x0.2 := by
  refine Ct.of (by decide) rfl (Nat.le_of_ble_eq_true rfl) e (fun g hen hg hr => ?_)
  subst hen
  unfold f_X10_names
  refine X_gd ?_
  refine X_aload_n hg 0 rfl dX10_names_0 ?_
  refine X_cVIW0 hg mf_X10_read m_1017 m_28 m_1015 cf_10 (fun _ e => gd_isO e) (fun y e => c_X10_read g.1 a0 h y e) (As := []) rfl (Nat.le_of_ble_eq_true rfl) rfl (Nat.le_of_ble_eq_true rfl) (Nat.le_of_ble_eq_true rfl) (Nat.le_of_ble_eq_true rfl) (Nat.le_of_ble_eq_true rfl) dX10_names_1 (fun p1 _ => ?_)
  refine X_aload_n hg 0 rfl dX10_names_4 ?_
  refine X_getI hg (j := 0) cf_10 (Nat.le_of_ble_eq_true rfl) (Or.inl rfl) m_900 dX10_names_5 (fun x2 _ => ?_)
  refine X_reg (fun (v3 : Int32) o => Xo g x0 3 0 0 24 [(0, .ref (nB g.1 + a0))] [.int v3] p1.2 o) (fun kv3 hk3 => ?_) (fun v3 => ?_)
  · refine X_ib ?_
    refine X_icmp_ne hg (tgt := 23) dX10_names_8 rfl (fun c6 => ?_) (fun c6 => ?_)
    · refine X_aload_n hg 0 rfl dX10_names_11 ?_
      refine X_as ?_
      refine X_getI hg (j := 16) cf_10 (Nat.le_of_ble_eq_true rfl) (Or.inl rfl) m_916 dX10_names_12 (fun x4 _ => ?_)
      refine X_iconst hg ic_i_2 dX10_names_15 ?_
      refine X_ib ?_
      refine X_icmp_le hg (tgt := 23) dX10_names_16 rfl (fun c5 => ?_) (fun c5 => ?_)
      · refine X_iconst hg ic_i_0 dX10_names_23 ?_
        exact hk3 (nI 0)
      · refine X_iconst hg ic_i_1 dX10_names_19 ?_
        refine X_goto hg (tgt := 24) dX10_names_20 rfl ?_
        exact hk3 (nI 1)
    · refine X_iconst hg ic_i_0 dX10_names_23 ?_
      exact hk3 (nI 0)
  · refine X_istore_n hg rfl (Nat.le_of_ble_eq_true rfl) (lv' := [(1, .int v3), (0, .ref (nB g.1 + a0))]) rfl dX10_names_24 ?_
    refine X_iconst hg ic_i_0 dX10_names_25 ?_
    refine X_istore_n hg rfl (Nat.le_of_ble_eq_true rfl) (lv' := [(2, .int (nI 0)), (1, .int v3), (0, .ref (nB g.1 + a0))]) rfl dX10_names_26 ?_
    refine X_lv [2, 1, 0] rfl ?_
    refine l_X10_names_27 hg _ _ hr _ (fun y13 => ?_) _ _ _
    refine X_iload_n hg 1 rfl dX10_names_59 ?_
    refine X_if_ne hg (tgt := 66) dX10_names_60 rfl (fun c26 => ?_) (fun c26 => ?_)
    · refine X_bipush hg ic_b_m103 dX10_names_63 ?_
      exact X_iretW hg hr (Nat.le_of_ble_eq_true rfl) (Nat.le_of_ble_eq_true rfl) dX10_names_65
    · refine X_aload_n hg 0 rfl dX10_names_66 ?_
      refine X_getI hg (j := 2) cf_10 (Nat.le_of_ble_eq_true rfl) (Or.inl rfl) m_902 dX10_names_67 (fun x14 _ => ?_)
      refine X_aload_n hg 0 rfl dX10_names_70 ?_
      refine X_getI hg (j := 17) cf_10 (Nat.le_of_ble_eq_true rfl) (Or.inl rfl) m_917 dX10_names_71 (fun x15 _ => ?_)
      refine X_iadd hg dX10_names_74 ?_
      refine X_bipush hg ic_b_14 dX10_names_75 ?_
      refine X_icmp_le hg (tgt := 83) dX10_names_77 rfl (fun c25 => ?_) (fun c25 => ?_)
      · refine X_iconst hg ic_i_0 dX10_names_83 ?_
        refine X_istore_n hg rfl (Nat.le_of_ble_eq_true rfl) (lv' := [(2, .int (nI 0)), (0, .ref (nB g.1 + a0)), (1, .int y13)]) rfl dX10_names_84 ?_
        refine X_lv [1, 0] rfl ?_
        refine l_X10_names_85 hg _ hr _ (fun h19 => ?_) _ _ _
        refine X_aload_n hg 0 rfl dX10_names_104 ?_
        refine X_dup hg rfl dX10_names_105 ?_
        refine X_getI hg (j := 6) cf_10 (Nat.le_of_ble_eq_true rfl) (Or.inl rfl) m_906 dX10_names_106 (fun x20 _ => ?_)
        refine X_iconst hg ic_i_1 dX10_names_109 ?_
        refine X_iadd hg dX10_names_110 ?_
        refine X_putI hg (j := 6) cf_10 (Nat.le_of_ble_eq_true rfl) rfl (Or.inl rfl) m_906 dX10_names_111 (fun h21 _ => ?_)
        refine X_aload_n hg 0 rfl dX10_names_114 ?_
        refine X_iconst hg ic_i_0 dX10_names_115 ?_
        refine X_putI hg (j := 12) cf_10 (Nat.le_of_ble_eq_true rfl) rfl (Or.inl rfl) m_912 dX10_names_116 (fun h22 _ => ?_)
        refine X_aload_n hg 0 rfl dX10_names_119 ?_
        refine X_iconst hg ic_i_0 dX10_names_120 ?_
        refine X_putI hg (j := 0) cf_10 (Nat.le_of_ble_eq_true rfl) rfl (Or.inl rfl) m_900 dX10_names_121 (fun h23 _ => ?_)
        refine X_aload_n hg 0 rfl dX10_names_124 ?_
        refine X_getI hg (j := 17) cf_10 (Nat.le_of_ble_eq_true rfl) (Or.inl rfl) m_917 dX10_names_125 (fun x24 _ => ?_)
        exact X_iretW hg hr (Nat.le_of_ble_eq_true rfl) (Nat.le_of_ble_eq_true rfl) dX10_names_128
      · refine X_bipush hg ic_b_m104 dX10_names_80 ?_
        exact X_iretW hg hr (Nat.le_of_ble_eq_true rfl) (Nat.le_of_ble_eq_true rfl) dX10_names_82
set_option maxRecDepth 10000 in
theorem l_X10_isDial_12 {g : XC} {x0 : Int32 × Hp} (hg : XG g RX10 cX10_isDial 6 0 0 0 0) (l0 : Nat) (hr : XR g (some .boolean) "isDial" (some (.int x0.1)) x0.2 0 0) (K : Int32 → Int32 → Int32 → Int32 → Hp → Option (Int32 × Hp)) (hK0 : ∀ (l1 : Int32) (l2 : Int32) (l3 : Int32) (l4 : Int32) (h : Hp), Xo g x0 6 0 0 113 [(1, .int l1), (2, .int l2), (3, .int l3), (4, .int l4)] [] h (K l1 l2 l3 l4 h)) : ∀ (n : Nat) (l1 : Int32) (l2 : Int32) (l3 : Int32) (l4 : Int32) (l5 : Int32) (h : Hp), Xo g x0 6 0 0 12 [(0, .ref (nB g.1 + l0)), (1, .int l1), (2, .int l2), (3, .int l3), (4, .int l4), (5, .int l5)] [] h (f_X10_isDial_L12 l0 K n l1 l2 l3 l4 l5 h) := by
  intro n
  induction n with
  | zero =>
    intro l1 l2 l3 l4 l5 h
    exact X_none
  | succ n ih =>
    intro l1 l2 l3 l4 l5 h
    unfold f_X10_isDial_L12
    refine X_iload hg 5 rfl dX10_isDial_12 ?_
    refine X_aload_n hg 0 rfl dX10_isDial_14 ?_
    refine X_getI hg (j := 0) cf_10 (Nat.le_of_ble_eq_true rfl) (Or.inl rfl) m_900 dX10_isDial_15 (fun x1 _ => ?_)
    refine X_icmp_ge hg (tgt := 113) dX10_isDial_18 rfl (fun c18 => ?_) (fun c18 => ?_)
    · refine X_lv [1, 2, 3, 4] rfl ?_
      exact hK0 _ _ _ _ _
    · refine X_iload hg 4 rfl dX10_isDial_21 ?_
      refine X_if_eq hg (tgt := 113) dX10_isDial_23 rfl (fun c17 => ?_) (fun c17 => ?_)
      · refine X_lv [1, 2, 3, 4] rfl ?_
        exact hK0 _ _ _ _ _
      · refine X_aload_n hg 0 rfl dX10_isDial_26 ?_
        refine X_getR hg (j := 1) cf_10 (Nat.le_of_ble_eq_true rfl) (Or.inr ⟨_, rfl⟩) m_901 dX10_isDial_27 (fun x2 _ => ?_)
        refine X_iload hg 5 rfl dX10_isDial_30 ?_
        refine X_ald hg dX10_isDial_32 (fun x3 _ => ?_)
        refine X_bipush hg ic_b_44 dX10_isDial_33 ?_
        refine X_reg (fun (v4 : Int32 × Int32 × Int32 × Int32 × Hp) o => Xo g x0 6 0 0 107 [(0, .ref (nB g.1 + l0)), (1, .int v4.1), (2, .int v4.2.1), (3, .int v4.2.2.1), (4, .int v4.2.2.2.1), (5, .int l5)] [] v4.2.2.2.2 o) (fun kv4 hk4 => ?_) (fun v4 => ?_)
        · refine X_ib ?_
          refine X_icmp_ne hg (tgt := 63) dX10_isDial_35 rfl (fun c16 => ?_) (fun c16 => ?_)
          · refine X_iload_n hg 3 rfl dX10_isDial_38 ?_
            refine X_as ?_
            refine X_reg (fun (v5 : Int32) o => Xo g x0 6 0 0 53 [(0, .ref (nB g.1 + l0)), (1, .int l1), (2, .int l2), (5, .int l5)] [.int v5] h o) (fun kv5 hk5 => ?_) (fun v5 => ?_)
            · refine X_ib ?_
              refine X_if_eq hg (tgt := 52) dX10_isDial_39 rfl (fun c7 => ?_) (fun c7 => ?_)
              · refine X_iconst hg ic_i_0 dX10_isDial_52 ?_
                refine X_lv [0, 1, 2, 5] rfl ?_
                exact hk5 (nI 0)
              · refine X_iload_n hg 2 rfl dX10_isDial_42 ?_
                refine X_bipush hg ic_b_9 dX10_isDial_43 ?_
                refine X_ib ?_
                refine X_icmp_ge hg (tgt := 52) dX10_isDial_45 rfl (fun c6 => ?_) (fun c6 => ?_)
                · refine X_iconst hg ic_i_0 dX10_isDial_52 ?_
                  refine X_lv [0, 1, 2, 5] rfl ?_
                  exact hk5 (nI 0)
                · refine X_iconst hg ic_i_1 dX10_isDial_48 ?_
                  refine X_goto hg (tgt := 53) dX10_isDial_49 rfl ?_
                  refine X_lv [0, 1, 2, 5] rfl ?_
                  exact hk5 (nI 1)
            · refine X_istore hg (Nat.le_of_ble_eq_true rfl) (lv' := [(4, .int v5), (0, .ref (nB g.1 + l0)), (1, .int l1), (2, .int l2), (5, .int l5)]) rfl dX10_isDial_53 ?_
              refine X_iinc hg 3 rfl (v := (l2 + (nI 1))) (icc ic_i_1) (Nat.le_of_ble_eq_true rfl) (lv' := [(2, .int (l2 + (nI 1))), (4, .int v5), (0, .ref (nB g.1 + l0)), (1, .int l1), (5, .int l5)]) rfl dX10_isDial_55 ?_
              refine X_iconst hg ic_i_0 dX10_isDial_58 ?_
              refine X_istore_n hg rfl (Nat.le_of_ble_eq_true rfl) (lv' := [(3, .int (nI 0)), (2, .int (l2 + (nI 1))), (4, .int v5), (0, .ref (nB g.1 + l0)), (1, .int l1), (5, .int l5)]) rfl dX10_isDial_59 ?_
              refine X_goto hg (tgt := 107) dX10_isDial_60 rfl ?_
              refine X_lv [3, 4, 1, 0, 2, 5] rfl ?_
              exact hk4 (l1, (l2 + (nI 1)), (nI 0), v5, h)
          · refine X_iload_n hg 1 rfl dX10_isDial_63 ?_
            refine X_bipush hg ic_b_26 dX10_isDial_64 ?_
            refine X_as ?_
            refine X_reg (fun (v8 : Int32) o => Xo g x0 6 0 0 88 [(0, .ref (nB g.1 + l0)), (1, .int l1), (2, .int l2), (3, .int l3), (5, .int l5)] [.int v8] h o) (fun kv8 hk8 => ?_) (fun v8 => ?_)
            · refine X_ib ?_
              refine X_icmp_ge hg (tgt := 87) dX10_isDial_66 rfl (fun c12 => ?_) (fun c12 => ?_)
              · refine X_iconst hg ic_i_0 dX10_isDial_87 ?_
                refine X_lv [0, 1, 2, 3, 5] rfl ?_
                exact hk8 (nI 0)
              · refine X_aload_n hg 0 rfl dX10_isDial_69 ?_
                refine X_as ?_
                refine X_getR hg (j := 1) cf_10 (Nat.le_of_ble_eq_true rfl) (Or.inr ⟨_, rfl⟩) m_901 dX10_isDial_70 (fun x9 _ => ?_)
                refine X_iload hg 5 rfl dX10_isDial_73 ?_
                refine X_as ?_
                refine X_ald hg dX10_isDial_75 (fun x10 _ => ?_)
                refine X_bipush hg ic_b_97 dX10_isDial_76 ?_
                refine X_iload_n hg 1 rfl dX10_isDial_78 ?_
                refine X_iadd hg dX10_isDial_79 ?_
                refine X_ib ?_
                refine X_icmp_ne hg (tgt := 87) dX10_isDial_80 rfl (fun c11 => ?_) (fun c11 => ?_)
                · refine X_iconst hg ic_i_1 dX10_isDial_83 ?_
                  refine X_goto hg (tgt := 88) dX10_isDial_84 rfl ?_
                  refine X_lv [0, 1, 2, 3, 5] rfl ?_
                  exact hk8 (nI 1)
                · refine X_iconst hg ic_i_0 dX10_isDial_87 ?_
                  refine X_lv [0, 1, 2, 3, 5] rfl ?_
                  exact hk8 (nI 0)
            · refine X_istore hg (Nat.le_of_ble_eq_true rfl) (lv' := [(4, .int v8), (0, .ref (nB g.1 + l0)), (1, .int l1), (2, .int l2), (3, .int l3), (5, .int l5)]) rfl dX10_isDial_88 ?_
              refine X_iload hg 0 rfl dX10_isDial_90 ?_
              refine X_ib ?_
              refine X_if_eq hg (tgt := 107) dX10_isDial_92 rfl (fun c15 => ?_) (fun c15 => ?_)
              · refine X_lv [1, 2, 3, 4, 0, 5] rfl ?_
                exact hk4 (l1, l2, l3, v8, h)
              · refine X_aload_n hg 1 rfl dX10_isDial_95 ?_
                refine X_as ?_
                refine X_getR hg (j := 21) cf_10 (Nat.le_of_ble_eq_true rfl) (Or.inr ⟨_, rfl⟩) m_921 dX10_isDial_96 (fun x13 _ => ?_)
                refine X_iload_n hg 2 rfl dX10_isDial_99 ?_
                refine X_iload_n hg 3 rfl dX10_isDial_100 ?_
                refine X_as ?_
                refine X_ast hg dX10_isDial_101 (fun h14 _ => ?_)
                refine X_iinc hg 2 rfl (v := (l1 + (nI 1))) (icc ic_i_1) (Nat.le_of_ble_eq_true rfl) (lv' := [(1, .int (l1 + (nI 1))), (4, .int v8), (0, .ref (nB g.1 + l0)), (2, .int l2), (3, .int l3), (5, .int l5)]) rfl dX10_isDial_102 ?_
                refine X_iconst hg ic_i_1 dX10_isDial_105 ?_
                refine X_istore_n hg rfl (Nat.le_of_ble_eq_true rfl) (lv' := [(3, .int (nI 1)), (1, .int (l1 + (nI 1))), (4, .int v8), (0, .ref (nB g.1 + l0)), (2, .int l2), (5, .int l5)]) rfl dX10_isDial_106 ?_
                refine X_lv [3, 1, 4, 0, 2, 5] rfl ?_
                exact hk4 ((l1 + (nI 1)), l2, (nI 1), v8, h14)
        · refine X_iinc hg 5 rfl (v := (l5 + (nI 1))) (icc ic_i_1) (Nat.le_of_ble_eq_true rfl) (lv' := [(5, .int (l5 + (nI 1))), (0, .ref (nB g.1 + l0)), (1, .int v4.1), (2, .int v4.2.1), (3, .int v4.2.2.1), (4, .int v4.2.2.2.1)]) rfl dX10_isDial_107 ?_
          refine X_goto hg (tgt := 12) dX10_isDial_110 rfl ?_
          refine X_lv [1, 2, 3, 4, 5, 0] rfl ?_
          exact ih _ _ _ _ _ _
set_option maxRecDepth 10000 in
theorem c_X10_isDial (en : EN) (a0 : Nat) (h : Hp) (x0 : Int32 × Hp) (e : f_X10_isDial a0 h = some x0) : Ct en yX10_isDial cX10_isDial 6 (some .boolean) 0 0 0 0 [.ref (nB en + a0)] h (some (.int x0.1)) x0.2 := by
  refine Ct.of (by decide) rfl (Nat.le_of_ble_eq_true rfl) e (fun g hen hg hr => ?_)
  subst hen
  unfold f_X10_isDial
  refine X_gd ?_
  refine X_iconst hg ic_i_0 dX10_isDial_0 ?_
  refine X_istore_n hg rfl (Nat.le_of_ble_eq_true rfl) (lv' := [(1, .int (nI 0)), (0, .ref (nB g.1 + a0))]) rfl dX10_isDial_1 ?_
  refine X_iconst hg ic_i_2 dX10_isDial_2 ?_
  refine X_istore_n hg rfl (Nat.le_of_ble_eq_true rfl) (lv' := [(2, .int (nI 2)), (1, .int (nI 0)), (0, .ref (nB g.1 + a0))]) rfl dX10_isDial_3 ?_
  refine X_iconst hg ic_i_0 dX10_isDial_4 ?_
  refine X_istore_n hg rfl (Nat.le_of_ble_eq_true rfl) (lv' := [(3, .int (nI 0)), (2, .int (nI 2)), (1, .int (nI 0)), (0, .ref (nB g.1 + a0))]) rfl dX10_isDial_5 ?_
  refine X_iconst hg ic_i_1 dX10_isDial_6 ?_
  refine X_istore hg (Nat.le_of_ble_eq_true rfl) (lv' := [(4, .int (nI 1)), (3, .int (nI 0)), (2, .int (nI 2)), (1, .int (nI 0)), (0, .ref (nB g.1 + a0))]) rfl dX10_isDial_7 ?_
  refine X_iconst hg ic_i_0 dX10_isDial_9 ?_
  refine X_istore hg (Nat.le_of_ble_eq_true rfl) (lv' := [(5, .int (nI 0)), (4, .int (nI 1)), (3, .int (nI 0)), (2, .int (nI 2)), (1, .int (nI 0)), (0, .ref (nB g.1 + a0))]) rfl dX10_isDial_10 ?_
  refine X_lv [5, 4, 3, 2, 1, 0] rfl ?_
  refine l_X10_isDial_12 hg _ hr _ (fun y19 y20 y21 y22 h23 => ?_) _ _ _ _ _ _ _
  refine X_iload hg 3 rfl dX10_isDial_113 ?_
  refine X_reg (fun (v24 : Int32) o => Xo g x0 6 0 0 139 [] [.int v24] h23 o) (fun kv24 hk24 => ?_) (fun v24 => ?_)
  · refine X_ib ?_
    refine X_if_eq hg (tgt := 138) dX10_isDial_115 rfl (fun c28 => ?_) (fun c28 => ?_)
    · refine X_iconst hg ic_i_0 dX10_isDial_138 ?_
      refine X_lv [] rfl ?_
      exact hk24 (nI 0)
    · refine X_iload_n hg 0 rfl dX10_isDial_118 ?_
      refine X_bipush hg ic_b_26 dX10_isDial_119 ?_
      refine X_ib ?_
      refine X_icmp_ne hg (tgt := 138) dX10_isDial_121 rfl (fun c27 => ?_) (fun c27 => ?_)
      · refine X_iload_n hg 1 rfl dX10_isDial_124 ?_
        refine X_bipush hg ic_b_9 dX10_isDial_125 ?_
        refine X_ib ?_
        refine X_icmp_ne hg (tgt := 138) dX10_isDial_127 rfl (fun c26 => ?_) (fun c26 => ?_)
        · refine X_iload_n hg 2 rfl dX10_isDial_130 ?_
          refine X_ib ?_
          refine X_if_eq hg (tgt := 138) dX10_isDial_131 rfl (fun c25 => ?_) (fun c25 => ?_)
          · refine X_iconst hg ic_i_0 dX10_isDial_138 ?_
            refine X_lv [] rfl ?_
            exact hk24 (nI 0)
          · refine X_iconst hg ic_i_1 dX10_isDial_134 ?_
            refine X_goto hg (tgt := 139) dX10_isDial_135 rfl ?_
            refine X_lv [] rfl ?_
            exact hk24 (nI 1)
        · refine X_iconst hg ic_i_0 dX10_isDial_138 ?_
          refine X_lv [] rfl ?_
          exact hk24 (nI 0)
      · refine X_iconst hg ic_i_0 dX10_isDial_138 ?_
        refine X_lv [] rfl ?_
        exact hk24 (nI 0)
  · exact X_zretW hg hr (Nat.le_of_ble_eq_true rfl) (Nat.le_of_ble_eq_true rfl) dX10_isDial_139
set_option maxRecDepth 10000 in
theorem l_X10_dial_25 {g : XC} {x0 : Int32 × Hp} (hg : XG g RX10 cX10_dial 5 1 25 0 0) (l0 : Nat) (l1 : Int32) (l2 : Int32) (h : Hp) (hr : XR g (some .int) "dial" (some (.int x0.1)) x0.2 0 0) (K : Int32 → Option (Int32 × Hp)) (hK0 : ∀ (l3 : Int32), Xo g x0 5 0 0 57 [(0, .ref (nB g.1 + l0)), (1, .int l1), (2, .int l2), (3, .int l3)] [] h (K l3)) : ∀ (n : Nat) (l3 : Int32) (l4 : Int32), Xo g x0 5 0 0 25 [(0, .ref (nB g.1 + l0)), (1, .int l1), (2, .int l2), (3, .int l3), (4, .int l4)] [] h (f_X10_dial_L25 l0 l1 l2 h K n l3 l4) := by
  intro n
  induction n with
  | zero =>
    intro l3 l4
    exact X_none
  | succ n ih =>
    intro l3 l4
    unfold f_X10_dial_L25
    refine X_iload hg 4 rfl dX10_dial_25 ?_
    refine X_bipush hg ic_b_26 dX10_dial_27 ?_
    refine X_icmp_ge hg (tgt := 57) dX10_dial_29 rfl (fun c6 => ?_) (fun c6 => ?_)
    · refine X_lv [0, 1, 2, 3] rfl ?_
      exact hK0 _
    · refine X_iload_n hg 3 rfl dX10_dial_32 ?_
      refine X_aload_n hg 0 rfl dX10_dial_33 ?_
      refine X_getR hg (j := 21) cf_10 (Nat.le_of_ble_eq_true rfl) (Or.inr ⟨_, rfl⟩) m_921 dX10_dial_34 (fun x2 _ => ?_)
      refine X_iload hg 4 rfl dX10_dial_37 ?_
      refine X_ald hg dX10_dial_39 (fun x3 _ => ?_)
      refine X_iload_n hg 2 rfl dX10_dial_40 ?_
      refine X_reg (fun (v4 : Int32) o => Xo g x0 5 0 0 49 [(0, .ref (nB g.1 + l0)), (1, .int l1), (2, .int l2), (4, .int l4)] [.int v4, .int l3] h o) (fun kv4 hk4 => ?_) (fun v4 => ?_)
      · refine X_ib ?_
        refine X_icmp_ne hg (tgt := 48) dX10_dial_41 rfl (fun c5 => ?_) (fun c5 => ?_)
        · refine X_iconst hg ic_i_1 dX10_dial_44 ?_
          refine X_goto hg (tgt := 49) dX10_dial_45 rfl ?_
          refine X_lv [0, 1, 2, 4] rfl ?_
          exact hk4 (nI 1)
        · refine X_iconst hg ic_i_0 dX10_dial_48 ?_
          refine X_lv [0, 1, 2, 4] rfl ?_
          exact hk4 (nI 0)
      · refine X_iadd hg dX10_dial_49 ?_
        refine X_istore_n hg rfl (Nat.le_of_ble_eq_true rfl) (lv' := [(3, .int (l3 + v4)), (0, .ref (nB g.1 + l0)), (1, .int l1), (2, .int l2), (4, .int l4)]) rfl dX10_dial_50 ?_
        refine X_iinc hg 4 rfl (v := (l4 + (nI 1))) (icc ic_i_1) (Nat.le_of_ble_eq_true rfl) (lv' := [(4, .int (l4 + (nI 1))), (3, .int (l3 + v4)), (0, .ref (nB g.1 + l0)), (1, .int l1), (2, .int l2)]) rfl dX10_dial_51 ?_
        refine X_goto hg (tgt := 25) dX10_dial_54 rfl ?_
        refine X_lv [2, 3, 4, 1, 0] rfl ?_
        exact ih _ _
set_option maxRecDepth 10000 in
theorem l_X10_dial_14 {g : XC} {x0 : Int32 × Hp} (hg : XG g RX10 cX10_dial 5 1 25 0 0) (l0 : Nat) (h : Hp) (hr : XR g (some .int) "dial" (some (.int x0.1)) x0.2 0 0) (K : Int32 → Option (Int32 × Hp)) (hK0 : ∀ (l1 : Int32), Xo g x0 5 0 0 74 [(0, .ref (nB g.1 + l0)), (1, .int l1)] [] h (K l1)) : ∀ (n : Nat) (l1 : Int32) (l2 : Int32), Xo g x0 5 0 0 14 [(0, .ref (nB g.1 + l0)), (1, .int l1), (2, .int l2)] [] h (f_X10_dial_L14 l0 h K n l1 l2) := by
  intro n
  induction n with
  | zero =>
    intro l1 l2
    exact X_none
  | succ n ih =>
    intro l1 l2
    unfold f_X10_dial_L14
    refine X_iload_n hg 2 rfl dX10_dial_14 ?_
    refine X_bipush hg ic_b_10 dX10_dial_15 ?_
    refine X_icmp_ge hg (tgt := 74) dX10_dial_17 rfl (fun c10 => ?_) (fun c10 => ?_)
    · refine X_lv [0, 1] rfl ?_
      exact hK0 _
    · refine X_iconst hg ic_i_0 dX10_dial_20 ?_
      refine X_istore_n hg rfl (Nat.le_of_ble_eq_true rfl) (lv' := [(3, .int (nI 0)), (0, .ref (nB g.1 + l0)), (1, .int l1), (2, .int l2)]) rfl dX10_dial_21 ?_
      refine X_iconst hg ic_i_0 dX10_dial_22 ?_
      refine X_istore hg (Nat.le_of_ble_eq_true rfl) (lv' := [(4, .int (nI 0)), (3, .int (nI 0)), (0, .ref (nB g.1 + l0)), (1, .int l1), (2, .int l2)]) rfl dX10_dial_23 ?_
      refine X_lv [2, 3, 4, 1, 0] rfl ?_
      refine l_X10_dial_25 hg _ _ _ _ hr _ (fun y7 => ?_) _ _ _
      refine X_iload_n hg 3 rfl dX10_dial_57 ?_
      refine X_iload_n hg 1 rfl dX10_dial_58 ?_
      refine X_reg (fun (v8 : Int32) o => Xo g x0 5 0 0 67 [(0, .ref (nB g.1 + l0)), (2, .int l2)] [.int v8] h o) (fun kv8 hk8 => ?_) (fun v8 => ?_)
      · refine X_ib ?_
        refine X_icmp_le hg (tgt := 66) dX10_dial_59 rfl (fun c9 => ?_) (fun c9 => ?_)
        · refine X_iload_n hg 1 rfl dX10_dial_66 ?_
          refine X_lv [0, 2] rfl ?_
          exact hk8 l1
        · refine X_iload_n hg 3 rfl dX10_dial_62 ?_
          refine X_goto hg (tgt := 67) dX10_dial_63 rfl ?_
          refine X_lv [0, 2] rfl ?_
          exact hk8 y7
      · refine X_istore_n hg rfl (Nat.le_of_ble_eq_true rfl) (lv' := [(1, .int v8), (0, .ref (nB g.1 + l0)), (2, .int l2)]) rfl dX10_dial_67 ?_
        refine X_iinc hg 2 rfl (v := (l2 + (nI 1))) (icc ic_i_1) (Nat.le_of_ble_eq_true rfl) (lv' := [(2, .int (l2 + (nI 1))), (1, .int v8), (0, .ref (nB g.1 + l0))]) rfl dX10_dial_68 ?_
        refine X_goto hg (tgt := 14) dX10_dial_71 rfl ?_
        refine X_lv [2, 1, 0] rfl ?_
        exact ih _ _
set_option maxRecDepth 10000 in
theorem l_X10_dial_76 {g : XC} {x0 : Int32 × Hp} (hg : XG g RX10 cX10_dial 5 1 25 0 0) (l0 : Nat) (l1 : Int32) (hr : XR g (some .int) "dial" (some (.int x0.1)) x0.2 0 0) (K : Hp → Option (Int32 × Hp)) (hK0 : ∀ (h : Hp), Xo g x0 5 0 0 100 [(0, .ref (nB g.1 + l0)), (1, .int l1)] [] h (K h)) : ∀ (n : Nat) (l2 : Int32) (h : Hp), Xo g x0 5 0 0 76 [(0, .ref (nB g.1 + l0)), (1, .int l1), (2, .int l2)] [] h (f_X10_dial_L76 l0 l1 K n l2 h) := by
  intro n
  induction n with
  | zero =>
    intro l2 h
    exact X_none
  | succ n ih =>
    intro l2 h
    unfold f_X10_dial_L76
    refine X_iload_n hg 2 rfl dX10_dial_76 ?_
    refine X_bipush hg ic_b_26 dX10_dial_77 ?_
    refine X_icmp_ge hg (tgt := 100) dX10_dial_79 rfl (fun c16 => ?_) (fun c16 => ?_)
    · refine X_lv [0, 1] rfl ?_
      exact hK0  _
    · refine X_aload_n hg 0 rfl dX10_dial_82 ?_
      refine X_getR hg (j := 9) cf_10 (Nat.le_of_ble_eq_true rfl) (Or.inr ⟨_, rfl⟩) m_909 dX10_dial_83 (fun x12 _ => ?_)
      refine X_iload_n hg 2 rfl dX10_dial_86 ?_
      refine X_aload_n hg 0 rfl dX10_dial_87 ?_
      refine X_getR hg (j := 21) cf_10 (Nat.le_of_ble_eq_true rfl) (Or.inr ⟨_, rfl⟩) m_921 dX10_dial_88 (fun x13 _ => ?_)
      refine X_iload_n hg 2 rfl dX10_dial_91 ?_
      refine X_ald hg dX10_dial_92 (fun x14 _ => ?_)
      refine X_ast hg dX10_dial_93 (fun h15 _ => ?_)
      refine X_iinc hg 2 rfl (v := (l2 + (nI 1))) (icc ic_i_1) (Nat.le_of_ble_eq_true rfl) (lv' := [(2, .int (l2 + (nI 1))), (0, .ref (nB g.1 + l0)), (1, .int l1)]) rfl dX10_dial_94 ?_
      refine X_goto hg (tgt := 76) dX10_dial_97 rfl ?_
      refine X_lv [1, 2, 0] rfl ?_
      exact ih _ _
set_option maxRecDepth 10000 in
theorem c_X10_dial (en : EN) (a0 : Nat) (h : Hp) (x0 : Int32 × Hp) (e : f_X10_dial a0 h = some x0) : Ct en yX10_dial cX10_dial 5 (some .int) 1 25 0 0 [.ref (nB en + a0)] h (some (.int x0.1)) x0.2 := by
  refine Ct.of (by decide) rfl (Nat.le_of_ble_eq_true rfl) e (fun g hen hg hr => ?_)
  subst hen
  unfold f_X10_dial
  refine X_gd ?_
  refine X_aload_n hg 0 rfl dX10_dial_0 ?_
  refine X_cVIW0 hg mf_X10_isDial m_1065 m_38 m_1063 cf_10 (fun _ e => gd_isO e) (fun y e => c_X10_isDial g.1 a0 h y e) (As := []) rfl (Nat.le_of_ble_eq_true rfl) rfl (Nat.le_of_ble_eq_true rfl) (Nat.le_of_ble_eq_true rfl) (Nat.le_of_ble_eq_true rfl) (Nat.le_of_ble_eq_true rfl) dX10_dial_1 (fun p1 _ => ?_)
  refine X_if_ne hg (tgt := 10) dX10_dial_4 rfl (fun c21 => ?_) (fun c21 => ?_)
  · refine X_bipush hg ic_b_m103 dX10_dial_7 ?_
    exact X_iretW hg hr (Nat.le_of_ble_eq_true rfl) (Nat.le_of_ble_eq_true rfl) dX10_dial_9
  · refine X_iconst hg ic_i_0 dX10_dial_10 ?_
    refine X_istore_n hg rfl (Nat.le_of_ble_eq_true rfl) (lv' := [(1, .int (nI 0)), (0, .ref (nB g.1 + a0))]) rfl dX10_dial_11 ?_
    refine X_iconst hg ic_i_2 dX10_dial_12 ?_
    refine X_istore_n hg rfl (Nat.le_of_ble_eq_true rfl) (lv' := [(2, .int (nI 2)), (1, .int (nI 0)), (0, .ref (nB g.1 + a0))]) rfl dX10_dial_13 ?_
    refine X_lv [2, 1, 0] rfl ?_
    refine l_X10_dial_14 hg _ _ hr _ (fun y11 => ?_) _ _ _
    refine X_iconst hg ic_i_0 dX10_dial_74 ?_
    refine X_istore_n hg rfl (Nat.le_of_ble_eq_true rfl) (lv' := [(2, .int (nI 0)), (0, .ref (nB g.1 + a0)), (1, .int y11)]) rfl dX10_dial_75 ?_
    refine X_lv [1, 2, 0] rfl ?_
    refine l_X10_dial_76 hg _ _ hr _ (fun h17 => ?_) _ _ _
    refine X_aload_n hg 0 rfl dX10_dial_100 ?_
    refine X_dup hg rfl dX10_dial_101 ?_
    refine X_getI hg (j := 7) cf_10 (Nat.le_of_ble_eq_true rfl) (Or.inl rfl) m_907 dX10_dial_102 (fun x18 _ => ?_)
    refine X_iconst hg ic_i_1 dX10_dial_105 ?_
    refine X_iadd hg dX10_dial_106 ?_
    refine X_putI hg (j := 7) cf_10 (Nat.le_of_ble_eq_true rfl) rfl (Or.inl rfl) m_907 dX10_dial_107 (fun h19 _ => ?_)
    refine X_aload_n hg 0 rfl dX10_dial_110 ?_
    refine X_iconst hg ic_i_0 dX10_dial_111 ?_
    refine X_putI hg (j := 0) cf_10 (Nat.le_of_ble_eq_true rfl) rfl (Or.inl rfl) m_900 dX10_dial_112 (fun h20 _ => ?_)
    refine X_iload_n hg 1 rfl dX10_dial_115 ?_
    exact X_iretW hg hr (Nat.le_of_ble_eq_true rfl) (Nat.le_of_ble_eq_true rfl) dX10_dial_116
set_option maxRecDepth 10000 in
theorem c_X10_isName (en : EN) (a0 : Nat) (a1 : Int32) (h : Hp) (x0 : Int32) (e : f_X10_isName a0 a1 h = some x0) : Ct en yX10_isName cX10_isName 2 (some .boolean) 1 22 0 0 [.ref (nB en + a0), .int a1] h (some (.int x0)) h := by
  refine Ct.of (by decide) rfl (Nat.le_of_ble_eq_true rfl) e (fun g hen hg hr => ?_)
  subst hen
  unfold f_X10_isName
  refine X_gd ?_
  refine X_iload_n hg 1 rfl dX10_isName_0 ?_
  refine X_iconst hg ic_i_0 dX10_isName_1 ?_
  refine X_aload_n hg 0 rfl dX10_isName_2 ?_
  refine X_getI hg (j := 2) cf_10 (Nat.le_of_ble_eq_true rfl) (Or.inl rfl) m_902 dX10_isName_3 (fun x1 _ => ?_)
  refine X_iconst hg ic_i_1 dX10_isName_6 ?_
  refine X_isub hg dX10_isName_7 ?_
  refine X_cSI0 hg mf_X10_within m_1005 m_1004 (fun y e => c_X10_within g.1 a1 (nI 0) (x1 - (nI 1)) h y e) (As := [.int a1, .int (nI 0), .int (x1 - (nI 1))]) rfl (Nat.le_of_ble_eq_true rfl) rfl (Nat.le_of_ble_eq_true rfl) (Nat.le_of_ble_eq_true rfl) (Nat.le_of_ble_eq_true rfl) (Nat.le_of_ble_eq_true rfl) dX10_isName_8 (fun x2 _ => ?_)
  exact X_zret hg hr (Nat.le_of_ble_eq_true rfl) (Nat.le_of_ble_eq_true rfl) dX10_isName_11
set_option maxRecDepth 10000 in
theorem l_X10_drop_23 {g : XC} {x0 : Int32 × Hp} (hg : XG g RX10 cX10_drop 3 2 43 0 0) (l0 : Nat) (hr : XR g (some .int) "drop" (some (.int x0.1)) x0.2 0 0) (K : Hp → Option (Int32 × Hp)) (hK0 : ∀ (h : Hp), Xo g x0 3 0 0 45 [(0, .ref (nB g.1 + l0))] [] h (K h)) : ∀ (n : Nat) (l2 : Int32) (h : Hp), Xo g x0 3 0 0 23 [(0, .ref (nB g.1 + l0)), (2, .int l2)] [] h (f_X10_drop_L23 l0 K n l2 h) := by
  intro n
  induction n with
  | zero =>
    intro l2 h
    exact X_none
  | succ n ih =>
    intro l2 h
    unfold f_X10_drop_L23
    refine X_iload_n hg 1 rfl dX10_drop_23 ?_
    refine X_aload_n hg 0 rfl dX10_drop_24 ?_
    refine X_getI hg (j := 2) cf_10 (Nat.le_of_ble_eq_true rfl) (Or.inl rfl) m_902 dX10_drop_25 (fun x4 _ => ?_)
    refine X_icmp_ge hg (tgt := 45) dX10_drop_28 rfl (fun c6 => ?_) (fun c6 => ?_)
    · refine X_lv [0] rfl ?_
      exact hK0  _
    · refine X_aload_n hg 0 rfl dX10_drop_31 ?_
      refine X_iload_n hg 1 rfl dX10_drop_32 ?_
      refine X_iconst hg ic_i_1 dX10_drop_33 ?_
      refine X_iadd hg dX10_drop_34 ?_
      refine X_iload_n hg 1 rfl dX10_drop_35 ?_
      refine X_cVV0 hg mf_X10_moveName m_1057 m_37 m_1055 cf_10 (fun _ e => gd_isO e) (fun y e => c_X10_moveName g.1 l0 (l2 + (nI 1)) l2 h y e) (As := [.int (l2 + (nI 1)), .int l2]) rfl (Nat.le_of_ble_eq_true rfl) rfl (Nat.le_of_ble_eq_true rfl) (Nat.le_of_ble_eq_true rfl) (Nat.le_of_ble_eq_true rfl) (Nat.le_of_ble_eq_true rfl) dX10_drop_36 (fun h5 _ => ?_)
      refine X_iinc hg 1 rfl (v := (l2 + (nI 1))) (icc ic_i_1) (Nat.le_of_ble_eq_true rfl) (lv' := [(2, .int (l2 + (nI 1))), (0, .ref (nB g.1 + l0))]) rfl dX10_drop_39 ?_
      refine X_goto hg (tgt := 23) dX10_drop_42 rfl ?_
      refine X_lv [1, 0] rfl ?_
      exact ih _ _
set_option maxRecDepth 10000 in
theorem c_X10_drop (en : EN) (a0 : Nat) (a1 : Int32) (h : Hp) (x0 : Int32 × Hp) (e : f_X10_drop a0 a1 h = some x0) : Ct en yX10_drop cX10_drop 3 (some .int) 2 43 0 0 [.ref (nB en + a0), .int a1] h (some (.int x0.1)) x0.2 := by
  refine Ct.of (by decide) rfl (Nat.le_of_ble_eq_true rfl) e (fun g hen hg hr => ?_)
  subst hen
  unfold f_X10_drop
  refine X_gd ?_
  refine X_aload_n hg 0 rfl dX10_drop_0 ?_
  refine X_iload_n hg 1 rfl dX10_drop_1 ?_
  refine X_cVI0 hg mf_X10_isName m_1073 m_39 m_1071 cf_10 (fun _ e => gd_isO e) (fun y e => c_X10_isName g.1 a0 a1 h y e) (As := [.int a1]) rfl (Nat.le_of_ble_eq_true rfl) rfl (Nat.le_of_ble_eq_true rfl) (Nat.le_of_ble_eq_true rfl) (Nat.le_of_ble_eq_true rfl) (Nat.le_of_ble_eq_true rfl) dX10_drop_2 (fun x1 _ => ?_)
  refine X_if_ne hg (tgt := 11) dX10_drop_5 rfl (fun c12 => ?_) (fun c12 => ?_)
  · refine X_bipush hg ic_b_m101 dX10_drop_8 ?_
    exact X_iretW hg hr (Nat.le_of_ble_eq_true rfl) (Nat.le_of_ble_eq_true rfl) dX10_drop_10
  · refine X_aload_n hg 0 rfl dX10_drop_11 ?_
    refine X_dup hg rfl dX10_drop_12 ?_
    refine X_getI hg (j := 2) cf_10 (Nat.le_of_ble_eq_true rfl) (Or.inl rfl) m_902 dX10_drop_13 (fun x2 _ => ?_)
    refine X_iconst hg ic_i_1 dX10_drop_16 ?_
    refine X_isub hg dX10_drop_17 ?_
    refine X_putI hg (j := 2) cf_10 (Nat.le_of_ble_eq_true rfl) rfl (Or.inl rfl) m_902 dX10_drop_18 (fun h3 _ => ?_)
    refine X_iload_n hg 1 rfl dX10_drop_21 ?_
    refine X_istore_n hg rfl (Nat.le_of_ble_eq_true rfl) (lv' := [(2, .int a1), (0, .ref (nB g.1 + a0)), (1, .int a1)]) rfl dX10_drop_22 ?_
    refine X_lv [1, 0] rfl ?_
    refine l_X10_drop_23 hg _ hr _ (fun h7 => ?_) _ _ _
    refine X_aload_n hg 0 rfl dX10_drop_45 ?_
    refine X_dup hg rfl dX10_drop_46 ?_
    refine X_getI hg (j := 8) cf_10 (Nat.le_of_ble_eq_true rfl) (Or.inl rfl) m_908 dX10_drop_47 (fun x8 _ => ?_)
    refine X_iconst hg ic_i_1 dX10_drop_50 ?_
    refine X_iadd hg dX10_drop_51 ?_
    refine X_putI hg (j := 8) cf_10 (Nat.le_of_ble_eq_true rfl) rfl (Or.inl rfl) m_908 dX10_drop_52 (fun h9 _ => ?_)
    refine X_aload_n hg 0 rfl dX10_drop_55 ?_
    refine X_iconst hg ic_i_0 dX10_drop_56 ?_
    refine X_putI hg (j := 12) cf_10 (Nat.le_of_ble_eq_true rfl) rfl (Or.inl rfl) m_912 dX10_drop_57 (fun h10 _ => ?_)
    refine X_aload_n hg 0 rfl dX10_drop_60 ?_
    refine X_getI hg (j := 2) cf_10 (Nat.le_of_ble_eq_true rfl) (Or.inl rfl) m_902 dX10_drop_61 (fun x11 _ => ?_)
    exact X_iretW hg hr (Nat.le_of_ble_eq_true rfl) (Nat.le_of_ble_eq_true rfl) dX10_drop_64
set_option maxRecDepth 10000 in
theorem c_X10_use (en : EN) (a0 : Nat) (a1 : Int32) (a2 : Int32) (h : Hp) (x0 : Int32 × Hp) (e : f_X10_use a0 a1 a2 h = some x0) : Ct en yX10_use cX10_use 4 (some .int) 2 43 0 0 [.ref (nB en + a0), .int a1, .int a2] h (some (.int x0.1)) x0.2 := by
  refine Ct.of (by decide) rfl (Nat.le_of_ble_eq_true rfl) e (fun g hen hg hr => ?_)
  subst hen
  unfold f_X10_use
  refine X_gd ?_
  refine X_aload_n hg 0 rfl dX10_use_0 ?_
  refine X_iload_n hg 1 rfl dX10_use_1 ?_
  refine X_cVI0 hg mf_X10_isName m_1073 m_39 m_1071 cf_10 (fun _ e => gd_isO e) (fun y e => c_X10_isName g.1 a0 a1 h y e) (As := [.int a1]) rfl (Nat.le_of_ble_eq_true rfl) rfl (Nat.le_of_ble_eq_true rfl) (Nat.le_of_ble_eq_true rfl) (Nat.le_of_ble_eq_true rfl) (Nat.le_of_ble_eq_true rfl) dX10_use_2 (fun x1 _ => ?_)
  refine X_if_ne hg (tgt := 11) dX10_use_5 rfl (fun c8 => ?_) (fun c8 => ?_)
  · refine X_bipush hg ic_b_m101 dX10_use_8 ?_
    exact X_iretW hg hr (Nat.le_of_ble_eq_true rfl) (Nat.le_of_ble_eq_true rfl) dX10_use_10
  · refine X_iload_n hg 2 rfl dX10_use_11 ?_
    refine X_iconst hg ic_i_1 dX10_use_12 ?_
    refine X_bipush hg ic_b_99 dX10_use_13 ?_
    refine X_cSI0 hg mf_X10_within m_1005 m_1004 (fun y e => c_X10_within g.1 a2 (nI 1) (nI 99) h y e) (As := [.int a2, .int (nI 1), .int (nI 99)]) rfl (Nat.le_of_ble_eq_true rfl) rfl (Nat.le_of_ble_eq_true rfl) (Nat.le_of_ble_eq_true rfl) (Nat.le_of_ble_eq_true rfl) (Nat.le_of_ble_eq_true rfl) dX10_use_15 (fun x2 _ => ?_)
    refine X_if_ne hg (tgt := 24) dX10_use_18 rfl (fun c7 => ?_) (fun c7 => ?_)
    · refine X_bipush hg ic_b_m102 dX10_use_21 ?_
      exact X_iretW hg hr (Nat.le_of_ble_eq_true rfl) (Nat.le_of_ble_eq_true rfl) dX10_use_23
    · refine X_aload_n hg 0 rfl dX10_use_24 ?_
      refine X_getR hg (j := 5) cf_10 (Nat.le_of_ble_eq_true rfl) (Or.inr ⟨_, rfl⟩) m_905 dX10_use_25 (fun x3 _ => ?_)
      refine X_iload_n hg 1 rfl dX10_use_28 ?_
      refine X_ald hg dX10_use_29 (fun x4 _ => ?_)
      refine X_istore_n hg rfl (Nat.le_of_ble_eq_true rfl) (lv' := [(3, .int x4), (0, .ref (nB g.1 + a0)), (1, .int a1), (2, .int a2)]) rfl dX10_use_30 ?_
      refine X_aload_n hg 1 rfl dX10_use_31 ?_
      refine X_getR hg (j := 5) cf_10 (Nat.le_of_ble_eq_true rfl) (Or.inr ⟨_, rfl⟩) m_905 dX10_use_32 (fun x5 _ => ?_)
      refine X_iload_n hg 2 rfl dX10_use_35 ?_
      refine X_iload_n hg 3 rfl dX10_use_36 ?_
      refine X_ast hg dX10_use_37 (fun h6 _ => ?_)
      refine X_iload_n hg 0 rfl dX10_use_38 ?_
      exact X_iretW hg hr (Nat.le_of_ble_eq_true rfl) (Nat.le_of_ble_eq_true rfl) dX10_use_39
set_option maxRecDepth 10000 in
theorem c_X10_codeAt (en : EN) (a0 : Nat) (a1 : Int32) (a2 : Int32) (h : Hp) (x0 : Int32) (e : f_X10_codeAt a0 a1 a2 h = some x0) : Ct en yX10_codeAt cX10_codeAt 3 (some .int) 0 0 0 0 [.ref (nB en + a0), .int a1, .int a2] h (some (.int x0)) h := by
  refine Ct.of (by decide) rfl (Nat.le_of_ble_eq_true rfl) e (fun g hen hg hr => ?_)
  subst hen
  unfold f_X10_codeAt
  refine X_gd ?_
  refine X_aload_n hg 0 rfl dX10_codeAt_0 ?_
  refine X_getR hg (j := 9) cf_10 (Nat.le_of_ble_eq_true rfl) (Or.inr ⟨_, rfl⟩) m_909 dX10_codeAt_1 (fun x1 _ => ?_)
  refine X_aload_n hg 0 rfl dX10_codeAt_4 ?_
  refine X_getR hg (j := 4) cf_10 (Nat.le_of_ble_eq_true rfl) (Or.inr ⟨_, rfl⟩) m_904 dX10_codeAt_5 (fun x2 _ => ?_)
  refine X_bipush hg ic_b_8 dX10_codeAt_8 ?_
  refine X_iload_n hg 1 rfl dX10_codeAt_10 ?_
  refine X_imul hg dX10_codeAt_11 ?_
  refine X_iload_n hg 2 rfl dX10_codeAt_12 ?_
  refine X_iadd hg dX10_codeAt_13 ?_
  refine X_ald hg dX10_codeAt_14 (fun x3 _ => ?_)
  refine X_bipush hg ic_b_97 dX10_codeAt_15 ?_
  refine X_isub hg dX10_codeAt_17 ?_
  refine X_ald hg dX10_codeAt_18 (fun x4 _ => ?_)
  exact X_iret hg hr (Nat.le_of_ble_eq_true rfl) (Nat.le_of_ble_eq_true rfl) dX10_codeAt_19
set_option maxRecDepth 10000 in
theorem l_X10_begins_20 {g : XC} {x0 : Int32} (hg : XG g RX10 cX10_begins 6 1 22 0 0) (l0 : Nat) (l1 : Int32) (l2 : Int32) (l3 : Int32) (h : Hp) (hr : XR g (some .boolean) "begins" (some (.int x0)) h 0 0) (K : Int32 → Option (Int32)) (hK0 : ∀ (l4 : Int32), Xo g x0 6 0 0 61 [(4, .int l4)] [] h (K l4)) : ∀ (n : Nat) (l4 : Int32) (l5 : Int32), Xo g x0 6 0 0 20 [(0, .ref (nB g.1 + l0)), (1, .int l1), (2, .int l2), (3, .int l3), (4, .int l4), (5, .int l5)] [] h (f_X10_begins_L20 l0 l1 l2 l3 h K n l4 l5) := by
  intro n
  induction n with
  | zero =>
    intro l4 l5
    exact X_none
  | succ n ih =>
    intro l4 l5
    unfold f_X10_begins_L20
    refine X_iload hg 5 rfl dX10_begins_20 ?_
    refine X_iload_n hg 2 rfl dX10_begins_22 ?_
    refine X_icmp_ge hg (tgt := 61) dX10_begins_23 rfl (fun c10 => ?_) (fun c10 => ?_)
    · refine X_lv [4] rfl ?_
      exact hK0 _
    · refine X_iload hg 4 rfl dX10_begins_26 ?_
      refine X_if_eq hg (tgt := 61) dX10_begins_28 rfl (fun c9 => ?_) (fun c9 => ?_)
      · refine X_lv [4] rfl ?_
        exact hK0 _
      · refine X_aload_n hg 0 rfl dX10_begins_31 ?_
        refine X_iload_n hg 1 rfl dX10_begins_32 ?_
        refine X_iload hg 5 rfl dX10_begins_33 ?_
        refine X_cVI0 hg mf_X10_codeAt m_1101 m_44 m_1099 cf_10 (fun _ e => gd_isO e) (fun y e => c_X10_codeAt g.1 l0 l1 l5 h y e) (As := [.int l1, .int l5]) rfl (Nat.le_of_ble_eq_true rfl) rfl (Nat.le_of_ble_eq_true rfl) (Nat.le_of_ble_eq_true rfl) (Nat.le_of_ble_eq_true rfl) (Nat.le_of_ble_eq_true rfl) dX10_begins_35 (fun x5 _ => ?_)
        refine X_aload_n hg 0 rfl dX10_begins_38 ?_
        refine X_iload_n hg 3 rfl dX10_begins_39 ?_
        refine X_iload hg 5 rfl dX10_begins_40 ?_
        refine X_cVI0 hg mf_X10_codeAt m_1101 m_44 m_1099 cf_10 (fun _ e => gd_isO e) (fun y e => c_X10_codeAt g.1 l0 l3 l5 h y e) (As := [.int l3, .int l5]) rfl (Nat.le_of_ble_eq_true rfl) rfl (Nat.le_of_ble_eq_true rfl) (Nat.le_of_ble_eq_true rfl) (Nat.le_of_ble_eq_true rfl) (Nat.le_of_ble_eq_true rfl) dX10_begins_42 (fun x6 _ => ?_)
        refine X_reg (fun (v7 : Int32) o => Xo g x0 6 0 0 53 [(0, .ref (nB g.1 + l0)), (1, .int l1), (2, .int l2), (3, .int l3), (5, .int l5)] [.int v7] h o) (fun kv7 hk7 => ?_) (fun v7 => ?_)
        · refine X_ib ?_
          refine X_icmp_ne hg (tgt := 52) dX10_begins_45 rfl (fun c8 => ?_) (fun c8 => ?_)
          · refine X_iconst hg ic_i_1 dX10_begins_48 ?_
            refine X_goto hg (tgt := 53) dX10_begins_49 rfl ?_
            refine X_lv [0, 1, 2, 3, 5] rfl ?_
            exact hk7 (nI 1)
          · refine X_iconst hg ic_i_0 dX10_begins_52 ?_
            refine X_lv [0, 1, 2, 3, 5] rfl ?_
            exact hk7 (nI 0)
        · refine X_istore hg (Nat.le_of_ble_eq_true rfl) (lv' := [(4, .int v7), (0, .ref (nB g.1 + l0)), (1, .int l1), (2, .int l2), (3, .int l3), (5, .int l5)]) rfl dX10_begins_53 ?_
          refine X_iinc hg 5 rfl (v := (l5 + (nI 1))) (icc ic_i_1) (Nat.le_of_ble_eq_true rfl) (lv' := [(5, .int (l5 + (nI 1))), (4, .int v7), (0, .ref (nB g.1 + l0)), (1, .int l1), (2, .int l2), (3, .int l3)]) rfl dX10_begins_55 ?_
          refine X_goto hg (tgt := 20) dX10_begins_58 rfl ?_
          refine X_lv [2, 3, 4, 5, 1, 0] rfl ?_
          exact ih _ _
set_option maxRecDepth 10000 in
theorem c_X10_begins (en : EN) (a0 : Nat) (a1 : Int32) (a2 : Int32) (a3 : Int32) (h : Hp) (x0 : Int32) (e : f_X10_begins a0 a1 a2 a3 h = some x0) : Ct en yX10_begins cX10_begins 6 (some .boolean) 1 22 0 0 [.ref (nB en + a0), .int a1, .int a2, .int a3] h (some (.int x0)) h := by
  refine Ct.of (by decide) rfl (Nat.le_of_ble_eq_true rfl) e (fun g hen hg hr => ?_)
  subst hen
  unfold f_X10_begins
  refine X_gd ?_
  refine X_iload_n hg 2 rfl dX10_begins_0 ?_
  refine X_aload_n hg 0 rfl dX10_begins_1 ?_
  refine X_getR hg (j := 3) cf_10 (Nat.le_of_ble_eq_true rfl) (Or.inr ⟨_, rfl⟩) m_903 dX10_begins_2 (fun x1 _ => ?_)
  refine X_iload_n hg 3 rfl dX10_begins_5 ?_
  refine X_ald hg dX10_begins_6 (fun x2 _ => ?_)
  refine X_reg (fun (v3 : Int32) o => Xo g x0 6 0 0 15 [(0, .ref (nB g.1 + a0)), (1, .int a1), (2, .int a2), (3, .int a3)] [.int v3] h o) (fun kv3 hk3 => ?_) (fun v3 => ?_)
  · refine X_ib ?_
    refine X_icmp_gt hg (tgt := 14) dX10_begins_7 rfl (fun c4 => ?_) (fun c4 => ?_)
    · refine X_iconst hg ic_i_0 dX10_begins_14 ?_
      exact hk3 (nI 0)
    · refine X_iconst hg ic_i_1 dX10_begins_10 ?_
      refine X_goto hg (tgt := 15) dX10_begins_11 rfl ?_
      exact hk3 (nI 1)
  · refine X_istore hg (Nat.le_of_ble_eq_true rfl) (lv' := [(4, .int v3), (0, .ref (nB g.1 + a0)), (1, .int a1), (2, .int a2), (3, .int a3)]) rfl dX10_begins_15 ?_
    refine X_iconst hg ic_i_0 dX10_begins_17 ?_
    refine X_istore hg (Nat.le_of_ble_eq_true rfl) (lv' := [(5, .int (nI 0)), (4, .int v3), (0, .ref (nB g.1 + a0)), (1, .int a1), (2, .int a2), (3, .int a3)]) rfl dX10_begins_18 ?_
    refine X_lv [2, 3, 4, 5, 1, 0] rfl ?_
    refine l_X10_begins_20 hg _ _ _ _ _ hr _ (fun y11 => ?_) _ _ _
    refine X_iload hg 0 rfl dX10_begins_61 ?_
    exact X_zret hg hr (Nat.le_of_ble_eq_true rfl) (Nat.le_of_ble_eq_true rfl) dX10_begins_63
set_option maxRecDepth 10000 in
theorem c_X10_isTwin (en : EN) (a0 : Nat) (a1 : Int32) (a2 : Int32) (h : Hp) (x0 : Int32) (e : f_X10_isTwin a0 a1 a2 h = some x0) : Ct en yX10_isTwin cX10_isTwin 3 (some .boolean) 2 47 0 0 [.ref (nB en + a0), .int a1, .int a2] h (some (.int x0)) h := by
  refine Ct.of (by decide) rfl (Nat.le_of_ble_eq_true rfl) e (fun g hen hg hr => ?_)
  subst hen
  unfold f_X10_isTwin
  refine X_gd ?_
  refine X_iload_n hg 1 rfl dX10_isTwin_0 ?_
  refine X_iload_n hg 2 rfl dX10_isTwin_1 ?_
  refine X_reg (fun (v1 : Int32) o => Xo g x0 3 0 0 40 [] [.int v1] h o) (fun kv1 hk1 => ?_) (fun v1 => ?_)
  · refine X_ib ?_
    refine X_icmp_eq hg (tgt := 39) dX10_isTwin_2 rfl (fun c11 => ?_) (fun c11 => ?_)
    · refine X_iconst hg ic_i_0 dX10_isTwin_39 ?_
      refine X_lv [] rfl ?_
      exact hk1 (nI 0)
    · refine X_aload_n hg 0 rfl dX10_isTwin_5 ?_
      refine X_as ?_
      refine X_getR hg (j := 3) cf_10 (Nat.le_of_ble_eq_true rfl) (Or.inr ⟨_, rfl⟩) m_903 dX10_isTwin_6 (fun x2 _ => ?_)
      refine X_iload_n hg 1 rfl dX10_isTwin_9 ?_
      refine X_as ?_
      refine X_ald hg dX10_isTwin_10 (fun x3 _ => ?_)
      refine X_aload_n hg 0 rfl dX10_isTwin_11 ?_
      refine X_as ?_
      refine X_getR hg (j := 3) cf_10 (Nat.le_of_ble_eq_true rfl) (Or.inr ⟨_, rfl⟩) m_903 dX10_isTwin_12 (fun x4 _ => ?_)
      refine X_iload_n hg 2 rfl dX10_isTwin_15 ?_
      refine X_as ?_
      refine X_ald hg dX10_isTwin_16 (fun x5 _ => ?_)
      refine X_ib ?_
      refine X_icmp_ne hg (tgt := 39) dX10_isTwin_17 rfl (fun c10 => ?_) (fun c10 => ?_)
      · refine X_aload_n hg 0 rfl dX10_isTwin_20 ?_
        refine X_iload_n hg 1 rfl dX10_isTwin_21 ?_
        refine X_aload_n hg 0 rfl dX10_isTwin_22 ?_
        refine X_as ?_
        refine X_getR hg (j := 3) cf_10 (Nat.le_of_ble_eq_true rfl) (Or.inr ⟨_, rfl⟩) m_903 dX10_isTwin_23 (fun x6 _ => ?_)
        refine X_iload_n hg 1 rfl dX10_isTwin_26 ?_
        refine X_as ?_
        refine X_ald hg dX10_isTwin_27 (fun x7 _ => ?_)
        refine X_iload_n hg 2 rfl dX10_isTwin_28 ?_
        refine X_as ?_
        refine X_cVI0 hg mf_X10_begins m_1097 m_43 m_1095 cf_10 (fun _ e => gd_isO e) (fun y e => c_X10_begins g.1 a0 a1 x7 a2 h y e) (As := [.int a1, .int x7, .int a2]) rfl (Nat.le_of_ble_eq_true rfl) rfl (Nat.le_of_ble_eq_true rfl) (Nat.le_of_ble_eq_true rfl) (Nat.le_of_ble_eq_true rfl) (Nat.le_of_ble_eq_true rfl) dX10_isTwin_29 (fun x8 _ => ?_)
        refine X_ib ?_
        refine X_if_eq hg (tgt := 39) dX10_isTwin_32 rfl (fun c9 => ?_) (fun c9 => ?_)
        · refine X_iconst hg ic_i_0 dX10_isTwin_39 ?_
          refine X_lv [] rfl ?_
          exact hk1 (nI 0)
        · refine X_iconst hg ic_i_1 dX10_isTwin_35 ?_
          refine X_goto hg (tgt := 40) dX10_isTwin_36 rfl ?_
          refine X_lv [] rfl ?_
          exact hk1 (nI 1)
      · refine X_iconst hg ic_i_0 dX10_isTwin_39 ?_
        refine X_lv [] rfl ?_
        exact hk1 (nI 0)
  · exact X_zret hg hr (Nat.le_of_ble_eq_true rfl) (Nat.le_of_ble_eq_true rfl) dX10_isTwin_40
set_option maxRecDepth 10000 in
theorem l_X10_twins_4 {g : XC} {x0 : Int32} (hg : XG g RX10 cX10_twins 4 3 69 0 0) (l0 : Nat) (l1 : Int32) (h : Hp) (hr : XR g (some .int) "twins" (some (.int x0)) h 0 0) (K : Int32 → Option (Int32)) (hK0 : ∀ (l2 : Int32), Xo g x0 4 0 0 35 [(2, .int l2)] [] h (K l2)) : ∀ (n : Nat) (l2 : Int32) (l3 : Int32), Xo g x0 4 0 0 4 [(0, .ref (nB g.1 + l0)), (1, .int l1), (2, .int l2), (3, .int l3)] [] h (f_X10_twins_L4 l0 l1 h K n l2 l3) := by
  intro n
  induction n with
  | zero =>
    intro l2 l3
    exact X_none
  | succ n ih =>
    intro l2 l3
    unfold f_X10_twins_L4
    refine X_iload_n hg 3 rfl dX10_twins_4 ?_
    refine X_aload_n hg 0 rfl dX10_twins_5 ?_
    refine X_getI hg (j := 2) cf_10 (Nat.le_of_ble_eq_true rfl) (Or.inl rfl) m_902 dX10_twins_6 (fun x1 _ => ?_)
    refine X_icmp_ge hg (tgt := 35) dX10_twins_9 rfl (fun c5 => ?_) (fun c5 => ?_)
    · refine X_lv [2] rfl ?_
      exact hK0 _
    · refine X_iload_n hg 2 rfl dX10_twins_12 ?_
      refine X_aload_n hg 0 rfl dX10_twins_13 ?_
      refine X_iload_n hg 1 rfl dX10_twins_14 ?_
      refine X_iload_n hg 3 rfl dX10_twins_15 ?_
      refine X_cVI0 hg mf_X10_isTwin m_1093 m_42 m_1091 cf_10 (fun _ e => gd_isO e) (fun y e => c_X10_isTwin g.1 l0 l1 l3 h y e) (As := [.int l1, .int l3]) rfl (Nat.le_of_ble_eq_true rfl) rfl (Nat.le_of_ble_eq_true rfl) (Nat.le_of_ble_eq_true rfl) (Nat.le_of_ble_eq_true rfl) (Nat.le_of_ble_eq_true rfl) dX10_twins_16 (fun x2 _ => ?_)
      refine X_reg (fun (v3 : Int32) o => Xo g x0 4 0 0 27 [(0, .ref (nB g.1 + l0)), (1, .int l1), (3, .int l3)] [.int v3, .int l2] h o) (fun kv3 hk3 => ?_) (fun v3 => ?_)
      · refine X_ib ?_
        refine X_if_eq hg (tgt := 26) dX10_twins_19 rfl (fun c4 => ?_) (fun c4 => ?_)
        · refine X_iconst hg ic_i_0 dX10_twins_26 ?_
          refine X_lv [0, 1, 3] rfl ?_
          exact hk3 (nI 0)
        · refine X_iconst hg ic_i_1 dX10_twins_22 ?_
          refine X_goto hg (tgt := 27) dX10_twins_23 rfl ?_
          refine X_lv [0, 1, 3] rfl ?_
          exact hk3 (nI 1)
      · refine X_iadd hg dX10_twins_27 ?_
        refine X_istore_n hg rfl (Nat.le_of_ble_eq_true rfl) (lv' := [(2, .int (l2 + v3)), (0, .ref (nB g.1 + l0)), (1, .int l1), (3, .int l3)]) rfl dX10_twins_28 ?_
        refine X_iinc hg 3 rfl (v := (l3 + (nI 1))) (icc ic_i_1) (Nat.le_of_ble_eq_true rfl) (lv' := [(3, .int (l3 + (nI 1))), (2, .int (l2 + v3)), (0, .ref (nB g.1 + l0)), (1, .int l1)]) rfl dX10_twins_29 ?_
        refine X_goto hg (tgt := 4) dX10_twins_32 rfl ?_
        refine X_lv [2, 3, 1, 0] rfl ?_
        exact ih _ _
set_option maxRecDepth 10000 in
theorem c_X10_twins (en : EN) (a0 : Nat) (a1 : Int32) (h : Hp) (x0 : Int32) (e : f_X10_twins a0 a1 h = some x0) : Ct en yX10_twins cX10_twins 4 (some .int) 3 69 0 0 [.ref (nB en + a0), .int a1] h (some (.int x0)) h := by
  refine Ct.of (by decide) rfl (Nat.le_of_ble_eq_true rfl) e (fun g hen hg hr => ?_)
  subst hen
  unfold f_X10_twins
  refine X_gd ?_
  refine X_iconst hg ic_i_0 dX10_twins_0 ?_
  refine X_istore_n hg rfl (Nat.le_of_ble_eq_true rfl) (lv' := [(2, .int (nI 0)), (0, .ref (nB g.1 + a0)), (1, .int a1)]) rfl dX10_twins_1 ?_
  refine X_iconst hg ic_i_0 dX10_twins_2 ?_
  refine X_istore_n hg rfl (Nat.le_of_ble_eq_true rfl) (lv' := [(3, .int (nI 0)), (2, .int (nI 0)), (0, .ref (nB g.1 + a0)), (1, .int a1)]) rfl dX10_twins_3 ?_
  refine X_lv [2, 3, 1, 0] rfl ?_
  refine l_X10_twins_4 hg _ _ _ hr _ (fun y6 => ?_) _ _ _
  refine X_iload_n hg 0 rfl dX10_twins_35 ?_
  exact X_iret hg hr (Nat.le_of_ble_eq_true rfl) (Nat.le_of_ble_eq_true rfl) dX10_twins_36
set_option maxRecDepth 10000 in
theorem l_X10_telling_17 {g : XC} {x0 : Int32} (hg : XG g RX10 cX10_telling 5 2 47 0 0) (l0 : Nat) (l1 : Int32) (l2 : Int32) (h : Hp) (hr : XR g (some .int) "telling" (some (.int x0)) h 0 0) (K : Int32 → Option (Int32)) (hK0 : ∀ (l3 : Int32), Xo g x0 5 0 0 59 [(0, .ref (nB g.1 + l0)), (1, .int l1), (2, .int l2), (3, .int l3)] [] h (K l3)) : ∀ (n : Nat) (l3 : Int32) (l4 : Int32), Xo g x0 5 0 0 17 [(0, .ref (nB g.1 + l0)), (1, .int l1), (2, .int l2), (3, .int l3), (4, .int l4)] [] h (f_X10_telling_L17 l0 l1 l2 h K n l3 l4) := by
  intro n
  induction n with
  | zero =>
    intro l3 l4
    exact X_none
  | succ n ih =>
    intro l3 l4
    unfold f_X10_telling_L17
    refine X_iload hg 4 rfl dX10_telling_17 ?_
    refine X_aload_n hg 0 rfl dX10_telling_19 ?_
    refine X_getI hg (j := 2) cf_10 (Nat.le_of_ble_eq_true rfl) (Or.inl rfl) m_902 dX10_telling_20 (fun x3 _ => ?_)
    refine X_icmp_ge hg (tgt := 59) dX10_telling_23 rfl (fun c9 => ?_) (fun c9 => ?_)
    · refine X_lv [0, 1, 2, 3] rfl ?_
      exact hK0 _
    · refine X_iload_n hg 3 rfl dX10_telling_26 ?_
      refine X_reg (fun (v4 : Int32) o => Xo g x0 5 0 0 52 [(0, .ref (nB g.1 + l0)), (1, .int l1), (2, .int l2), (4, .int l4)] [.int v4] h o) (fun kv4 hk4 => ?_) (fun v4 => ?_)
      · refine X_ib ?_
        refine X_if_eq hg (tgt := 51) dX10_telling_27 rfl (fun c8 => ?_) (fun c8 => ?_)
        · refine X_iconst hg ic_i_0 dX10_telling_51 ?_
          refine X_lv [0, 1, 2, 4] rfl ?_
          exact hk4 (nI 0)
        · refine X_iload hg 4 rfl dX10_telling_30 ?_
          refine X_iload_n hg 1 rfl dX10_telling_32 ?_
          refine X_ib ?_
          refine X_icmp_eq hg (tgt := 47) dX10_telling_33 rfl (fun c7 => ?_) (fun c7 => ?_)
          · refine X_iconst hg ic_i_1 dX10_telling_47 ?_
            refine X_goto hg (tgt := 52) dX10_telling_48 rfl ?_
            refine X_lv [0, 1, 2, 4] rfl ?_
            exact hk4 (nI 1)
          · refine X_aload_n hg 0 rfl dX10_telling_36 ?_
            refine X_iload_n hg 1 rfl dX10_telling_37 ?_
            refine X_iload_n hg 2 rfl dX10_telling_38 ?_
            refine X_iload hg 4 rfl dX10_telling_39 ?_
            refine X_as ?_
            refine X_cVI0 hg mf_X10_begins m_1097 m_43 m_1095 cf_10 (fun _ e => gd_isO e) (fun y e => c_X10_begins g.1 l0 l1 l2 l4 h y e) (As := [.int l1, .int l2, .int l4]) rfl (Nat.le_of_ble_eq_true rfl) rfl (Nat.le_of_ble_eq_true rfl) (Nat.le_of_ble_eq_true rfl) (Nat.le_of_ble_eq_true rfl) (Nat.le_of_ble_eq_true rfl) dX10_telling_41 (fun x5 _ => ?_)
            refine X_ib ?_
            refine X_if_ne hg (tgt := 51) dX10_telling_44 rfl (fun c6 => ?_) (fun c6 => ?_)
            · refine X_iconst hg ic_i_1 dX10_telling_47 ?_
              refine X_goto hg (tgt := 52) dX10_telling_48 rfl ?_
              refine X_lv [0, 1, 2, 4] rfl ?_
              exact hk4 (nI 1)
            · refine X_iconst hg ic_i_0 dX10_telling_51 ?_
              refine X_lv [0, 1, 2, 4] rfl ?_
              exact hk4 (nI 0)
      · refine X_istore_n hg rfl (Nat.le_of_ble_eq_true rfl) (lv' := [(3, .int v4), (0, .ref (nB g.1 + l0)), (1, .int l1), (2, .int l2), (4, .int l4)]) rfl dX10_telling_52 ?_
        refine X_iinc hg 4 rfl (v := (l4 + (nI 1))) (icc ic_i_1) (Nat.le_of_ble_eq_true rfl) (lv' := [(4, .int (l4 + (nI 1))), (3, .int v4), (0, .ref (nB g.1 + l0)), (1, .int l1), (2, .int l2)]) rfl dX10_telling_53 ?_
        refine X_goto hg (tgt := 17) dX10_telling_56 rfl ?_
        refine X_lv [2, 3, 4, 1, 0] rfl ?_
        exact ih _ _
set_option maxRecDepth 10000 in
theorem l_X10_telling_2 {g : XC} {x0 : Int32} (hg : XG g RX10 cX10_telling 5 2 47 0 0) (l0 : Nat) (l1 : Int32) (h : Hp) (hr : XR g (some .int) "telling" (some (.int x0)) h 0 0) (K : Option (Int32)) (hK0 : Xo g x0 5 0 0 71 [] [] h K) : ∀ (n : Nat) (l2 : Int32), Xo g x0 5 0 0 2 [(0, .ref (nB g.1 + l0)), (1, .int l1), (2, .int l2)] [] h (f_X10_telling_L2 l0 l1 h K n l2) := by
  intro n
  induction n with
  | zero =>
    intro l2
    exact X_none
  | succ n ih =>
    intro l2
    unfold f_X10_telling_L2
    refine X_iload_n hg 2 rfl dX10_telling_2 ?_
    refine X_aload_n hg 0 rfl dX10_telling_3 ?_
    refine X_getR hg (j := 3) cf_10 (Nat.le_of_ble_eq_true rfl) (Or.inr ⟨_, rfl⟩) m_903 dX10_telling_4 (fun x1 _ => ?_)
    refine X_iload_n hg 1 rfl dX10_telling_7 ?_
    refine X_ald hg dX10_telling_8 (fun x2 _ => ?_)
    refine X_icmp_gt hg (tgt := 71) dX10_telling_9 rfl (fun c12 => ?_) (fun c12 => ?_)
    · refine X_lv [] rfl ?_
      exact hK0 
    · refine X_iconst hg ic_i_1 dX10_telling_12 ?_
      refine X_istore_n hg rfl (Nat.le_of_ble_eq_true rfl) (lv' := [(3, .int (nI 1)), (0, .ref (nB g.1 + l0)), (1, .int l1), (2, .int l2)]) rfl dX10_telling_13 ?_
      refine X_iconst hg ic_i_0 dX10_telling_14 ?_
      refine X_istore hg (Nat.le_of_ble_eq_true rfl) (lv' := [(4, .int (nI 0)), (3, .int (nI 1)), (0, .ref (nB g.1 + l0)), (1, .int l1), (2, .int l2)]) rfl dX10_telling_15 ?_
      refine X_lv [2, 3, 4, 1, 0] rfl ?_
      refine l_X10_telling_17 hg _ _ _ _ hr _ (fun y10 => ?_) _ _ _
      refine X_iload_n hg 3 rfl dX10_telling_59 ?_
      refine X_if_eq hg (tgt := 65) dX10_telling_60 rfl (fun c11 => ?_) (fun c11 => ?_)
      · refine X_iinc hg 2 rfl (v := (l2 + (nI 1))) (icc ic_i_1) (Nat.le_of_ble_eq_true rfl) (lv' := [(2, .int (l2 + (nI 1))), (0, .ref (nB g.1 + l0)), (1, .int l1), (3, .int y10)]) rfl dX10_telling_65 ?_
        refine X_goto hg (tgt := 2) dX10_telling_68 rfl ?_
        refine X_lv [1, 2, 0] rfl ?_
        exact ih _
      · refine X_iload_n hg 2 rfl dX10_telling_63 ?_
        exact X_iret hg hr (Nat.le_of_ble_eq_true rfl) (Nat.le_of_ble_eq_true rfl) dX10_telling_64
set_option maxRecDepth 10000 in
theorem c_X10_telling (en : EN) (a0 : Nat) (a1 : Int32) (h : Hp) (x0 : Int32) (e : f_X10_telling a0 a1 h = some x0) : Ct en yX10_telling cX10_telling 5 (some .int) 2 47 0 0 [.ref (nB en + a0), .int a1] h (some (.int x0)) h := by
  refine Ct.of (by decide) rfl (Nat.le_of_ble_eq_true rfl) e (fun g hen hg hr => ?_)
  subst hen
  unfold f_X10_telling
  refine X_gd ?_
  refine X_iconst hg ic_i_0 dX10_telling_0 ?_
  refine X_istore_n hg rfl (Nat.le_of_ble_eq_true rfl) (lv' := [(2, .int (nI 0)), (0, .ref (nB g.1 + a0)), (1, .int a1)]) rfl dX10_telling_1 ?_
  refine X_lv [1, 2, 0] rfl ?_
  refine l_X10_telling_2 hg _ _ _ hr _ ?_ _ _
  refine X_iconst hg ic_i_m1 dX10_telling_71 ?_
  exact X_iret hg hr (Nat.le_of_ble_eq_true rfl) (Nat.le_of_ble_eq_true rfl) dX10_telling_72
set_option maxRecDepth 10000 in
theorem c_X10_isAhead (en : EN) (a0 : Nat) (a1 : Int32) (a2 : Int32) (h : Hp) (x0 : Int32) (e : f_X10_isAhead a0 a1 a2 h = some x0) : Ct en yX10_isAhead cX10_isAhead 3 (some .boolean) 0 0 0 0 [.ref (nB en + a0), .int a1, .int a2] h (some (.int x0)) h := by
  refine Ct.of (by decide) rfl (Nat.le_of_ble_eq_true rfl) e (fun g hen hg hr => ?_)
  subst hen
  unfold f_X10_isAhead
  refine X_gd ?_
  refine X_aload_n hg 0 rfl dX10_isAhead_0 ?_
  refine X_getR hg (j := 5) cf_10 (Nat.le_of_ble_eq_true rfl) (Or.inr ⟨_, rfl⟩) m_905 dX10_isAhead_1 (fun x1 _ => ?_)
  refine X_iload_n hg 1 rfl dX10_isAhead_4 ?_
  refine X_ald hg dX10_isAhead_5 (fun x2 _ => ?_)
  refine X_aload_n hg 0 rfl dX10_isAhead_6 ?_
  refine X_getR hg (j := 5) cf_10 (Nat.le_of_ble_eq_true rfl) (Or.inr ⟨_, rfl⟩) m_905 dX10_isAhead_7 (fun x3 _ => ?_)
  refine X_iload_n hg 2 rfl dX10_isAhead_10 ?_
  refine X_ald hg dX10_isAhead_11 (fun x4 _ => ?_)
  refine X_reg (fun (v5 : Int32) o => Xo g x0 3 0 0 40 [] [.int v5] h o) (fun kv5 hk5 => ?_) (fun v5 => ?_)
  · refine X_ib ?_
    refine X_icmp_gt hg (tgt := 35) dX10_isAhead_12 rfl (fun c12 => ?_) (fun c12 => ?_)
    · refine X_iconst hg ic_i_1 dX10_isAhead_35 ?_
      refine X_goto hg (tgt := 40) dX10_isAhead_36 rfl ?_
      refine X_lv [] rfl ?_
      exact hk5 (nI 1)
    · refine X_aload_n hg 0 rfl dX10_isAhead_15 ?_
      refine X_as ?_
      refine X_getR hg (j := 5) cf_10 (Nat.le_of_ble_eq_true rfl) (Or.inr ⟨_, rfl⟩) m_905 dX10_isAhead_16 (fun x6 _ => ?_)
      refine X_iload_n hg 1 rfl dX10_isAhead_19 ?_
      refine X_as ?_
      refine X_ald hg dX10_isAhead_20 (fun x7 _ => ?_)
      refine X_aload_n hg 0 rfl dX10_isAhead_21 ?_
      refine X_as ?_
      refine X_getR hg (j := 5) cf_10 (Nat.le_of_ble_eq_true rfl) (Or.inr ⟨_, rfl⟩) m_905 dX10_isAhead_22 (fun x8 _ => ?_)
      refine X_iload_n hg 2 rfl dX10_isAhead_25 ?_
      refine X_as ?_
      refine X_ald hg dX10_isAhead_26 (fun x9 _ => ?_)
      refine X_ib ?_
      refine X_icmp_ne hg (tgt := 39) dX10_isAhead_27 rfl (fun c11 => ?_) (fun c11 => ?_)
      · refine X_iload_n hg 1 rfl dX10_isAhead_30 ?_
        refine X_iload_n hg 2 rfl dX10_isAhead_31 ?_
        refine X_ib ?_
        refine X_icmp_ge hg (tgt := 39) dX10_isAhead_32 rfl (fun c10 => ?_) (fun c10 => ?_)
        · refine X_iconst hg ic_i_0 dX10_isAhead_39 ?_
          refine X_lv [] rfl ?_
          exact hk5 (nI 0)
        · refine X_iconst hg ic_i_1 dX10_isAhead_35 ?_
          refine X_goto hg (tgt := 40) dX10_isAhead_36 rfl ?_
          refine X_lv [] rfl ?_
          exact hk5 (nI 1)
      · refine X_iconst hg ic_i_0 dX10_isAhead_39 ?_
        refine X_lv [] rfl ?_
        exact hk5 (nI 0)
  · exact X_zret hg hr (Nat.le_of_ble_eq_true rfl) (Nat.le_of_ble_eq_true rfl) dX10_isAhead_40
set_option maxRecDepth 10000 in
theorem l_X10_placeIn_5 {g : XC} {x0 : Int32} (hg : XG g RX10 cX10_placeIn 5 2 47 0 0) (l0 : Nat) (l1 : Int32) (l2 : Int32) (h : Hp) (hr : XR g (some .int) "placeIn" (some (.int x0)) h 0 0) (K : Int32 → Option (Int32)) (hK0 : ∀ (l3 : Int32), Xo g x0 5 0 0 49 [(3, .int l3)] [] h (K l3)) : ∀ (n : Nat) (l3 : Int32) (l4 : Int32), Xo g x0 5 0 0 5 [(0, .ref (nB g.1 + l0)), (1, .int l1), (2, .int l2), (3, .int l3), (4, .int l4)] [] h (f_X10_placeIn_L5 l0 l1 l2 h K n l3 l4) := by
  intro n
  induction n with
  | zero =>
    intro l3 l4
    exact X_none
  | succ n ih =>
    intro l3 l4
    unfold f_X10_placeIn_L5
    refine X_iload hg 4 rfl dX10_placeIn_5 ?_
    refine X_aload_n hg 0 rfl dX10_placeIn_7 ?_
    refine X_getI hg (j := 2) cf_10 (Nat.le_of_ble_eq_true rfl) (Or.inl rfl) m_902 dX10_placeIn_8 (fun x1 _ => ?_)
    refine X_icmp_ge hg (tgt := 49) dX10_placeIn_11 rfl (fun c7 => ?_) (fun c7 => ?_)
    · refine X_lv [3] rfl ?_
      exact hK0 _
    · refine X_iload_n hg 3 rfl dX10_placeIn_14 ?_
      refine X_aload_n hg 0 rfl dX10_placeIn_15 ?_
      refine X_iload_n hg 1 rfl dX10_placeIn_16 ?_
      refine X_iload_n hg 2 rfl dX10_placeIn_17 ?_
      refine X_iload hg 4 rfl dX10_placeIn_18 ?_
      refine X_cVI0 hg mf_X10_begins m_1097 m_43 m_1095 cf_10 (fun _ e => gd_isO e) (fun y e => c_X10_begins g.1 l0 l1 l2 l4 h y e) (As := [.int l1, .int l2, .int l4]) rfl (Nat.le_of_ble_eq_true rfl) rfl (Nat.le_of_ble_eq_true rfl) (Nat.le_of_ble_eq_true rfl) (Nat.le_of_ble_eq_true rfl) (Nat.le_of_ble_eq_true rfl) dX10_placeIn_20 (fun x2 _ => ?_)
      refine X_reg (fun (v3 : Int32) o => Xo g x0 5 0 0 41 [(0, .ref (nB g.1 + l0)), (1, .int l1), (2, .int l2), (4, .int l4)] [.int v3, .int l3] h o) (fun kv3 hk3 => ?_) (fun v3 => ?_)
      · refine X_ib ?_
        refine X_if_eq hg (tgt := 40) dX10_placeIn_23 rfl (fun c6 => ?_) (fun c6 => ?_)
        · refine X_iconst hg ic_i_0 dX10_placeIn_40 ?_
          refine X_lv [0, 1, 2, 4] rfl ?_
          exact hk3 (nI 0)
        · refine X_aload_n hg 0 rfl dX10_placeIn_26 ?_
          refine X_iload hg 4 rfl dX10_placeIn_27 ?_
          refine X_iload_n hg 1 rfl dX10_placeIn_29 ?_
          refine X_as ?_
          refine X_cVI0 hg mf_X10_isAhead m_1118 m_48 m_1116 cf_10 (fun _ e => gd_isO e) (fun y e => c_X10_isAhead g.1 l0 l4 l1 h y e) (As := [.int l4, .int l1]) rfl (Nat.le_of_ble_eq_true rfl) rfl (Nat.le_of_ble_eq_true rfl) (Nat.le_of_ble_eq_true rfl) (Nat.le_of_ble_eq_true rfl) (Nat.le_of_ble_eq_true rfl) dX10_placeIn_30 (fun x4 _ => ?_)
          refine X_ib ?_
          refine X_if_eq hg (tgt := 40) dX10_placeIn_33 rfl (fun c5 => ?_) (fun c5 => ?_)
          · refine X_iconst hg ic_i_0 dX10_placeIn_40 ?_
            refine X_lv [0, 1, 2, 4] rfl ?_
            exact hk3 (nI 0)
          · refine X_iconst hg ic_i_1 dX10_placeIn_36 ?_
            refine X_goto hg (tgt := 41) dX10_placeIn_37 rfl ?_
            refine X_lv [0, 1, 2, 4] rfl ?_
            exact hk3 (nI 1)
      · refine X_iadd hg dX10_placeIn_41 ?_
        refine X_istore_n hg rfl (Nat.le_of_ble_eq_true rfl) (lv' := [(3, .int (l3 + v3)), (0, .ref (nB g.1 + l0)), (1, .int l1), (2, .int l2), (4, .int l4)]) rfl dX10_placeIn_42 ?_
        refine X_iinc hg 4 rfl (v := (l4 + (nI 1))) (icc ic_i_1) (Nat.le_of_ble_eq_true rfl) (lv' := [(4, .int (l4 + (nI 1))), (3, .int (l3 + v3)), (0, .ref (nB g.1 + l0)), (1, .int l1), (2, .int l2)]) rfl dX10_placeIn_43 ?_
        refine X_goto hg (tgt := 5) dX10_placeIn_46 rfl ?_
        refine X_lv [2, 3, 4, 1, 0] rfl ?_
        exact ih _ _
set_option maxRecDepth 10000 in
theorem c_X10_placeIn (en : EN) (a0 : Nat) (a1 : Int32) (a2 : Int32) (h : Hp) (x0 : Int32) (e : f_X10_placeIn a0 a1 a2 h = some x0) : Ct en yX10_placeIn cX10_placeIn 5 (some .int) 2 47 0 0 [.ref (nB en + a0), .int a1, .int a2] h (some (.int x0)) h := by
  refine Ct.of (by decide) rfl (Nat.le_of_ble_eq_true rfl) e (fun g hen hg hr => ?_)
  subst hen
  unfold f_X10_placeIn
  refine X_gd ?_
  refine X_iconst hg ic_i_0 dX10_placeIn_0 ?_
  refine X_istore_n hg rfl (Nat.le_of_ble_eq_true rfl) (lv' := [(3, .int (nI 0)), (0, .ref (nB g.1 + a0)), (1, .int a1), (2, .int a2)]) rfl dX10_placeIn_1 ?_
  refine X_iconst hg ic_i_0 dX10_placeIn_2 ?_
  refine X_istore hg (Nat.le_of_ble_eq_true rfl) (lv' := [(4, .int (nI 0)), (3, .int (nI 0)), (0, .ref (nB g.1 + a0)), (1, .int a1), (2, .int a2)]) rfl dX10_placeIn_3 ?_
  refine X_lv [2, 3, 4, 1, 0] rfl ?_
  refine l_X10_placeIn_5 hg _ _ _ _ hr _ (fun y8 => ?_) _ _ _
  refine X_iload_n hg 0 rfl dX10_placeIn_49 ?_
  exact X_iret hg hr (Nat.le_of_ble_eq_true rfl) (Nat.le_of_ble_eq_true rfl) dX10_placeIn_50
set_option maxRecDepth 10000 in
theorem l_X10_presses_5 {g : XC} {x0 : Int32} (hg : XG g RX10 cX10_presses 5 3 71 0 0) (l0 : Nat) (l1 : Int32) (h : Hp) (hr : XR g (some .int) "presses" (some (.int x0)) h 0 0) (K : Int32 → Option (Int32)) (hK0 : ∀ (l2 : Int32), Xo g x0 5 0 0 46 [(2, .int l2)] [] h (K l2)) : ∀ (n : Nat) (l2 : Int32) (l3 : Int32), Xo g x0 5 0 0 5 [(0, .ref (nB g.1 + l0)), (1, .int l1), (2, .int l2), (3, .int l3)] [] h (f_X10_presses_L5 l0 l1 h K n l2 l3) := by
  intro n
  induction n with
  | zero =>
    intro l2 l3
    exact X_none
  | succ n ih =>
    intro l2 l3
    unfold f_X10_presses_L5
    refine X_iload_n hg 3 rfl dX10_presses_5 ?_
    refine X_aload_n hg 0 rfl dX10_presses_6 ?_
    refine X_getR hg (j := 3) cf_10 (Nat.le_of_ble_eq_true rfl) (Or.inr ⟨_, rfl⟩) m_903 dX10_presses_7 (fun x1 _ => ?_)
    refine X_iload_n hg 1 rfl dX10_presses_10 ?_
    refine X_ald hg dX10_presses_11 (fun x2 _ => ?_)
    refine X_icmp_gt hg (tgt := 46) dX10_presses_12 rfl (fun c6 => ?_) (fun c6 => ?_)
    · refine X_lv [2] rfl ?_
      exact hK0 _
    · refine X_iload_n hg 3 rfl dX10_presses_15 ?_
      refine X_aload_n hg 0 rfl dX10_presses_16 ?_
      refine X_iload_n hg 1 rfl dX10_presses_17 ?_
      refine X_iload_n hg 3 rfl dX10_presses_18 ?_
      refine X_cVI0 hg mf_X10_placeIn m_1114 m_47 m_1112 cf_10 (fun _ e => gd_isO e) (fun y e => c_X10_placeIn g.1 l0 l1 l3 h y e) (As := [.int l1, .int l3]) rfl (Nat.le_of_ble_eq_true rfl) rfl (Nat.le_of_ble_eq_true rfl) (Nat.le_of_ble_eq_true rfl) (Nat.le_of_ble_eq_true rfl) (Nat.le_of_ble_eq_true rfl) dX10_presses_19 (fun x3 _ => ?_)
      refine X_iadd hg dX10_presses_22 ?_
      refine X_iconst hg ic_i_1 dX10_presses_23 ?_
      refine X_iadd hg dX10_presses_24 ?_
      refine X_istore hg (Nat.le_of_ble_eq_true rfl) (lv' := [(4, .int ((l3 + x3) + (nI 1))), (0, .ref (nB g.1 + l0)), (1, .int l1), (2, .int l2), (3, .int l3)]) rfl dX10_presses_25 ?_
      refine X_iload hg 0 rfl dX10_presses_27 ?_
      refine X_iload_n hg 3 rfl dX10_presses_29 ?_
      refine X_reg (fun (v4 : Int32) o => Xo g x0 5 0 0 39 [(0, .ref (nB g.1 + l0)), (1, .int l1), (3, .int l3)] [.int v4] h o) (fun kv4 hk4 => ?_) (fun v4 => ?_)
      · refine X_ib ?_
        refine X_icmp_ge hg (tgt := 38) dX10_presses_30 rfl (fun c5 => ?_) (fun c5 => ?_)
        · refine X_iload_n hg 3 rfl dX10_presses_38 ?_
          refine X_lv [1, 2, 4] rfl ?_
          exact hk4 l2
        · refine X_iload hg 0 rfl dX10_presses_33 ?_
          refine X_goto hg (tgt := 39) dX10_presses_35 rfl ?_
          refine X_lv [1, 2, 4] rfl ?_
          exact hk4 ((l3 + x3) + (nI 1))
      · refine X_istore_n hg rfl (Nat.le_of_ble_eq_true rfl) (lv' := [(2, .int v4), (0, .ref (nB g.1 + l0)), (1, .int l1), (3, .int l3)]) rfl dX10_presses_39 ?_
        refine X_iinc hg 3 rfl (v := (l3 + (nI 1))) (icc ic_i_1) (Nat.le_of_ble_eq_true rfl) (lv' := [(3, .int (l3 + (nI 1))), (2, .int v4), (0, .ref (nB g.1 + l0)), (1, .int l1)]) rfl dX10_presses_40 ?_
        refine X_goto hg (tgt := 5) dX10_presses_43 rfl ?_
        refine X_lv [2, 3, 1, 0] rfl ?_
        exact ih _ _
set_option maxRecDepth 10000 in
theorem c_X10_presses (en : EN) (a0 : Nat) (a1 : Int32) (h : Hp) (x0 : Int32) (e : f_X10_presses a0 a1 h = some x0) : Ct en yX10_presses cX10_presses 5 (some .int) 3 71 0 0 [.ref (nB en + a0), .int a1] h (some (.int x0)) h := by
  refine Ct.of (by decide) rfl (Nat.le_of_ble_eq_true rfl) e (fun g hen hg hr => ?_)
  subst hen
  unfold f_X10_presses
  refine X_gd ?_
  refine X_ldc hg (v := (nI 268435456)) m_1111 dX10_presses_0 ?_
  refine X_istore_n hg rfl (Nat.le_of_ble_eq_true rfl) (lv' := [(2, .int (nI 268435456)), (0, .ref (nB g.1 + a0)), (1, .int a1)]) rfl dX10_presses_2 ?_
  refine X_iconst hg ic_i_0 dX10_presses_3 ?_
  refine X_istore_n hg rfl (Nat.le_of_ble_eq_true rfl) (lv' := [(3, .int (nI 0)), (2, .int (nI 268435456)), (0, .ref (nB g.1 + a0)), (1, .int a1)]) rfl dX10_presses_4 ?_
  refine X_lv [2, 3, 1, 0] rfl ?_
  refine l_X10_presses_5 hg _ _ _ hr _ (fun y7 => ?_) _ _ _
  refine X_iload_n hg 0 rfl dX10_presses_46 ?_
  exact X_iret hg hr (Nat.le_of_ble_eq_true rfl) (Nat.le_of_ble_eq_true rfl) dX10_presses_47
set_option maxRecDepth 10000 in
theorem c_X10_costAt (en : EN) (a0 : Nat) (a1 : Int32) (a2 : Int32) (h : Hp) (x0 : Int32) (e : f_X10_costAt a0 a1 a2 h = some x0) : Ct en yX10_costAt cX10_costAt 3 (some .int) 0 0 0 0 [.ref (nB en + a0), .int a1, .int a2] h (some (.int x0)) h := by
  refine Ct.of (by decide) rfl (Nat.le_of_ble_eq_true rfl) e (fun g hen hg hr => ?_)
  subst hen
  unfold f_X10_costAt
  refine X_gd ?_
  refine X_aload_n hg 0 rfl dX10_costAt_0 ?_
  refine X_getR hg (j := 26) cf_10 (Nat.le_of_ble_eq_true rfl) (Or.inr ⟨_, rfl⟩) m_926 dX10_costAt_1 (fun x1 _ => ?_)
  refine X_bipush hg ic_b_15 dX10_costAt_4 ?_
  refine X_iload_n hg 1 rfl dX10_costAt_6 ?_
  refine X_imul hg dX10_costAt_7 ?_
  refine X_iload_n hg 2 rfl dX10_costAt_8 ?_
  refine X_iadd hg dX10_costAt_9 ?_
  refine X_ald hg dX10_costAt_10 (fun x2 _ => ?_)
  exact X_iret hg hr (Nat.le_of_ble_eq_true rfl) (Nat.le_of_ble_eq_true rfl) dX10_costAt_11
set_option maxRecDepth 10000 in
theorem c_X10_partsAt (en : EN) (a0 : Nat) (a1 : Int32) (a2 : Int32) (a3 : Int32) (h : Hp) (x0 : Int32) (e : f_X10_partsAt a0 a1 a2 a3 h = some x0) : Ct en yX10_partsAt cX10_partsAt 4 (some .int) 0 0 0 0 [.ref (nB en + a0), .int a1, .int a2, .int a3] h (some (.int x0)) h := by
  refine Ct.of (by decide) rfl (Nat.le_of_ble_eq_true rfl) e (fun g hen hg hr => ?_)
  subst hen
  unfold f_X10_partsAt
  refine X_gd ?_
  refine X_aload_n hg 0 rfl dX10_partsAt_0 ?_
  refine X_getR hg (j := 27) cf_10 (Nat.le_of_ble_eq_true rfl) (Or.inr ⟨_, rfl⟩) m_927 dX10_partsAt_1 (fun x1 _ => ?_)
  refine X_sipush hg ic_s_225 dX10_partsAt_4 ?_
  refine X_iload_n hg 1 rfl dX10_partsAt_7 ?_
  refine X_imul hg dX10_partsAt_8 ?_
  refine X_bipush hg ic_b_15 dX10_partsAt_9 ?_
  refine X_iload_n hg 2 rfl dX10_partsAt_11 ?_
  refine X_imul hg dX10_partsAt_12 ?_
  refine X_iadd hg dX10_partsAt_13 ?_
  refine X_iload_n hg 3 rfl dX10_partsAt_14 ?_
  refine X_iadd hg dX10_partsAt_15 ?_
  refine X_ald hg dX10_partsAt_16 (fun x2 _ => ?_)
  exact X_iret hg hr (Nat.le_of_ble_eq_true rfl) (Nat.le_of_ble_eq_true rfl) dX10_partsAt_17
set_option maxRecDepth 10000 in
theorem l_X10_bestParts_9 {g : XC} {x0 : Int32} (hg : XG g RX10 cX10_bestParts 8 1 23 0 0) (l0 : Nat) (l1 : Int32) (l2 : Int32) (l3 : Int32) (h : Hp) (hr : XR g (some .int) "bestParts" (some (.int x0)) h 0 0) (K : Int32 → Option (Int32)) (hK0 : ∀ (l4 : Int32), Xo g x0 8 0 0 73 [(4, .int l4)] [] h (K l4)) : ∀ (n : Nat) (l4 : Int32) (l5 : Int32), Xo g x0 8 0 0 9 [(0, .ref (nB g.1 + l0)), (1, .int l1), (2, .int l2), (3, .int l3), (4, .int l4), (5, .int l5)] [] h (f_X10_bestParts_L9 l0 l1 l2 l3 h K n l4 l5) := by
  intro n
  induction n with
  | zero =>
    intro l4 l5
    exact X_none
  | succ n ih =>
    intro l4 l5
    unfold f_X10_bestParts_L9
    refine X_iload hg 5 rfl dX10_bestParts_9 ?_
    refine X_iload_n hg 3 rfl dX10_bestParts_11 ?_
    refine X_icmp_ge hg (tgt := 73) dX10_bestParts_12 rfl (fun c7 => ?_) (fun c7 => ?_)
    · refine X_lv [4] rfl ?_
      exact hK0 _
    · refine X_aload_n hg 0 rfl dX10_bestParts_15 ?_
      refine X_iload_n hg 1 rfl dX10_bestParts_16 ?_
      refine X_iconst hg ic_i_1 dX10_bestParts_17 ?_
      refine X_isub hg dX10_bestParts_18 ?_
      refine X_iload hg 5 rfl dX10_bestParts_19 ?_
      refine X_iload_n hg 3 rfl dX10_bestParts_21 ?_
      refine X_cVI0 hg mf_X10_partsAt m_1138 m_53 m_1136 cf_10 (fun _ e => gd_isO e) (fun y e => c_X10_partsAt g.1 l0 (l1 - (nI 1)) l5 l3 h y e) (As := [.int (l1 - (nI 1)), .int l5, .int l3]) rfl (Nat.le_of_ble_eq_true rfl) rfl (Nat.le_of_ble_eq_true rfl) (Nat.le_of_ble_eq_true rfl) (Nat.le_of_ble_eq_true rfl) (Nat.le_of_ble_eq_true rfl) dX10_bestParts_22 (fun x1 _ => ?_)
      refine X_istore hg (Nat.le_of_ble_eq_true rfl) (lv' := [(6, .int x1), (0, .ref (nB g.1 + l0)), (1, .int l1), (2, .int l2), (3, .int l3), (4, .int l4), (5, .int l5)]) rfl dX10_bestParts_25 ?_
      refine X_iload hg 0 rfl dX10_bestParts_27 ?_
      refine X_ldc hg (v := (nI 268435456)) m_1111 dX10_bestParts_29 ?_
      refine X_reg (fun (v2 : Int32) o => Xo g x0 8 0 0 49 [(0, .ref (nB g.1 + l0)), (1, .int l1), (2, .int l2), (3, .int l3), (4, .int l4), (5, .int l5)] [.int v2] h o) (fun kv2 hk2 => ?_) (fun v2 => ?_)
      · refine X_ib ?_
        refine X_icmp_ne hg (tgt := 39) dX10_bestParts_31 rfl (fun c4 => ?_) (fun c4 => ?_)
        · refine X_ldc hg (v := (nI 268435456)) m_1111 dX10_bestParts_34 ?_
          refine X_goto hg (tgt := 49) dX10_bestParts_36 rfl ?_
          refine X_lv [1, 2, 3, 4, 5, 6] rfl ?_
          exact hk2 (nI 268435456)
        · refine X_aload_n hg 1 rfl dX10_bestParts_39 ?_
          refine X_iload_n hg 3 rfl dX10_bestParts_40 ?_
          refine X_iload hg 6 rfl dX10_bestParts_41 ?_
          refine X_as ?_
          refine X_cVI0 hg mf_X10_costAt m_1142 m_54 m_1140 cf_10 (fun _ e => gd_isO e) (fun y e => c_X10_costAt g.1 l0 l2 l5 h y e) (As := [.int l2, .int l5]) rfl (Nat.le_of_ble_eq_true rfl) rfl (Nat.le_of_ble_eq_true rfl) (Nat.le_of_ble_eq_true rfl) (Nat.le_of_ble_eq_true rfl) (Nat.le_of_ble_eq_true rfl) dX10_bestParts_43 (fun x3 _ => ?_)
          refine X_iload hg 0 rfl dX10_bestParts_46 ?_
          refine X_iadd hg dX10_bestParts_48 ?_
          refine X_lv [1, 2, 3, 4, 5, 6] rfl ?_
          exact hk2 (x3 + x1)
      · refine X_istore hg (Nat.le_of_ble_eq_true rfl) (lv' := [(7, .int v2), (0, .ref (nB g.1 + l0)), (1, .int l1), (2, .int l2), (3, .int l3), (4, .int l4), (5, .int l5)]) rfl dX10_bestParts_49 ?_
        refine X_iload hg 0 rfl dX10_bestParts_51 ?_
        refine X_iload hg 5 rfl dX10_bestParts_53 ?_
        refine X_reg (fun (v5 : Int32) o => Xo g x0 8 0 0 65 [(0, .ref (nB g.1 + l0)), (1, .int l1), (2, .int l2), (3, .int l3), (5, .int l5)] [.int v5] h o) (fun kv5 hk5 => ?_) (fun v5 => ?_)
        · refine X_ib ?_
          refine X_icmp_ge hg (tgt := 63) dX10_bestParts_55 rfl (fun c6 => ?_) (fun c6 => ?_)
          · refine X_iload hg 5 rfl dX10_bestParts_63 ?_
            refine X_lv [1, 2, 3, 4, 6] rfl ?_
            exact hk5 l4
          · refine X_iload hg 0 rfl dX10_bestParts_58 ?_
            refine X_goto hg (tgt := 65) dX10_bestParts_60 rfl ?_
            refine X_lv [1, 2, 3, 4, 6] rfl ?_
            exact hk5 v2
        · refine X_istore hg (Nat.le_of_ble_eq_true rfl) (lv' := [(4, .int v5), (0, .ref (nB g.1 + l0)), (1, .int l1), (2, .int l2), (3, .int l3), (5, .int l5)]) rfl dX10_bestParts_65 ?_
          refine X_iinc hg 5 rfl (v := (l5 + (nI 1))) (icc ic_i_1) (Nat.le_of_ble_eq_true rfl) (lv' := [(5, .int (l5 + (nI 1))), (4, .int v5), (0, .ref (nB g.1 + l0)), (1, .int l1), (2, .int l2), (3, .int l3)]) rfl dX10_bestParts_67 ?_
          refine X_goto hg (tgt := 9) dX10_bestParts_70 rfl ?_
          refine X_lv [2, 3, 4, 5, 1, 0] rfl ?_
          exact ih _ _
set_option maxRecDepth 10000 in
theorem c_X10_bestParts (en : EN) (a0 : Nat) (a1 : Int32) (a2 : Int32) (a3 : Int32) (h : Hp) (x0 : Int32) (e : f_X10_bestParts a0 a1 a2 a3 h = some x0) : Ct en yX10_bestParts cX10_bestParts 8 (some .int) 1 23 0 0 [.ref (nB en + a0), .int a1, .int a2, .int a3] h (some (.int x0)) h := by
  refine Ct.of (by decide) rfl (Nat.le_of_ble_eq_true rfl) e (fun g hen hg hr => ?_)
  subst hen
  unfold f_X10_bestParts
  refine X_gd ?_
  refine X_ldc hg (v := (nI 268435456)) m_1111 dX10_bestParts_0 ?_
  refine X_istore hg (Nat.le_of_ble_eq_true rfl) (lv' := [(4, .int (nI 268435456)), (0, .ref (nB g.1 + a0)), (1, .int a1), (2, .int a2), (3, .int a3)]) rfl dX10_bestParts_2 ?_
  refine X_iload_n hg 3 rfl dX10_bestParts_4 ?_
  refine X_iconst hg ic_i_1 dX10_bestParts_5 ?_
  refine X_iadd hg dX10_bestParts_6 ?_
  refine X_istore hg (Nat.le_of_ble_eq_true rfl) (lv' := [(5, .int (a2 + (nI 1))), (4, .int (nI 268435456)), (0, .ref (nB g.1 + a0)), (1, .int a1), (2, .int a2), (3, .int a3)]) rfl dX10_bestParts_7 ?_
  refine X_lv [2, 3, 4, 5, 1, 0] rfl ?_
  refine l_X10_bestParts_9 hg _ _ _ _ _ hr _ (fun y8 => ?_) _ _ _
  refine X_iload hg 0 rfl dX10_bestParts_73 ?_
  exact X_iret hg hr (Nat.le_of_ble_eq_true rfl) (Nat.le_of_ble_eq_true rfl) dX10_bestParts_75
set_option maxRecDepth 10000 in
theorem l_X10_usesOf_5 {g : XC} {x0 : Int32} (hg : XG g RX10 cX10_usesOf 5 0 0 0 0) (l0 : Nat) (l2 : Int32) (h : Hp) (hr : XR g (some .int) "usesOf" (some (.int x0)) h 0 0) (K : Int32 → Option (Int32)) (hK0 : ∀ (l3 : Int32), Xo g x0 5 0 0 27 [(3, .int l3)] [] h (K l3)) : ∀ (n : Nat) (l3 : Int32) (l4 : Int32), Xo g x0 5 0 0 5 [(0, .ref (nB g.1 + l0)), (2, .int l2), (3, .int l3), (4, .int l4)] [] h (f_X10_usesOf_L5 l0 l2 h K n l3 l4) := by
  intro n
  induction n with
  | zero =>
    intro l3 l4
    exact X_none
  | succ n ih =>
    intro l3 l4
    unfold f_X10_usesOf_L5
    refine X_iload hg 3 rfl dX10_usesOf_5 ?_
    refine X_iload_n hg 1 rfl dX10_usesOf_7 ?_
    refine X_icmp_ge hg (tgt := 27) dX10_usesOf_8 rfl (fun c3 => ?_) (fun c3 => ?_)
    · refine X_lv [2] rfl ?_
      exact hK0 _
    · refine X_iload_n hg 2 rfl dX10_usesOf_11 ?_
      refine X_aload_n hg 0 rfl dX10_usesOf_12 ?_
      refine X_getR hg (j := 5) cf_10 (Nat.le_of_ble_eq_true rfl) (Or.inr ⟨_, rfl⟩) m_905 dX10_usesOf_13 (fun x1 _ => ?_)
      refine X_iload hg 3 rfl dX10_usesOf_16 ?_
      refine X_ald hg dX10_usesOf_18 (fun x2 _ => ?_)
      refine X_iadd hg dX10_usesOf_19 ?_
      refine X_istore_n hg rfl (Nat.le_of_ble_eq_true rfl) (lv' := [(3, .int (l3 + x2)), (0, .ref (nB g.1 + l0)), (2, .int l2), (4, .int l4)]) rfl dX10_usesOf_20 ?_
      refine X_iinc hg 3 rfl (v := (l4 + (nI 1))) (icc ic_i_1) (Nat.le_of_ble_eq_true rfl) (lv' := [(4, .int (l4 + (nI 1))), (3, .int (l3 + x2)), (0, .ref (nB g.1 + l0)), (2, .int l2)]) rfl dX10_usesOf_21 ?_
      refine X_goto hg (tgt := 5) dX10_usesOf_24 rfl ?_
      refine X_lv [2, 3, 1, 0] rfl ?_
      exact ih _ _
set_option maxRecDepth 10000 in
theorem c_X10_usesOf (en : EN) (a0 : Nat) (a1 : Int32) (a2 : Int32) (h : Hp) (x0 : Int32) (e : f_X10_usesOf a0 a1 a2 h = some x0) : Ct en yX10_usesOf cX10_usesOf 5 (some .int) 0 0 0 0 [.ref (nB en + a0), .int a1, .int a2] h (some (.int x0)) h := by
  refine Ct.of (by decide) rfl (Nat.le_of_ble_eq_true rfl) e (fun g hen hg hr => ?_)
  subst hen
  unfold f_X10_usesOf
  refine X_gd ?_
  refine X_iconst hg ic_i_0 dX10_usesOf_0 ?_
  refine X_istore_n hg rfl (Nat.le_of_ble_eq_true rfl) (lv' := [(3, .int (nI 0)), (0, .ref (nB g.1 + a0)), (1, .int a1), (2, .int a2)]) rfl dX10_usesOf_1 ?_
  refine X_iload_n hg 2 rfl dX10_usesOf_2 ?_
  refine X_istore hg (Nat.le_of_ble_eq_true rfl) (lv' := [(4, .int a1), (3, .int (nI 0)), (0, .ref (nB g.1 + a0)), (1, .int a1), (2, .int a2)]) rfl dX10_usesOf_3 ?_
  refine X_lv [2, 4, 1, 0] rfl ?_
  refine l_X10_usesOf_5 hg _ _ _ hr _ (fun y4 => ?_) _ _ _
  refine X_iload_n hg 0 rfl dX10_usesOf_27 ?_
  exact X_iret hg hr (Nat.le_of_ble_eq_true rfl) (Nat.le_of_ble_eq_true rfl) dX10_usesOf_28
set_option maxRecDepth 10000 in
theorem l_X10_layStretch_7 {g : XC} {x0 : Hp} (hg : XG g RX10 cX10_layStretch 7 2 50 0 0) (l0 : Nat) (l1 : Int32) (l2 : Int32) (l3 : Int32) (hr : XR g none "layStretch" none x0 0 0) (K : Int32 → Hp → Option (Hp)) (hK0 : ∀ (l4 : Int32) (h : Hp), Xo g x0 7 0 0 65 [(0, .ref (nB g.1 + l0)), (2, .int l2), (3, .int l3), (4, .int l4)] [] h (K l4 h)) : ∀ (n : Nat) (l4 : Int32) (l5 : Int32) (h : Hp), Xo g x0 7 0 0 7 [(0, .ref (nB g.1 + l0)), (1, .int l1), (2, .int l2), (3, .int l3), (4, .int l4), (5, .int l5)] [] h (f_X10_layStretch_L7 l0 l1 l2 l3 K n l4 l5 h) := by
  intro n
  induction n with
  | zero =>
    intro l4 l5 h
    exact X_none
  | succ n ih =>
    intro l4 l5 h
    unfold f_X10_layStretch_L7
    refine X_iload hg 5 rfl dX10_layStretch_7 ?_
    refine X_iload_n hg 1 rfl dX10_layStretch_9 ?_
    refine X_icmp_gt hg (tgt := 65) dX10_layStretch_10 rfl (fun c6 => ?_) (fun c6 => ?_)
    · refine X_lv [0, 2, 3, 4] rfl ?_
      exact hK0 _ _
    · refine X_aload_n hg 0 rfl dX10_layStretch_13 ?_
      refine X_iload hg 5 rfl dX10_layStretch_14 ?_
      refine X_iload_n hg 2 rfl dX10_layStretch_16 ?_
      refine X_iload_n hg 3 rfl dX10_layStretch_17 ?_
      refine X_cVI0 hg mf_X10_bestParts m_1134 m_52 m_1132 cf_10 (fun _ e => gd_isO e) (fun y e => c_X10_bestParts g.1 l0 l5 l2 l3 h y e) (As := [.int l5, .int l2, .int l3]) rfl (Nat.le_of_ble_eq_true rfl) rfl (Nat.le_of_ble_eq_true rfl) (Nat.le_of_ble_eq_true rfl) (Nat.le_of_ble_eq_true rfl) (Nat.le_of_ble_eq_true rfl) dX10_layStretch_18 (fun x1 _ => ?_)
      refine X_istore hg (Nat.le_of_ble_eq_true rfl) (lv' := [(6, .int x1), (0, .ref (nB g.1 + l0)), (1, .int l1), (2, .int l2), (3, .int l3), (4, .int l4), (5, .int l5)]) rfl dX10_layStretch_21 ?_
      refine X_aload_n hg 1 rfl dX10_layStretch_23 ?_
      refine X_getR hg (j := 27) cf_10 (Nat.le_of_ble_eq_true rfl) (Or.inr ⟨_, rfl⟩) m_927 dX10_layStretch_24 (fun x2 _ => ?_)
      refine X_sipush hg ic_s_225 dX10_layStretch_27 ?_
      refine X_iload hg 6 rfl dX10_layStretch_30 ?_
      refine X_imul hg dX10_layStretch_32 ?_
      refine X_bipush hg ic_b_15 dX10_layStretch_33 ?_
      refine X_iload_n hg 3 rfl dX10_layStretch_35 ?_
      refine X_imul hg dX10_layStretch_36 ?_
      refine X_iadd hg dX10_layStretch_37 ?_
      refine X_iload_n hg 4 rfl dX10_layStretch_38 ?_
      refine X_iadd hg dX10_layStretch_39 ?_
      refine X_iload hg 0 rfl dX10_layStretch_40 ?_
      refine X_ast hg dX10_layStretch_42 (fun h3 _ => ?_)
      refine X_iload hg 0 rfl dX10_layStretch_43 ?_
      refine X_iload hg 5 rfl dX10_layStretch_45 ?_
      refine X_reg (fun (v4 : Int32) o => Xo g x0 7 0 0 57 [(0, .ref (nB g.1 + l0)), (1, .int l1), (2, .int l2), (3, .int l3), (5, .int l5)] [.int v4] h3 o) (fun kv4 hk4 => ?_) (fun v4 => ?_)
      · refine X_ib ?_
        refine X_icmp_ge hg (tgt := 55) dX10_layStretch_47 rfl (fun c5 => ?_) (fun c5 => ?_)
        · refine X_iload hg 5 rfl dX10_layStretch_55 ?_
          refine X_lv [1, 2, 3, 4, 6] rfl ?_
          exact hk4 l4
        · refine X_iload hg 0 rfl dX10_layStretch_50 ?_
          refine X_goto hg (tgt := 57) dX10_layStretch_52 rfl ?_
          refine X_lv [1, 2, 3, 4, 6] rfl ?_
          exact hk4 x1
      · refine X_istore hg (Nat.le_of_ble_eq_true rfl) (lv' := [(4, .int v4), (0, .ref (nB g.1 + l0)), (1, .int l1), (2, .int l2), (3, .int l3), (5, .int l5)]) rfl dX10_layStretch_57 ?_
        refine X_iinc hg 5 rfl (v := (l5 + (nI 1))) (icc ic_i_1) (Nat.le_of_ble_eq_true rfl) (lv' := [(5, .int (l5 + (nI 1))), (4, .int v4), (0, .ref (nB g.1 + l0)), (1, .int l1), (2, .int l2), (3, .int l3)]) rfl dX10_layStretch_59 ?_
        refine X_goto hg (tgt := 7) dX10_layStretch_62 rfl ?_
        refine X_lv [2, 3, 4, 5, 1, 0] rfl ?_
        exact ih _ _ _
set_option maxRecDepth 10000 in
theorem c_X10_layStretch (en : EN) (a0 : Nat) (a1 : Int32) (a2 : Int32) (a3 : Int32) (h : Hp) (x0 : Hp) (e : f_X10_layStretch a0 a1 a2 a3 h = some x0) : Ct en yX10_layStretch cX10_layStretch 7 none 2 50 0 0 [.ref (nB en + a0), .int a1, .int a2, .int a3] h none x0 := by
  refine Ct.of (by decide) rfl (Nat.le_of_ble_eq_true rfl) e (fun g hen hg hr => ?_)
  subst hen
  unfold f_X10_layStretch
  refine X_gd ?_
  refine X_ldc hg (v := (nI 268435456)) m_1111 dX10_layStretch_0 ?_
  refine X_istore hg (Nat.le_of_ble_eq_true rfl) (lv' := [(4, .int (nI 268435456)), (0, .ref (nB g.1 + a0)), (1, .int a1), (2, .int a2), (3, .int a3)]) rfl dX10_layStretch_2 ?_
  refine X_iconst hg ic_i_2 dX10_layStretch_4 ?_
  refine X_istore hg (Nat.le_of_ble_eq_true rfl) (lv' := [(5, .int (nI 2)), (4, .int (nI 268435456)), (0, .ref (nB g.1 + a0)), (1, .int a1), (2, .int a2), (3, .int a3)]) rfl dX10_layStretch_5 ?_
  refine X_lv [2, 3, 4, 5, 1, 0] rfl ?_
  refine l_X10_layStretch_7 hg _ _ _ _ hr _ (fun y7 h8 => ?_) _ _ _ _
  refine X_aload_n hg 0 rfl dX10_layStretch_65 ?_
  refine X_getR hg (j := 26) cf_10 (Nat.le_of_ble_eq_true rfl) (Or.inr ⟨_, rfl⟩) m_926 dX10_layStretch_66 (fun x9 _ => ?_)
  refine X_bipush hg ic_b_15 dX10_layStretch_69 ?_
  refine X_iload_n hg 1 rfl dX10_layStretch_71 ?_
  refine X_imul hg dX10_layStretch_72 ?_
  refine X_iload_n hg 2 rfl dX10_layStretch_73 ?_
  refine X_iadd hg dX10_layStretch_74 ?_
  refine X_iload_n hg 2 rfl dX10_layStretch_75 ?_
  refine X_iload_n hg 1 rfl dX10_layStretch_76 ?_
  refine X_isub hg dX10_layStretch_77 ?_
  refine X_iconst hg ic_i_1 dX10_layStretch_78 ?_
  refine X_reg (fun (v10 : Int32) o => Xo g x0 7 0 0 95 [(0, .ref (nB g.1 + a0)), (2, .int a2), (3, .int a3)] [.int v10, .int (((nI 15) * a2) + a3), .ref (nB g.1 + x9)] h8 o) (fun kv10 hk10 => ?_) (fun v10 => ?_)
  · refine X_ib ?_
    refine X_icmp_ne hg (tgt := 86) dX10_layStretch_79 rfl (fun c12 => ?_) (fun c12 => ?_)
    · refine X_iconst hg ic_i_0 dX10_layStretch_82 ?_
      refine X_goto hg (tgt := 95) dX10_layStretch_83 rfl ?_
      refine X_lv [0, 1, 2] rfl ?_
      exact hk10 (nI 0)
    · refine X_iload hg 3 rfl dX10_layStretch_86 ?_
      refine X_aload_n hg 0 rfl dX10_layStretch_88 ?_
      refine X_iload_n hg 1 rfl dX10_layStretch_89 ?_
      refine X_iload_n hg 2 rfl dX10_layStretch_90 ?_
      refine X_as ?_
      refine X_cVI0 hg mf_X10_usesOf m_1146 m_55 m_1144 cf_10 (fun _ e => gd_isO e) (fun y e => c_X10_usesOf g.1 a0 a2 a3 h8 y e) (As := [.int a2, .int a3]) rfl (Nat.le_of_ble_eq_true rfl) rfl (Nat.le_of_ble_eq_true rfl) (Nat.le_of_ble_eq_true rfl) (Nat.le_of_ble_eq_true rfl) (Nat.le_of_ble_eq_true rfl) dX10_layStretch_91 (fun x11 _ => ?_)
      refine X_iadd hg dX10_layStretch_94 ?_
      refine X_lv [0, 1, 2] rfl ?_
      exact hk10 (y7 + x11)
  · refine X_ast hg dX10_layStretch_95 (fun h13 _ => ?_)
    refine X_aload_n hg 0 rfl dX10_layStretch_96 ?_
    refine X_getR hg (j := 27) cf_10 (Nat.le_of_ble_eq_true rfl) (Or.inr ⟨_, rfl⟩) m_927 dX10_layStretch_97 (fun x14 _ => ?_)
    refine X_sipush hg ic_s_225 dX10_layStretch_100 ?_
    refine X_bipush hg ic_b_15 dX10_layStretch_103 ?_
    refine X_iload_n hg 1 rfl dX10_layStretch_105 ?_
    refine X_imul hg dX10_layStretch_106 ?_
    refine X_iadd hg dX10_layStretch_107 ?_
    refine X_iload_n hg 2 rfl dX10_layStretch_108 ?_
    refine X_iadd hg dX10_layStretch_109 ?_
    refine X_aload_n hg 0 rfl dX10_layStretch_110 ?_
    refine X_iload_n hg 1 rfl dX10_layStretch_111 ?_
    refine X_iload_n hg 2 rfl dX10_layStretch_112 ?_
    refine X_cVI0 hg mf_X10_costAt m_1142 m_54 m_1140 cf_10 (fun _ e => gd_isO e) (fun y e => c_X10_costAt g.1 a0 a2 a3 h13 y e) (As := [.int a2, .int a3]) rfl (Nat.le_of_ble_eq_true rfl) rfl (Nat.le_of_ble_eq_true rfl) (Nat.le_of_ble_eq_true rfl) (Nat.le_of_ble_eq_true rfl) (Nat.le_of_ble_eq_true rfl) dX10_layStretch_113 (fun x15 _ => ?_)
    refine X_ast hg dX10_layStretch_116 (fun h16 _ => ?_)
    exact X_vret hg hr (Nat.le_of_ble_eq_true rfl) (Nat.le_of_ble_eq_true rfl) dX10_layStretch_117
set_option maxRecDepth 10000 in
theorem l_X10_layCosts_12 {g : XC} {x0 : Hp} (hg : XG g RX10 cX10_layCosts 4 3 76 0 0) (l0 : Nat) (l1 : Int32) (l2 : Int32) (hr : XR g none "layCosts" none x0 0 0) (K : Hp → Option (Hp)) (hK0 : ∀ (h : Hp), Xo g x0 4 0 0 37 [(0, .ref (nB g.1 + l0)), (1, .int l1), (2, .int l2)] [] h (K h)) : ∀ (n : Nat) (l3 : Int32) (h : Hp), Xo g x0 4 0 0 12 [(0, .ref (nB g.1 + l0)), (1, .int l1), (2, .int l2), (3, .int l3)] [] h (f_X10_layCosts_L12 l0 l1 l2 K n l3 h) := by
  intro n
  induction n with
  | zero =>
    intro l3 h
    exact X_none
  | succ n ih =>
    intro l3 h
    unfold f_X10_layCosts_L12
    refine X_iload_n hg 3 rfl dX10_layCosts_12 ?_
    refine X_iload_n hg 2 rfl dX10_layCosts_13 ?_
    refine X_iadd hg dX10_layCosts_14 ?_
    refine X_aload_n hg 0 rfl dX10_layCosts_15 ?_
    refine X_getI hg (j := 2) cf_10 (Nat.le_of_ble_eq_true rfl) (Or.inl rfl) m_902 dX10_layCosts_16 (fun x2 _ => ?_)
    refine X_icmp_gt hg (tgt := 37) dX10_layCosts_19 rfl (fun c4 => ?_) (fun c4 => ?_)
    · refine X_lv [0, 1, 2] rfl ?_
      exact hK0  _
    · refine X_aload_n hg 0 rfl dX10_layCosts_22 ?_
      refine X_iload_n hg 1 rfl dX10_layCosts_23 ?_
      refine X_iload_n hg 3 rfl dX10_layCosts_24 ?_
      refine X_iload_n hg 3 rfl dX10_layCosts_25 ?_
      refine X_iload_n hg 2 rfl dX10_layCosts_26 ?_
      refine X_iadd hg dX10_layCosts_27 ?_
      refine X_cVV0 hg mf_X10_layStretch m_1130 m_51 m_1128 cf_10 (fun _ e => gd_isO e) (fun y e => c_X10_layStretch g.1 l0 l1 l3 (l3 + l2) h y e) (As := [.int l1, .int l3, .int (l3 + l2)]) rfl (Nat.le_of_ble_eq_true rfl) rfl (Nat.le_of_ble_eq_true rfl) (Nat.le_of_ble_eq_true rfl) (Nat.le_of_ble_eq_true rfl) (Nat.le_of_ble_eq_true rfl) dX10_layCosts_28 (fun h3 _ => ?_)
      refine X_iinc hg 3 rfl (v := (l3 + (nI 1))) (icc ic_i_1) (Nat.le_of_ble_eq_true rfl) (lv' := [(3, .int (l3 + (nI 1))), (0, .ref (nB g.1 + l0)), (1, .int l1), (2, .int l2)]) rfl dX10_layCosts_31 ?_
      refine X_goto hg (tgt := 12) dX10_layCosts_34 rfl ?_
      refine X_lv [1, 2, 3, 0] rfl ?_
      exact ih _ _
set_option maxRecDepth 10000 in
theorem l_X10_layCosts_2 {g : XC} {x0 : Hp} (hg : XG g RX10 cX10_layCosts 4 3 76 0 0) (l0 : Nat) (l1 : Int32) (hr : XR g none "layCosts" none x0 0 0) (K : Hp → Option (Hp)) (hK0 : ∀ (h : Hp), Xo g x0 4 0 0 43 [] [] h (K h)) : ∀ (n : Nat) (l2 : Int32) (h : Hp), Xo g x0 4 0 0 2 [(0, .ref (nB g.1 + l0)), (1, .int l1), (2, .int l2)] [] h (f_X10_layCosts_L2 l0 l1 K n l2 h) := by
  intro n
  induction n with
  | zero =>
    intro l2 h
    exact X_none
  | succ n ih =>
    intro l2 h
    unfold f_X10_layCosts_L2
    refine X_iload_n hg 2 rfl dX10_layCosts_2 ?_
    refine X_aload_n hg 0 rfl dX10_layCosts_3 ?_
    refine X_getI hg (j := 2) cf_10 (Nat.le_of_ble_eq_true rfl) (Or.inl rfl) m_902 dX10_layCosts_4 (fun x1 _ => ?_)
    refine X_icmp_gt hg (tgt := 43) dX10_layCosts_7 rfl (fun c6 => ?_) (fun c6 => ?_)
    · refine X_lv [] rfl ?_
      exact hK0  _
    · refine X_iconst hg ic_i_0 dX10_layCosts_10 ?_
      refine X_istore_n hg rfl (Nat.le_of_ble_eq_true rfl) (lv' := [(3, .int (nI 0)), (0, .ref (nB g.1 + l0)), (1, .int l1), (2, .int l2)]) rfl dX10_layCosts_11 ?_
      refine X_lv [1, 2, 3, 0] rfl ?_
      refine l_X10_layCosts_12 hg _ _ _ hr _ (fun h5 => ?_) _ _ _
      refine X_iinc hg 2 rfl (v := (l2 + (nI 1))) (icc ic_i_1) (Nat.le_of_ble_eq_true rfl) (lv' := [(2, .int (l2 + (nI 1))), (0, .ref (nB g.1 + l0)), (1, .int l1)]) rfl dX10_layCosts_37 ?_
      refine X_goto hg (tgt := 2) dX10_layCosts_40 rfl ?_
      refine X_lv [1, 2, 0] rfl ?_
      exact ih _ _
set_option maxRecDepth 10000 in
theorem c_X10_layCosts (en : EN) (a0 : Nat) (a1 : Int32) (h : Hp) (x0 : Hp) (e : f_X10_layCosts a0 a1 h = some x0) : Ct en yX10_layCosts cX10_layCosts 4 none 3 76 0 0 [.ref (nB en + a0), .int a1] h none x0 := by
  refine Ct.of (by decide) rfl (Nat.le_of_ble_eq_true rfl) e (fun g hen hg hr => ?_)
  subst hen
  unfold f_X10_layCosts
  refine X_gd ?_
  refine X_iconst hg ic_i_1 dX10_layCosts_0 ?_
  refine X_istore_n hg rfl (Nat.le_of_ble_eq_true rfl) (lv' := [(2, .int (nI 1)), (0, .ref (nB g.1 + a0)), (1, .int a1)]) rfl dX10_layCosts_1 ?_
  refine X_lv [1, 2, 0] rfl ?_
  refine l_X10_layCosts_2 hg _ _ hr _ (fun h7 => ?_) _ _ _
  exact X_vret hg hr (Nat.le_of_ble_eq_true rfl) (Nat.le_of_ble_eq_true rfl) dX10_layCosts_43
set_option maxRecDepth 10000 in
theorem l_X10_firstCut_12 {g : XC} {x0 : Int32} (hg : XG g RX10 cX10_firstCut 5 1 23 0 0) (l0 : Nat) (l1 : Int32) (l2 : Int32) (l3 : Int32) (h : Hp) (hr : XR g (some .int) "firstCut" (some (.int x0)) h 0 0) (K : Int32 → Option (Int32)) (hK0 : ∀ (l4 : Int32), Xo g x0 5 0 0 61 [(4, .int l4)] [] h (K l4)) : ∀ (n : Nat) (l4 : Int32), Xo g x0 5 0 0 12 [(0, .ref (nB g.1 + l0)), (1, .int l1), (2, .int l2), (3, .int l3), (4, .int l4)] [] h (f_X10_firstCut_L12 l0 l1 l2 l3 h K n l4) := by
  intro n
  induction n with
  | zero =>
    intro l4
    exact X_none
  | succ n ih =>
    intro l4
    unfold f_X10_firstCut_L12
    refine X_aload_n hg 0 rfl dX10_firstCut_12 ?_
    refine X_iload_n hg 1 rfl dX10_firstCut_13 ?_
    refine X_iconst hg ic_i_1 dX10_firstCut_14 ?_
    refine X_isub hg dX10_firstCut_15 ?_
    refine X_iload hg 4 rfl dX10_firstCut_16 ?_
    refine X_iload_n hg 3 rfl dX10_firstCut_18 ?_
    refine X_cVI0 hg mf_X10_partsAt m_1138 m_53 m_1136 cf_10 (fun _ e => gd_isO e) (fun y e => c_X10_partsAt g.1 l0 (l1 - (nI 1)) l4 l3 h y e) (As := [.int (l1 - (nI 1)), .int l4, .int l3]) rfl (Nat.le_of_ble_eq_true rfl) rfl (Nat.le_of_ble_eq_true rfl) (Nat.le_of_ble_eq_true rfl) (Nat.le_of_ble_eq_true rfl) (Nat.le_of_ble_eq_true rfl) dX10_firstCut_19 (fun x1 _ => ?_)
    refine X_ldc hg (v := (nI 268435456)) m_1111 dX10_firstCut_22 ?_
    refine X_icmp_eq hg (tgt := 55) dX10_firstCut_24 rfl (fun c6 => ?_) (fun c6 => ?_)
    · refine X_iinc hg 4 rfl (v := (l4 + (nI 1))) (icc ic_i_1) (Nat.le_of_ble_eq_true rfl) (lv' := [(4, .int (l4 + (nI 1))), (0, .ref (nB g.1 + l0)), (1, .int l1), (2, .int l2), (3, .int l3)]) rfl dX10_firstCut_55 ?_
      refine X_goto hg (tgt := 12) dX10_firstCut_58 rfl ?_
      refine X_lv [1, 2, 3, 4, 0] rfl ?_
      exact ih _
    · refine X_aload_n hg 0 rfl dX10_firstCut_27 ?_
      refine X_iload_n hg 2 rfl dX10_firstCut_28 ?_
      refine X_iload hg 4 rfl dX10_firstCut_29 ?_
      refine X_cVI0 hg mf_X10_costAt m_1142 m_54 m_1140 cf_10 (fun _ e => gd_isO e) (fun y e => c_X10_costAt g.1 l0 l2 l4 h y e) (As := [.int l2, .int l4]) rfl (Nat.le_of_ble_eq_true rfl) rfl (Nat.le_of_ble_eq_true rfl) (Nat.le_of_ble_eq_true rfl) (Nat.le_of_ble_eq_true rfl) (Nat.le_of_ble_eq_true rfl) dX10_firstCut_31 (fun x2 _ => ?_)
      refine X_aload_n hg 0 rfl dX10_firstCut_34 ?_
      refine X_iload_n hg 1 rfl dX10_firstCut_35 ?_
      refine X_iconst hg ic_i_1 dX10_firstCut_36 ?_
      refine X_isub hg dX10_firstCut_37 ?_
      refine X_iload hg 4 rfl dX10_firstCut_38 ?_
      refine X_iload_n hg 3 rfl dX10_firstCut_40 ?_
      refine X_cVI0 hg mf_X10_partsAt m_1138 m_53 m_1136 cf_10 (fun _ e => gd_isO e) (fun y e => c_X10_partsAt g.1 l0 (l1 - (nI 1)) l4 l3 h y e) (As := [.int (l1 - (nI 1)), .int l4, .int l3]) rfl (Nat.le_of_ble_eq_true rfl) rfl (Nat.le_of_ble_eq_true rfl) (Nat.le_of_ble_eq_true rfl) (Nat.le_of_ble_eq_true rfl) (Nat.le_of_ble_eq_true rfl) dX10_firstCut_41 (fun x3 _ => ?_)
      refine X_iadd hg dX10_firstCut_44 ?_
      refine X_aload_n hg 0 rfl dX10_firstCut_45 ?_
      refine X_iload_n hg 1 rfl dX10_firstCut_46 ?_
      refine X_iload_n hg 2 rfl dX10_firstCut_47 ?_
      refine X_iload_n hg 3 rfl dX10_firstCut_48 ?_
      refine X_cVI0 hg mf_X10_partsAt m_1138 m_53 m_1136 cf_10 (fun _ e => gd_isO e) (fun y e => c_X10_partsAt g.1 l0 l1 l2 l3 h y e) (As := [.int l1, .int l2, .int l3]) rfl (Nat.le_of_ble_eq_true rfl) rfl (Nat.le_of_ble_eq_true rfl) (Nat.le_of_ble_eq_true rfl) (Nat.le_of_ble_eq_true rfl) (Nat.le_of_ble_eq_true rfl) dX10_firstCut_49 (fun x4 _ => ?_)
      refine X_icmp_eq hg (tgt := 61) dX10_firstCut_52 rfl (fun c5 => ?_) (fun c5 => ?_)
      · refine X_lv [4] rfl ?_
        exact hK0 _
      · refine X_iinc hg 4 rfl (v := (l4 + (nI 1))) (icc ic_i_1) (Nat.le_of_ble_eq_true rfl) (lv' := [(4, .int (l4 + (nI 1))), (0, .ref (nB g.1 + l0)), (1, .int l1), (2, .int l2), (3, .int l3)]) rfl dX10_firstCut_55 ?_
        refine X_goto hg (tgt := 12) dX10_firstCut_58 rfl ?_
        refine X_lv [1, 2, 3, 4, 0] rfl ?_
        exact ih _
set_option maxRecDepth 10000 in
theorem c_X10_firstCut (en : EN) (a0 : Nat) (a1 : Int32) (a2 : Int32) (a3 : Int32) (h : Hp) (x0 : Int32) (e : f_X10_firstCut a0 a1 a2 a3 h = some x0) : Ct en yX10_firstCut cX10_firstCut 5 (some .int) 1 23 0 0 [.ref (nB en + a0), .int a1, .int a2, .int a3] h (some (.int x0)) h := by
  refine Ct.of (by decide) rfl (Nat.le_of_ble_eq_true rfl) e (fun g hen hg hr => ?_)
  subst hen
  unfold f_X10_firstCut
  refine X_gd ?_
  refine X_iload_n hg 1 rfl dX10_firstCut_0 ?_
  refine X_iconst hg ic_i_1 dX10_firstCut_1 ?_
  refine X_icmp_ne hg (tgt := 7) dX10_firstCut_2 rfl (fun c8 => ?_) (fun c8 => ?_)
  · refine X_iload_n hg 3 rfl dX10_firstCut_5 ?_
    exact X_iret hg hr (Nat.le_of_ble_eq_true rfl) (Nat.le_of_ble_eq_true rfl) dX10_firstCut_6
  · refine X_iload_n hg 2 rfl dX10_firstCut_7 ?_
    refine X_iconst hg ic_i_1 dX10_firstCut_8 ?_
    refine X_iadd hg dX10_firstCut_9 ?_
    refine X_istore hg (Nat.le_of_ble_eq_true rfl) (lv' := [(4, .int (a2 + (nI 1))), (0, .ref (nB g.1 + a0)), (1, .int a1), (2, .int a2), (3, .int a3)]) rfl dX10_firstCut_10 ?_
    refine X_lv [1, 2, 3, 4, 0] rfl ?_
    refine l_X10_firstCut_12 hg _ _ _ _ _ hr _ (fun y7 => ?_) _ _
    refine X_iload hg 0 rfl dX10_firstCut_61 ?_
    exact X_iret hg hr (Nat.le_of_ble_eq_true rfl) (Nat.le_of_ble_eq_true rfl) dX10_firstCut_63
set_option maxRecDepth 10000 in
theorem l_X10_partsOf_6 {g : XC} {x0 : Int32} (hg : XG g RX10 cX10_partsOf 6 1 23 0 0) (l0 : Nat) (l1 : Int32) (l2 : Int32) (l3 : Int32) (h : Hp) (hr : XR g (some .int) "partsOf" (some (.int x0)) h 0 0) (K : Int32 → Option (Int32)) (hK0 : ∀ (l4 : Int32), Xo g x0 6 0 0 46 [(4, .int l4)] [] h (K l4)) : ∀ (n : Nat) (l4 : Int32) (l5 : Int32), Xo g x0 6 0 0 6 [(0, .ref (nB g.1 + l0)), (1, .int l1), (2, .int l2), (3, .int l3), (4, .int l4), (5, .int l5)] [] h (f_X10_partsOf_L6 l0 l1 l2 l3 h K n l4 l5) := by
  intro n
  induction n with
  | zero =>
    intro l4 l5
    exact X_none
  | succ n ih =>
    intro l4 l5
    unfold f_X10_partsOf_L6
    refine X_iload hg 5 rfl dX10_partsOf_6 ?_
    refine X_iload_n hg 1 rfl dX10_partsOf_8 ?_
    refine X_icmp_gt hg (tgt := 46) dX10_partsOf_9 rfl (fun c5 => ?_) (fun c5 => ?_)
    · refine X_lv [4] rfl ?_
      exact hK0 _
    · refine X_aload_n hg 0 rfl dX10_partsOf_12 ?_
      refine X_iload hg 5 rfl dX10_partsOf_13 ?_
      refine X_iload_n hg 2 rfl dX10_partsOf_15 ?_
      refine X_iload_n hg 3 rfl dX10_partsOf_16 ?_
      refine X_cVI0 hg mf_X10_partsAt m_1138 m_53 m_1136 cf_10 (fun _ e => gd_isO e) (fun y e => c_X10_partsAt g.1 l0 l5 l2 l3 h y e) (As := [.int l5, .int l2, .int l3]) rfl (Nat.le_of_ble_eq_true rfl) rfl (Nat.le_of_ble_eq_true rfl) (Nat.le_of_ble_eq_true rfl) (Nat.le_of_ble_eq_true rfl) (Nat.le_of_ble_eq_true rfl) dX10_partsOf_17 (fun x1 _ => ?_)
      refine X_aload_n hg 0 rfl dX10_partsOf_20 ?_
      refine X_iload hg 4 rfl dX10_partsOf_21 ?_
      refine X_iload_n hg 2 rfl dX10_partsOf_23 ?_
      refine X_iload_n hg 3 rfl dX10_partsOf_24 ?_
      refine X_cVI0 hg mf_X10_partsAt m_1138 m_53 m_1136 cf_10 (fun _ e => gd_isO e) (fun y e => c_X10_partsAt g.1 l0 l4 l2 l3 h y e) (As := [.int l4, .int l2, .int l3]) rfl (Nat.le_of_ble_eq_true rfl) rfl (Nat.le_of_ble_eq_true rfl) (Nat.le_of_ble_eq_true rfl) (Nat.le_of_ble_eq_true rfl) (Nat.le_of_ble_eq_true rfl) dX10_partsOf_25 (fun x2 _ => ?_)
      refine X_reg (fun (v3 : Int32) o => Xo g x0 6 0 0 38 [(0, .ref (nB g.1 + l0)), (1, .int l1), (2, .int l2), (3, .int l3), (5, .int l5)] [.int v3] h o) (fun kv3 hk3 => ?_) (fun v3 => ?_)
      · refine X_ib ?_
        refine X_icmp_ge hg (tgt := 36) dX10_partsOf_28 rfl (fun c4 => ?_) (fun c4 => ?_)
        · refine X_iload hg 4 rfl dX10_partsOf_36 ?_
          refine X_lv [0, 1, 2, 3, 5] rfl ?_
          exact hk3 l4
        · refine X_iload hg 5 rfl dX10_partsOf_31 ?_
          refine X_goto hg (tgt := 38) dX10_partsOf_33 rfl ?_
          refine X_lv [0, 1, 2, 3, 5] rfl ?_
          exact hk3 l5
      · refine X_istore hg (Nat.le_of_ble_eq_true rfl) (lv' := [(4, .int v3), (0, .ref (nB g.1 + l0)), (1, .int l1), (2, .int l2), (3, .int l3), (5, .int l5)]) rfl dX10_partsOf_38 ?_
        refine X_iinc hg 5 rfl (v := (l5 + (nI 1))) (icc ic_i_1) (Nat.le_of_ble_eq_true rfl) (lv' := [(5, .int (l5 + (nI 1))), (4, .int v3), (0, .ref (nB g.1 + l0)), (1, .int l1), (2, .int l2), (3, .int l3)]) rfl dX10_partsOf_40 ?_
        refine X_goto hg (tgt := 6) dX10_partsOf_43 rfl ?_
        refine X_lv [2, 3, 4, 5, 1, 0] rfl ?_
        exact ih _ _
set_option maxRecDepth 10000 in
theorem c_X10_partsOf (en : EN) (a0 : Nat) (a1 : Int32) (a2 : Int32) (a3 : Int32) (h : Hp) (x0 : Int32) (e : f_X10_partsOf a0 a1 a2 a3 h = some x0) : Ct en yX10_partsOf cX10_partsOf 6 (some .int) 1 23 0 0 [.ref (nB en + a0), .int a1, .int a2, .int a3] h (some (.int x0)) h := by
  refine Ct.of (by decide) rfl (Nat.le_of_ble_eq_true rfl) e (fun g hen hg hr => ?_)
  subst hen
  unfold f_X10_partsOf
  refine X_gd ?_
  refine X_iconst hg ic_i_2 dX10_partsOf_0 ?_
  refine X_istore hg (Nat.le_of_ble_eq_true rfl) (lv' := [(4, .int (nI 2)), (0, .ref (nB g.1 + a0)), (1, .int a1), (2, .int a2), (3, .int a3)]) rfl dX10_partsOf_1 ?_
  refine X_iconst hg ic_i_3 dX10_partsOf_3 ?_
  refine X_istore hg (Nat.le_of_ble_eq_true rfl) (lv' := [(5, .int (nI 3)), (4, .int (nI 2)), (0, .ref (nB g.1 + a0)), (1, .int a1), (2, .int a2), (3, .int a3)]) rfl dX10_partsOf_4 ?_
  refine X_lv [2, 3, 4, 5, 1, 0] rfl ?_
  refine l_X10_partsOf_6 hg _ _ _ _ _ hr _ (fun y6 => ?_) _ _ _
  refine X_iload hg 0 rfl dX10_partsOf_46 ?_
  exact X_iret hg hr (Nat.le_of_ble_eq_true rfl) (Nat.le_of_ble_eq_true rfl) dX10_partsOf_48
set_option maxRecDepth 10000 in
theorem l_X10_layPath_47 {g : XC} {x0 : Hp} (hg : XG g RX10 cX10_layPath 8 2 48 0 0) (l0 : Nat) (l1 : Int32) (l2 : Int32) (l4 : Int32) (h : Hp) (hr : XR g none "layPath" none x0 0 0) (K : Int32 → Int32 → Int32 → Option (Hp)) (hK0 : ∀ (l3 : Int32) (l6 : Int32) (l7 : Int32), Xo g x0 8 0 0 76 [(0, .ref (nB g.1 + l0)), (1, .int l1), (2, .int l2), (3, .int l3), (6, .int l6), (7, .int l7)] [] h (K l3 l6 l7)) : ∀ (n : Nat) (l3 : Int32) (l5 : Int32) (l6 : Int32) (l7 : Int32), Xo g x0 8 0 0 47 [(0, .ref (nB g.1 + l0)), (1, .int l1), (2, .int l2), (3, .int l3), (4, .int l4), (5, .int l5), (6, .int l6), (7, .int l7)] [] h (f_X10_layPath_L47 l0 l1 l2 l4 h K n l3 l5 l6 l7) := by
  intro n
  induction n with
  | zero =>
    intro l3 l5 l6 l7
    exact X_none
  | succ n ih =>
    intro l3 l5 l6 l7
    unfold f_X10_layPath_L47
    refine X_iload hg 7 rfl dX10_layPath_47 ?_
    refine X_iload_n hg 2 rfl dX10_layPath_49 ?_
    refine X_icmp_gt hg (tgt := 76) dX10_layPath_50 rfl (fun c7 => ?_) (fun c7 => ?_)
    · refine X_lv [0, 1, 2, 3, 6, 7] rfl ?_
      exact hK0 _ _ _
    · refine X_iload hg 7 rfl dX10_layPath_53 ?_
      refine X_istore_n hg rfl (Nat.le_of_ble_eq_true rfl) (lv' := [(3, .int l7), (0, .ref (nB g.1 + l0)), (1, .int l1), (2, .int l2), (4, .int l4), (5, .int l5), (6, .int l6), (7, .int l7)]) rfl dX10_layPath_55 ?_
      refine X_iinc hg 5 rfl (v := (l5 + m1)) (icc ic_i_m1) (Nat.le_of_ble_eq_true rfl) (lv' := [(5, .int (l5 + m1)), (3, .int l7), (0, .ref (nB g.1 + l0)), (1, .int l1), (2, .int l2), (4, .int l4), (6, .int l6), (7, .int l7)]) rfl dX10_layPath_56 ?_
      refine X_iinc hg 6 rfl (v := (l6 + (nI 1))) (icc ic_i_1) (Nat.le_of_ble_eq_true rfl) (lv' := [(6, .int (l6 + (nI 1))), (5, .int (l5 + m1)), (3, .int l7), (0, .ref (nB g.1 + l0)), (1, .int l1), (2, .int l2), (4, .int l4), (7, .int l7)]) rfl dX10_layPath_59 ?_
      refine X_aload_n hg 3 rfl dX10_layPath_62 ?_
      refine X_iload hg 1 rfl dX10_layPath_63 ?_
      refine X_iload_n hg 2 rfl dX10_layPath_65 ?_
      refine X_iload hg 6 rfl dX10_layPath_66 ?_
      refine X_cVI0 hg mf_X10_firstCut m_1158 m_58 m_1156 cf_10 (fun _ e => gd_isO e) (fun y e => c_X10_firstCut g.1 l0 (l5 + m1) l7 l4 h y e) (As := [.int (l5 + m1), .int l7, .int l4]) rfl (Nat.le_of_ble_eq_true rfl) rfl (Nat.le_of_ble_eq_true rfl) (Nat.le_of_ble_eq_true rfl) (Nat.le_of_ble_eq_true rfl) (Nat.le_of_ble_eq_true rfl) dX10_layPath_68 (fun x6 _ => ?_)
      refine X_istore hg (Nat.le_of_ble_eq_true rfl) (lv' := [(7, .int x6), (6, .int (l6 + (nI 1))), (5, .int (l5 + m1)), (3, .int l7), (0, .ref (nB g.1 + l0)), (1, .int l1), (2, .int l2), (4, .int l4)]) rfl dX10_layPath_71 ?_
      refine X_goto hg (tgt := 47) dX10_layPath_73 rfl ?_
      refine X_lv [4, 5, 6, 3, 7, 2, 1, 0] rfl ?_
      exact ih _ _ _ _
set_option maxRecDepth 10000 in
theorem l_X10_layPath_15 {g : XC} {x0 : Hp} (hg : XG g RX10 cX10_layPath 8 2 48 0 0) (l0 : Nat) (l1 : Int32) (l2 : Int32) (hr : XR g none "layPath" none x0 0 0) (K : Hp → Option (Hp)) (hK0 : ∀ (h : Hp), Xo g x0 8 0 0 111 [] [] h (K h)) : ∀ (n : Nat) (l3 : Int32) (l4 : Int32) (h : Hp), Xo g x0 8 0 0 15 [(0, .ref (nB g.1 + l0)), (1, .int l1), (2, .int l2), (3, .int l3), (4, .int l4)] [] h (f_X10_layPath_L15 l0 l1 l2 K n l3 l4 h) := by
  intro n
  induction n with
  | zero =>
    intro l3 l4 h
    exact X_none
  | succ n ih =>
    intro l3 l4 h
    unfold f_X10_layPath_L15
    refine X_iload hg 4 rfl dX10_layPath_15 ?_
    refine X_iload_n hg 3 rfl dX10_layPath_17 ?_
    refine X_isub hg dX10_layPath_18 ?_
    refine X_iconst hg ic_i_1 dX10_layPath_19 ?_
    refine X_icmp_le hg (tgt := 111) dX10_layPath_20 rfl (fun c18 => ?_) (fun c18 => ?_)
    · refine X_lv [] rfl ?_
      exact hK0  _
    · refine X_aload_n hg 0 rfl dX10_layPath_23 ?_
      refine X_iload_n hg 1 rfl dX10_layPath_24 ?_
      refine X_iload_n hg 3 rfl dX10_layPath_25 ?_
      refine X_iload hg 4 rfl dX10_layPath_26 ?_
      refine X_cVI0 hg mf_X10_partsOf m_1154 m_57 m_1152 cf_10 (fun _ e => gd_isO e) (fun y e => c_X10_partsOf g.1 l0 l1 l3 l4 h y e) (As := [.int l1, .int l3, .int l4]) rfl (Nat.le_of_ble_eq_true rfl) rfl (Nat.le_of_ble_eq_true rfl) (Nat.le_of_ble_eq_true rfl) (Nat.le_of_ble_eq_true rfl) (Nat.le_of_ble_eq_true rfl) dX10_layPath_28 (fun x4 _ => ?_)
      refine X_istore hg (Nat.le_of_ble_eq_true rfl) (lv' := [(5, .int x4), (0, .ref (nB g.1 + l0)), (1, .int l1), (2, .int l2), (3, .int l3), (4, .int l4)]) rfl dX10_layPath_31 ?_
      refine X_iconst hg ic_i_1 dX10_layPath_33 ?_
      refine X_istore hg (Nat.le_of_ble_eq_true rfl) (lv' := [(6, .int (nI 1)), (5, .int x4), (0, .ref (nB g.1 + l0)), (1, .int l1), (2, .int l2), (3, .int l3), (4, .int l4)]) rfl dX10_layPath_34 ?_
      refine X_aload_n hg 2 rfl dX10_layPath_36 ?_
      refine X_iload hg 1 rfl dX10_layPath_37 ?_
      refine X_iload_n hg 5 rfl dX10_layPath_39 ?_
      refine X_iload hg 6 rfl dX10_layPath_40 ?_
      refine X_cVI0 hg mf_X10_firstCut m_1158 m_58 m_1156 cf_10 (fun _ e => gd_isO e) (fun y e => c_X10_firstCut g.1 l0 x4 l3 l4 h y e) (As := [.int x4, .int l3, .int l4]) rfl (Nat.le_of_ble_eq_true rfl) rfl (Nat.le_of_ble_eq_true rfl) (Nat.le_of_ble_eq_true rfl) (Nat.le_of_ble_eq_true rfl) (Nat.le_of_ble_eq_true rfl) dX10_layPath_42 (fun x5 _ => ?_)
      refine X_istore hg (Nat.le_of_ble_eq_true rfl) (lv' := [(7, .int x5), (6, .int (nI 1)), (5, .int x4), (0, .ref (nB g.1 + l0)), (1, .int l1), (2, .int l2), (3, .int l3), (4, .int l4)]) rfl dX10_layPath_45 ?_
      refine X_lv [3, 4, 5, 6, 7, 2, 1, 0] rfl ?_
      refine l_X10_layPath_47 hg _ _ _ _ _ hr _ (fun y8 y9 y10 => ?_) _ _ _ _ _
      refine X_iload hg 5 rfl dX10_layPath_76 ?_
      refine X_istore hg (Nat.le_of_ble_eq_true rfl) (lv' := [(4, .int y10), (0, .ref (nB g.1 + l0)), (1, .int l1), (2, .int l2), (3, .int y8), (6, .int y9), (7, .int y10)]) rfl dX10_layPath_78 ?_
      refine X_aload_n hg 1 rfl dX10_layPath_80 ?_
      refine X_getR hg (j := 29) cf_10 (Nat.le_of_ble_eq_true rfl) (Or.inr ⟨_, rfl⟩) m_929 dX10_layPath_81 (fun x11 _ => ?_)
      refine X_bipush hg ic_b_14 dX10_layPath_84 ?_
      refine X_iload_n hg 3 rfl dX10_layPath_86 ?_
      refine X_imul hg dX10_layPath_87 ?_
      refine X_aload_n hg 1 rfl dX10_layPath_88 ?_
      refine X_getR hg (j := 28) cf_10 (Nat.le_of_ble_eq_true rfl) (Or.inr ⟨_, rfl⟩) m_928 dX10_layPath_89 (fun x12 _ => ?_)
      refine X_iload_n hg 3 rfl dX10_layPath_92 ?_
      refine X_ald hg dX10_layPath_93 (fun x13 _ => ?_)
      refine X_iadd hg dX10_layPath_94 ?_
      refine X_iload hg 5 rfl dX10_layPath_95 ?_
      refine X_ast hg dX10_layPath_97 (fun h14 _ => ?_)
      refine X_aload_n hg 1 rfl dX10_layPath_98 ?_
      refine X_getR hg (j := 28) cf_10 (Nat.le_of_ble_eq_true rfl) (Or.inr ⟨_, rfl⟩) m_928 dX10_layPath_99 (fun x15 _ => ?_)
      refine X_iload_n hg 3 rfl dX10_layPath_102 ?_
      refine X_dup2 hg rfl rfl dX10_layPath_103 ?_
      refine X_ald hg dX10_layPath_104 (fun x16 _ => ?_)
      refine X_iconst hg ic_i_1 dX10_layPath_105 ?_
      refine X_iadd hg dX10_layPath_106 ?_
      refine X_ast hg dX10_layPath_107 (fun h17 _ => ?_)
      refine X_goto hg (tgt := 15) dX10_layPath_108 rfl ?_
      refine X_lv [1, 2, 3, 4, 0] rfl ?_
      exact ih _ _ _
set_option maxRecDepth 10000 in
theorem c_X10_layPath (en : EN) (a0 : Nat) (a1 : Int32) (a2 : Int32) (h : Hp) (x0 : Hp) (e : f_X10_layPath a0 a1 a2 h = some x0) : Ct en yX10_layPath cX10_layPath 8 none 2 48 0 0 [.ref (nB en + a0), .int a1, .int a2] h none x0 := by
  refine Ct.of (by decide) rfl (Nat.le_of_ble_eq_true rfl) e (fun g hen hg hr => ?_)
  subst hen
  unfold f_X10_layPath
  refine X_gd ?_
  refine X_iconst hg ic_i_0 dX10_layPath_0 ?_
  refine X_istore_n hg rfl (Nat.le_of_ble_eq_true rfl) (lv' := [(3, .int (nI 0)), (0, .ref (nB g.1 + a0)), (1, .int a1), (2, .int a2)]) rfl dX10_layPath_1 ?_
  refine X_aload_n hg 1 rfl dX10_layPath_2 ?_
  refine X_getI hg (j := 2) cf_10 (Nat.le_of_ble_eq_true rfl) (Or.inl rfl) m_902 dX10_layPath_3 (fun x1 _ => ?_)
  refine X_istore hg (Nat.le_of_ble_eq_true rfl) (lv' := [(4, .int x1), (3, .int (nI 0)), (0, .ref (nB g.1 + a0)), (1, .int a1), (2, .int a2)]) rfl dX10_layPath_6 ?_
  refine X_aload_n hg 2 rfl dX10_layPath_8 ?_
  refine X_getR hg (j := 28) cf_10 (Nat.le_of_ble_eq_true rfl) (Or.inr ⟨_, rfl⟩) m_928 dX10_layPath_9 (fun x2 _ => ?_)
  refine X_iload_n hg 4 rfl dX10_layPath_12 ?_
  refine X_iconst hg ic_i_0 dX10_layPath_13 ?_
  refine X_ast hg dX10_layPath_14 (fun h3 _ => ?_)
  refine X_lv [2, 3, 4, 1, 0] rfl ?_
  refine l_X10_layPath_15 hg _ _ _ hr _ (fun h19 => ?_) _ _ _ _
  exact X_vret hg hr (Nat.le_of_ble_eq_true rfl) (Nat.le_of_ble_eq_true rfl) dX10_layPath_111
set_option maxRecDepth 10000 in
theorem l_X10_layMenu_7 {g : XC} {x0 : Hp} (hg : XG g RX10 cX10_layMenu 3 4 99 0 0) (l0 : Nat) (l1 : Int32) (hr : XR g none "layMenu" none x0 0 0) (K : Hp → Option (Hp)) (hK0 : ∀ (h : Hp), Xo g x0 3 0 0 27 [] [] h (K h)) : ∀ (n : Nat) (l2 : Int32) (h : Hp), Xo g x0 3 0 0 7 [(0, .ref (nB g.1 + l0)), (1, .int l1), (2, .int l2)] [] h (f_X10_layMenu_L7 l0 l1 K n l2 h) := by
  intro n
  induction n with
  | zero =>
    intro l2 h
    exact X_none
  | succ n ih =>
    intro l2 h
    unfold f_X10_layMenu_L7
    refine X_iload_n hg 2 rfl dX10_layMenu_7 ?_
    refine X_aload_n hg 0 rfl dX10_layMenu_8 ?_
    refine X_getI hg (j := 2) cf_10 (Nat.le_of_ble_eq_true rfl) (Or.inl rfl) m_902 dX10_layMenu_9 (fun x2 _ => ?_)
    refine X_icmp_ge hg (tgt := 27) dX10_layMenu_12 rfl (fun c4 => ?_) (fun c4 => ?_)
    · refine X_lv [] rfl ?_
      exact hK0  _
    · refine X_aload_n hg 0 rfl dX10_layMenu_15 ?_
      refine X_iload_n hg 1 rfl dX10_layMenu_16 ?_
      refine X_iload_n hg 2 rfl dX10_layMenu_17 ?_
      refine X_cVV0 hg mf_X10_layPath m_1150 m_56 m_1148 cf_10 (fun _ e => gd_isO e) (fun y e => c_X10_layPath g.1 l0 l1 l2 h y e) (As := [.int l1, .int l2]) rfl (Nat.le_of_ble_eq_true rfl) rfl (Nat.le_of_ble_eq_true rfl) (Nat.le_of_ble_eq_true rfl) (Nat.le_of_ble_eq_true rfl) (Nat.le_of_ble_eq_true rfl) dX10_layMenu_18 (fun h3 _ => ?_)
      refine X_iinc hg 2 rfl (v := (l2 + (nI 1))) (icc ic_i_1) (Nat.le_of_ble_eq_true rfl) (lv' := [(2, .int (l2 + (nI 1))), (0, .ref (nB g.1 + l0)), (1, .int l1)]) rfl dX10_layMenu_21 ?_
      refine X_goto hg (tgt := 7) dX10_layMenu_24 rfl ?_
      refine X_lv [1, 2, 0] rfl ?_
      exact ih _ _
set_option maxRecDepth 10000 in
theorem c_X10_layMenu (en : EN) (a0 : Nat) (a1 : Int32) (h : Hp) (x0 : Hp) (e : f_X10_layMenu a0 a1 h = some x0) : Ct en yX10_layMenu cX10_layMenu 3 none 4 99 0 0 [.ref (nB en + a0), .int a1] h none x0 := by
  refine Ct.of (by decide) rfl (Nat.le_of_ble_eq_true rfl) e (fun g hen hg hr => ?_)
  subst hen
  unfold f_X10_layMenu
  refine X_gd ?_
  refine X_aload_n hg 0 rfl dX10_layMenu_0 ?_
  refine X_iload_n hg 1 rfl dX10_layMenu_1 ?_
  refine X_cVV0 hg mf_X10_layCosts m_1126 m_50 m_1124 cf_10 (fun _ e => gd_isO e) (fun y e => c_X10_layCosts g.1 a0 a1 h y e) (As := [.int a1]) rfl (Nat.le_of_ble_eq_true rfl) rfl (Nat.le_of_ble_eq_true rfl) (Nat.le_of_ble_eq_true rfl) (Nat.le_of_ble_eq_true rfl) (Nat.le_of_ble_eq_true rfl) dX10_layMenu_2 (fun h1 _ => ?_)
  refine X_iconst hg ic_i_0 dX10_layMenu_5 ?_
  refine X_istore_n hg rfl (Nat.le_of_ble_eq_true rfl) (lv' := [(2, .int (nI 0)), (0, .ref (nB g.1 + a0)), (1, .int a1)]) rfl dX10_layMenu_6 ?_
  refine X_lv [1, 2, 0] rfl ?_
  refine l_X10_layMenu_7 hg _ _ hr _ (fun h5 => ?_) _ _ _
  exact X_vret hg hr (Nat.le_of_ble_eq_true rfl) (Nat.le_of_ble_eq_true rfl) dX10_layMenu_27
set_option maxRecDepth 10000 in
theorem c_X10_nameNow (en : EN) (a0 : Nat) (a1 : Int32) (a2 : Int32) (h : Hp) (x0 : Int32 × Hp) (e : f_X10_nameNow a0 a1 a2 h = some x0) : Ct en yX10_nameNow cX10_nameNow 3 (some .int) 5 121 0 0 [.ref (nB en + a0), .int a1, .int a2] h (some (.int x0.1)) x0.2 := by
  refine Ct.of (by decide) rfl (Nat.le_of_ble_eq_true rfl) e (fun g hen hg hr => ?_)
  subst hen
  unfold f_X10_nameNow
  refine X_gd ?_
  refine X_iload_n hg 2 rfl dX10_nameNow_0 ?_
  refine X_tsw hg (v := (nI 0)) (tgt := 44) dX10_nameNow_1 (by decide) (by decide) rfl rfl (fun c3 => ?_) (fun c3 => ?_)
  · refine X_aload_n hg 0 rfl dX10_nameNow_44 ?_
    refine X_getR hg (j := 3) cf_10 (Nat.le_of_ble_eq_true rfl) (Or.inr ⟨_, rfl⟩) m_903 dX10_nameNow_45 (fun x1 _ => ?_)
    refine X_iload_n hg 1 rfl dX10_nameNow_48 ?_
    refine X_ald hg dX10_nameNow_49 (fun x2 _ => ?_)
    exact X_iretW hg hr (Nat.le_of_ble_eq_true rfl) (Nat.le_of_ble_eq_true rfl) dX10_nameNow_50
  · skip
    refine X_tsw hg (v := (nI 1)) (tgt := 51) dX10_nameNow_1 (by decide) (by decide) rfl rfl (fun c6 => ?_) (fun c6 => ?_)
    · refine X_aload_n hg 0 rfl dX10_nameNow_51 ?_
      refine X_getR hg (j := 5) cf_10 (Nat.le_of_ble_eq_true rfl) (Or.inr ⟨_, rfl⟩) m_905 dX10_nameNow_52 (fun x4 _ => ?_)
      refine X_iload_n hg 1 rfl dX10_nameNow_55 ?_
      refine X_ald hg dX10_nameNow_56 (fun x5 _ => ?_)
      exact X_iretW hg hr (Nat.le_of_ble_eq_true rfl) (Nat.le_of_ble_eq_true rfl) dX10_nameNow_57
    · skip
      refine X_tsw hg (v := (nI 2)) (tgt := 58) dX10_nameNow_1 (by decide) (by decide) rfl rfl (fun c8 => ?_) (fun c8 => ?_)
      · refine X_aload_n hg 0 rfl dX10_nameNow_58 ?_
        refine X_iload_n hg 1 rfl dX10_nameNow_59 ?_
        refine X_cVI0 hg mf_X10_twins m_1089 m_41 m_1087 cf_10 (fun _ e => gd_isO e) (fun y e => c_X10_twins g.1 a0 a1 h y e) (As := [.int a1]) rfl (Nat.le_of_ble_eq_true rfl) rfl (Nat.le_of_ble_eq_true rfl) (Nat.le_of_ble_eq_true rfl) (Nat.le_of_ble_eq_true rfl) (Nat.le_of_ble_eq_true rfl) dX10_nameNow_60 (fun x7 _ => ?_)
        exact X_iretW hg hr (Nat.le_of_ble_eq_true rfl) (Nat.le_of_ble_eq_true rfl) dX10_nameNow_63
      · skip
        refine X_tsw hg (v := (nI 3)) (tgt := 64) dX10_nameNow_1 (by decide) (by decide) rfl rfl (fun c10 => ?_) (fun c10 => ?_)
        · refine X_aload_n hg 0 rfl dX10_nameNow_64 ?_
          refine X_iload_n hg 1 rfl dX10_nameNow_65 ?_
          refine X_cVI0 hg mf_X10_telling m_1105 m_45 m_1103 cf_10 (fun _ e => gd_isO e) (fun y e => c_X10_telling g.1 a0 a1 h y e) (As := [.int a1]) rfl (Nat.le_of_ble_eq_true rfl) rfl (Nat.le_of_ble_eq_true rfl) (Nat.le_of_ble_eq_true rfl) (Nat.le_of_ble_eq_true rfl) (Nat.le_of_ble_eq_true rfl) dX10_nameNow_66 (fun x9 _ => ?_)
          exact X_iretW hg hr (Nat.le_of_ble_eq_true rfl) (Nat.le_of_ble_eq_true rfl) dX10_nameNow_69
        · skip
          refine X_tsw hg (v := (nI 4)) (tgt := 70) dX10_nameNow_1 (by decide) (by decide) rfl rfl (fun c12 => ?_) (fun c12 => ?_)
          · refine X_aload_n hg 0 rfl dX10_nameNow_70 ?_
            refine X_iload_n hg 1 rfl dX10_nameNow_71 ?_
            refine X_cVI0 hg mf_X10_presses m_1109 m_46 m_1107 cf_10 (fun _ e => gd_isO e) (fun y e => c_X10_presses g.1 a0 a1 h y e) (As := [.int a1]) rfl (Nat.le_of_ble_eq_true rfl) rfl (Nat.le_of_ble_eq_true rfl) (Nat.le_of_ble_eq_true rfl) (Nat.le_of_ble_eq_true rfl) (Nat.le_of_ble_eq_true rfl) dX10_nameNow_72 (fun x11 _ => ?_)
            exact X_iretW hg hr (Nat.le_of_ble_eq_true rfl) (Nat.le_of_ble_eq_true rfl) dX10_nameNow_75
          · skip
            refine X_tsw hg (v := (nI 5)) (tgt := 76) dX10_nameNow_1 (by decide) (by decide) rfl rfl (fun c16 => ?_) (fun c16 => ?_)
            · refine X_aload_n hg 0 rfl dX10_nameNow_76 ?_
              refine X_iload_n hg 1 rfl dX10_nameNow_77 ?_
              refine X_aload_n hg 0 rfl dX10_nameNow_78 ?_
              refine X_getR hg (j := 3) cf_10 (Nat.le_of_ble_eq_true rfl) (Or.inr ⟨_, rfl⟩) m_903 dX10_nameNow_79 (fun x13 _ => ?_)
              refine X_iload_n hg 1 rfl dX10_nameNow_82 ?_
              refine X_ald hg dX10_nameNow_83 (fun x14 _ => ?_)
              refine X_cVI0 hg mf_X10_placeIn m_1114 m_47 m_1112 cf_10 (fun _ e => gd_isO e) (fun y e => c_X10_placeIn g.1 a0 a1 x14 h y e) (As := [.int a1, .int x14]) rfl (Nat.le_of_ble_eq_true rfl) rfl (Nat.le_of_ble_eq_true rfl) (Nat.le_of_ble_eq_true rfl) (Nat.le_of_ble_eq_true rfl) (Nat.le_of_ble_eq_true rfl) dX10_nameNow_84 (fun x15 _ => ?_)
              exact X_iretW hg hr (Nat.le_of_ble_eq_true rfl) (Nat.le_of_ble_eq_true rfl) dX10_nameNow_87
            · skip
              refine X_tsw hg (v := (nI 6)) (tgt := 88) dX10_nameNow_1 (by decide) (by decide) rfl rfl (fun c22 => ?_) (fun c22 => ?_)
              · refine X_aload_n hg 0 rfl dX10_nameNow_88 ?_
                refine X_getI hg (j := 12) cf_10 (Nat.le_of_ble_eq_true rfl) (Or.inl rfl) m_912 dX10_nameNow_89 (fun x17 _ => ?_)
                refine X_reg (fun (v18 : Int32) o => Xo g x0 3 0 0 105 [] [.int v18] h o) (fun kv18 hk18 => ?_) (fun v18 => ?_)
                · refine X_ib ?_
                  refine X_if_ne hg (tgt := 99) dX10_nameNow_92 rfl (fun c21 => ?_) (fun c21 => ?_)
                  · refine X_iconst hg ic_i_m1 dX10_nameNow_95 ?_
                    refine X_goto hg (tgt := 105) dX10_nameNow_96 rfl ?_
                    refine X_lv [] rfl ?_
                    exact hk18 m1
                  · refine X_aload_n hg 0 rfl dX10_nameNow_99 ?_
                    refine X_as ?_
                    refine X_getR hg (j := 13) cf_10 (Nat.le_of_ble_eq_true rfl) (Or.inr ⟨_, rfl⟩) m_913 dX10_nameNow_100 (fun x19 _ => ?_)
                    refine X_iload_n hg 1 rfl dX10_nameNow_103 ?_
                    refine X_as ?_
                    refine X_ald hg dX10_nameNow_104 (fun x20 _ => ?_)
                    refine X_lv [] rfl ?_
                    exact hk18 x20
                · exact X_iretW hg hr (Nat.le_of_ble_eq_true rfl) (Nat.le_of_ble_eq_true rfl) dX10_nameNow_105
              · skip
                refine X_tsd hg (tgt := 106) dX10_nameNow_1 (by have q0 := lv_neT c3 (a := 0) rfl; have q1 := lv_neT c6 (a := 1) rfl; have q2 := lv_neT c8 (a := 2) rfl; have q3 := lv_neT c10 (a := 3) rfl; have q4 := lv_neT c12 (a := 4) rfl; have q5 := lv_neT c16 (a := 5) rfl; have q6 := lv_neT c22 (a := 6) rfl; omega) rfl ?_
                refine X_aload_n hg 0 rfl dX10_nameNow_106 ?_
                refine X_iconst hg ic_i_3 dX10_nameNow_107 ?_
                refine X_cVV0 hg mf_X10_layMenu m_1122 m_49 m_1120 cf_10 (fun _ e => gd_isO e) (fun y e => c_X10_layMenu g.1 a0 (nI 3) h y e) (As := [.int (nI 3)]) rfl (Nat.le_of_ble_eq_true rfl) rfl (Nat.le_of_ble_eq_true rfl) (Nat.le_of_ble_eq_true rfl) (Nat.le_of_ble_eq_true rfl) (Nat.le_of_ble_eq_true rfl) dX10_nameNow_108 (fun h23 _ => ?_)
                refine X_aload_n hg 0 rfl dX10_nameNow_111 ?_
                refine X_getR hg (j := 28) cf_10 (Nat.le_of_ble_eq_true rfl) (Or.inr ⟨_, rfl⟩) m_928 dX10_nameNow_112 (fun x24 _ => ?_)
                refine X_iload_n hg 1 rfl dX10_nameNow_115 ?_
                refine X_ald hg dX10_nameNow_116 (fun x25 _ => ?_)
                exact X_iretW hg hr (Nat.le_of_ble_eq_true rfl) (Nat.le_of_ble_eq_true rfl) dX10_nameNow_117
set_option maxRecDepth 10000 in
theorem c_X10_name (en : EN) (a0 : Nat) (a1 : Int32) (a2 : Int32) (h : Hp) (x0 : Int32 × Hp) (e : f_X10_name a0 a1 a2 h = some x0) : Ct en yX10_name cX10_name 3 (some .int) 6 143 0 0 [.ref (nB en + a0), .int a1, .int a2] h (some (.int x0.1)) x0.2 := by
  refine Ct.of (by decide) rfl (Nat.le_of_ble_eq_true rfl) e (fun g hen hg hr => ?_)
  subst hen
  unfold f_X10_name
  refine X_gd ?_
  refine X_aload_n hg 0 rfl dX10_name_0 ?_
  refine X_iload_n hg 1 rfl dX10_name_1 ?_
  refine X_cVI0 hg mf_X10_isName m_1073 m_39 m_1071 cf_10 (fun _ e => gd_isO e) (fun y e => c_X10_isName g.1 a0 a1 h y e) (As := [.int a1]) rfl (Nat.le_of_ble_eq_true rfl) rfl (Nat.le_of_ble_eq_true rfl) (Nat.le_of_ble_eq_true rfl) (Nat.le_of_ble_eq_true rfl) (Nat.le_of_ble_eq_true rfl) dX10_name_2 (fun x1 _ => ?_)
  refine X_reg (fun (v2 : Int32 × Hp) o => Xo g x0 3 0 0 34 [] [.int v2.1] v2.2 o) (fun kv2 hk2 => ?_) (fun v2 => ?_)
  · refine X_ib ?_
    refine X_if_ne hg (tgt := 13) dX10_name_5 rfl (fun c6 => ?_) (fun c6 => ?_)
    · refine X_bipush hg ic_b_m101 dX10_name_8 ?_
      refine X_goto hg (tgt := 34) dX10_name_10 rfl ?_
      refine X_lv [] rfl ?_
      exact hk2 (m101, h)
    · refine X_iload_n hg 2 rfl dX10_name_13 ?_
      refine X_iconst hg ic_i_0 dX10_name_14 ?_
      refine X_bipush hg ic_b_7 dX10_name_15 ?_
      refine X_as ?_
      refine X_cSI0 hg mf_X10_within m_1005 m_1004 (fun y e => c_X10_within g.1 a2 (nI 0) (nI 7) h y e) (As := [.int a2, .int (nI 0), .int (nI 7)]) rfl (Nat.le_of_ble_eq_true rfl) rfl (Nat.le_of_ble_eq_true rfl) (Nat.le_of_ble_eq_true rfl) (Nat.le_of_ble_eq_true rfl) (Nat.le_of_ble_eq_true rfl) dX10_name_17 (fun x3 _ => ?_)
      refine X_ib ?_
      refine X_if_eq hg (tgt := 32) dX10_name_20 rfl (fun c5 => ?_) (fun c5 => ?_)
      · refine X_bipush hg ic_b_m102 dX10_name_32 ?_
        refine X_lv [] rfl ?_
        exact hk2 (m102, h)
      · refine X_aload_n hg 0 rfl dX10_name_23 ?_
        refine X_iload_n hg 1 rfl dX10_name_24 ?_
        refine X_iload_n hg 2 rfl dX10_name_25 ?_
        refine X_as ?_
        refine X_cVIW0 hg mf_X10_nameNow m_1085 m_40 m_1083 cf_10 (fun _ e => gd_isO e) (fun y e => c_X10_nameNow g.1 a0 a1 a2 h y e) (As := [.int a1, .int a2]) rfl (Nat.le_of_ble_eq_true rfl) rfl (Nat.le_of_ble_eq_true rfl) (Nat.le_of_ble_eq_true rfl) (Nat.le_of_ble_eq_true rfl) (Nat.le_of_ble_eq_true rfl) dX10_name_26 (fun p4 _ => ?_)
        refine X_goto hg (tgt := 34) dX10_name_29 rfl ?_
        refine X_lv [] rfl ?_
        exact hk2 (p4.1, p4.2)
  · exact X_iretW hg hr (Nat.le_of_ble_eq_true rfl) (Nat.le_of_ble_eq_true rfl) dX10_name_34
set_option maxRecDepth 10000 in
theorem c_X10_sign (en : EN) (a0 : Nat) (a1 : Int32) (a2 : Int32) (h : Hp) (x0 : Int32) (e : f_X10_sign a0 a1 a2 h = some x0) : Ct en yX10_sign cX10_sign 3 (some .int) 2 43 0 0 [.ref (nB en + a0), .int a1, .int a2] h (some (.int x0)) h := by
  refine Ct.of (by decide) rfl (Nat.le_of_ble_eq_true rfl) e (fun g hen hg hr => ?_)
  subst hen
  unfold f_X10_sign
  refine X_gd ?_
  refine X_aload_n hg 0 rfl dX10_sign_0 ?_
  refine X_iload_n hg 1 rfl dX10_sign_1 ?_
  refine X_cVI0 hg mf_X10_isName m_1073 m_39 m_1071 cf_10 (fun _ e => gd_isO e) (fun y e => c_X10_isName g.1 a0 a1 h y e) (As := [.int a1]) rfl (Nat.le_of_ble_eq_true rfl) rfl (Nat.le_of_ble_eq_true rfl) (Nat.le_of_ble_eq_true rfl) (Nat.le_of_ble_eq_true rfl) (Nat.le_of_ble_eq_true rfl) dX10_sign_2 (fun x1 _ => ?_)
  refine X_reg (fun (v2 : Int32) o => Xo g x0 3 0 0 40 [] [.int v2] h o) (fun kv2 hk2 => ?_) (fun v2 => ?_)
  · refine X_ib ?_
    refine X_if_eq hg (tgt := 38) dX10_sign_5 rfl (fun c9 => ?_) (fun c9 => ?_)
    · refine X_bipush hg ic_b_m101 dX10_sign_38 ?_
      refine X_lv [] rfl ?_
      exact hk2 m101
    · refine X_iload_n hg 2 rfl dX10_sign_8 ?_
      refine X_iconst hg ic_i_0 dX10_sign_9 ?_
      refine X_aload_n hg 0 rfl dX10_sign_10 ?_
      refine X_as ?_
      refine X_getR hg (j := 3) cf_10 (Nat.le_of_ble_eq_true rfl) (Or.inr ⟨_, rfl⟩) m_903 dX10_sign_11 (fun x3 _ => ?_)
      refine X_iload_n hg 1 rfl dX10_sign_14 ?_
      refine X_as ?_
      refine X_ald hg dX10_sign_15 (fun x4 _ => ?_)
      refine X_iconst hg ic_i_1 dX10_sign_16 ?_
      refine X_isub hg dX10_sign_17 ?_
      refine X_as ?_
      refine X_cSI0 hg mf_X10_within m_1005 m_1004 (fun y e => c_X10_within g.1 a2 (nI 0) (x4 - (nI 1)) h y e) (As := [.int a2, .int (nI 0), .int (x4 - (nI 1))]) rfl (Nat.le_of_ble_eq_true rfl) rfl (Nat.le_of_ble_eq_true rfl) (Nat.le_of_ble_eq_true rfl) (Nat.le_of_ble_eq_true rfl) (Nat.le_of_ble_eq_true rfl) dX10_sign_18 (fun x5 _ => ?_)
      refine X_ib ?_
      refine X_if_eq hg (tgt := 38) dX10_sign_21 rfl (fun c8 => ?_) (fun c8 => ?_)
      · refine X_bipush hg ic_b_m101 dX10_sign_38 ?_
        refine X_lv [] rfl ?_
        exact hk2 m101
      · refine X_aload_n hg 0 rfl dX10_sign_24 ?_
        refine X_as ?_
        refine X_getR hg (j := 4) cf_10 (Nat.le_of_ble_eq_true rfl) (Or.inr ⟨_, rfl⟩) m_904 dX10_sign_25 (fun x6 _ => ?_)
        refine X_bipush hg ic_b_8 dX10_sign_28 ?_
        refine X_iload_n hg 1 rfl dX10_sign_30 ?_
        refine X_imul hg dX10_sign_31 ?_
        refine X_iload_n hg 2 rfl dX10_sign_32 ?_
        refine X_iadd hg dX10_sign_33 ?_
        refine X_as ?_
        refine X_ald hg dX10_sign_34 (fun x7 _ => ?_)
        refine X_goto hg (tgt := 40) dX10_sign_35 rfl ?_
        refine X_lv [] rfl ?_
        exact hk2 x7
  · exact X_iret hg hr (Nat.le_of_ble_eq_true rfl) (Nat.le_of_ble_eq_true rfl) dX10_sign_40
set_option maxRecDepth 10000 in
theorem c_X10_digit (en : EN) (a0 : Nat) (a1 : Int32) (a2 : Int32) (h : Hp) (x0 : Int32) (e : f_X10_digit a0 a1 a2 h = some x0) : Ct en yX10_digit cX10_digit 3 (some .int) 2 43 0 0 [.ref (nB en + a0), .int a1, .int a2] h (some (.int x0)) h := by
  refine Ct.of (by decide) rfl (Nat.le_of_ble_eq_true rfl) e (fun g hen hg hr => ?_)
  subst hen
  unfold f_X10_digit
  refine X_gd ?_
  refine X_aload_n hg 0 rfl dX10_digit_0 ?_
  refine X_iload_n hg 1 rfl dX10_digit_1 ?_
  refine X_cVI0 hg mf_X10_isName m_1073 m_39 m_1071 cf_10 (fun _ e => gd_isO e) (fun y e => c_X10_isName g.1 a0 a1 h y e) (As := [.int a1]) rfl (Nat.le_of_ble_eq_true rfl) rfl (Nat.le_of_ble_eq_true rfl) (Nat.le_of_ble_eq_true rfl) (Nat.le_of_ble_eq_true rfl) (Nat.le_of_ble_eq_true rfl) dX10_digit_2 (fun x1 _ => ?_)
  refine X_reg (fun (v2 : Int32) o => Xo g x0 3 0 0 35 [] [.int v2] h o) (fun kv2 hk2 => ?_) (fun v2 => ?_)
  · refine X_ib ?_
    refine X_if_eq hg (tgt := 33) dX10_digit_5 rfl (fun c8 => ?_) (fun c8 => ?_)
    · refine X_bipush hg ic_b_m101 dX10_digit_33 ?_
      refine X_lv [] rfl ?_
      exact hk2 m101
    · refine X_iload_n hg 2 rfl dX10_digit_8 ?_
      refine X_iconst hg ic_i_0 dX10_digit_9 ?_
      refine X_aload_n hg 0 rfl dX10_digit_10 ?_
      refine X_as ?_
      refine X_getR hg (j := 3) cf_10 (Nat.le_of_ble_eq_true rfl) (Or.inr ⟨_, rfl⟩) m_903 dX10_digit_11 (fun x3 _ => ?_)
      refine X_iload_n hg 1 rfl dX10_digit_14 ?_
      refine X_as ?_
      refine X_ald hg dX10_digit_15 (fun x4 _ => ?_)
      refine X_iconst hg ic_i_1 dX10_digit_16 ?_
      refine X_isub hg dX10_digit_17 ?_
      refine X_as ?_
      refine X_cSI0 hg mf_X10_within m_1005 m_1004 (fun y e => c_X10_within g.1 a2 (nI 0) (x4 - (nI 1)) h y e) (As := [.int a2, .int (nI 0), .int (x4 - (nI 1))]) rfl (Nat.le_of_ble_eq_true rfl) rfl (Nat.le_of_ble_eq_true rfl) (Nat.le_of_ble_eq_true rfl) (Nat.le_of_ble_eq_true rfl) (Nat.le_of_ble_eq_true rfl) dX10_digit_18 (fun x5 _ => ?_)
      refine X_ib ?_
      refine X_if_eq hg (tgt := 33) dX10_digit_21 rfl (fun c7 => ?_) (fun c7 => ?_)
      · refine X_bipush hg ic_b_m101 dX10_digit_33 ?_
        refine X_lv [] rfl ?_
        exact hk2 m101
      · refine X_aload_n hg 0 rfl dX10_digit_24 ?_
        refine X_iload_n hg 1 rfl dX10_digit_25 ?_
        refine X_iload_n hg 2 rfl dX10_digit_26 ?_
        refine X_as ?_
        refine X_cVI0 hg mf_X10_codeAt m_1101 m_44 m_1099 cf_10 (fun _ e => gd_isO e) (fun y e => c_X10_codeAt g.1 a0 a1 a2 h y e) (As := [.int a1, .int a2]) rfl (Nat.le_of_ble_eq_true rfl) rfl (Nat.le_of_ble_eq_true rfl) (Nat.le_of_ble_eq_true rfl) (Nat.le_of_ble_eq_true rfl) (Nat.le_of_ble_eq_true rfl) dX10_digit_27 (fun x6 _ => ?_)
        refine X_goto hg (tgt := 35) dX10_digit_30 rfl ?_
        refine X_lv [] rfl ?_
        exact hk2 x6
  · exact X_iret hg hr (Nat.le_of_ble_eq_true rfl) (Nat.le_of_ble_eq_true rfl) dX10_digit_35
set_option maxRecDepth 10000 in
theorem c_X10_laid (en : EN) (a0 : Nat) (a1 : Int32) (h : Hp) (x0 : Int32) (e : f_X10_laid a0 a1 h = some x0) : Ct en yX10_laid cX10_laid 2 (some .int) 1 22 0 0 [.ref (nB en + a0), .int a1] h (some (.int x0)) h := by
  refine Ct.of (by decide) rfl (Nat.le_of_ble_eq_true rfl) e (fun g hen hg hr => ?_)
  subst hen
  unfold f_X10_laid
  refine X_gd ?_
  refine X_iload_n hg 1 rfl dX10_laid_0 ?_
  refine X_bipush hg ic_b_97 dX10_laid_1 ?_
  refine X_bipush hg ic_b_122 dX10_laid_3 ?_
  refine X_cSI0 hg mf_X10_within m_1005 m_1004 (fun y e => c_X10_within g.1 a1 (nI 97) (nI 122) h y e) (As := [.int a1, .int (nI 97), .int (nI 122)]) rfl (Nat.le_of_ble_eq_true rfl) rfl (Nat.le_of_ble_eq_true rfl) (Nat.le_of_ble_eq_true rfl) (Nat.le_of_ble_eq_true rfl) (Nat.le_of_ble_eq_true rfl) dX10_laid_5 (fun x1 _ => ?_)
  refine X_reg (fun (v2 : Int32) o => Xo g x0 2 0 0 25 [] [.int v2] h o) (fun kv2 hk2 => ?_) (fun v2 => ?_)
  · refine X_ib ?_
    refine X_if_eq hg (tgt := 23) dX10_laid_8 rfl (fun c5 => ?_) (fun c5 => ?_)
    · refine X_bipush hg ic_b_m102 dX10_laid_23 ?_
      refine X_lv [] rfl ?_
      exact hk2 m102
    · refine X_aload_n hg 0 rfl dX10_laid_11 ?_
      refine X_as ?_
      refine X_getR hg (j := 9) cf_10 (Nat.le_of_ble_eq_true rfl) (Or.inr ⟨_, rfl⟩) m_909 dX10_laid_12 (fun x3 _ => ?_)
      refine X_iload_n hg 1 rfl dX10_laid_15 ?_
      refine X_bipush hg ic_b_97 dX10_laid_16 ?_
      refine X_isub hg dX10_laid_18 ?_
      refine X_as ?_
      refine X_ald hg dX10_laid_19 (fun x4 _ => ?_)
      refine X_goto hg (tgt := 25) dX10_laid_20 rfl ?_
      refine X_lv [] rfl ?_
      exact hk2 x4
  · exact X_iret hg hr (Nat.le_of_ble_eq_true rfl) (Nat.le_of_ble_eq_true rfl) dX10_laid_25
set_option maxRecDepth 10000 in
theorem l_X10_usesAll_4 {g : XC} {x0 : Int32} (hg : XG g RX10 cX10_usesAll 3 0 0 0 0) (l0 : Nat) (h : Hp) (hr : XR g (some .int) "usesAll" (some (.int x0)) h 0 0) (K : Int32 → Option (Int32)) (hK0 : ∀ (l1 : Int32), Xo g x0 3 0 0 27 [(1, .int l1)] [] h (K l1)) : ∀ (n : Nat) (l1 : Int32) (l2 : Int32), Xo g x0 3 0 0 4 [(0, .ref (nB g.1 + l0)), (1, .int l1), (2, .int l2)] [] h (f_X10_usesAll_L4 l0 h K n l1 l2) := by
  intro n
  induction n with
  | zero =>
    intro l1 l2
    exact X_none
  | succ n ih =>
    intro l1 l2
    unfold f_X10_usesAll_L4
    refine X_iload_n hg 2 rfl dX10_usesAll_4 ?_
    refine X_aload_n hg 0 rfl dX10_usesAll_5 ?_
    refine X_getI hg (j := 2) cf_10 (Nat.le_of_ble_eq_true rfl) (Or.inl rfl) m_902 dX10_usesAll_6 (fun x1 _ => ?_)
    refine X_icmp_ge hg (tgt := 27) dX10_usesAll_9 rfl (fun c4 => ?_) (fun c4 => ?_)
    · refine X_lv [1] rfl ?_
      exact hK0 _
    · refine X_iload_n hg 1 rfl dX10_usesAll_12 ?_
      refine X_aload_n hg 0 rfl dX10_usesAll_13 ?_
      refine X_getR hg (j := 5) cf_10 (Nat.le_of_ble_eq_true rfl) (Or.inr ⟨_, rfl⟩) m_905 dX10_usesAll_14 (fun x2 _ => ?_)
      refine X_iload_n hg 2 rfl dX10_usesAll_17 ?_
      refine X_ald hg dX10_usesAll_18 (fun x3 _ => ?_)
      refine X_iadd hg dX10_usesAll_19 ?_
      refine X_istore_n hg rfl (Nat.le_of_ble_eq_true rfl) (lv' := [(1, .int (l1 + x3)), (0, .ref (nB g.1 + l0)), (2, .int l2)]) rfl dX10_usesAll_20 ?_
      refine X_iinc hg 2 rfl (v := (l2 + (nI 1))) (icc ic_i_1) (Nat.le_of_ble_eq_true rfl) (lv' := [(2, .int (l2 + (nI 1))), (1, .int (l1 + x3)), (0, .ref (nB g.1 + l0))]) rfl dX10_usesAll_21 ?_
      refine X_goto hg (tgt := 4) dX10_usesAll_24 rfl ?_
      refine X_lv [2, 1, 0] rfl ?_
      exact ih _ _
set_option maxRecDepth 10000 in
theorem c_X10_usesAll (en : EN) (a0 : Nat) (h : Hp) (x0 : Int32) (e : f_X10_usesAll a0 h = some x0) : Ct en yX10_usesAll cX10_usesAll 3 (some .int) 0 0 0 0 [.ref (nB en + a0)] h (some (.int x0)) h := by
  refine Ct.of (by decide) rfl (Nat.le_of_ble_eq_true rfl) e (fun g hen hg hr => ?_)
  subst hen
  unfold f_X10_usesAll
  refine X_gd ?_
  refine X_iconst hg ic_i_0 dX10_usesAll_0 ?_
  refine X_istore_n hg rfl (Nat.le_of_ble_eq_true rfl) (lv' := [(1, .int (nI 0)), (0, .ref (nB g.1 + a0))]) rfl dX10_usesAll_1 ?_
  refine X_iconst hg ic_i_0 dX10_usesAll_2 ?_
  refine X_istore_n hg rfl (Nat.le_of_ble_eq_true rfl) (lv' := [(2, .int (nI 0)), (1, .int (nI 0)), (0, .ref (nB g.1 + a0))]) rfl dX10_usesAll_3 ?_
  refine X_lv [2, 1, 0] rfl ?_
  refine l_X10_usesAll_4 hg _ _ hr _ (fun y5 => ?_) _ _ _
  refine X_iload_n hg 0 rfl dX10_usesAll_27 ?_
  exact X_iret hg hr (Nat.le_of_ble_eq_true rfl) (Nat.le_of_ble_eq_true rfl) dX10_usesAll_28
set_option maxRecDepth 10000 in
theorem l_X10_withTwins_4 {g : XC} {x0 : Int32} (hg : XG g RX10 cX10_withTwins 3 4 92 0 0) (l0 : Nat) (h : Hp) (hr : XR g (some .int) "withTwins" (some (.int x0)) h 0 0) (K : Int32 → Option (Int32)) (hK0 : ∀ (l1 : Int32), Xo g x0 3 0 0 34 [(1, .int l1)] [] h (K l1)) : ∀ (n : Nat) (l1 : Int32) (l2 : Int32), Xo g x0 3 0 0 4 [(0, .ref (nB g.1 + l0)), (1, .int l1), (2, .int l2)] [] h (f_X10_withTwins_L4 l0 h K n l1 l2) := by
  intro n
  induction n with
  | zero =>
    intro l1 l2
    exact X_none
  | succ n ih =>
    intro l1 l2
    unfold f_X10_withTwins_L4
    refine X_iload_n hg 2 rfl dX10_withTwins_4 ?_
    refine X_aload_n hg 0 rfl dX10_withTwins_5 ?_
    refine X_getI hg (j := 2) cf_10 (Nat.le_of_ble_eq_true rfl) (Or.inl rfl) m_902 dX10_withTwins_6 (fun x1 _ => ?_)
    refine X_icmp_ge hg (tgt := 34) dX10_withTwins_9 rfl (fun c5 => ?_) (fun c5 => ?_)
    · refine X_lv [1] rfl ?_
      exact hK0 _
    · refine X_iload_n hg 1 rfl dX10_withTwins_12 ?_
      refine X_aload_n hg 0 rfl dX10_withTwins_13 ?_
      refine X_iload_n hg 2 rfl dX10_withTwins_14 ?_
      refine X_cVI0 hg mf_X10_twins m_1089 m_41 m_1087 cf_10 (fun _ e => gd_isO e) (fun y e => c_X10_twins g.1 l0 l2 h y e) (As := [.int l2]) rfl (Nat.le_of_ble_eq_true rfl) rfl (Nat.le_of_ble_eq_true rfl) (Nat.le_of_ble_eq_true rfl) (Nat.le_of_ble_eq_true rfl) (Nat.le_of_ble_eq_true rfl) dX10_withTwins_15 (fun x2 _ => ?_)
      refine X_reg (fun (v3 : Int32) o => Xo g x0 3 0 0 26 [(0, .ref (nB g.1 + l0)), (2, .int l2)] [.int v3, .int l1] h o) (fun kv3 hk3 => ?_) (fun v3 => ?_)
      · refine X_ib ?_
        refine X_if_le hg (tgt := 25) dX10_withTwins_18 rfl (fun c4 => ?_) (fun c4 => ?_)
        · refine X_iconst hg ic_i_0 dX10_withTwins_25 ?_
          refine X_lv [0, 2] rfl ?_
          exact hk3 (nI 0)
        · refine X_iconst hg ic_i_1 dX10_withTwins_21 ?_
          refine X_goto hg (tgt := 26) dX10_withTwins_22 rfl ?_
          refine X_lv [0, 2] rfl ?_
          exact hk3 (nI 1)
      · refine X_iadd hg dX10_withTwins_26 ?_
        refine X_istore_n hg rfl (Nat.le_of_ble_eq_true rfl) (lv' := [(1, .int (l1 + v3)), (0, .ref (nB g.1 + l0)), (2, .int l2)]) rfl dX10_withTwins_27 ?_
        refine X_iinc hg 2 rfl (v := (l2 + (nI 1))) (icc ic_i_1) (Nat.le_of_ble_eq_true rfl) (lv' := [(2, .int (l2 + (nI 1))), (1, .int (l1 + v3)), (0, .ref (nB g.1 + l0))]) rfl dX10_withTwins_28 ?_
        refine X_goto hg (tgt := 4) dX10_withTwins_31 rfl ?_
        refine X_lv [2, 1, 0] rfl ?_
        exact ih _ _
set_option maxRecDepth 10000 in
theorem c_X10_withTwins (en : EN) (a0 : Nat) (h : Hp) (x0 : Int32) (e : f_X10_withTwins a0 h = some x0) : Ct en yX10_withTwins cX10_withTwins 3 (some .int) 4 92 0 0 [.ref (nB en + a0)] h (some (.int x0)) h := by
  refine Ct.of (by decide) rfl (Nat.le_of_ble_eq_true rfl) e (fun g hen hg hr => ?_)
  subst hen
  unfold f_X10_withTwins
  refine X_gd ?_
  refine X_iconst hg ic_i_0 dX10_withTwins_0 ?_
  refine X_istore_n hg rfl (Nat.le_of_ble_eq_true rfl) (lv' := [(1, .int (nI 0)), (0, .ref (nB g.1 + a0))]) rfl dX10_withTwins_1 ?_
  refine X_iconst hg ic_i_0 dX10_withTwins_2 ?_
  refine X_istore_n hg rfl (Nat.le_of_ble_eq_true rfl) (lv' := [(2, .int (nI 0)), (1, .int (nI 0)), (0, .ref (nB g.1 + a0))]) rfl dX10_withTwins_3 ?_
  refine X_lv [2, 1, 0] rfl ?_
  refine l_X10_withTwins_4 hg _ _ hr _ (fun y6 => ?_) _ _ _
  refine X_iload_n hg 0 rfl dX10_withTwins_34 ?_
  exact X_iret hg hr (Nat.le_of_ble_eq_true rfl) (Nat.le_of_ble_eq_true rfl) dX10_withTwins_35
set_option maxRecDepth 10000 in
theorem l_X10_codesMany_17 {g : XC} {x0 : Int32} (hg : XG g RX10 cX10_codesMany 5 3 69 0 0) (l0 : Nat) (l1 : Int32) (l2 : Int32) (h : Hp) (hr : XR g (some .int) "codesMany" (some (.int x0)) h 0 0) (K : Int32 → Option (Int32)) (hK0 : ∀ (l3 : Int32), Xo g x0 5 0 0 49 [(0, .ref (nB g.1 + l0)), (1, .int l1), (2, .int l2), (3, .int l3)] [] h (K l3)) : ∀ (n : Nat) (l3 : Int32) (l4 : Int32), Xo g x0 5 0 0 17 [(0, .ref (nB g.1 + l0)), (1, .int l1), (2, .int l2), (3, .int l3), (4, .int l4)] [] h (f_X10_codesMany_L17 l0 l1 l2 h K n l3 l4) := by
  intro n
  induction n with
  | zero =>
    intro l3 l4
    exact X_none
  | succ n ih =>
    intro l3 l4
    unfold f_X10_codesMany_L17
    refine X_iload hg 4 rfl dX10_codesMany_17 ?_
    refine X_iload_n hg 2 rfl dX10_codesMany_19 ?_
    refine X_icmp_ge hg (tgt := 49) dX10_codesMany_20 rfl (fun c6 => ?_) (fun c6 => ?_)
    · refine X_lv [0, 1, 2, 3] rfl ?_
      exact hK0 _
    · refine X_iload_n hg 3 rfl dX10_codesMany_23 ?_
      refine X_reg (fun (v2 : Int32) o => Xo g x0 5 0 0 42 [(0, .ref (nB g.1 + l0)), (1, .int l1), (2, .int l2), (4, .int l4)] [.int v2] h o) (fun kv2 hk2 => ?_) (fun v2 => ?_)
      · refine X_ib ?_
        refine X_if_eq hg (tgt := 41) dX10_codesMany_24 rfl (fun c5 => ?_) (fun c5 => ?_)
        · refine X_iconst hg ic_i_0 dX10_codesMany_41 ?_
          refine X_lv [0, 1, 2, 4] rfl ?_
          exact hk2 (nI 0)
        · refine X_aload_n hg 0 rfl dX10_codesMany_27 ?_
          refine X_iload_n hg 2 rfl dX10_codesMany_28 ?_
          refine X_iload hg 4 rfl dX10_codesMany_29 ?_
          refine X_as ?_
          refine X_cVI0 hg mf_X10_isTwin m_1093 m_42 m_1091 cf_10 (fun _ e => gd_isO e) (fun y e => c_X10_isTwin g.1 l0 l2 l4 h y e) (As := [.int l2, .int l4]) rfl (Nat.le_of_ble_eq_true rfl) rfl (Nat.le_of_ble_eq_true rfl) (Nat.le_of_ble_eq_true rfl) (Nat.le_of_ble_eq_true rfl) (Nat.le_of_ble_eq_true rfl) dX10_codesMany_31 (fun x3 _ => ?_)
          refine X_ib ?_
          refine X_if_ne hg (tgt := 41) dX10_codesMany_34 rfl (fun c4 => ?_) (fun c4 => ?_)
          · refine X_iconst hg ic_i_1 dX10_codesMany_37 ?_
            refine X_goto hg (tgt := 42) dX10_codesMany_38 rfl ?_
            refine X_lv [0, 1, 2, 4] rfl ?_
            exact hk2 (nI 1)
          · refine X_iconst hg ic_i_0 dX10_codesMany_41 ?_
            refine X_lv [0, 1, 2, 4] rfl ?_
            exact hk2 (nI 0)
      · refine X_istore_n hg rfl (Nat.le_of_ble_eq_true rfl) (lv' := [(3, .int v2), (0, .ref (nB g.1 + l0)), (1, .int l1), (2, .int l2), (4, .int l4)]) rfl dX10_codesMany_42 ?_
        refine X_iinc hg 4 rfl (v := (l4 + (nI 1))) (icc ic_i_1) (Nat.le_of_ble_eq_true rfl) (lv' := [(4, .int (l4 + (nI 1))), (3, .int v2), (0, .ref (nB g.1 + l0)), (1, .int l1), (2, .int l2)]) rfl dX10_codesMany_43 ?_
        refine X_goto hg (tgt := 17) dX10_codesMany_46 rfl ?_
        refine X_lv [2, 3, 4, 1, 0] rfl ?_
        exact ih _ _
set_option maxRecDepth 10000 in
theorem l_X10_codesMany_4 {g : XC} {x0 : Int32} (hg : XG g RX10 cX10_codesMany 5 3 69 0 0) (l0 : Nat) (h : Hp) (hr : XR g (some .int) "codesMany" (some (.int x0)) h 0 0) (K : Int32 → Option (Int32)) (hK0 : ∀ (l1 : Int32), Xo g x0 5 0 0 67 [(1, .int l1)] [] h (K l1)) : ∀ (n : Nat) (l1 : Int32) (l2 : Int32), Xo g x0 5 0 0 4 [(0, .ref (nB g.1 + l0)), (1, .int l1), (2, .int l2)] [] h (f_X10_codesMany_L4 l0 h K n l1 l2) := by
  intro n
  induction n with
  | zero =>
    intro l1 l2
    exact X_none
  | succ n ih =>
    intro l1 l2
    unfold f_X10_codesMany_L4
    refine X_iload_n hg 2 rfl dX10_codesMany_4 ?_
    refine X_aload_n hg 0 rfl dX10_codesMany_5 ?_
    refine X_getI hg (j := 2) cf_10 (Nat.le_of_ble_eq_true rfl) (Or.inl rfl) m_902 dX10_codesMany_6 (fun x1 _ => ?_)
    refine X_icmp_ge hg (tgt := 67) dX10_codesMany_9 rfl (fun c10 => ?_) (fun c10 => ?_)
    · refine X_lv [1] rfl ?_
      exact hK0 _
    · refine X_iconst hg ic_i_1 dX10_codesMany_12 ?_
      refine X_istore_n hg rfl (Nat.le_of_ble_eq_true rfl) (lv' := [(3, .int (nI 1)), (0, .ref (nB g.1 + l0)), (1, .int l1), (2, .int l2)]) rfl dX10_codesMany_13 ?_
      refine X_iconst hg ic_i_0 dX10_codesMany_14 ?_
      refine X_istore hg (Nat.le_of_ble_eq_true rfl) (lv' := [(4, .int (nI 0)), (3, .int (nI 1)), (0, .ref (nB g.1 + l0)), (1, .int l1), (2, .int l2)]) rfl dX10_codesMany_15 ?_
      refine X_lv [2, 3, 4, 1, 0] rfl ?_
      refine l_X10_codesMany_17 hg _ _ _ _ hr _ (fun y7 => ?_) _ _ _
      refine X_iload_n hg 1 rfl dX10_codesMany_49 ?_
      refine X_iload_n hg 3 rfl dX10_codesMany_50 ?_
      refine X_reg (fun (v8 : Int32) o => Xo g x0 5 0 0 59 [(0, .ref (nB g.1 + l0)), (2, .int l2)] [.int v8, .int l1] h o) (fun kv8 hk8 => ?_) (fun v8 => ?_)
      · refine X_ib ?_
        refine X_if_eq hg (tgt := 58) dX10_codesMany_51 rfl (fun c9 => ?_) (fun c9 => ?_)
        · refine X_iconst hg ic_i_0 dX10_codesMany_58 ?_
          refine X_lv [0, 2] rfl ?_
          exact hk8 (nI 0)
        · refine X_iconst hg ic_i_1 dX10_codesMany_54 ?_
          refine X_goto hg (tgt := 59) dX10_codesMany_55 rfl ?_
          refine X_lv [0, 2] rfl ?_
          exact hk8 (nI 1)
      · refine X_iadd hg dX10_codesMany_59 ?_
        refine X_istore_n hg rfl (Nat.le_of_ble_eq_true rfl) (lv' := [(1, .int (l1 + v8)), (0, .ref (nB g.1 + l0)), (2, .int l2)]) rfl dX10_codesMany_60 ?_
        refine X_iinc hg 2 rfl (v := (l2 + (nI 1))) (icc ic_i_1) (Nat.le_of_ble_eq_true rfl) (lv' := [(2, .int (l2 + (nI 1))), (1, .int (l1 + v8)), (0, .ref (nB g.1 + l0))]) rfl dX10_codesMany_61 ?_
        refine X_goto hg (tgt := 4) dX10_codesMany_64 rfl ?_
        refine X_lv [2, 1, 0] rfl ?_
        exact ih _ _
set_option maxRecDepth 10000 in
theorem c_X10_codesMany (en : EN) (a0 : Nat) (h : Hp) (x0 : Int32) (e : f_X10_codesMany a0 h = some x0) : Ct en yX10_codesMany cX10_codesMany 5 (some .int) 3 69 0 0 [.ref (nB en + a0)] h (some (.int x0)) h := by
  refine Ct.of (by decide) rfl (Nat.le_of_ble_eq_true rfl) e (fun g hen hg hr => ?_)
  subst hen
  unfold f_X10_codesMany
  refine X_gd ?_
  refine X_iconst hg ic_i_0 dX10_codesMany_0 ?_
  refine X_istore_n hg rfl (Nat.le_of_ble_eq_true rfl) (lv' := [(1, .int (nI 0)), (0, .ref (nB g.1 + a0))]) rfl dX10_codesMany_1 ?_
  refine X_iconst hg ic_i_0 dX10_codesMany_2 ?_
  refine X_istore_n hg rfl (Nat.le_of_ble_eq_true rfl) (lv' := [(2, .int (nI 0)), (1, .int (nI 0)), (0, .ref (nB g.1 + a0))]) rfl dX10_codesMany_3 ?_
  refine X_lv [2, 1, 0] rfl ?_
  refine l_X10_codesMany_4 hg _ _ hr _ (fun y11 => ?_) _ _ _
  refine X_iload_n hg 0 rfl dX10_codesMany_67 ?_
  exact X_iret hg hr (Nat.le_of_ble_eq_true rfl) (Nat.le_of_ble_eq_true rfl) dX10_codesMany_68
set_option maxRecDepth 10000 in
theorem l_X10_mostTelling_4 {g : XC} {x0 : Int32} (hg : XG g RX10 cX10_mostTelling 4 3 71 0 0) (l0 : Nat) (h : Hp) (hr : XR g (some .int) "mostTelling" (some (.int x0)) h 0 0) (K : Int32 → Option (Int32)) (hK0 : ∀ (l1 : Int32), Xo g x0 4 0 0 35 [(1, .int l1)] [] h (K l1)) : ∀ (n : Nat) (l1 : Int32) (l2 : Int32), Xo g x0 4 0 0 4 [(0, .ref (nB g.1 + l0)), (1, .int l1), (2, .int l2)] [] h (f_X10_mostTelling_L4 l0 h K n l1 l2) := by
  intro n
  induction n with
  | zero =>
    intro l1 l2
    exact X_none
  | succ n ih =>
    intro l1 l2
    unfold f_X10_mostTelling_L4
    refine X_iload_n hg 2 rfl dX10_mostTelling_4 ?_
    refine X_aload_n hg 0 rfl dX10_mostTelling_5 ?_
    refine X_getI hg (j := 2) cf_10 (Nat.le_of_ble_eq_true rfl) (Or.inl rfl) m_902 dX10_mostTelling_6 (fun x1 _ => ?_)
    refine X_icmp_ge hg (tgt := 35) dX10_mostTelling_9 rfl (fun c5 => ?_) (fun c5 => ?_)
    · refine X_lv [1] rfl ?_
      exact hK0 _
    · refine X_aload_n hg 0 rfl dX10_mostTelling_12 ?_
      refine X_iload_n hg 2 rfl dX10_mostTelling_13 ?_
      refine X_cVI0 hg mf_X10_telling m_1105 m_45 m_1103 cf_10 (fun _ e => gd_isO e) (fun y e => c_X10_telling g.1 l0 l2 h y e) (As := [.int l2]) rfl (Nat.le_of_ble_eq_true rfl) rfl (Nat.le_of_ble_eq_true rfl) (Nat.le_of_ble_eq_true rfl) (Nat.le_of_ble_eq_true rfl) (Nat.le_of_ble_eq_true rfl) dX10_mostTelling_14 (fun x2 _ => ?_)
      refine X_istore_n hg rfl (Nat.le_of_ble_eq_true rfl) (lv' := [(3, .int x2), (0, .ref (nB g.1 + l0)), (1, .int l1), (2, .int l2)]) rfl dX10_mostTelling_17 ?_
      refine X_iload_n hg 0 rfl dX10_mostTelling_18 ?_
      refine X_iload_n hg 2 rfl dX10_mostTelling_19 ?_
      refine X_reg (fun (v3 : Int32) o => Xo g x0 4 0 0 28 [(0, .ref (nB g.1 + l0)), (2, .int l2)] [.int v3] h o) (fun kv3 hk3 => ?_) (fun v3 => ?_)
      · refine X_ib ?_
        refine X_icmp_le hg (tgt := 27) dX10_mostTelling_20 rfl (fun c4 => ?_) (fun c4 => ?_)
        · refine X_iload_n hg 2 rfl dX10_mostTelling_27 ?_
          refine X_lv [1, 3] rfl ?_
          exact hk3 l1
        · refine X_iload_n hg 0 rfl dX10_mostTelling_23 ?_
          refine X_goto hg (tgt := 28) dX10_mostTelling_24 rfl ?_
          refine X_lv [1, 3] rfl ?_
          exact hk3 x2
      · refine X_istore_n hg rfl (Nat.le_of_ble_eq_true rfl) (lv' := [(1, .int v3), (0, .ref (nB g.1 + l0)), (2, .int l2)]) rfl dX10_mostTelling_28 ?_
        refine X_iinc hg 2 rfl (v := (l2 + (nI 1))) (icc ic_i_1) (Nat.le_of_ble_eq_true rfl) (lv' := [(2, .int (l2 + (nI 1))), (1, .int v3), (0, .ref (nB g.1 + l0))]) rfl dX10_mostTelling_29 ?_
        refine X_goto hg (tgt := 4) dX10_mostTelling_32 rfl ?_
        refine X_lv [2, 1, 0] rfl ?_
        exact ih _ _
set_option maxRecDepth 10000 in
theorem c_X10_mostTelling (en : EN) (a0 : Nat) (h : Hp) (x0 : Int32) (e : f_X10_mostTelling a0 h = some x0) : Ct en yX10_mostTelling cX10_mostTelling 4 (some .int) 3 71 0 0 [.ref (nB en + a0)] h (some (.int x0)) h := by
  refine Ct.of (by decide) rfl (Nat.le_of_ble_eq_true rfl) e (fun g hen hg hr => ?_)
  subst hen
  unfold f_X10_mostTelling
  refine X_gd ?_
  refine X_iconst hg ic_i_m1 dX10_mostTelling_0 ?_
  refine X_istore_n hg rfl (Nat.le_of_ble_eq_true rfl) (lv' := [(1, .int m1), (0, .ref (nB g.1 + a0))]) rfl dX10_mostTelling_1 ?_
  refine X_iconst hg ic_i_0 dX10_mostTelling_2 ?_
  refine X_istore_n hg rfl (Nat.le_of_ble_eq_true rfl) (lv' := [(2, .int (nI 0)), (1, .int m1), (0, .ref (nB g.1 + a0))]) rfl dX10_mostTelling_3 ?_
  refine X_lv [2, 1, 0] rfl ?_
  refine l_X10_mostTelling_4 hg _ _ hr _ (fun y6 => ?_) _ _ _
  refine X_iload_n hg 0 rfl dX10_mostTelling_35 ?_
  exact X_iret hg hr (Nat.le_of_ble_eq_true rfl) (Nat.le_of_ble_eq_true rfl) dX10_mostTelling_36
set_option maxRecDepth 10000 in
theorem l_X10_pressesAll_4 {g : XC} {x0 : Int32} (hg : XG g RX10 cX10_pressesAll 3 4 95 0 0) (l0 : Nat) (h : Hp) (hr : XR g (some .int) "pressesAll" (some (.int x0)) h 0 0) (K : Int32 → Option (Int32)) (hK0 : ∀ (l1 : Int32), Xo g x0 3 0 0 33 [(1, .int l1)] [] h (K l1)) : ∀ (n : Nat) (l1 : Int32) (l2 : Int32), Xo g x0 3 0 0 4 [(0, .ref (nB g.1 + l0)), (1, .int l1), (2, .int l2)] [] h (f_X10_pressesAll_L4 l0 h K n l1 l2) := by
  intro n
  induction n with
  | zero =>
    intro l1 l2
    exact X_none
  | succ n ih =>
    intro l1 l2
    unfold f_X10_pressesAll_L4
    refine X_iload_n hg 2 rfl dX10_pressesAll_4 ?_
    refine X_aload_n hg 0 rfl dX10_pressesAll_5 ?_
    refine X_getI hg (j := 2) cf_10 (Nat.le_of_ble_eq_true rfl) (Or.inl rfl) m_902 dX10_pressesAll_6 (fun x1 _ => ?_)
    refine X_icmp_ge hg (tgt := 33) dX10_pressesAll_9 rfl (fun c5 => ?_) (fun c5 => ?_)
    · refine X_lv [1] rfl ?_
      exact hK0 _
    · refine X_iload_n hg 1 rfl dX10_pressesAll_12 ?_
      refine X_aload_n hg 0 rfl dX10_pressesAll_13 ?_
      refine X_getR hg (j := 5) cf_10 (Nat.le_of_ble_eq_true rfl) (Or.inr ⟨_, rfl⟩) m_905 dX10_pressesAll_14 (fun x2 _ => ?_)
      refine X_iload_n hg 2 rfl dX10_pressesAll_17 ?_
      refine X_ald hg dX10_pressesAll_18 (fun x3 _ => ?_)
      refine X_aload_n hg 0 rfl dX10_pressesAll_19 ?_
      refine X_iload_n hg 2 rfl dX10_pressesAll_20 ?_
      refine X_cVI0 hg mf_X10_presses m_1109 m_46 m_1107 cf_10 (fun _ e => gd_isO e) (fun y e => c_X10_presses g.1 l0 l2 h y e) (As := [.int l2]) rfl (Nat.le_of_ble_eq_true rfl) rfl (Nat.le_of_ble_eq_true rfl) (Nat.le_of_ble_eq_true rfl) (Nat.le_of_ble_eq_true rfl) (Nat.le_of_ble_eq_true rfl) dX10_pressesAll_21 (fun x4 _ => ?_)
      refine X_imul hg dX10_pressesAll_24 ?_
      refine X_iadd hg dX10_pressesAll_25 ?_
      refine X_istore_n hg rfl (Nat.le_of_ble_eq_true rfl) (lv' := [(1, .int (l1 + (x3 * x4))), (0, .ref (nB g.1 + l0)), (2, .int l2)]) rfl dX10_pressesAll_26 ?_
      refine X_iinc hg 2 rfl (v := (l2 + (nI 1))) (icc ic_i_1) (Nat.le_of_ble_eq_true rfl) (lv' := [(2, .int (l2 + (nI 1))), (1, .int (l1 + (x3 * x4))), (0, .ref (nB g.1 + l0))]) rfl dX10_pressesAll_27 ?_
      refine X_goto hg (tgt := 4) dX10_pressesAll_30 rfl ?_
      refine X_lv [2, 1, 0] rfl ?_
      exact ih _ _
set_option maxRecDepth 10000 in
theorem c_X10_pressesAll (en : EN) (a0 : Nat) (h : Hp) (x0 : Int32) (e : f_X10_pressesAll a0 h = some x0) : Ct en yX10_pressesAll cX10_pressesAll 3 (some .int) 4 95 0 0 [.ref (nB en + a0)] h (some (.int x0)) h := by
  refine Ct.of (by decide) rfl (Nat.le_of_ble_eq_true rfl) e (fun g hen hg hr => ?_)
  subst hen
  unfold f_X10_pressesAll
  refine X_gd ?_
  refine X_iconst hg ic_i_0 dX10_pressesAll_0 ?_
  refine X_istore_n hg rfl (Nat.le_of_ble_eq_true rfl) (lv' := [(1, .int (nI 0)), (0, .ref (nB g.1 + a0))]) rfl dX10_pressesAll_1 ?_
  refine X_iconst hg ic_i_0 dX10_pressesAll_2 ?_
  refine X_istore_n hg rfl (Nat.le_of_ble_eq_true rfl) (lv' := [(2, .int (nI 0)), (1, .int (nI 0)), (0, .ref (nB g.1 + a0))]) rfl dX10_pressesAll_3 ?_
  refine X_lv [2, 1, 0] rfl ?_
  refine l_X10_pressesAll_4 hg _ _ hr _ (fun y6 => ?_) _ _ _
  refine X_iload_n hg 0 rfl dX10_pressesAll_33 ?_
  exact X_iret hg hr (Nat.le_of_ble_eq_true rfl) (Nat.le_of_ble_eq_true rfl) dX10_pressesAll_34
set_option maxRecDepth 10000 in
theorem l_X10_digitsAll_4 {g : XC} {x0 : Int32} (hg : XG g RX10 cX10_digitsAll 3 0 0 0 0) (l0 : Nat) (h : Hp) (hr : XR g (some .int) "digitsAll" (some (.int x0)) h 0 0) (K : Int32 → Option (Int32)) (hK0 : ∀ (l1 : Int32), Xo g x0 3 0 0 34 [(1, .int l1)] [] h (K l1)) : ∀ (n : Nat) (l1 : Int32) (l2 : Int32), Xo g x0 3 0 0 4 [(0, .ref (nB g.1 + l0)), (1, .int l1), (2, .int l2)] [] h (f_X10_digitsAll_L4 l0 h K n l1 l2) := by
  intro n
  induction n with
  | zero =>
    intro l1 l2
    exact X_none
  | succ n ih =>
    intro l1 l2
    unfold f_X10_digitsAll_L4
    refine X_iload_n hg 2 rfl dX10_digitsAll_4 ?_
    refine X_aload_n hg 0 rfl dX10_digitsAll_5 ?_
    refine X_getI hg (j := 2) cf_10 (Nat.le_of_ble_eq_true rfl) (Or.inl rfl) m_902 dX10_digitsAll_6 (fun x1 _ => ?_)
    refine X_icmp_ge hg (tgt := 34) dX10_digitsAll_9 rfl (fun c6 => ?_) (fun c6 => ?_)
    · refine X_lv [1] rfl ?_
      exact hK0 _
    · refine X_iload_n hg 1 rfl dX10_digitsAll_12 ?_
      refine X_aload_n hg 0 rfl dX10_digitsAll_13 ?_
      refine X_getR hg (j := 5) cf_10 (Nat.le_of_ble_eq_true rfl) (Or.inr ⟨_, rfl⟩) m_905 dX10_digitsAll_14 (fun x2 _ => ?_)
      refine X_iload_n hg 2 rfl dX10_digitsAll_17 ?_
      refine X_ald hg dX10_digitsAll_18 (fun x3 _ => ?_)
      refine X_aload_n hg 0 rfl dX10_digitsAll_19 ?_
      refine X_getR hg (j := 3) cf_10 (Nat.le_of_ble_eq_true rfl) (Or.inr ⟨_, rfl⟩) m_903 dX10_digitsAll_20 (fun x4 _ => ?_)
      refine X_iload_n hg 2 rfl dX10_digitsAll_23 ?_
      refine X_ald hg dX10_digitsAll_24 (fun x5 _ => ?_)
      refine X_imul hg dX10_digitsAll_25 ?_
      refine X_iadd hg dX10_digitsAll_26 ?_
      refine X_istore_n hg rfl (Nat.le_of_ble_eq_true rfl) (lv' := [(1, .int (l1 + (x3 * x5))), (0, .ref (nB g.1 + l0)), (2, .int l2)]) rfl dX10_digitsAll_27 ?_
      refine X_iinc hg 2 rfl (v := (l2 + (nI 1))) (icc ic_i_1) (Nat.le_of_ble_eq_true rfl) (lv' := [(2, .int (l2 + (nI 1))), (1, .int (l1 + (x3 * x5))), (0, .ref (nB g.1 + l0))]) rfl dX10_digitsAll_28 ?_
      refine X_goto hg (tgt := 4) dX10_digitsAll_31 rfl ?_
      refine X_lv [2, 1, 0] rfl ?_
      exact ih _ _
set_option maxRecDepth 10000 in
theorem c_X10_digitsAll (en : EN) (a0 : Nat) (h : Hp) (x0 : Int32) (e : f_X10_digitsAll a0 h = some x0) : Ct en yX10_digitsAll cX10_digitsAll 3 (some .int) 0 0 0 0 [.ref (nB en + a0)] h (some (.int x0)) h := by
  refine Ct.of (by decide) rfl (Nat.le_of_ble_eq_true rfl) e (fun g hen hg hr => ?_)
  subst hen
  unfold f_X10_digitsAll
  refine X_gd ?_
  refine X_iconst hg ic_i_0 dX10_digitsAll_0 ?_
  refine X_istore_n hg rfl (Nat.le_of_ble_eq_true rfl) (lv' := [(1, .int (nI 0)), (0, .ref (nB g.1 + a0))]) rfl dX10_digitsAll_1 ?_
  refine X_iconst hg ic_i_0 dX10_digitsAll_2 ?_
  refine X_istore_n hg rfl (Nat.le_of_ble_eq_true rfl) (lv' := [(2, .int (nI 0)), (1, .int (nI 0)), (0, .ref (nB g.1 + a0))]) rfl dX10_digitsAll_3 ?_
  refine X_lv [2, 1, 0] rfl ?_
  refine l_X10_digitsAll_4 hg _ _ hr _ (fun y7 => ?_) _ _ _
  refine X_iload_n hg 0 rfl dX10_digitsAll_34 ?_
  exact X_iret hg hr (Nat.le_of_ble_eq_true rfl) (Nat.le_of_ble_eq_true rfl) dX10_digitsAll_35
set_option maxRecDepth 10000 in
theorem c_X10_aboutNow (en : EN) (a0 : Nat) (a1 : Int32) (h : Hp) (x0 : Int32) (e : f_X10_aboutNow a0 a1 h = some x0) : Ct en yX10_aboutNow cX10_aboutNow 2 (some .int) 5 117 0 0 [.ref (nB en + a0), .int a1] h (some (.int x0)) h := by
  refine Ct.of (by decide) rfl (Nat.le_of_ble_eq_true rfl) e (fun g hen hg hr => ?_)
  subst hen
  unfold f_X10_aboutNow
  refine X_gd ?_
  refine X_iload_n hg 1 rfl dX10_aboutNow_0 ?_
  refine X_tsw hg (v := (nI 0)) (tgt := 40) dX10_aboutNow_1 (by decide) (by decide) rfl rfl (fun c2 => ?_) (fun c2 => ?_)
  · refine X_aload_n hg 0 rfl dX10_aboutNow_40 ?_
    refine X_getI hg (j := 2) cf_10 (Nat.le_of_ble_eq_true rfl) (Or.inl rfl) m_902 dX10_aboutNow_41 (fun x1 _ => ?_)
    exact X_iret hg hr (Nat.le_of_ble_eq_true rfl) (Nat.le_of_ble_eq_true rfl) dX10_aboutNow_44
  · skip
    refine X_tsw hg (v := (nI 1)) (tgt := 45) dX10_aboutNow_1 (by decide) (by decide) rfl rfl (fun c4 => ?_) (fun c4 => ?_)
    · refine X_aload_n hg 0 rfl dX10_aboutNow_45 ?_
      refine X_cVI0 hg mf_X10_usesAll m_1182 m_60 m_1180 cf_10 (fun _ e => gd_isO e) (fun y e => c_X10_usesAll g.1 a0 h y e) (As := []) rfl (Nat.le_of_ble_eq_true rfl) rfl (Nat.le_of_ble_eq_true rfl) (Nat.le_of_ble_eq_true rfl) (Nat.le_of_ble_eq_true rfl) (Nat.le_of_ble_eq_true rfl) dX10_aboutNow_46 (fun x3 _ => ?_)
      exact X_iret hg hr (Nat.le_of_ble_eq_true rfl) (Nat.le_of_ble_eq_true rfl) dX10_aboutNow_49
    · skip
      refine X_tsw hg (v := (nI 2)) (tgt := 50) dX10_aboutNow_1 (by decide) (by decide) rfl rfl (fun c6 => ?_) (fun c6 => ?_)
      · refine X_aload_n hg 0 rfl dX10_aboutNow_50 ?_
        refine X_cVI0 hg mf_X10_withTwins m_1186 m_61 m_1184 cf_10 (fun _ e => gd_isO e) (fun y e => c_X10_withTwins g.1 a0 h y e) (As := []) rfl (Nat.le_of_ble_eq_true rfl) rfl (Nat.le_of_ble_eq_true rfl) (Nat.le_of_ble_eq_true rfl) (Nat.le_of_ble_eq_true rfl) (Nat.le_of_ble_eq_true rfl) dX10_aboutNow_51 (fun x5 _ => ?_)
        exact X_iret hg hr (Nat.le_of_ble_eq_true rfl) (Nat.le_of_ble_eq_true rfl) dX10_aboutNow_54
      · skip
        refine X_tsw hg (v := (nI 3)) (tgt := 55) dX10_aboutNow_1 (by decide) (by decide) rfl rfl (fun c8 => ?_) (fun c8 => ?_)
        · refine X_aload_n hg 0 rfl dX10_aboutNow_55 ?_
          refine X_cVI0 hg mf_X10_codesMany m_1190 m_62 m_1188 cf_10 (fun _ e => gd_isO e) (fun y e => c_X10_codesMany g.1 a0 h y e) (As := []) rfl (Nat.le_of_ble_eq_true rfl) rfl (Nat.le_of_ble_eq_true rfl) (Nat.le_of_ble_eq_true rfl) (Nat.le_of_ble_eq_true rfl) (Nat.le_of_ble_eq_true rfl) dX10_aboutNow_56 (fun x7 _ => ?_)
          exact X_iret hg hr (Nat.le_of_ble_eq_true rfl) (Nat.le_of_ble_eq_true rfl) dX10_aboutNow_59
        · skip
          refine X_tsw hg (v := (nI 4)) (tgt := 60) dX10_aboutNow_1 (by decide) (by decide) rfl rfl (fun c10 => ?_) (fun c10 => ?_)
          · refine X_aload_n hg 0 rfl dX10_aboutNow_60 ?_
            refine X_cVI0 hg mf_X10_mostTelling m_1194 m_63 m_1192 cf_10 (fun _ e => gd_isO e) (fun y e => c_X10_mostTelling g.1 a0 h y e) (As := []) rfl (Nat.le_of_ble_eq_true rfl) rfl (Nat.le_of_ble_eq_true rfl) (Nat.le_of_ble_eq_true rfl) (Nat.le_of_ble_eq_true rfl) (Nat.le_of_ble_eq_true rfl) dX10_aboutNow_61 (fun x9 _ => ?_)
            exact X_iret hg hr (Nat.le_of_ble_eq_true rfl) (Nat.le_of_ble_eq_true rfl) dX10_aboutNow_64
          · skip
            refine X_tsw hg (v := (nI 5)) (tgt := 65) dX10_aboutNow_1 (by decide) (by decide) rfl rfl (fun c12 => ?_) (fun c12 => ?_)
            · refine X_aload_n hg 0 rfl dX10_aboutNow_65 ?_
              refine X_cVI0 hg mf_X10_pressesAll m_1198 m_64 m_1196 cf_10 (fun _ e => gd_isO e) (fun y e => c_X10_pressesAll g.1 a0 h y e) (As := []) rfl (Nat.le_of_ble_eq_true rfl) rfl (Nat.le_of_ble_eq_true rfl) (Nat.le_of_ble_eq_true rfl) (Nat.le_of_ble_eq_true rfl) (Nat.le_of_ble_eq_true rfl) dX10_aboutNow_66 (fun x11 _ => ?_)
              exact X_iret hg hr (Nat.le_of_ble_eq_true rfl) (Nat.le_of_ble_eq_true rfl) dX10_aboutNow_69
            · skip
              refine X_tsd hg (tgt := 70) dX10_aboutNow_1 (by have q0 := lv_neT c2 (a := 0) rfl; have q1 := lv_neT c4 (a := 1) rfl; have q2 := lv_neT c6 (a := 2) rfl; have q3 := lv_neT c8 (a := 3) rfl; have q4 := lv_neT c10 (a := 4) rfl; have q5 := lv_neT c12 (a := 5) rfl; omega) rfl ?_
              refine X_aload_n hg 0 rfl dX10_aboutNow_70 ?_
              refine X_cVI0 hg mf_X10_digitsAll m_1202 m_65 m_1200 cf_10 (fun _ e => gd_isO e) (fun y e => c_X10_digitsAll g.1 a0 h y e) (As := []) rfl (Nat.le_of_ble_eq_true rfl) rfl (Nat.le_of_ble_eq_true rfl) (Nat.le_of_ble_eq_true rfl) (Nat.le_of_ble_eq_true rfl) (Nat.le_of_ble_eq_true rfl) dX10_aboutNow_71 (fun x13 _ => ?_)
              exact X_iret hg hr (Nat.le_of_ble_eq_true rfl) (Nat.le_of_ble_eq_true rfl) dX10_aboutNow_74
set_option maxRecDepth 10000 in
theorem c_X10_about (en : EN) (a0 : Nat) (a1 : Int32) (h : Hp) (x0 : Int32) (e : f_X10_about a0 a1 h = some x0) : Ct en yX10_about cX10_about 2 (some .int) 6 138 0 0 [.ref (nB en + a0), .int a1] h (some (.int x0)) h := by
  refine Ct.of (by decide) rfl (Nat.le_of_ble_eq_true rfl) e (fun g hen hg hr => ?_)
  subst hen
  unfold f_X10_about
  refine X_gd ?_
  refine X_iload_n hg 1 rfl dX10_about_0 ?_
  refine X_iconst hg ic_i_0 dX10_about_1 ?_
  refine X_bipush hg ic_b_6 dX10_about_2 ?_
  refine X_cSI0 hg mf_X10_within m_1005 m_1004 (fun y e => c_X10_within g.1 a1 (nI 0) (nI 6) h y e) (As := [.int a1, .int (nI 0), .int (nI 6)]) rfl (Nat.le_of_ble_eq_true rfl) rfl (Nat.le_of_ble_eq_true rfl) (Nat.le_of_ble_eq_true rfl) (Nat.le_of_ble_eq_true rfl) (Nat.le_of_ble_eq_true rfl) dX10_about_4 (fun x1 _ => ?_)
  refine X_reg (fun (v2 : Int32) o => Xo g x0 2 0 0 20 [] [.int v2] h o) (fun kv2 hk2 => ?_) (fun v2 => ?_)
  · refine X_ib ?_
    refine X_if_eq hg (tgt := 18) dX10_about_7 rfl (fun c4 => ?_) (fun c4 => ?_)
    · refine X_bipush hg ic_b_m102 dX10_about_18 ?_
      refine X_lv [] rfl ?_
      exact hk2 m102
    · refine X_aload_n hg 0 rfl dX10_about_10 ?_
      refine X_iload_n hg 1 rfl dX10_about_11 ?_
      refine X_as ?_
      refine X_cVI0 hg mf_X10_aboutNow m_1178 m_59 m_1176 cf_10 (fun _ e => gd_isO e) (fun y e => c_X10_aboutNow g.1 a0 a1 h y e) (As := [.int a1]) rfl (Nat.le_of_ble_eq_true rfl) rfl (Nat.le_of_ble_eq_true rfl) (Nat.le_of_ble_eq_true rfl) (Nat.le_of_ble_eq_true rfl) (Nat.le_of_ble_eq_true rfl) dX10_about_12 (fun x3 _ => ?_)
      refine X_goto hg (tgt := 20) dX10_about_15 rfl ?_
      refine X_lv [] rfl ?_
      exact hk2 x3
  · exact X_iret hg hr (Nat.le_of_ble_eq_true rfl) (Nat.le_of_ble_eq_true rfl) dX10_about_20
set_option maxRecDepth 10000 in
theorem c_X10_press (en : EN) (a0 : Nat) (a1 : Int32) (h : Hp) (x0 : Int32 × Hp) (e : f_X10_press a0 a1 h = some x0) : Ct en yX10_press cX10_press 2 (some .int) 1 22 0 0 [.ref (nB en + a0), .int a1] h (some (.int x0.1)) x0.2 := by
  refine Ct.of (by decide) rfl (Nat.le_of_ble_eq_true rfl) e (fun g hen hg hr => ?_)
  subst hen
  unfold f_X10_press
  refine X_gd ?_
  refine X_iload_n hg 1 rfl dX10_press_0 ?_
  refine X_iconst hg ic_i_2 dX10_press_1 ?_
  refine X_bipush hg ic_b_9 dX10_press_2 ?_
  refine X_cSI0 hg mf_X10_within m_1005 m_1004 (fun y e => c_X10_within g.1 a1 (nI 2) (nI 9) h y e) (As := [.int a1, .int (nI 2), .int (nI 9)]) rfl (Nat.le_of_ble_eq_true rfl) rfl (Nat.le_of_ble_eq_true rfl) (Nat.le_of_ble_eq_true rfl) (Nat.le_of_ble_eq_true rfl) (Nat.le_of_ble_eq_true rfl) dX10_press_4 (fun x1 _ => ?_)
  refine X_if_ne hg (tgt := 13) dX10_press_7 rfl (fun c10 => ?_) (fun c10 => ?_)
  · refine X_bipush hg ic_b_m102 dX10_press_10 ?_
    exact X_iretW hg hr (Nat.le_of_ble_eq_true rfl) (Nat.le_of_ble_eq_true rfl) dX10_press_12
  · refine X_aload_n hg 0 rfl dX10_press_13 ?_
    refine X_getI hg (j := 10) cf_10 (Nat.le_of_ble_eq_true rfl) (Or.inl rfl) m_910 dX10_press_14 (fun x2 _ => ?_)
    refine X_bipush hg ic_b_10 dX10_press_17 ?_
    refine X_icmp_ne hg (tgt := 25) dX10_press_19 rfl (fun c9 => ?_) (fun c9 => ?_)
    · refine X_bipush hg ic_b_m104 dX10_press_22 ?_
      exact X_iretW hg hr (Nat.le_of_ble_eq_true rfl) (Nat.le_of_ble_eq_true rfl) dX10_press_24
    · refine X_aload_n hg 0 rfl dX10_press_25 ?_
      refine X_getR hg (j := 11) cf_10 (Nat.le_of_ble_eq_true rfl) (Or.inr ⟨_, rfl⟩) m_911 dX10_press_26 (fun x3 _ => ?_)
      refine X_aload_n hg 0 rfl dX10_press_29 ?_
      refine X_getI hg (j := 10) cf_10 (Nat.le_of_ble_eq_true rfl) (Or.inl rfl) m_910 dX10_press_30 (fun x4 _ => ?_)
      refine X_iload_n hg 1 rfl dX10_press_33 ?_
      refine X_ast hg dX10_press_34 (fun h5 _ => ?_)
      refine X_aload_n hg 0 rfl dX10_press_35 ?_
      refine X_dup hg rfl dX10_press_36 ?_
      refine X_getI hg (j := 10) cf_10 (Nat.le_of_ble_eq_true rfl) (Or.inl rfl) m_910 dX10_press_37 (fun x6 _ => ?_)
      refine X_iconst hg ic_i_1 dX10_press_40 ?_
      refine X_iadd hg dX10_press_41 ?_
      refine X_putI hg (j := 10) cf_10 (Nat.le_of_ble_eq_true rfl) rfl (Or.inl rfl) m_910 dX10_press_42 (fun h7 _ => ?_)
      refine X_aload_n hg 0 rfl dX10_press_45 ?_
      refine X_getI hg (j := 10) cf_10 (Nat.le_of_ble_eq_true rfl) (Or.inl rfl) m_910 dX10_press_46 (fun x8 _ => ?_)
      exact X_iretW hg hr (Nat.le_of_ble_eq_true rfl) (Nat.le_of_ble_eq_true rfl) dX10_press_49
set_option maxRecDepth 10000 in
theorem c_X10_back (en : EN) (a0 : Nat) (h : Hp) (x0 : Int32 × Hp) (e : f_X10_back a0 h = some x0) : Ct en yX10_back cX10_back 1 (some .int) 0 0 0 0 [.ref (nB en + a0)] h (some (.int x0.1)) x0.2 := by
  refine Ct.of (by decide) rfl (Nat.le_of_ble_eq_true rfl) e (fun g hen hg hr => ?_)
  subst hen
  unfold f_X10_back
  refine X_gd ?_
  refine X_aload_n hg 0 rfl dX10_back_0 ?_
  refine X_getI hg (j := 10) cf_10 (Nat.le_of_ble_eq_true rfl) (Or.inl rfl) m_910 dX10_back_1 (fun x1 _ => ?_)
  refine X_if_ne hg (tgt := 10) dX10_back_4 rfl (fun c5 => ?_) (fun c5 => ?_)
  · refine X_bipush hg ic_b_m103 dX10_back_7 ?_
    exact X_iretW hg hr (Nat.le_of_ble_eq_true rfl) (Nat.le_of_ble_eq_true rfl) dX10_back_9
  · refine X_aload_n hg 0 rfl dX10_back_10 ?_
    refine X_dup hg rfl dX10_back_11 ?_
    refine X_getI hg (j := 10) cf_10 (Nat.le_of_ble_eq_true rfl) (Or.inl rfl) m_910 dX10_back_12 (fun x2 _ => ?_)
    refine X_iconst hg ic_i_1 dX10_back_15 ?_
    refine X_isub hg dX10_back_16 ?_
    refine X_putI hg (j := 10) cf_10 (Nat.le_of_ble_eq_true rfl) rfl (Or.inl rfl) m_910 dX10_back_17 (fun h3 _ => ?_)
    refine X_aload_n hg 0 rfl dX10_back_20 ?_
    refine X_getI hg (j := 10) cf_10 (Nat.le_of_ble_eq_true rfl) (Or.inl rfl) m_910 dX10_back_21 (fun x4 _ => ?_)
    exact X_iretW hg hr (Nat.le_of_ble_eq_true rfl) (Nat.le_of_ble_eq_true rfl) dX10_back_24
set_option maxRecDepth 10000 in
theorem c_X10_wipe (en : EN) (a0 : Nat) (h : Hp) (x0 : Int32 × Hp) (e : f_X10_wipe a0 h = some x0) : Ct en yX10_wipe cX10_wipe 2 (some .int) 0 0 0 0 [.ref (nB en + a0)] h (some (.int x0.1)) x0.2 := by
  refine Ct.of (by decide) rfl (Nat.le_of_ble_eq_true rfl) e (fun g hen hg hr => ?_)
  subst hen
  unfold f_X10_wipe
  refine X_gd ?_
  refine X_aload_n hg 0 rfl dX10_wipe_0 ?_
  refine X_getI hg (j := 10) cf_10 (Nat.le_of_ble_eq_true rfl) (Or.inl rfl) m_910 dX10_wipe_1 (fun x1 _ => ?_)
  refine X_istore_n hg rfl (Nat.le_of_ble_eq_true rfl) (lv' := [(1, .int x1), (0, .ref (nB g.1 + a0))]) rfl dX10_wipe_4 ?_
  refine X_aload_n hg 1 rfl dX10_wipe_5 ?_
  refine X_iconst hg ic_i_0 dX10_wipe_6 ?_
  refine X_putI hg (j := 10) cf_10 (Nat.le_of_ble_eq_true rfl) rfl (Or.inl rfl) m_910 dX10_wipe_7 (fun h2 _ => ?_)
  refine X_iload_n hg 0 rfl dX10_wipe_10 ?_
  exact X_iretW hg hr (Nat.le_of_ble_eq_true rfl) (Nat.le_of_ble_eq_true rfl) dX10_wipe_11
set_option maxRecDepth 10000 in
theorem c_X10_typed (en : EN) (a0 : Nat) (a1 : Int32) (h : Hp) (x0 : Int32) (e : f_X10_typed a0 a1 h = some x0) : Ct en yX10_typed cX10_typed 2 (some .int) 1 22 0 0 [.ref (nB en + a0), .int a1] h (some (.int x0)) h := by
  refine Ct.of (by decide) rfl (Nat.le_of_ble_eq_true rfl) e (fun g hen hg hr => ?_)
  subst hen
  unfold f_X10_typed
  refine X_gd ?_
  refine X_iload_n hg 1 rfl dX10_typed_0 ?_
  refine X_iconst hg ic_i_0 dX10_typed_1 ?_
  refine X_aload_n hg 0 rfl dX10_typed_2 ?_
  refine X_getI hg (j := 10) cf_10 (Nat.le_of_ble_eq_true rfl) (Or.inl rfl) m_910 dX10_typed_3 (fun x1 _ => ?_)
  refine X_iconst hg ic_i_1 dX10_typed_6 ?_
  refine X_isub hg dX10_typed_7 ?_
  refine X_cSI0 hg mf_X10_within m_1005 m_1004 (fun y e => c_X10_within g.1 a1 (nI 0) (x1 - (nI 1)) h y e) (As := [.int a1, .int (nI 0), .int (x1 - (nI 1))]) rfl (Nat.le_of_ble_eq_true rfl) rfl (Nat.le_of_ble_eq_true rfl) (Nat.le_of_ble_eq_true rfl) (Nat.le_of_ble_eq_true rfl) (Nat.le_of_ble_eq_true rfl) dX10_typed_8 (fun x2 _ => ?_)
  refine X_reg (fun (v3 : Int32) o => Xo g x0 2 0 0 25 [] [.int v3] h o) (fun kv3 hk3 => ?_) (fun v3 => ?_)
  · refine X_ib ?_
    refine X_if_eq hg (tgt := 23) dX10_typed_11 rfl (fun c6 => ?_) (fun c6 => ?_)
    · refine X_bipush hg ic_b_m101 dX10_typed_23 ?_
      refine X_lv [] rfl ?_
      exact hk3 m101
    · refine X_aload_n hg 0 rfl dX10_typed_14 ?_
      refine X_as ?_
      refine X_getR hg (j := 11) cf_10 (Nat.le_of_ble_eq_true rfl) (Or.inr ⟨_, rfl⟩) m_911 dX10_typed_15 (fun x4 _ => ?_)
      refine X_iload_n hg 1 rfl dX10_typed_18 ?_
      refine X_as ?_
      refine X_ald hg dX10_typed_19 (fun x5 _ => ?_)
      refine X_goto hg (tgt := 25) dX10_typed_20 rfl ?_
      refine X_lv [] rfl ?_
      exact hk3 x5
  · exact X_iret hg hr (Nat.le_of_ble_eq_true rfl) (Nat.le_of_ble_eq_true rfl) dX10_typed_25
set_option maxRecDepth 10000 in
theorem l_X10_isChosen_21 {g : XC} {x0 : Int32} (hg : XG g RX10 cX10_isChosen 4 1 22 0 0) (l0 : Nat) (l1 : Int32) (h : Hp) (hr : XR g (some .boolean) "isChosen" (some (.int x0)) h 0 0) (K : Int32 → Option (Int32)) (hK0 : ∀ (l2 : Int32), Xo g x0 4 0 0 60 [(2, .int l2)] [] h (K l2)) : ∀ (n : Nat) (l2 : Int32) (l3 : Int32), Xo g x0 4 0 0 21 [(0, .ref (nB g.1 + l0)), (1, .int l1), (2, .int l2), (3, .int l3)] [] h (f_X10_isChosen_L21 l0 l1 h K n l2 l3) := by
  intro n
  induction n with
  | zero =>
    intro l2 l3
    exact X_none
  | succ n ih =>
    intro l2 l3
    unfold f_X10_isChosen_L21
    refine X_iload_n hg 3 rfl dX10_isChosen_21 ?_
    refine X_aload_n hg 0 rfl dX10_isChosen_22 ?_
    refine X_getI hg (j := 10) cf_10 (Nat.le_of_ble_eq_true rfl) (Or.inl rfl) m_910 dX10_isChosen_23 (fun x6 _ => ?_)
    refine X_icmp_ge hg (tgt := 60) dX10_isChosen_26 rfl (fun c13 => ?_) (fun c13 => ?_)
    · refine X_lv [2] rfl ?_
      exact hK0 _
    · refine X_iload_n hg 2 rfl dX10_isChosen_29 ?_
      refine X_if_eq hg (tgt := 60) dX10_isChosen_30 rfl (fun c12 => ?_) (fun c12 => ?_)
      · refine X_lv [2] rfl ?_
        exact hK0 _
      · refine X_aload_n hg 0 rfl dX10_isChosen_33 ?_
        refine X_iload_n hg 1 rfl dX10_isChosen_34 ?_
        refine X_iload_n hg 3 rfl dX10_isChosen_35 ?_
        refine X_cVI0 hg mf_X10_codeAt m_1101 m_44 m_1099 cf_10 (fun _ e => gd_isO e) (fun y e => c_X10_codeAt g.1 l0 l1 l3 h y e) (As := [.int l1, .int l3]) rfl (Nat.le_of_ble_eq_true rfl) rfl (Nat.le_of_ble_eq_true rfl) (Nat.le_of_ble_eq_true rfl) (Nat.le_of_ble_eq_true rfl) (Nat.le_of_ble_eq_true rfl) dX10_isChosen_36 (fun x7 _ => ?_)
        refine X_aload_n hg 0 rfl dX10_isChosen_39 ?_
        refine X_getR hg (j := 11) cf_10 (Nat.le_of_ble_eq_true rfl) (Or.inr ⟨_, rfl⟩) m_911 dX10_isChosen_40 (fun x8 _ => ?_)
        refine X_iload_n hg 3 rfl dX10_isChosen_43 ?_
        refine X_ald hg dX10_isChosen_44 (fun x9 _ => ?_)
        refine X_reg (fun (v10 : Int32) o => Xo g x0 4 0 0 53 [(0, .ref (nB g.1 + l0)), (1, .int l1), (3, .int l3)] [.int v10] h o) (fun kv10 hk10 => ?_) (fun v10 => ?_)
        · refine X_ib ?_
          refine X_icmp_ne hg (tgt := 52) dX10_isChosen_45 rfl (fun c11 => ?_) (fun c11 => ?_)
          · refine X_iconst hg ic_i_1 dX10_isChosen_48 ?_
            refine X_goto hg (tgt := 53) dX10_isChosen_49 rfl ?_
            refine X_lv [0, 1, 3] rfl ?_
            exact hk10 (nI 1)
          · refine X_iconst hg ic_i_0 dX10_isChosen_52 ?_
            refine X_lv [0, 1, 3] rfl ?_
            exact hk10 (nI 0)
        · refine X_istore_n hg rfl (Nat.le_of_ble_eq_true rfl) (lv' := [(2, .int v10), (0, .ref (nB g.1 + l0)), (1, .int l1), (3, .int l3)]) rfl dX10_isChosen_53 ?_
          refine X_iinc hg 3 rfl (v := (l3 + (nI 1))) (icc ic_i_1) (Nat.le_of_ble_eq_true rfl) (lv' := [(3, .int (l3 + (nI 1))), (2, .int v10), (0, .ref (nB g.1 + l0)), (1, .int l1)]) rfl dX10_isChosen_54 ?_
          refine X_goto hg (tgt := 21) dX10_isChosen_57 rfl ?_
          refine X_lv [2, 3, 1, 0] rfl ?_
          exact ih _ _
set_option maxRecDepth 10000 in
theorem c_X10_isChosen (en : EN) (a0 : Nat) (a1 : Int32) (h : Hp) (x0 : Int32) (e : f_X10_isChosen a0 a1 h = some x0) : Ct en yX10_isChosen cX10_isChosen 4 (some .boolean) 1 22 0 0 [.ref (nB en + a0), .int a1] h (some (.int x0)) h := by
  refine Ct.of (by decide) rfl (Nat.le_of_ble_eq_true rfl) e (fun g hen hg hr => ?_)
  subst hen
  unfold f_X10_isChosen
  refine X_gd ?_
  refine X_aload_n hg 0 rfl dX10_isChosen_0 ?_
  refine X_getI hg (j := 10) cf_10 (Nat.le_of_ble_eq_true rfl) (Or.inl rfl) m_910 dX10_isChosen_1 (fun x1 _ => ?_)
  refine X_aload_n hg 0 rfl dX10_isChosen_4 ?_
  refine X_getR hg (j := 3) cf_10 (Nat.le_of_ble_eq_true rfl) (Or.inr ⟨_, rfl⟩) m_903 dX10_isChosen_5 (fun x2 _ => ?_)
  refine X_iload_n hg 1 rfl dX10_isChosen_8 ?_
  refine X_ald hg dX10_isChosen_9 (fun x3 _ => ?_)
  refine X_reg (fun (v4 : Int32) o => Xo g x0 4 0 0 18 [(0, .ref (nB g.1 + a0)), (1, .int a1)] [.int v4] h o) (fun kv4 hk4 => ?_) (fun v4 => ?_)
  · refine X_ib ?_
    refine X_icmp_gt hg (tgt := 17) dX10_isChosen_10 rfl (fun c5 => ?_) (fun c5 => ?_)
    · refine X_iconst hg ic_i_0 dX10_isChosen_17 ?_
      exact hk4 (nI 0)
    · refine X_iconst hg ic_i_1 dX10_isChosen_13 ?_
      refine X_goto hg (tgt := 18) dX10_isChosen_14 rfl ?_
      exact hk4 (nI 1)
  · refine X_istore_n hg rfl (Nat.le_of_ble_eq_true rfl) (lv' := [(2, .int v4), (0, .ref (nB g.1 + a0)), (1, .int a1)]) rfl dX10_isChosen_18 ?_
    refine X_iconst hg ic_i_0 dX10_isChosen_19 ?_
    refine X_istore_n hg rfl (Nat.le_of_ble_eq_true rfl) (lv' := [(3, .int (nI 0)), (2, .int v4), (0, .ref (nB g.1 + a0)), (1, .int a1)]) rfl dX10_isChosen_20 ?_
    refine X_lv [2, 3, 1, 0] rfl ?_
    refine l_X10_isChosen_21 hg _ _ _ hr _ (fun y14 => ?_) _ _ _
    refine X_iload_n hg 0 rfl dX10_isChosen_60 ?_
    exact X_zret hg hr (Nat.le_of_ble_eq_true rfl) (Nat.le_of_ble_eq_true rfl) dX10_isChosen_61
set_option maxRecDepth 10000 in
theorem l_X10_chosenAhead_4 {g : XC} {x0 : Int32} (hg : XG g RX10 cX10_chosenAhead 4 2 45 0 0) (l0 : Nat) (l1 : Int32) (h : Hp) (hr : XR g (some .int) "chosenAhead" (some (.int x0)) h 0 0) (K : Int32 → Option (Int32)) (hK0 : ∀ (l2 : Int32), Xo g x0 4 0 0 43 [(2, .int l2)] [] h (K l2)) : ∀ (n : Nat) (l2 : Int32) (l3 : Int32), Xo g x0 4 0 0 4 [(0, .ref (nB g.1 + l0)), (1, .int l1), (2, .int l2), (3, .int l3)] [] h (f_X10_chosenAhead_L4 l0 l1 h K n l2 l3) := by
  intro n
  induction n with
  | zero =>
    intro l2 l3
    exact X_none
  | succ n ih =>
    intro l2 l3
    unfold f_X10_chosenAhead_L4
    refine X_iload_n hg 3 rfl dX10_chosenAhead_4 ?_
    refine X_aload_n hg 0 rfl dX10_chosenAhead_5 ?_
    refine X_getI hg (j := 2) cf_10 (Nat.le_of_ble_eq_true rfl) (Or.inl rfl) m_902 dX10_chosenAhead_6 (fun x1 _ => ?_)
    refine X_icmp_ge hg (tgt := 43) dX10_chosenAhead_9 rfl (fun c7 => ?_) (fun c7 => ?_)
    · refine X_lv [2] rfl ?_
      exact hK0 _
    · refine X_iload_n hg 2 rfl dX10_chosenAhead_12 ?_
      refine X_aload_n hg 0 rfl dX10_chosenAhead_13 ?_
      refine X_iload_n hg 3 rfl dX10_chosenAhead_14 ?_
      refine X_cVI0 hg mf_X10_isChosen m_1226 m_66 m_1224 cf_10 (fun _ e => gd_isO e) (fun y e => c_X10_isChosen g.1 l0 l3 h y e) (As := [.int l3]) rfl (Nat.le_of_ble_eq_true rfl) rfl (Nat.le_of_ble_eq_true rfl) (Nat.le_of_ble_eq_true rfl) (Nat.le_of_ble_eq_true rfl) (Nat.le_of_ble_eq_true rfl) dX10_chosenAhead_15 (fun x2 _ => ?_)
      refine X_reg (fun (v3 : Int32) o => Xo g x0 4 0 0 35 [(0, .ref (nB g.1 + l0)), (1, .int l1), (3, .int l3)] [.int v3, .int l2] h o) (fun kv3 hk3 => ?_) (fun v3 => ?_)
      · refine X_ib ?_
        refine X_if_eq hg (tgt := 34) dX10_chosenAhead_18 rfl (fun c6 => ?_) (fun c6 => ?_)
        · refine X_iconst hg ic_i_0 dX10_chosenAhead_34 ?_
          refine X_lv [0, 1, 3] rfl ?_
          exact hk3 (nI 0)
        · refine X_aload_n hg 0 rfl dX10_chosenAhead_21 ?_
          refine X_iload_n hg 3 rfl dX10_chosenAhead_22 ?_
          refine X_iload_n hg 1 rfl dX10_chosenAhead_23 ?_
          refine X_as ?_
          refine X_cVI0 hg mf_X10_isAhead m_1118 m_48 m_1116 cf_10 (fun _ e => gd_isO e) (fun y e => c_X10_isAhead g.1 l0 l3 l1 h y e) (As := [.int l3, .int l1]) rfl (Nat.le_of_ble_eq_true rfl) rfl (Nat.le_of_ble_eq_true rfl) (Nat.le_of_ble_eq_true rfl) (Nat.le_of_ble_eq_true rfl) (Nat.le_of_ble_eq_true rfl) dX10_chosenAhead_24 (fun x4 _ => ?_)
          refine X_ib ?_
          refine X_if_eq hg (tgt := 34) dX10_chosenAhead_27 rfl (fun c5 => ?_) (fun c5 => ?_)
          · refine X_iconst hg ic_i_0 dX10_chosenAhead_34 ?_
            refine X_lv [0, 1, 3] rfl ?_
            exact hk3 (nI 0)
          · refine X_iconst hg ic_i_1 dX10_chosenAhead_30 ?_
            refine X_goto hg (tgt := 35) dX10_chosenAhead_31 rfl ?_
            refine X_lv [0, 1, 3] rfl ?_
            exact hk3 (nI 1)
      · refine X_iadd hg dX10_chosenAhead_35 ?_
        refine X_istore_n hg rfl (Nat.le_of_ble_eq_true rfl) (lv' := [(2, .int (l2 + v3)), (0, .ref (nB g.1 + l0)), (1, .int l1), (3, .int l3)]) rfl dX10_chosenAhead_36 ?_
        refine X_iinc hg 3 rfl (v := (l3 + (nI 1))) (icc ic_i_1) (Nat.le_of_ble_eq_true rfl) (lv' := [(3, .int (l3 + (nI 1))), (2, .int (l2 + v3)), (0, .ref (nB g.1 + l0)), (1, .int l1)]) rfl dX10_chosenAhead_37 ?_
        refine X_goto hg (tgt := 4) dX10_chosenAhead_40 rfl ?_
        refine X_lv [2, 3, 1, 0] rfl ?_
        exact ih _ _
set_option maxRecDepth 10000 in
theorem c_X10_chosenAhead (en : EN) (a0 : Nat) (a1 : Int32) (h : Hp) (x0 : Int32) (e : f_X10_chosenAhead a0 a1 h = some x0) : Ct en yX10_chosenAhead cX10_chosenAhead 4 (some .int) 2 45 0 0 [.ref (nB en + a0), .int a1] h (some (.int x0)) h := by
  refine Ct.of (by decide) rfl (Nat.le_of_ble_eq_true rfl) e (fun g hen hg hr => ?_)
  subst hen
  unfold f_X10_chosenAhead
  refine X_gd ?_
  refine X_iconst hg ic_i_0 dX10_chosenAhead_0 ?_
  refine X_istore_n hg rfl (Nat.le_of_ble_eq_true rfl) (lv' := [(2, .int (nI 0)), (0, .ref (nB g.1 + a0)), (1, .int a1)]) rfl dX10_chosenAhead_1 ?_
  refine X_iconst hg ic_i_0 dX10_chosenAhead_2 ?_
  refine X_istore_n hg rfl (Nat.le_of_ble_eq_true rfl) (lv' := [(3, .int (nI 0)), (2, .int (nI 0)), (0, .ref (nB g.1 + a0)), (1, .int a1)]) rfl dX10_chosenAhead_3 ?_
  refine X_lv [2, 3, 1, 0] rfl ?_
  refine l_X10_chosenAhead_4 hg _ _ _ hr _ (fun y8 => ?_) _ _ _
  refine X_iload_n hg 0 rfl dX10_chosenAhead_43 ?_
  exact X_iret hg hr (Nat.le_of_ble_eq_true rfl) (Nat.le_of_ble_eq_true rfl) dX10_chosenAhead_44
set_option maxRecDepth 10000 in
theorem l_X10_choice_2 {g : XC} {x0 : Int32} (hg : XG g RX10 cX10_choice 3 3 68 0 0) (l0 : Nat) (l1 : Int32) (h : Hp) (hr : XR g (some .int) "choice" (some (.int x0)) h 0 0) (K : Option (Int32)) (hK0 : Xo g x0 3 0 0 35 [] [] h K) : ∀ (n : Nat) (l2 : Int32), Xo g x0 3 0 0 2 [(0, .ref (nB g.1 + l0)), (1, .int l1), (2, .int l2)] [] h (f_X10_choice_L2 l0 l1 h K n l2) := by
  intro n
  induction n with
  | zero =>
    intro l2
    exact X_none
  | succ n ih =>
    intro l2
    unfold f_X10_choice_L2
    refine X_iload_n hg 2 rfl dX10_choice_2 ?_
    refine X_aload_n hg 0 rfl dX10_choice_3 ?_
    refine X_getI hg (j := 2) cf_10 (Nat.le_of_ble_eq_true rfl) (Or.inl rfl) m_902 dX10_choice_4 (fun x1 _ => ?_)
    refine X_icmp_ge hg (tgt := 35) dX10_choice_7 rfl (fun c6 => ?_) (fun c6 => ?_)
    · refine X_lv [] rfl ?_
      exact hK0 
    · refine X_aload_n hg 0 rfl dX10_choice_10 ?_
      refine X_iload_n hg 2 rfl dX10_choice_11 ?_
      refine X_cVI0 hg mf_X10_isChosen m_1226 m_66 m_1224 cf_10 (fun _ e => gd_isO e) (fun y e => c_X10_isChosen g.1 l0 l2 h y e) (As := [.int l2]) rfl (Nat.le_of_ble_eq_true rfl) rfl (Nat.le_of_ble_eq_true rfl) (Nat.le_of_ble_eq_true rfl) (Nat.le_of_ble_eq_true rfl) (Nat.le_of_ble_eq_true rfl) dX10_choice_12 (fun x2 _ => ?_)
      refine X_if_eq hg (tgt := 29) dX10_choice_15 rfl (fun c5 => ?_) (fun c5 => ?_)
      · refine X_iinc hg 2 rfl (v := (l2 + (nI 1))) (icc ic_i_1) (Nat.le_of_ble_eq_true rfl) (lv' := [(2, .int (l2 + (nI 1))), (0, .ref (nB g.1 + l0)), (1, .int l1)]) rfl dX10_choice_29 ?_
        refine X_goto hg (tgt := 2) dX10_choice_32 rfl ?_
        refine X_lv [1, 2, 0] rfl ?_
        exact ih _
      · refine X_aload_n hg 0 rfl dX10_choice_18 ?_
        refine X_iload_n hg 2 rfl dX10_choice_19 ?_
        refine X_cVI0 hg mf_X10_chosenAhead m_1230 m_67 m_1228 cf_10 (fun _ e => gd_isO e) (fun y e => c_X10_chosenAhead g.1 l0 l2 h y e) (As := [.int l2]) rfl (Nat.le_of_ble_eq_true rfl) rfl (Nat.le_of_ble_eq_true rfl) (Nat.le_of_ble_eq_true rfl) (Nat.le_of_ble_eq_true rfl) (Nat.le_of_ble_eq_true rfl) dX10_choice_20 (fun x3 _ => ?_)
        refine X_iload_n hg 1 rfl dX10_choice_23 ?_
        refine X_icmp_ne hg (tgt := 29) dX10_choice_24 rfl (fun c4 => ?_) (fun c4 => ?_)
        · refine X_iload_n hg 2 rfl dX10_choice_27 ?_
          exact X_iret hg hr (Nat.le_of_ble_eq_true rfl) (Nat.le_of_ble_eq_true rfl) dX10_choice_28
        · refine X_iinc hg 2 rfl (v := (l2 + (nI 1))) (icc ic_i_1) (Nat.le_of_ble_eq_true rfl) (lv' := [(2, .int (l2 + (nI 1))), (0, .ref (nB g.1 + l0)), (1, .int l1)]) rfl dX10_choice_29 ?_
          refine X_goto hg (tgt := 2) dX10_choice_32 rfl ?_
          refine X_lv [1, 2, 0] rfl ?_
          exact ih _
set_option maxRecDepth 10000 in
theorem c_X10_choice (en : EN) (a0 : Nat) (a1 : Int32) (h : Hp) (x0 : Int32) (e : f_X10_choice a0 a1 h = some x0) : Ct en yX10_choice cX10_choice 3 (some .int) 3 68 0 0 [.ref (nB en + a0), .int a1] h (some (.int x0)) h := by
  refine Ct.of (by decide) rfl (Nat.le_of_ble_eq_true rfl) e (fun g hen hg hr => ?_)
  subst hen
  unfold f_X10_choice
  refine X_gd ?_
  refine X_iconst hg ic_i_0 dX10_choice_0 ?_
  refine X_istore_n hg rfl (Nat.le_of_ble_eq_true rfl) (lv' := [(2, .int (nI 0)), (0, .ref (nB g.1 + a0)), (1, .int a1)]) rfl dX10_choice_1 ?_
  refine X_lv [1, 2, 0] rfl ?_
  refine l_X10_choice_2 hg _ _ _ hr _ ?_ _ _
  refine X_bipush hg ic_b_m101 dX10_choice_35 ?_
  exact X_iret hg hr (Nat.le_of_ble_eq_true rfl) (Nat.le_of_ble_eq_true rfl) dX10_choice_37
set_option maxRecDepth 10000 in
theorem l_X10_fitsAt_24 {g : XC} {x0 : Int32} (hg : XG g RX10 cX10_fitsAt 5 1 22 0 0) (l0 : Nat) (l1 : Int32) (l2 : Int32) (h : Hp) (hr : XR g (some .boolean) "fitsAt" (some (.int x0)) h 0 0) (K : Int32 → Option (Int32)) (hK0 : ∀ (l3 : Int32), Xo g x0 5 0 0 70 [(3, .int l3)] [] h (K l3)) : ∀ (n : Nat) (l3 : Int32) (l4 : Int32), Xo g x0 5 0 0 24 [(0, .ref (nB g.1 + l0)), (1, .int l1), (2, .int l2), (3, .int l3), (4, .int l4)] [] h (f_X10_fitsAt_L24 l0 l1 l2 h K n l3 l4) := by
  intro n
  induction n with
  | zero =>
    intro l3 l4
    exact X_none
  | succ n ih =>
    intro l3 l4
    unfold f_X10_fitsAt_L24
    refine X_iload hg 4 rfl dX10_fitsAt_24 ?_
    refine X_aload_n hg 0 rfl dX10_fitsAt_26 ?_
    refine X_getR hg (j := 3) cf_10 (Nat.le_of_ble_eq_true rfl) (Or.inr ⟨_, rfl⟩) m_903 dX10_fitsAt_27 (fun x6 _ => ?_)
    refine X_iload_n hg 1 rfl dX10_fitsAt_30 ?_
    refine X_ald hg dX10_fitsAt_31 (fun x7 _ => ?_)
    refine X_icmp_ge hg (tgt := 70) dX10_fitsAt_32 rfl (fun c14 => ?_) (fun c14 => ?_)
    · refine X_lv [3] rfl ?_
      exact hK0 _
    · refine X_iload_n hg 3 rfl dX10_fitsAt_35 ?_
      refine X_if_eq hg (tgt := 70) dX10_fitsAt_36 rfl (fun c13 => ?_) (fun c13 => ?_)
      · refine X_lv [3] rfl ?_
        exact hK0 _
      · refine X_aload_n hg 0 rfl dX10_fitsAt_39 ?_
        refine X_iload_n hg 1 rfl dX10_fitsAt_40 ?_
        refine X_iload hg 4 rfl dX10_fitsAt_41 ?_
        refine X_cVI0 hg mf_X10_codeAt m_1101 m_44 m_1099 cf_10 (fun _ e => gd_isO e) (fun y e => c_X10_codeAt g.1 l0 l1 l4 h y e) (As := [.int l1, .int l4]) rfl (Nat.le_of_ble_eq_true rfl) rfl (Nat.le_of_ble_eq_true rfl) (Nat.le_of_ble_eq_true rfl) (Nat.le_of_ble_eq_true rfl) (Nat.le_of_ble_eq_true rfl) dX10_fitsAt_43 (fun x8 _ => ?_)
        refine X_aload_n hg 0 rfl dX10_fitsAt_46 ?_
        refine X_getR hg (j := 11) cf_10 (Nat.le_of_ble_eq_true rfl) (Or.inr ⟨_, rfl⟩) m_911 dX10_fitsAt_47 (fun x9 _ => ?_)
        refine X_iload_n hg 2 rfl dX10_fitsAt_50 ?_
        refine X_iload hg 4 rfl dX10_fitsAt_51 ?_
        refine X_iadd hg dX10_fitsAt_53 ?_
        refine X_ald hg dX10_fitsAt_54 (fun x10 _ => ?_)
        refine X_reg (fun (v11 : Int32) o => Xo g x0 5 0 0 63 [(0, .ref (nB g.1 + l0)), (1, .int l1), (2, .int l2), (4, .int l4)] [.int v11] h o) (fun kv11 hk11 => ?_) (fun v11 => ?_)
        · refine X_ib ?_
          refine X_icmp_ne hg (tgt := 62) dX10_fitsAt_55 rfl (fun c12 => ?_) (fun c12 => ?_)
          · refine X_iconst hg ic_i_1 dX10_fitsAt_58 ?_
            refine X_goto hg (tgt := 63) dX10_fitsAt_59 rfl ?_
            refine X_lv [0, 1, 2, 4] rfl ?_
            exact hk11 (nI 1)
          · refine X_iconst hg ic_i_0 dX10_fitsAt_62 ?_
            refine X_lv [0, 1, 2, 4] rfl ?_
            exact hk11 (nI 0)
        · refine X_istore_n hg rfl (Nat.le_of_ble_eq_true rfl) (lv' := [(3, .int v11), (0, .ref (nB g.1 + l0)), (1, .int l1), (2, .int l2), (4, .int l4)]) rfl dX10_fitsAt_63 ?_
          refine X_iinc hg 4 rfl (v := (l4 + (nI 1))) (icc ic_i_1) (Nat.le_of_ble_eq_true rfl) (lv' := [(4, .int (l4 + (nI 1))), (3, .int v11), (0, .ref (nB g.1 + l0)), (1, .int l1), (2, .int l2)]) rfl dX10_fitsAt_64 ?_
          refine X_goto hg (tgt := 24) dX10_fitsAt_67 rfl ?_
          refine X_lv [2, 3, 4, 1, 0] rfl ?_
          exact ih _ _
set_option maxRecDepth 10000 in
theorem c_X10_fitsAt (en : EN) (a0 : Nat) (a1 : Int32) (a2 : Int32) (h : Hp) (x0 : Int32) (e : f_X10_fitsAt a0 a1 a2 h = some x0) : Ct en yX10_fitsAt cX10_fitsAt 5 (some .boolean) 1 22 0 0 [.ref (nB en + a0), .int a1, .int a2] h (some (.int x0)) h := by
  refine Ct.of (by decide) rfl (Nat.le_of_ble_eq_true rfl) e (fun g hen hg hr => ?_)
  subst hen
  unfold f_X10_fitsAt
  refine X_gd ?_
  refine X_iload_n hg 2 rfl dX10_fitsAt_0 ?_
  refine X_aload_n hg 0 rfl dX10_fitsAt_1 ?_
  refine X_getR hg (j := 3) cf_10 (Nat.le_of_ble_eq_true rfl) (Or.inr ⟨_, rfl⟩) m_903 dX10_fitsAt_2 (fun x1 _ => ?_)
  refine X_iload_n hg 1 rfl dX10_fitsAt_5 ?_
  refine X_ald hg dX10_fitsAt_6 (fun x2 _ => ?_)
  refine X_iadd hg dX10_fitsAt_7 ?_
  refine X_aload_n hg 0 rfl dX10_fitsAt_8 ?_
  refine X_getI hg (j := 10) cf_10 (Nat.le_of_ble_eq_true rfl) (Or.inl rfl) m_910 dX10_fitsAt_9 (fun x3 _ => ?_)
  refine X_reg (fun (v4 : Int32) o => Xo g x0 5 0 0 20 [(0, .ref (nB g.1 + a0)), (1, .int a1), (2, .int a2)] [.int v4] h o) (fun kv4 hk4 => ?_) (fun v4 => ?_)
  · refine X_ib ?_
    refine X_icmp_gt hg (tgt := 19) dX10_fitsAt_12 rfl (fun c5 => ?_) (fun c5 => ?_)
    · refine X_iconst hg ic_i_0 dX10_fitsAt_19 ?_
      exact hk4 (nI 0)
    · refine X_iconst hg ic_i_1 dX10_fitsAt_15 ?_
      refine X_goto hg (tgt := 20) dX10_fitsAt_16 rfl ?_
      exact hk4 (nI 1)
  · refine X_istore_n hg rfl (Nat.le_of_ble_eq_true rfl) (lv' := [(3, .int v4), (0, .ref (nB g.1 + a0)), (1, .int a1), (2, .int a2)]) rfl dX10_fitsAt_20 ?_
    refine X_iconst hg ic_i_0 dX10_fitsAt_21 ?_
    refine X_istore hg (Nat.le_of_ble_eq_true rfl) (lv' := [(4, .int (nI 0)), (3, .int v4), (0, .ref (nB g.1 + a0)), (1, .int a1), (2, .int a2)]) rfl dX10_fitsAt_22 ?_
    refine X_lv [2, 3, 4, 1, 0] rfl ?_
    refine l_X10_fitsAt_24 hg _ _ _ _ hr _ (fun y15 => ?_) _ _ _
    refine X_iload_n hg 0 rfl dX10_fitsAt_70 ?_
    exact X_zret hg hr (Nat.le_of_ble_eq_true rfl) (Nat.le_of_ble_eq_true rfl) dX10_fitsAt_71
set_option maxRecDepth 10000 in
theorem c_X10_takesPiece (en : EN) (a0 : Nat) (a1 : Int32) (a2 : Int32) (a3 : Int32) (h : Hp) (x0 : Hp) (e : f_X10_takesPiece a0 a1 a2 a3 h = some x0) : Ct en yX10_takesPiece cX10_takesPiece 5 none 0 0 0 0 [.ref (nB en + a0), .int a1, .int a2, .int a3] h none x0 := by
  refine Ct.of (by decide) rfl (Nat.le_of_ble_eq_true rfl) e (fun g hen hg hr => ?_)
  subst hen
  unfold f_X10_takesPiece
  refine X_gd ?_
  refine X_aload_n hg 0 rfl dX10_takesPiece_0 ?_
  refine X_getR hg (j := 22) cf_10 (Nat.le_of_ble_eq_true rfl) (Or.inr ⟨_, rfl⟩) m_922 dX10_takesPiece_1 (fun x1 _ => ?_)
  refine X_iload_n hg 1 rfl dX10_takesPiece_4 ?_
  refine X_aload_n hg 0 rfl dX10_takesPiece_5 ?_
  refine X_getR hg (j := 22) cf_10 (Nat.le_of_ble_eq_true rfl) (Or.inr ⟨_, rfl⟩) m_922 dX10_takesPiece_6 (fun x2 _ => ?_)
  refine X_iload_n hg 1 rfl dX10_takesPiece_9 ?_
  refine X_ald hg dX10_takesPiece_10 (fun x3 _ => ?_)
  refine X_aload_n hg 0 rfl dX10_takesPiece_11 ?_
  refine X_getR hg (j := 22) cf_10 (Nat.le_of_ble_eq_true rfl) (Or.inr ⟨_, rfl⟩) m_922 dX10_takesPiece_12 (fun x4 _ => ?_)
  refine X_iload_n hg 2 rfl dX10_takesPiece_15 ?_
  refine X_ald hg dX10_takesPiece_16 (fun x5 _ => ?_)
  refine X_iadd hg dX10_takesPiece_17 ?_
  refine X_ldc hg (v := (nI 1000000)) m_1248 dX10_takesPiece_18 ?_
  refine X_irem hg (by decide) dX10_takesPiece_20 ?_
  refine X_ast hg dX10_takesPiece_21 (fun h6 _ => ?_)
  refine X_aload_n hg 0 rfl dX10_takesPiece_22 ?_
  refine X_getR hg (j := 23) cf_10 (Nat.le_of_ble_eq_true rfl) (Or.inr ⟨_, rfl⟩) m_923 dX10_takesPiece_23 (fun x7 _ => ?_)
  refine X_iload_n hg 2 rfl dX10_takesPiece_26 ?_
  refine X_ald hg dX10_takesPiece_27 (fun x8 _ => ?_)
  refine X_iload_n hg 3 rfl dX10_takesPiece_28 ?_
  refine X_iadd hg dX10_takesPiece_29 ?_
  refine X_istore hg (Nat.le_of_ble_eq_true rfl) (lv' := [(4, .int (x8 + a3)), (0, .ref (nB g.1 + a0)), (1, .int a1), (2, .int a2), (3, .int a3)]) rfl dX10_takesPiece_30 ?_
  refine X_iload hg 0 rfl dX10_takesPiece_32 ?_
  refine X_aload_n hg 1 rfl dX10_takesPiece_34 ?_
  refine X_getR hg (j := 23) cf_10 (Nat.le_of_ble_eq_true rfl) (Or.inr ⟨_, rfl⟩) m_923 dX10_takesPiece_35 (fun x9 _ => ?_)
  refine X_iload_n hg 2 rfl dX10_takesPiece_38 ?_
  refine X_ald hg dX10_takesPiece_39 (fun x10 _ => ?_)
  refine X_reg (fun (v11 : Hp) o => Xo g x0 5 0 0 66 [(0, .ref (nB g.1 + a0)), (1, .int a1), (2, .int a2), (4, .int (x8 + a3))] [] v11 o) (fun kv11 hk11 => ?_) (fun v11 => ?_)
  · refine X_ib ?_
    refine X_icmp_ge hg (tgt := 66) dX10_takesPiece_40 rfl (fun c18 => ?_) (fun c18 => ?_)
    · refine X_lv [1, 2, 3, 0] rfl ?_
      exact hk11 h6
    · refine X_aload_n hg 1 rfl dX10_takesPiece_43 ?_
      refine X_as ?_
      refine X_getR hg (j := 23) cf_10 (Nat.le_of_ble_eq_true rfl) (Or.inr ⟨_, rfl⟩) m_923 dX10_takesPiece_44 (fun x12 _ => ?_)
      refine X_iload_n hg 2 rfl dX10_takesPiece_47 ?_
      refine X_iload hg 0 rfl dX10_takesPiece_48 ?_
      refine X_as ?_
      refine X_ast hg dX10_takesPiece_50 (fun h13 _ => ?_)
      refine X_aload_n hg 1 rfl dX10_takesPiece_51 ?_
      refine X_as ?_
      refine X_getR hg (j := 24) cf_10 (Nat.le_of_ble_eq_true rfl) (Or.inr ⟨_, rfl⟩) m_924 dX10_takesPiece_52 (fun x14 _ => ?_)
      refine X_iload_n hg 2 rfl dX10_takesPiece_55 ?_
      refine X_ldc hg (v := (nI 268435456)) m_1111 dX10_takesPiece_56 ?_
      refine X_as ?_
      refine X_ast hg dX10_takesPiece_58 (fun h15 _ => ?_)
      refine X_aload_n hg 1 rfl dX10_takesPiece_59 ?_
      refine X_as ?_
      refine X_getR hg (j := 25) cf_10 (Nat.le_of_ble_eq_true rfl) (Or.inr ⟨_, rfl⟩) m_925 dX10_takesPiece_60 (fun x16 _ => ?_)
      refine X_iload_n hg 2 rfl dX10_takesPiece_63 ?_
      refine X_iconst hg ic_i_0 dX10_takesPiece_64 ?_
      refine X_as ?_
      refine X_ast hg dX10_takesPiece_65 (fun h17 _ => ?_)
      refine X_lv [1, 2, 3, 0] rfl ?_
      exact hk11 h17
  · refine X_iload hg 3 rfl dX10_takesPiece_66 ?_
    refine X_aload_n hg 0 rfl dX10_takesPiece_68 ?_
    refine X_getR hg (j := 23) cf_10 (Nat.le_of_ble_eq_true rfl) (Or.inr ⟨_, rfl⟩) m_923 dX10_takesPiece_69 (fun x19 _ => ?_)
    refine X_iload_n hg 1 rfl dX10_takesPiece_72 ?_
    refine X_ald hg dX10_takesPiece_73 (fun x20 _ => ?_)
    refine X_reg (fun (v21 : Hp) o => Xo g x0 5 0 0 139 [] [] v21 o) (fun kv21 hk21 => ?_) (fun v21 => ?_)
    · refine X_ib ?_
      refine X_icmp_ne hg (tgt := 139) dX10_takesPiece_74 rfl (fun c40 => ?_) (fun c40 => ?_)
      · refine X_aload_n hg 0 rfl dX10_takesPiece_77 ?_
        refine X_as ?_
        refine X_getR hg (j := 24) cf_10 (Nat.le_of_ble_eq_true rfl) (Or.inr ⟨_, rfl⟩) m_924 dX10_takesPiece_78 (fun x22 _ => ?_)
        refine X_iload_n hg 1 rfl dX10_takesPiece_81 ?_
        refine X_aload_n hg 0 rfl dX10_takesPiece_82 ?_
        refine X_as ?_
        refine X_getR hg (j := 24) cf_10 (Nat.le_of_ble_eq_true rfl) (Or.inr ⟨_, rfl⟩) m_924 dX10_takesPiece_83 (fun x23 _ => ?_)
        refine X_iload_n hg 2 rfl dX10_takesPiece_86 ?_
        refine X_as ?_
        refine X_ald hg dX10_takesPiece_87 (fun x24 _ => ?_)
        refine X_iconst hg ic_i_1 dX10_takesPiece_88 ?_
        refine X_iadd hg dX10_takesPiece_89 ?_
        refine X_aload_n hg 0 rfl dX10_takesPiece_90 ?_
        refine X_as ?_
        refine X_getR hg (j := 24) cf_10 (Nat.le_of_ble_eq_true rfl) (Or.inr ⟨_, rfl⟩) m_924 dX10_takesPiece_91 (fun x25 _ => ?_)
        refine X_iload_n hg 1 rfl dX10_takesPiece_94 ?_
        refine X_as ?_
        refine X_ald hg dX10_takesPiece_95 (fun x26 _ => ?_)
        refine X_as ?_
        refine X_reg (fun (v27 : Int32) o => Xo g x0 5 0 0 116 [(0, .ref (nB g.1 + a0)), (1, .int a1), (2, .int a2)] [.int v27, .int a1, .ref (nB g.1 + x22)] v11 o) (fun kv27 hk27 => ?_) (fun v27 => ?_)
        · refine X_ib ?_
          refine X_icmp_ge hg (tgt := 110) dX10_takesPiece_96 rfl (fun c32 => ?_) (fun c32 => ?_)
          · refine X_aload_n hg 0 rfl dX10_takesPiece_110 ?_
            refine X_as ?_
            refine X_getR hg (j := 24) cf_10 (Nat.le_of_ble_eq_true rfl) (Or.inr ⟨_, rfl⟩) m_924 dX10_takesPiece_111 (fun x28 _ => ?_)
            refine X_iload_n hg 1 rfl dX10_takesPiece_114 ?_
            refine X_as ?_
            refine X_ald hg dX10_takesPiece_115 (fun x29 _ => ?_)
            refine X_lv [0, 1, 2] rfl ?_
            exact hk27 x29
          · refine X_aload_n hg 0 rfl dX10_takesPiece_99 ?_
            refine X_as ?_
            refine X_getR hg (j := 24) cf_10 (Nat.le_of_ble_eq_true rfl) (Or.inr ⟨_, rfl⟩) m_924 dX10_takesPiece_100 (fun x30 _ => ?_)
            refine X_iload_n hg 2 rfl dX10_takesPiece_103 ?_
            refine X_as ?_
            refine X_ald hg dX10_takesPiece_104 (fun x31 _ => ?_)
            refine X_iconst hg ic_i_1 dX10_takesPiece_105 ?_
            refine X_iadd hg dX10_takesPiece_106 ?_
            refine X_goto hg (tgt := 116) dX10_takesPiece_107 rfl ?_
            refine X_lv [0, 1, 2] rfl ?_
            exact hk27 (x31 + (nI 1))
        · refine X_as ?_
          refine X_ast hg dX10_takesPiece_116 (fun h33 _ => ?_)
          refine X_aload_n hg 0 rfl dX10_takesPiece_117 ?_
          refine X_as ?_
          refine X_getR hg (j := 25) cf_10 (Nat.le_of_ble_eq_true rfl) (Or.inr ⟨_, rfl⟩) m_925 dX10_takesPiece_118 (fun x34 _ => ?_)
          refine X_iload_n hg 1 rfl dX10_takesPiece_121 ?_
          refine X_aload_n hg 0 rfl dX10_takesPiece_122 ?_
          refine X_as ?_
          refine X_getR hg (j := 25) cf_10 (Nat.le_of_ble_eq_true rfl) (Or.inr ⟨_, rfl⟩) m_925 dX10_takesPiece_123 (fun x35 _ => ?_)
          refine X_iload_n hg 1 rfl dX10_takesPiece_126 ?_
          refine X_as ?_
          refine X_ald hg dX10_takesPiece_127 (fun x36 _ => ?_)
          refine X_aload_n hg 0 rfl dX10_takesPiece_128 ?_
          refine X_as ?_
          refine X_getR hg (j := 25) cf_10 (Nat.le_of_ble_eq_true rfl) (Or.inr ⟨_, rfl⟩) m_925 dX10_takesPiece_129 (fun x37 _ => ?_)
          refine X_iload_n hg 2 rfl dX10_takesPiece_132 ?_
          refine X_as ?_
          refine X_ald hg dX10_takesPiece_133 (fun x38 _ => ?_)
          refine X_iadd hg dX10_takesPiece_134 ?_
          refine X_ldc hg (v := (nI 1000000)) m_1248 dX10_takesPiece_135 ?_
          refine X_irem hg (by decide) dX10_takesPiece_137 ?_
          refine X_as ?_
          refine X_ast hg dX10_takesPiece_138 (fun h39 _ => ?_)
          refine X_lv [] rfl ?_
          exact hk21 h39
      · refine X_lv [] rfl ?_
        exact hk21 v11
    · exact X_vret hg hr (Nat.le_of_ble_eq_true rfl) (Nat.le_of_ble_eq_true rfl) dX10_takesPiece_139
set_option maxRecDepth 10000 in
theorem l_X10_laySpellings_92 {g : XC} {x0 : Hp} (hg : XG g RX10 cX10_laySpellings 3 2 46 0 0) (l0 : Nat) (l1 : Int32) (hr : XR g none "laySpellings" none x0 0 0) (K : Hp → Option (Hp)) (hK0 : ∀ (h : Hp), Xo g x0 3 0 0 129 [(0, .ref (nB g.1 + l0)), (1, .int l1)] [] h (K h)) : ∀ (n : Nat) (l2 : Int32) (h : Hp), Xo g x0 3 0 0 92 [(0, .ref (nB g.1 + l0)), (1, .int l1), (2, .int l2)] [] h (f_X10_laySpellings_L92 l0 l1 K n l2 h) := by
  intro n
  induction n with
  | zero =>
    intro l2 h
    exact X_none
  | succ n ih =>
    intro l2 h
    unfold f_X10_laySpellings_L92
    refine X_iload_n hg 2 rfl dX10_laySpellings_92 ?_
    refine X_aload_n hg 0 rfl dX10_laySpellings_93 ?_
    refine X_getI hg (j := 2) cf_10 (Nat.le_of_ble_eq_true rfl) (Or.inl rfl) m_902 dX10_laySpellings_94 (fun x23 _ => ?_)
    refine X_icmp_ge hg (tgt := 129) dX10_laySpellings_97 rfl (fun c30 => ?_) (fun c30 => ?_)
    · refine X_lv [0, 1] rfl ?_
      exact hK0  _
    · refine X_aload_n hg 0 rfl dX10_laySpellings_100 ?_
      refine X_iload_n hg 2 rfl dX10_laySpellings_101 ?_
      refine X_iload_n hg 1 rfl dX10_laySpellings_102 ?_
      refine X_cVI0 hg mf_X10_fitsAt m_1251 m_71 m_1249 cf_10 (fun _ e => gd_isO e) (fun y e => c_X10_fitsAt g.1 l0 l2 l1 h y e) (As := [.int l2, .int l1]) rfl (Nat.le_of_ble_eq_true rfl) rfl (Nat.le_of_ble_eq_true rfl) (Nat.le_of_ble_eq_true rfl) (Nat.le_of_ble_eq_true rfl) (Nat.le_of_ble_eq_true rfl) dX10_laySpellings_103 (fun x24 _ => ?_)
      refine X_reg (fun (v25 : Hp) o => Xo g x0 3 0 0 123 [(0, .ref (nB g.1 + l0)), (1, .int l1), (2, .int l2)] [] v25 o) (fun kv25 hk25 => ?_) (fun v25 => ?_)
      · refine X_ib ?_
        refine X_if_eq hg (tgt := 123) dX10_laySpellings_106 rfl (fun c29 => ?_) (fun c29 => ?_)
        · exact hk25 h
        · refine X_aload_n hg 0 rfl dX10_laySpellings_109 ?_
          refine X_iload_n hg 1 rfl dX10_laySpellings_110 ?_
          refine X_iload_n hg 1 rfl dX10_laySpellings_111 ?_
          refine X_aload_n hg 0 rfl dX10_laySpellings_112 ?_
          refine X_as ?_
          refine X_getR hg (j := 3) cf_10 (Nat.le_of_ble_eq_true rfl) (Or.inr ⟨_, rfl⟩) m_903 dX10_laySpellings_113 (fun x26 _ => ?_)
          refine X_iload_n hg 2 rfl dX10_laySpellings_116 ?_
          refine X_as ?_
          refine X_ald hg dX10_laySpellings_117 (fun x27 _ => ?_)
          refine X_iadd hg dX10_laySpellings_118 ?_
          refine X_iconst hg ic_i_0 dX10_laySpellings_119 ?_
          refine X_as ?_
          refine X_cVV0 hg mf_X10_takesPiece m_1246 m_70 m_1244 cf_10 (fun _ e => gd_isO e) (fun y e => c_X10_takesPiece g.1 l0 l1 (l1 + x27) (nI 0) h y e) (As := [.int l1, .int (l1 + x27), .int (nI 0)]) rfl (Nat.le_of_ble_eq_true rfl) rfl (Nat.le_of_ble_eq_true rfl) (Nat.le_of_ble_eq_true rfl) (Nat.le_of_ble_eq_true rfl) (Nat.le_of_ble_eq_true rfl) dX10_laySpellings_120 (fun h28 _ => ?_)
          exact hk25 h28
      · refine X_iinc hg 2 rfl (v := (l2 + (nI 1))) (icc ic_i_1) (Nat.le_of_ble_eq_true rfl) (lv' := [(2, .int (l2 + (nI 1))), (0, .ref (nB g.1 + l0)), (1, .int l1)]) rfl dX10_laySpellings_123 ?_
        refine X_goto hg (tgt := 92) dX10_laySpellings_126 rfl ?_
        refine X_lv [1, 2, 0] rfl ?_
        exact ih _ _
set_option maxRecDepth 10000 in
theorem l_X10_laySpellings_47 {g : XC} {x0 : Hp} (hg : XG g RX10 cX10_laySpellings 3 2 46 0 0) (l0 : Nat) (hr : XR g none "laySpellings" none x0 0 0) (K : Hp → Option (Hp)) (hK0 : ∀ (h : Hp), Xo g x0 3 0 0 135 [] [] h (K h)) : ∀ (n : Nat) (l1 : Int32) (h : Hp), Xo g x0 3 0 0 47 [(0, .ref (nB g.1 + l0)), (1, .int l1)] [] h (f_X10_laySpellings_L47 l0 K n l1 h) := by
  intro n
  induction n with
  | zero =>
    intro l1 h
    exact X_none
  | succ n ih =>
    intro l1 h
    unfold f_X10_laySpellings_L47
    refine X_iload_n hg 1 rfl dX10_laySpellings_47 ?_
    refine X_if_lt hg (tgt := 135) dX10_laySpellings_48 rfl (fun c32 => ?_) (fun c32 => ?_)
    · refine X_lv [] rfl ?_
      exact hK0  _
    · refine X_aload_n hg 0 rfl dX10_laySpellings_51 ?_
      refine X_getR hg (j := 22) cf_10 (Nat.le_of_ble_eq_true rfl) (Or.inr ⟨_, rfl⟩) m_922 dX10_laySpellings_52 (fun x14 _ => ?_)
      refine X_iload_n hg 1 rfl dX10_laySpellings_55 ?_
      refine X_iconst hg ic_i_0 dX10_laySpellings_56 ?_
      refine X_ast hg dX10_laySpellings_57 (fun h15 _ => ?_)
      refine X_aload_n hg 0 rfl dX10_laySpellings_58 ?_
      refine X_getR hg (j := 23) cf_10 (Nat.le_of_ble_eq_true rfl) (Or.inr ⟨_, rfl⟩) m_923 dX10_laySpellings_59 (fun x16 _ => ?_)
      refine X_iload_n hg 1 rfl dX10_laySpellings_62 ?_
      refine X_ldc hg (v := (nI 268435456)) m_1111 dX10_laySpellings_63 ?_
      refine X_ast hg dX10_laySpellings_65 (fun h17 _ => ?_)
      refine X_aload_n hg 0 rfl dX10_laySpellings_66 ?_
      refine X_getR hg (j := 24) cf_10 (Nat.le_of_ble_eq_true rfl) (Or.inr ⟨_, rfl⟩) m_924 dX10_laySpellings_67 (fun x18 _ => ?_)
      refine X_iload_n hg 1 rfl dX10_laySpellings_70 ?_
      refine X_ldc hg (v := (nI 268435456)) m_1111 dX10_laySpellings_71 ?_
      refine X_ast hg dX10_laySpellings_73 (fun h19 _ => ?_)
      refine X_aload_n hg 0 rfl dX10_laySpellings_74 ?_
      refine X_getR hg (j := 25) cf_10 (Nat.le_of_ble_eq_true rfl) (Or.inr ⟨_, rfl⟩) m_925 dX10_laySpellings_75 (fun x20 _ => ?_)
      refine X_iload_n hg 1 rfl dX10_laySpellings_78 ?_
      refine X_iconst hg ic_i_0 dX10_laySpellings_79 ?_
      refine X_ast hg dX10_laySpellings_80 (fun h21 _ => ?_)
      refine X_aload_n hg 0 rfl dX10_laySpellings_81 ?_
      refine X_iload_n hg 1 rfl dX10_laySpellings_82 ?_
      refine X_iload_n hg 1 rfl dX10_laySpellings_83 ?_
      refine X_iconst hg ic_i_1 dX10_laySpellings_84 ?_
      refine X_iadd hg dX10_laySpellings_85 ?_
      refine X_iconst hg ic_i_1 dX10_laySpellings_86 ?_
      refine X_cVV0 hg mf_X10_takesPiece m_1246 m_70 m_1244 cf_10 (fun _ e => gd_isO e) (fun y e => c_X10_takesPiece g.1 l0 l1 (l1 + (nI 1)) (nI 1) h21 y e) (As := [.int l1, .int (l1 + (nI 1)), .int (nI 1)]) rfl (Nat.le_of_ble_eq_true rfl) rfl (Nat.le_of_ble_eq_true rfl) (Nat.le_of_ble_eq_true rfl) (Nat.le_of_ble_eq_true rfl) (Nat.le_of_ble_eq_true rfl) dX10_laySpellings_87 (fun h22 _ => ?_)
      refine X_iconst hg ic_i_0 dX10_laySpellings_90 ?_
      refine X_istore_n hg rfl (Nat.le_of_ble_eq_true rfl) (lv' := [(2, .int (nI 0)), (0, .ref (nB g.1 + l0)), (1, .int l1)]) rfl dX10_laySpellings_91 ?_
      refine X_lv [1, 2, 0] rfl ?_
      refine l_X10_laySpellings_92 hg _ _ hr _ (fun h31 => ?_) _ _ _
      refine X_iinc hg 1 rfl (v := (l1 + m1)) (icc ic_i_m1) (Nat.le_of_ble_eq_true rfl) (lv' := [(1, .int (l1 + m1)), (0, .ref (nB g.1 + l0))]) rfl dX10_laySpellings_129 ?_
      refine X_goto hg (tgt := 47) dX10_laySpellings_132 rfl ?_
      refine X_lv [1, 0] rfl ?_
      exact ih _ _
set_option maxRecDepth 10000 in
theorem c_X10_laySpellings (en : EN) (a0 : Nat) (h : Hp) (x0 : Hp) (e : f_X10_laySpellings a0 h = some x0) : Ct en yX10_laySpellings cX10_laySpellings 3 none 2 46 0 0 [.ref (nB en + a0)] h none x0 := by
  refine Ct.of (by decide) rfl (Nat.le_of_ble_eq_true rfl) e (fun g hen hg hr => ?_)
  subst hen
  unfold f_X10_laySpellings
  refine X_gd ?_
  refine X_aload_n hg 0 rfl dX10_laySpellings_0 ?_
  refine X_getR hg (j := 22) cf_10 (Nat.le_of_ble_eq_true rfl) (Or.inr ⟨_, rfl⟩) m_922 dX10_laySpellings_1 (fun x1 _ => ?_)
  refine X_aload_n hg 0 rfl dX10_laySpellings_4 ?_
  refine X_getI hg (j := 10) cf_10 (Nat.le_of_ble_eq_true rfl) (Or.inl rfl) m_910 dX10_laySpellings_5 (fun x2 _ => ?_)
  refine X_iconst hg ic_i_1 dX10_laySpellings_8 ?_
  refine X_ast hg dX10_laySpellings_9 (fun h3 _ => ?_)
  refine X_aload_n hg 0 rfl dX10_laySpellings_10 ?_
  refine X_getR hg (j := 23) cf_10 (Nat.le_of_ble_eq_true rfl) (Or.inr ⟨_, rfl⟩) m_923 dX10_laySpellings_11 (fun x4 _ => ?_)
  refine X_aload_n hg 0 rfl dX10_laySpellings_14 ?_
  refine X_getI hg (j := 10) cf_10 (Nat.le_of_ble_eq_true rfl) (Or.inl rfl) m_910 dX10_laySpellings_15 (fun x5 _ => ?_)
  refine X_iconst hg ic_i_0 dX10_laySpellings_18 ?_
  refine X_ast hg dX10_laySpellings_19 (fun h6 _ => ?_)
  refine X_aload_n hg 0 rfl dX10_laySpellings_20 ?_
  refine X_getR hg (j := 24) cf_10 (Nat.le_of_ble_eq_true rfl) (Or.inr ⟨_, rfl⟩) m_924 dX10_laySpellings_21 (fun x7 _ => ?_)
  refine X_aload_n hg 0 rfl dX10_laySpellings_24 ?_
  refine X_getI hg (j := 10) cf_10 (Nat.le_of_ble_eq_true rfl) (Or.inl rfl) m_910 dX10_laySpellings_25 (fun x8 _ => ?_)
  refine X_iconst hg ic_i_0 dX10_laySpellings_28 ?_
  refine X_ast hg dX10_laySpellings_29 (fun h9 _ => ?_)
  refine X_aload_n hg 0 rfl dX10_laySpellings_30 ?_
  refine X_getR hg (j := 25) cf_10 (Nat.le_of_ble_eq_true rfl) (Or.inr ⟨_, rfl⟩) m_925 dX10_laySpellings_31 (fun x10 _ => ?_)
  refine X_aload_n hg 0 rfl dX10_laySpellings_34 ?_
  refine X_getI hg (j := 10) cf_10 (Nat.le_of_ble_eq_true rfl) (Or.inl rfl) m_910 dX10_laySpellings_35 (fun x11 _ => ?_)
  refine X_iconst hg ic_i_1 dX10_laySpellings_38 ?_
  refine X_ast hg dX10_laySpellings_39 (fun h12 _ => ?_)
  refine X_aload_n hg 0 rfl dX10_laySpellings_40 ?_
  refine X_getI hg (j := 10) cf_10 (Nat.le_of_ble_eq_true rfl) (Or.inl rfl) m_910 dX10_laySpellings_41 (fun x13 _ => ?_)
  refine X_iconst hg ic_i_1 dX10_laySpellings_44 ?_
  refine X_isub hg dX10_laySpellings_45 ?_
  refine X_istore_n hg rfl (Nat.le_of_ble_eq_true rfl) (lv' := [(1, .int (x13 - (nI 1))), (0, .ref (nB g.1 + a0))]) rfl dX10_laySpellings_46 ?_
  refine X_lv [1, 0] rfl ?_
  refine l_X10_laySpellings_47 hg _ hr _ (fun h33 => ?_) _ _ _
  exact X_vret hg hr (Nat.le_of_ble_eq_true rfl) (Nat.le_of_ble_eq_true rfl) dX10_laySpellings_135
set_option maxRecDepth 10000 in
theorem c_X10_spellingNow (en : EN) (a0 : Nat) (a1 : Int32) (h : Hp) (x0 : Int32 × Hp) (e : f_X10_spellingNow a0 a1 h = some x0) : Ct en yX10_spellingNow cX10_spellingNow 2 (some .int) 3 68 0 0 [.ref (nB en + a0), .int a1] h (some (.int x0.1)) x0.2 := by
  refine Ct.of (by decide) rfl (Nat.le_of_ble_eq_true rfl) e (fun g hen hg hr => ?_)
  subst hen
  unfold f_X10_spellingNow
  refine X_gd ?_
  refine X_aload_n hg 0 rfl dX10_spellingNow_0 ?_
  refine X_cVV0 hg mf_X10_laySpellings m_1242 m_69 m_1240 cf_10 (fun _ e => gd_isO e) (fun y e => c_X10_laySpellings g.1 a0 h y e) (As := []) rfl (Nat.le_of_ble_eq_true rfl) rfl (Nat.le_of_ble_eq_true rfl) (Nat.le_of_ble_eq_true rfl) (Nat.le_of_ble_eq_true rfl) (Nat.le_of_ble_eq_true rfl) dX10_spellingNow_1 (fun h1 _ => ?_)
  refine X_iload_n hg 1 rfl dX10_spellingNow_4 ?_
  refine X_tsw hg (v := (nI 0)) (tgt := 32) dX10_spellingNow_5 (by decide) (by decide) rfl rfl (fun c4 => ?_) (fun c4 => ?_)
  · refine X_aload_n hg 0 rfl dX10_spellingNow_32 ?_
    refine X_getR hg (j := 22) cf_10 (Nat.le_of_ble_eq_true rfl) (Or.inr ⟨_, rfl⟩) m_922 dX10_spellingNow_33 (fun x2 _ => ?_)
    refine X_iconst hg ic_i_0 dX10_spellingNow_36 ?_
    refine X_ald hg dX10_spellingNow_37 (fun x3 _ => ?_)
    exact X_iretW hg hr (Nat.le_of_ble_eq_true rfl) (Nat.le_of_ble_eq_true rfl) dX10_spellingNow_38
  · skip
    refine X_tsw hg (v := (nI 1)) (tgt := 39) dX10_spellingNow_5 (by decide) (by decide) rfl rfl (fun c7 => ?_) (fun c7 => ?_)
    · refine X_aload_n hg 0 rfl dX10_spellingNow_39 ?_
      refine X_getR hg (j := 23) cf_10 (Nat.le_of_ble_eq_true rfl) (Or.inr ⟨_, rfl⟩) m_923 dX10_spellingNow_40 (fun x5 _ => ?_)
      refine X_iconst hg ic_i_0 dX10_spellingNow_43 ?_
      refine X_ald hg dX10_spellingNow_44 (fun x6 _ => ?_)
      exact X_iretW hg hr (Nat.le_of_ble_eq_true rfl) (Nat.le_of_ble_eq_true rfl) dX10_spellingNow_45
    · skip
      refine X_tsw hg (v := (nI 2)) (tgt := 46) dX10_spellingNow_5 (by decide) (by decide) rfl rfl (fun c10 => ?_) (fun c10 => ?_)
      · refine X_aload_n hg 0 rfl dX10_spellingNow_46 ?_
        refine X_getR hg (j := 24) cf_10 (Nat.le_of_ble_eq_true rfl) (Or.inr ⟨_, rfl⟩) m_924 dX10_spellingNow_47 (fun x8 _ => ?_)
        refine X_iconst hg ic_i_0 dX10_spellingNow_50 ?_
        refine X_ald hg dX10_spellingNow_51 (fun x9 _ => ?_)
        exact X_iretW hg hr (Nat.le_of_ble_eq_true rfl) (Nat.le_of_ble_eq_true rfl) dX10_spellingNow_52
      · skip
        refine X_tsd hg (tgt := 53) dX10_spellingNow_5 (by have q0 := lv_neT c4 (a := 0) rfl; have q1 := lv_neT c7 (a := 1) rfl; have q2 := lv_neT c10 (a := 2) rfl; omega) rfl ?_
        refine X_aload_n hg 0 rfl dX10_spellingNow_53 ?_
        refine X_getR hg (j := 25) cf_10 (Nat.le_of_ble_eq_true rfl) (Or.inr ⟨_, rfl⟩) m_925 dX10_spellingNow_54 (fun x11 _ => ?_)
        refine X_iconst hg ic_i_0 dX10_spellingNow_57 ?_
        refine X_ald hg dX10_spellingNow_58 (fun x12 _ => ?_)
        exact X_iretW hg hr (Nat.le_of_ble_eq_true rfl) (Nat.le_of_ble_eq_true rfl) dX10_spellingNow_59
set_option maxRecDepth 10000 in
theorem c_X10_spelling (en : EN) (a0 : Nat) (a1 : Int32) (h : Hp) (x0 : Int32 × Hp) (e : f_X10_spelling a0 a1 h = some x0) : Ct en yX10_spelling cX10_spelling 2 (some .int) 4 89 0 0 [.ref (nB en + a0), .int a1] h (some (.int x0.1)) x0.2 := by
  refine Ct.of (by decide) rfl (Nat.le_of_ble_eq_true rfl) e (fun g hen hg hr => ?_)
  subst hen
  unfold f_X10_spelling
  refine X_gd ?_
  refine X_iload_n hg 1 rfl dX10_spelling_0 ?_
  refine X_iconst hg ic_i_0 dX10_spelling_1 ?_
  refine X_iconst hg ic_i_3 dX10_spelling_2 ?_
  refine X_cSI0 hg mf_X10_within m_1005 m_1004 (fun y e => c_X10_within g.1 a1 (nI 0) (nI 3) h y e) (As := [.int a1, .int (nI 0), .int (nI 3)]) rfl (Nat.le_of_ble_eq_true rfl) rfl (Nat.le_of_ble_eq_true rfl) (Nat.le_of_ble_eq_true rfl) (Nat.le_of_ble_eq_true rfl) (Nat.le_of_ble_eq_true rfl) dX10_spelling_3 (fun x1 _ => ?_)
  refine X_reg (fun (v2 : Int32 × Hp) o => Xo g x0 2 0 0 19 [] [.int v2.1] v2.2 o) (fun kv2 hk2 => ?_) (fun v2 => ?_)
  · refine X_ib ?_
    refine X_if_eq hg (tgt := 17) dX10_spelling_6 rfl (fun c4 => ?_) (fun c4 => ?_)
    · refine X_bipush hg ic_b_m102 dX10_spelling_17 ?_
      refine X_lv [] rfl ?_
      exact hk2 (m102, h)
    · refine X_aload_n hg 0 rfl dX10_spelling_9 ?_
      refine X_iload_n hg 1 rfl dX10_spelling_10 ?_
      refine X_as ?_
      refine X_cVIW0 hg mf_X10_spellingNow m_1238 m_68 m_1236 cf_10 (fun _ e => gd_isO e) (fun y e => c_X10_spellingNow g.1 a0 a1 h y e) (As := [.int a1]) rfl (Nat.le_of_ble_eq_true rfl) rfl (Nat.le_of_ble_eq_true rfl) (Nat.le_of_ble_eq_true rfl) (Nat.le_of_ble_eq_true rfl) (Nat.le_of_ble_eq_true rfl) dX10_spelling_11 (fun p3 _ => ?_)
      refine X_goto hg (tgt := 19) dX10_spelling_14 rfl ?_
      refine X_lv [] rfl ?_
      exact hk2 (p3.1, p3.2)
  · exact X_iretW hg hr (Nat.le_of_ble_eq_true rfl) (Nat.le_of_ble_eq_true rfl) dX10_spelling_19
set_option maxRecDepth 10000 in
theorem l_X10_bestName_2 {g : XC} {x0 : Int32} (hg : XG g RX10 cX10_bestName 3 2 46 0 0) (l0 : Nat) (l1 : Int32) (h : Hp) (hr : XR g (some .int) "bestName" (some (.int x0)) h 0 0) (K : Option (Int32)) (hK0 : Xo g x0 3 0 0 73 [] [] h K) : ∀ (n : Nat) (l2 : Int32), Xo g x0 3 0 0 2 [(0, .ref (nB g.1 + l0)), (1, .int l1), (2, .int l2)] [] h (f_X10_bestName_L2 l0 l1 h K n l2) := by
  intro n
  induction n with
  | zero =>
    intro l2
    exact X_none
  | succ n ih =>
    intro l2
    unfold f_X10_bestName_L2
    refine X_iload_n hg 2 rfl dX10_bestName_2 ?_
    refine X_aload_n hg 0 rfl dX10_bestName_3 ?_
    refine X_getI hg (j := 2) cf_10 (Nat.le_of_ble_eq_true rfl) (Or.inl rfl) m_902 dX10_bestName_4 (fun x1 _ => ?_)
    refine X_icmp_ge hg (tgt := 73) dX10_bestName_7 rfl (fun c18 => ?_) (fun c18 => ?_)
    · refine X_lv [] rfl ?_
      exact hK0 
    · refine X_aload_n hg 0 rfl dX10_bestName_10 ?_
      refine X_iload_n hg 2 rfl dX10_bestName_11 ?_
      refine X_iload_n hg 1 rfl dX10_bestName_12 ?_
      refine X_cVI0 hg mf_X10_fitsAt m_1251 m_71 m_1249 cf_10 (fun _ e => gd_isO e) (fun y e => c_X10_fitsAt g.1 l0 l2 l1 h y e) (As := [.int l2, .int l1]) rfl (Nat.le_of_ble_eq_true rfl) rfl (Nat.le_of_ble_eq_true rfl) (Nat.le_of_ble_eq_true rfl) (Nat.le_of_ble_eq_true rfl) (Nat.le_of_ble_eq_true rfl) dX10_bestName_13 (fun x2 _ => ?_)
      refine X_if_eq hg (tgt := 67) dX10_bestName_16 rfl (fun c17 => ?_) (fun c17 => ?_)
      · refine X_iinc hg 2 rfl (v := (l2 + (nI 1))) (icc ic_i_1) (Nat.le_of_ble_eq_true rfl) (lv' := [(2, .int (l2 + (nI 1))), (0, .ref (nB g.1 + l0)), (1, .int l1)]) rfl dX10_bestName_67 ?_
        refine X_goto hg (tgt := 2) dX10_bestName_70 rfl ?_
        refine X_lv [1, 2, 0] rfl ?_
        exact ih _
      · refine X_aload_n hg 0 rfl dX10_bestName_19 ?_
        refine X_getR hg (j := 23) cf_10 (Nat.le_of_ble_eq_true rfl) (Or.inr ⟨_, rfl⟩) m_923 dX10_bestName_20 (fun x3 _ => ?_)
        refine X_iload_n hg 1 rfl dX10_bestName_23 ?_
        refine X_aload_n hg 0 rfl dX10_bestName_24 ?_
        refine X_getR hg (j := 3) cf_10 (Nat.le_of_ble_eq_true rfl) (Or.inr ⟨_, rfl⟩) m_903 dX10_bestName_25 (fun x4 _ => ?_)
        refine X_iload_n hg 2 rfl dX10_bestName_28 ?_
        refine X_ald hg dX10_bestName_29 (fun x5 _ => ?_)
        refine X_iadd hg dX10_bestName_30 ?_
        refine X_ald hg dX10_bestName_31 (fun x6 _ => ?_)
        refine X_aload_n hg 0 rfl dX10_bestName_32 ?_
        refine X_getR hg (j := 23) cf_10 (Nat.le_of_ble_eq_true rfl) (Or.inr ⟨_, rfl⟩) m_923 dX10_bestName_33 (fun x7 _ => ?_)
        refine X_iload_n hg 1 rfl dX10_bestName_36 ?_
        refine X_ald hg dX10_bestName_37 (fun x8 _ => ?_)
        refine X_icmp_ne hg (tgt := 67) dX10_bestName_38 rfl (fun c16 => ?_) (fun c16 => ?_)
        · refine X_aload_n hg 0 rfl dX10_bestName_41 ?_
          refine X_getR hg (j := 24) cf_10 (Nat.le_of_ble_eq_true rfl) (Or.inr ⟨_, rfl⟩) m_924 dX10_bestName_42 (fun x9 _ => ?_)
          refine X_iload_n hg 1 rfl dX10_bestName_45 ?_
          refine X_aload_n hg 0 rfl dX10_bestName_46 ?_
          refine X_getR hg (j := 3) cf_10 (Nat.le_of_ble_eq_true rfl) (Or.inr ⟨_, rfl⟩) m_903 dX10_bestName_47 (fun x10 _ => ?_)
          refine X_iload_n hg 2 rfl dX10_bestName_50 ?_
          refine X_ald hg dX10_bestName_51 (fun x11 _ => ?_)
          refine X_iadd hg dX10_bestName_52 ?_
          refine X_ald hg dX10_bestName_53 (fun x12 _ => ?_)
          refine X_iconst hg ic_i_1 dX10_bestName_54 ?_
          refine X_iadd hg dX10_bestName_55 ?_
          refine X_aload_n hg 0 rfl dX10_bestName_56 ?_
          refine X_getR hg (j := 24) cf_10 (Nat.le_of_ble_eq_true rfl) (Or.inr ⟨_, rfl⟩) m_924 dX10_bestName_57 (fun x13 _ => ?_)
          refine X_iload_n hg 1 rfl dX10_bestName_60 ?_
          refine X_ald hg dX10_bestName_61 (fun x14 _ => ?_)
          refine X_icmp_ne hg (tgt := 67) dX10_bestName_62 rfl (fun c15 => ?_) (fun c15 => ?_)
          · refine X_iload_n hg 2 rfl dX10_bestName_65 ?_
            exact X_iret hg hr (Nat.le_of_ble_eq_true rfl) (Nat.le_of_ble_eq_true rfl) dX10_bestName_66
          · refine X_iinc hg 2 rfl (v := (l2 + (nI 1))) (icc ic_i_1) (Nat.le_of_ble_eq_true rfl) (lv' := [(2, .int (l2 + (nI 1))), (0, .ref (nB g.1 + l0)), (1, .int l1)]) rfl dX10_bestName_67 ?_
            refine X_goto hg (tgt := 2) dX10_bestName_70 rfl ?_
            refine X_lv [1, 2, 0] rfl ?_
            exact ih _
        · refine X_iinc hg 2 rfl (v := (l2 + (nI 1))) (icc ic_i_1) (Nat.le_of_ble_eq_true rfl) (lv' := [(2, .int (l2 + (nI 1))), (0, .ref (nB g.1 + l0)), (1, .int l1)]) rfl dX10_bestName_67 ?_
          refine X_goto hg (tgt := 2) dX10_bestName_70 rfl ?_
          refine X_lv [1, 2, 0] rfl ?_
          exact ih _
set_option maxRecDepth 10000 in
theorem c_X10_bestName (en : EN) (a0 : Nat) (a1 : Int32) (h : Hp) (x0 : Int32) (e : f_X10_bestName a0 a1 h = some x0) : Ct en yX10_bestName cX10_bestName 3 (some .int) 2 46 0 0 [.ref (nB en + a0), .int a1] h (some (.int x0)) h := by
  refine Ct.of (by decide) rfl (Nat.le_of_ble_eq_true rfl) e (fun g hen hg hr => ?_)
  subst hen
  unfold f_X10_bestName
  refine X_gd ?_
  refine X_iconst hg ic_i_0 dX10_bestName_0 ?_
  refine X_istore_n hg rfl (Nat.le_of_ble_eq_true rfl) (lv' := [(2, .int (nI 0)), (0, .ref (nB g.1 + a0)), (1, .int a1)]) rfl dX10_bestName_1 ?_
  refine X_lv [1, 2, 0] rfl ?_
  refine l_X10_bestName_2 hg _ _ _ hr _ ?_ _ _
  refine X_iconst hg ic_i_m1 dX10_bestName_73 ?_
  exact X_iret hg hr (Nat.le_of_ble_eq_true rfl) (Nat.le_of_ble_eq_true rfl) dX10_bestName_74
set_option maxRecDepth 10000 in
theorem l_X10_pieceNow_8 {g : XC} {x0 : Int32 × Hp} (hg : XG g RX10 cX10_pieceNow 5 3 68 0 0) (l0 : Nat) (l1 : Int32) (h : Hp) (hr : XR g (some .int) "pieceNow" (some (.int x0.1)) x0.2 0 0) (K : Option (Int32 × Hp)) (hK0 : Xo g x0 5 0 0 75 [] [] h K) : ∀ (n : Nat) (l2 : Int32) (l3 : Int32), Xo g x0 5 0 0 8 [(0, .ref (nB g.1 + l0)), (1, .int l1), (2, .int l2), (3, .int l3)] [] h (f_X10_pieceNow_L8 l0 l1 h K n l2 l3) := by
  intro n
  induction n with
  | zero =>
    intro l2 l3
    exact X_none
  | succ n ih =>
    intro l2 l3
    unfold f_X10_pieceNow_L8
    refine X_iload_n hg 2 rfl dX10_pieceNow_8 ?_
    refine X_aload_n hg 0 rfl dX10_pieceNow_9 ?_
    refine X_getI hg (j := 10) cf_10 (Nat.le_of_ble_eq_true rfl) (Or.inl rfl) m_910 dX10_pieceNow_10 (fun x2 _ => ?_)
    refine X_icmp_ge hg (tgt := 75) dX10_pieceNow_13 rfl (fun c13 => ?_) (fun c13 => ?_)
    · refine X_lv [] rfl ?_
      exact hK0 
    · refine X_aload_n hg 0 rfl dX10_pieceNow_16 ?_
      refine X_iload_n hg 2 rfl dX10_pieceNow_17 ?_
      refine X_cVI0 hg mf_X10_bestName m_1263 m_73 m_1261 cf_10 (fun _ e => gd_isO e) (fun y e => c_X10_bestName g.1 l0 l2 h y e) (As := [.int l2]) rfl (Nat.le_of_ble_eq_true rfl) rfl (Nat.le_of_ble_eq_true rfl) (Nat.le_of_ble_eq_true rfl) (Nat.le_of_ble_eq_true rfl) (Nat.le_of_ble_eq_true rfl) dX10_pieceNow_18 (fun x3 _ => ?_)
      refine X_istore hg (Nat.le_of_ble_eq_true rfl) (lv' := [(4, .int x3), (0, .ref (nB g.1 + l0)), (1, .int l1), (2, .int l2), (3, .int l3)]) rfl dX10_pieceNow_21 ?_
      refine X_iload_n hg 4 rfl dX10_pieceNow_23 ?_
      refine X_iload_n hg 2 rfl dX10_pieceNow_24 ?_
      refine X_icmp_ne hg (tgt := 49) dX10_pieceNow_25 rfl (fun c12 => ?_) (fun c12 => ?_)
      · refine X_iload hg 0 rfl dX10_pieceNow_28 ?_
        refine X_iconst hg ic_i_m1 dX10_pieceNow_30 ?_
        refine X_reg (fun (v4 : Int32) o => Xo g x0 5 0 0 48 [] [.int v4] h o) (fun kv4 hk4 => ?_) (fun v4 => ?_)
        · refine X_ib ?_
          refine X_icmp_ne hg (tgt := 46) dX10_pieceNow_31 rfl (fun c7 => ?_) (fun c7 => ?_)
          · refine X_bipush hg ic_b_m2 dX10_pieceNow_34 ?_
            refine X_aload_n hg 1 rfl dX10_pieceNow_36 ?_
            refine X_as ?_
            refine X_getR hg (j := 11) cf_10 (Nat.le_of_ble_eq_true rfl) (Or.inr ⟨_, rfl⟩) m_911 dX10_pieceNow_37 (fun x5 _ => ?_)
            refine X_iload_n hg 3 rfl dX10_pieceNow_40 ?_
            refine X_as ?_
            refine X_ald hg dX10_pieceNow_41 (fun x6 _ => ?_)
            refine X_isub hg dX10_pieceNow_42 ?_
            refine X_goto hg (tgt := 48) dX10_pieceNow_43 rfl ?_
            refine X_lv [] rfl ?_
            exact hk4 (m2 - x6)
          · refine X_iload hg 0 rfl dX10_pieceNow_46 ?_
            refine X_lv [] rfl ?_
            exact hk4 x3
        · exact X_iretW hg hr (Nat.le_of_ble_eq_true rfl) (Nat.le_of_ble_eq_true rfl) dX10_pieceNow_48
      · refine X_iload_n hg 3 rfl dX10_pieceNow_49 ?_
        refine X_iload hg 0 rfl dX10_pieceNow_50 ?_
        refine X_iconst hg ic_i_m1 dX10_pieceNow_52 ?_
        refine X_reg (fun (v8 : Int32) o => Xo g x0 5 0 0 67 [(0, .ref (nB g.1 + l0)), (1, .int l1), (3, .int l3)] [.int v8, .int l2] h o) (fun kv8 hk8 => ?_) (fun v8 => ?_)
        · refine X_ib ?_
          refine X_icmp_ne hg (tgt := 60) dX10_pieceNow_53 rfl (fun c11 => ?_) (fun c11 => ?_)
          · refine X_iconst hg ic_i_1 dX10_pieceNow_56 ?_
            refine X_goto hg (tgt := 67) dX10_pieceNow_57 rfl ?_
            refine X_lv [1, 2, 4] rfl ?_
            exact hk8 (nI 1)
          · refine X_aload_n hg 1 rfl dX10_pieceNow_60 ?_
            refine X_as ?_
            refine X_getR hg (j := 3) cf_10 (Nat.le_of_ble_eq_true rfl) (Or.inr ⟨_, rfl⟩) m_903 dX10_pieceNow_61 (fun x9 _ => ?_)
            refine X_iload hg 0 rfl dX10_pieceNow_64 ?_
            refine X_as ?_
            refine X_ald hg dX10_pieceNow_66 (fun x10 _ => ?_)
            refine X_lv [1, 2, 4] rfl ?_
            exact hk8 x10
        · refine X_iadd hg dX10_pieceNow_67 ?_
          refine X_istore_n hg rfl (Nat.le_of_ble_eq_true rfl) (lv' := [(2, .int (l2 + v8)), (0, .ref (nB g.1 + l0)), (1, .int l1), (3, .int l3)]) rfl dX10_pieceNow_68 ?_
          refine X_iinc hg 3 rfl (v := (l3 + (nI 1))) (icc ic_i_1) (Nat.le_of_ble_eq_true rfl) (lv' := [(3, .int (l3 + (nI 1))), (2, .int (l2 + v8)), (0, .ref (nB g.1 + l0)), (1, .int l1)]) rfl dX10_pieceNow_69 ?_
          refine X_goto hg (tgt := 8) dX10_pieceNow_72 rfl ?_
          refine X_lv [2, 3, 1, 0] rfl ?_
          exact ih _ _
set_option maxRecDepth 10000 in
theorem c_X10_pieceNow (en : EN) (a0 : Nat) (a1 : Int32) (h : Hp) (x0 : Int32 × Hp) (e : f_X10_pieceNow a0 a1 h = some x0) : Ct en yX10_pieceNow cX10_pieceNow 5 (some .int) 3 68 0 0 [.ref (nB en + a0), .int a1] h (some (.int x0.1)) x0.2 := by
  refine Ct.of (by decide) rfl (Nat.le_of_ble_eq_true rfl) e (fun g hen hg hr => ?_)
  subst hen
  unfold f_X10_pieceNow
  refine X_gd ?_
  refine X_aload_n hg 0 rfl dX10_pieceNow_0 ?_
  refine X_cVV0 hg mf_X10_laySpellings m_1242 m_69 m_1240 cf_10 (fun _ e => gd_isO e) (fun y e => c_X10_laySpellings g.1 a0 h y e) (As := []) rfl (Nat.le_of_ble_eq_true rfl) rfl (Nat.le_of_ble_eq_true rfl) (Nat.le_of_ble_eq_true rfl) (Nat.le_of_ble_eq_true rfl) (Nat.le_of_ble_eq_true rfl) dX10_pieceNow_1 (fun h1 _ => ?_)
  refine X_iconst hg ic_i_0 dX10_pieceNow_4 ?_
  refine X_istore_n hg rfl (Nat.le_of_ble_eq_true rfl) (lv' := [(2, .int (nI 0)), (0, .ref (nB g.1 + a0)), (1, .int a1)]) rfl dX10_pieceNow_5 ?_
  refine X_iconst hg ic_i_0 dX10_pieceNow_6 ?_
  refine X_istore_n hg rfl (Nat.le_of_ble_eq_true rfl) (lv' := [(3, .int (nI 0)), (2, .int (nI 0)), (0, .ref (nB g.1 + a0)), (1, .int a1)]) rfl dX10_pieceNow_7 ?_
  refine X_lv [2, 3, 1, 0] rfl ?_
  refine l_X10_pieceNow_8 hg _ _ _ hr _ ?_ _ _ _
  refine X_bipush hg ic_b_m101 dX10_pieceNow_75 ?_
  exact X_iretW hg hr (Nat.le_of_ble_eq_true rfl) (Nat.le_of_ble_eq_true rfl) dX10_pieceNow_77
set_option maxRecDepth 10000 in
theorem c_X10_piece (en : EN) (a0 : Nat) (a1 : Int32) (h : Hp) (x0 : Int32 × Hp) (e : f_X10_piece a0 a1 h = some x0) : Ct en yX10_piece cX10_piece 2 (some .int) 4 92 0 0 [.ref (nB en + a0), .int a1] h (some (.int x0.1)) x0.2 := by
  refine Ct.of (by decide) rfl (Nat.le_of_ble_eq_true rfl) e (fun g hen hg hr => ?_)
  subst hen
  unfold f_X10_piece
  refine X_gd ?_
  refine X_aload_n hg 0 rfl dX10_piece_0 ?_
  refine X_iload_n hg 1 rfl dX10_piece_1 ?_
  refine X_cVIW0 hg mf_X10_pieceNow m_1259 m_72 m_1257 cf_10 (fun _ e => gd_isO e) (fun y e => c_X10_pieceNow g.1 a0 a1 h y e) (As := [.int a1]) rfl (Nat.le_of_ble_eq_true rfl) rfl (Nat.le_of_ble_eq_true rfl) (Nat.le_of_ble_eq_true rfl) (Nat.le_of_ble_eq_true rfl) (Nat.le_of_ble_eq_true rfl) dX10_piece_2 (fun p1 _ => ?_)
  exact X_iretW hg hr (Nat.le_of_ble_eq_true rfl) (Nat.le_of_ble_eq_true rfl) dX10_piece_5
set_option maxRecDepth 10000 in
theorem l_X10_isPathChanged_23 {g : XC} {x0 : Int32} (hg : XG g RX10 cX10_isPathChanged 4 0 0 0 0) (l0 : Nat) (l1 : Int32) (h : Hp) (hr : XR g (some .boolean) "isPathChanged" (some (.int x0)) h 0 0) (K : Int32 → Option (Int32)) (hK0 : ∀ (l2 : Int32), Xo g x0 4 0 0 74 [(2, .int l2)] [] h (K l2)) : ∀ (n : Nat) (l2 : Int32) (l3 : Int32), Xo g x0 4 0 0 23 [(0, .ref (nB g.1 + l0)), (1, .int l1), (2, .int l2), (3, .int l3)] [] h (f_X10_isPathChanged_L23 l0 l1 h K n l2 l3) := by
  intro n
  induction n with
  | zero =>
    intro l2 l3
    exact X_none
  | succ n ih =>
    intro l2 l3
    unfold f_X10_isPathChanged_L23
    refine X_iload_n hg 3 rfl dX10_isPathChanged_23 ?_
    refine X_aload_n hg 0 rfl dX10_isPathChanged_24 ?_
    refine X_getR hg (j := 13) cf_10 (Nat.le_of_ble_eq_true rfl) (Or.inr ⟨_, rfl⟩) m_913 dX10_isPathChanged_25 (fun x7 _ => ?_)
    refine X_iload_n hg 1 rfl dX10_isPathChanged_28 ?_
    refine X_ald hg dX10_isPathChanged_29 (fun x8 _ => ?_)
    refine X_icmp_ge hg (tgt := 74) dX10_isPathChanged_30 rfl (fun c16 => ?_) (fun c16 => ?_)
    · refine X_lv [2] rfl ?_
      exact hK0 _
    · refine X_iload_n hg 2 rfl dX10_isPathChanged_33 ?_
      refine X_if_ne hg (tgt := 74) dX10_isPathChanged_34 rfl (fun c15 => ?_) (fun c15 => ?_)
      · refine X_aload_n hg 0 rfl dX10_isPathChanged_37 ?_
        refine X_getR hg (j := 14) cf_10 (Nat.le_of_ble_eq_true rfl) (Or.inr ⟨_, rfl⟩) m_914 dX10_isPathChanged_38 (fun x9 _ => ?_)
        refine X_bipush hg ic_b_14 dX10_isPathChanged_41 ?_
        refine X_iload_n hg 1 rfl dX10_isPathChanged_43 ?_
        refine X_imul hg dX10_isPathChanged_44 ?_
        refine X_iload_n hg 3 rfl dX10_isPathChanged_45 ?_
        refine X_iadd hg dX10_isPathChanged_46 ?_
        refine X_ald hg dX10_isPathChanged_47 (fun x10 _ => ?_)
        refine X_aload_n hg 0 rfl dX10_isPathChanged_48 ?_
        refine X_getR hg (j := 29) cf_10 (Nat.le_of_ble_eq_true rfl) (Or.inr ⟨_, rfl⟩) m_929 dX10_isPathChanged_49 (fun x11 _ => ?_)
        refine X_bipush hg ic_b_14 dX10_isPathChanged_52 ?_
        refine X_iload_n hg 1 rfl dX10_isPathChanged_54 ?_
        refine X_imul hg dX10_isPathChanged_55 ?_
        refine X_iload_n hg 3 rfl dX10_isPathChanged_56 ?_
        refine X_iadd hg dX10_isPathChanged_57 ?_
        refine X_ald hg dX10_isPathChanged_58 (fun x12 _ => ?_)
        refine X_reg (fun (v13 : Int32) o => Xo g x0 4 0 0 67 [(0, .ref (nB g.1 + l0)), (1, .int l1), (3, .int l3)] [.int v13] h o) (fun kv13 hk13 => ?_) (fun v13 => ?_)
        · refine X_ib ?_
          refine X_icmp_eq hg (tgt := 66) dX10_isPathChanged_59 rfl (fun c14 => ?_) (fun c14 => ?_)
          · refine X_iconst hg ic_i_0 dX10_isPathChanged_66 ?_
            refine X_lv [0, 1, 3] rfl ?_
            exact hk13 (nI 0)
          · refine X_iconst hg ic_i_1 dX10_isPathChanged_62 ?_
            refine X_goto hg (tgt := 67) dX10_isPathChanged_63 rfl ?_
            refine X_lv [0, 1, 3] rfl ?_
            exact hk13 (nI 1)
        · refine X_istore_n hg rfl (Nat.le_of_ble_eq_true rfl) (lv' := [(2, .int v13), (0, .ref (nB g.1 + l0)), (1, .int l1), (3, .int l3)]) rfl dX10_isPathChanged_67 ?_
          refine X_iinc hg 3 rfl (v := (l3 + (nI 1))) (icc ic_i_1) (Nat.le_of_ble_eq_true rfl) (lv' := [(3, .int (l3 + (nI 1))), (2, .int v13), (0, .ref (nB g.1 + l0)), (1, .int l1)]) rfl dX10_isPathChanged_68 ?_
          refine X_goto hg (tgt := 23) dX10_isPathChanged_71 rfl ?_
          refine X_lv [2, 3, 1, 0] rfl ?_
          exact ih _ _
      · refine X_lv [2] rfl ?_
        exact hK0 _
set_option maxRecDepth 10000 in
theorem c_X10_isPathChanged (en : EN) (a0 : Nat) (a1 : Int32) (h : Hp) (x0 : Int32) (e : f_X10_isPathChanged a0 a1 h = some x0) : Ct en yX10_isPathChanged cX10_isPathChanged 4 (some .boolean) 0 0 0 0 [.ref (nB en + a0), .int a1] h (some (.int x0)) h := by
  refine Ct.of (by decide) rfl (Nat.le_of_ble_eq_true rfl) e (fun g hen hg hr => ?_)
  subst hen
  unfold f_X10_isPathChanged
  refine X_gd ?_
  refine X_aload_n hg 0 rfl dX10_isPathChanged_0 ?_
  refine X_getR hg (j := 13) cf_10 (Nat.le_of_ble_eq_true rfl) (Or.inr ⟨_, rfl⟩) m_913 dX10_isPathChanged_1 (fun x1 _ => ?_)
  refine X_iload_n hg 1 rfl dX10_isPathChanged_4 ?_
  refine X_ald hg dX10_isPathChanged_5 (fun x2 _ => ?_)
  refine X_aload_n hg 0 rfl dX10_isPathChanged_6 ?_
  refine X_getR hg (j := 28) cf_10 (Nat.le_of_ble_eq_true rfl) (Or.inr ⟨_, rfl⟩) m_928 dX10_isPathChanged_7 (fun x3 _ => ?_)
  refine X_iload_n hg 1 rfl dX10_isPathChanged_10 ?_
  refine X_ald hg dX10_isPathChanged_11 (fun x4 _ => ?_)
  refine X_reg (fun (v5 : Int32) o => Xo g x0 4 0 0 20 [(0, .ref (nB g.1 + a0)), (1, .int a1)] [.int v5] h o) (fun kv5 hk5 => ?_) (fun v5 => ?_)
  · refine X_ib ?_
    refine X_icmp_eq hg (tgt := 19) dX10_isPathChanged_12 rfl (fun c6 => ?_) (fun c6 => ?_)
    · refine X_iconst hg ic_i_0 dX10_isPathChanged_19 ?_
      exact hk5 (nI 0)
    · refine X_iconst hg ic_i_1 dX10_isPathChanged_15 ?_
      refine X_goto hg (tgt := 20) dX10_isPathChanged_16 rfl ?_
      exact hk5 (nI 1)
  · refine X_istore_n hg rfl (Nat.le_of_ble_eq_true rfl) (lv' := [(2, .int v5), (0, .ref (nB g.1 + a0)), (1, .int a1)]) rfl dX10_isPathChanged_20 ?_
    refine X_iconst hg ic_i_0 dX10_isPathChanged_21 ?_
    refine X_istore_n hg rfl (Nat.le_of_ble_eq_true rfl) (lv' := [(3, .int (nI 0)), (2, .int v5), (0, .ref (nB g.1 + a0)), (1, .int a1)]) rfl dX10_isPathChanged_22 ?_
    refine X_lv [2, 3, 1, 0] rfl ?_
    refine l_X10_isPathChanged_23 hg _ _ _ hr _ (fun y17 => ?_) _ _ _
    refine X_iload_n hg 0 rfl dX10_isPathChanged_74 ?_
    exact X_zret hg hr (Nat.le_of_ble_eq_true rfl) (Nat.le_of_ble_eq_true rfl) dX10_isPathChanged_75
set_option maxRecDepth 10000 in
theorem l_X10_takeMenu_4 {g : XC} {x0 : Int32 × Hp} (hg : XG g RX10 cX10_takeMenu 4 1 23 0 0) (l0 : Nat) (l1 : Int32) (h : Hp) (hr : XR g (some .int) "takeMenu" (some (.int x0.1)) x0.2 0 0) (K : Int32 → Option (Int32 × Hp)) (hK0 : ∀ (l2 : Int32), Xo g x0 4 0 0 34 [(0, .ref (nB g.1 + l0)), (1, .int l1), (2, .int l2)] [] h (K l2)) : ∀ (n : Nat) (l2 : Int32) (l3 : Int32), Xo g x0 4 0 0 4 [(0, .ref (nB g.1 + l0)), (1, .int l1), (2, .int l2), (3, .int l3)] [] h (f_X10_takeMenu_L4 l0 l1 h K n l2 l3) := by
  intro n
  induction n with
  | zero =>
    intro l2 l3
    exact X_none
  | succ n ih =>
    intro l2 l3
    unfold f_X10_takeMenu_L4
    refine X_iload_n hg 3 rfl dX10_takeMenu_4 ?_
    refine X_aload_n hg 0 rfl dX10_takeMenu_5 ?_
    refine X_getI hg (j := 2) cf_10 (Nat.le_of_ble_eq_true rfl) (Or.inl rfl) m_902 dX10_takeMenu_6 (fun x1 _ => ?_)
    refine X_icmp_ge hg (tgt := 34) dX10_takeMenu_9 rfl (fun c5 => ?_) (fun c5 => ?_)
    · refine X_lv [0, 1, 2] rfl ?_
      exact hK0 _
    · refine X_iload_n hg 2 rfl dX10_takeMenu_12 ?_
      refine X_aload_n hg 0 rfl dX10_takeMenu_13 ?_
      refine X_iload_n hg 3 rfl dX10_takeMenu_14 ?_
      refine X_cVI0 hg mf_X10_isPathChanged m_1275 m_75 m_1273 cf_10 (fun _ e => gd_isO e) (fun y e => c_X10_isPathChanged g.1 l0 l3 h y e) (As := [.int l3]) rfl (Nat.le_of_ble_eq_true rfl) rfl (Nat.le_of_ble_eq_true rfl) (Nat.le_of_ble_eq_true rfl) (Nat.le_of_ble_eq_true rfl) (Nat.le_of_ble_eq_true rfl) dX10_takeMenu_15 (fun x2 _ => ?_)
      refine X_reg (fun (v3 : Int32) o => Xo g x0 4 0 0 26 [(0, .ref (nB g.1 + l0)), (1, .int l1), (3, .int l3)] [.int v3, .int l2] h o) (fun kv3 hk3 => ?_) (fun v3 => ?_)
      · refine X_ib ?_
        refine X_if_eq hg (tgt := 25) dX10_takeMenu_18 rfl (fun c4 => ?_) (fun c4 => ?_)
        · refine X_iconst hg ic_i_0 dX10_takeMenu_25 ?_
          refine X_lv [0, 1, 3] rfl ?_
          exact hk3 (nI 0)
        · refine X_iconst hg ic_i_1 dX10_takeMenu_21 ?_
          refine X_goto hg (tgt := 26) dX10_takeMenu_22 rfl ?_
          refine X_lv [0, 1, 3] rfl ?_
          exact hk3 (nI 1)
      · refine X_iadd hg dX10_takeMenu_26 ?_
        refine X_istore_n hg rfl (Nat.le_of_ble_eq_true rfl) (lv' := [(2, .int (l2 + v3)), (0, .ref (nB g.1 + l0)), (1, .int l1), (3, .int l3)]) rfl dX10_takeMenu_27 ?_
        refine X_iinc hg 3 rfl (v := (l3 + (nI 1))) (icc ic_i_1) (Nat.le_of_ble_eq_true rfl) (lv' := [(3, .int (l3 + (nI 1))), (2, .int (l2 + v3)), (0, .ref (nB g.1 + l0)), (1, .int l1)]) rfl dX10_takeMenu_28 ?_
        refine X_goto hg (tgt := 4) dX10_takeMenu_31 rfl ?_
        refine X_lv [2, 3, 1, 0] rfl ?_
        exact ih _ _
set_option maxRecDepth 10000 in
theorem l_X10_takeMenu_36 {g : XC} {x0 : Int32 × Hp} (hg : XG g RX10 cX10_takeMenu 4 1 23 0 0) (l0 : Nat) (l1 : Int32) (l2 : Int32) (hr : XR g (some .int) "takeMenu" (some (.int x0.1)) x0.2 0 0) (K : Hp → Option (Int32 × Hp)) (hK0 : ∀ (h : Hp), Xo g x0 4 0 0 62 [(0, .ref (nB g.1 + l0)), (1, .int l1), (2, .int l2)] [] h (K h)) : ∀ (n : Nat) (l3 : Int32) (h : Hp), Xo g x0 4 0 0 36 [(0, .ref (nB g.1 + l0)), (1, .int l1), (2, .int l2), (3, .int l3)] [] h (f_X10_takeMenu_L36 l0 l1 l2 K n l3 h) := by
  intro n
  induction n with
  | zero =>
    intro l3 h
    exact X_none
  | succ n ih =>
    intro l3 h
    unfold f_X10_takeMenu_L36
    refine X_iload_n hg 3 rfl dX10_takeMenu_36 ?_
    refine X_aload_n hg 0 rfl dX10_takeMenu_37 ?_
    refine X_getI hg (j := 2) cf_10 (Nat.le_of_ble_eq_true rfl) (Or.inl rfl) m_902 dX10_takeMenu_38 (fun x7 _ => ?_)
    refine X_icmp_ge hg (tgt := 62) dX10_takeMenu_41 rfl (fun c12 => ?_) (fun c12 => ?_)
    · refine X_lv [0, 1, 2] rfl ?_
      exact hK0  _
    · refine X_aload_n hg 0 rfl dX10_takeMenu_44 ?_
      refine X_getR hg (j := 13) cf_10 (Nat.le_of_ble_eq_true rfl) (Or.inr ⟨_, rfl⟩) m_913 dX10_takeMenu_45 (fun x8 _ => ?_)
      refine X_iload_n hg 3 rfl dX10_takeMenu_48 ?_
      refine X_aload_n hg 0 rfl dX10_takeMenu_49 ?_
      refine X_getR hg (j := 28) cf_10 (Nat.le_of_ble_eq_true rfl) (Or.inr ⟨_, rfl⟩) m_928 dX10_takeMenu_50 (fun x9 _ => ?_)
      refine X_iload_n hg 3 rfl dX10_takeMenu_53 ?_
      refine X_ald hg dX10_takeMenu_54 (fun x10 _ => ?_)
      refine X_ast hg dX10_takeMenu_55 (fun h11 _ => ?_)
      refine X_iinc hg 3 rfl (v := (l3 + (nI 1))) (icc ic_i_1) (Nat.le_of_ble_eq_true rfl) (lv' := [(3, .int (l3 + (nI 1))), (0, .ref (nB g.1 + l0)), (1, .int l1), (2, .int l2)]) rfl dX10_takeMenu_56 ?_
      refine X_goto hg (tgt := 36) dX10_takeMenu_59 rfl ?_
      refine X_lv [1, 2, 3, 0] rfl ?_
      exact ih _ _
set_option maxRecDepth 10000 in
theorem l_X10_takeMenu_64 {g : XC} {x0 : Int32 × Hp} (hg : XG g RX10 cX10_takeMenu 4 1 23 0 0) (l0 : Nat) (l1 : Int32) (l2 : Int32) (hr : XR g (some .int) "takeMenu" (some (.int x0.1)) x0.2 0 0) (K : Hp → Option (Int32 × Hp)) (hK0 : ∀ (h : Hp), Xo g x0 4 0 0 89 [(0, .ref (nB g.1 + l0)), (1, .int l1), (2, .int l2)] [] h (K h)) : ∀ (n : Nat) (l3 : Int32) (h : Hp), Xo g x0 4 0 0 64 [(0, .ref (nB g.1 + l0)), (1, .int l1), (2, .int l2), (3, .int l3)] [] h (f_X10_takeMenu_L64 l0 l1 l2 K n l3 h) := by
  intro n
  induction n with
  | zero =>
    intro l3 h
    exact X_none
  | succ n ih =>
    intro l3 h
    unfold f_X10_takeMenu_L64
    refine X_iload_n hg 3 rfl dX10_takeMenu_64 ?_
    refine X_sipush hg ic_s_196 dX10_takeMenu_65 ?_
    refine X_icmp_ge hg (tgt := 89) dX10_takeMenu_68 rfl (fun c18 => ?_) (fun c18 => ?_)
    · refine X_lv [0, 1, 2] rfl ?_
      exact hK0  _
    · refine X_aload_n hg 0 rfl dX10_takeMenu_71 ?_
      refine X_getR hg (j := 14) cf_10 (Nat.le_of_ble_eq_true rfl) (Or.inr ⟨_, rfl⟩) m_914 dX10_takeMenu_72 (fun x14 _ => ?_)
      refine X_iload_n hg 3 rfl dX10_takeMenu_75 ?_
      refine X_aload_n hg 0 rfl dX10_takeMenu_76 ?_
      refine X_getR hg (j := 29) cf_10 (Nat.le_of_ble_eq_true rfl) (Or.inr ⟨_, rfl⟩) m_929 dX10_takeMenu_77 (fun x15 _ => ?_)
      refine X_iload_n hg 3 rfl dX10_takeMenu_80 ?_
      refine X_ald hg dX10_takeMenu_81 (fun x16 _ => ?_)
      refine X_ast hg dX10_takeMenu_82 (fun h17 _ => ?_)
      refine X_iinc hg 3 rfl (v := (l3 + (nI 1))) (icc ic_i_1) (Nat.le_of_ble_eq_true rfl) (lv' := [(3, .int (l3 + (nI 1))), (0, .ref (nB g.1 + l0)), (1, .int l1), (2, .int l2)]) rfl dX10_takeMenu_83 ?_
      refine X_goto hg (tgt := 64) dX10_takeMenu_86 rfl ?_
      refine X_lv [1, 2, 3, 0] rfl ?_
      exact ih _ _
set_option maxRecDepth 10000 in
theorem c_X10_takeMenu (en : EN) (a0 : Nat) (a1 : Int32) (h : Hp) (x0 : Int32 × Hp) (e : f_X10_takeMenu a0 a1 h = some x0) : Ct en yX10_takeMenu cX10_takeMenu 4 (some .int) 1 23 0 0 [.ref (nB en + a0), .int a1] h (some (.int x0.1)) x0.2 := by
  refine Ct.of (by decide) rfl (Nat.le_of_ble_eq_true rfl) e (fun g hen hg hr => ?_)
  subst hen
  unfold f_X10_takeMenu
  refine X_gd ?_
  refine X_iconst hg ic_i_0 dX10_takeMenu_0 ?_
  refine X_istore_n hg rfl (Nat.le_of_ble_eq_true rfl) (lv' := [(2, .int (nI 0)), (0, .ref (nB g.1 + a0)), (1, .int a1)]) rfl dX10_takeMenu_1 ?_
  refine X_iconst hg ic_i_0 dX10_takeMenu_2 ?_
  refine X_istore_n hg rfl (Nat.le_of_ble_eq_true rfl) (lv' := [(3, .int (nI 0)), (2, .int (nI 0)), (0, .ref (nB g.1 + a0)), (1, .int a1)]) rfl dX10_takeMenu_3 ?_
  refine X_lv [2, 3, 1, 0] rfl ?_
  refine l_X10_takeMenu_4 hg _ _ _ hr _ (fun y6 => ?_) _ _ _
  refine X_iconst hg ic_i_0 dX10_takeMenu_34 ?_
  refine X_istore_n hg rfl (Nat.le_of_ble_eq_true rfl) (lv' := [(3, .int (nI 0)), (0, .ref (nB g.1 + a0)), (1, .int a1), (2, .int y6)]) rfl dX10_takeMenu_35 ?_
  refine X_lv [1, 2, 3, 0] rfl ?_
  refine l_X10_takeMenu_36 hg _ _ _ hr _ (fun h13 => ?_) _ _ _
  refine X_iconst hg ic_i_0 dX10_takeMenu_62 ?_
  refine X_istore_n hg rfl (Nat.le_of_ble_eq_true rfl) (lv' := [(3, .int (nI 0)), (0, .ref (nB g.1 + a0)), (1, .int a1), (2, .int y6)]) rfl dX10_takeMenu_63 ?_
  refine X_lv [1, 2, 3, 0] rfl ?_
  refine l_X10_takeMenu_64 hg _ _ _ hr _ (fun h19 => ?_) _ _ _
  refine X_aload_n hg 0 rfl dX10_takeMenu_89 ?_
  refine X_iload_n hg 1 rfl dX10_takeMenu_90 ?_
  refine X_putI hg (j := 12) cf_10 (Nat.le_of_ble_eq_true rfl) rfl (Or.inl rfl) m_912 dX10_takeMenu_91 (fun h20 _ => ?_)
  refine X_aload_n hg 0 rfl dX10_takeMenu_94 ?_
  refine X_dup hg rfl dX10_takeMenu_95 ?_
  refine X_getI hg (j := 15) cf_10 (Nat.le_of_ble_eq_true rfl) (Or.inl rfl) m_915 dX10_takeMenu_96 (fun x21 _ => ?_)
  refine X_iconst hg ic_i_1 dX10_takeMenu_99 ?_
  refine X_iadd hg dX10_takeMenu_100 ?_
  refine X_putI hg (j := 15) cf_10 (Nat.le_of_ble_eq_true rfl) rfl (Or.inl rfl) m_915 dX10_takeMenu_101 (fun h22 _ => ?_)
  refine X_iload_n hg 2 rfl dX10_takeMenu_104 ?_
  exact X_iretW hg hr (Nat.le_of_ble_eq_true rfl) (Nat.le_of_ble_eq_true rfl) dX10_takeMenu_105
set_option maxRecDepth 10000 in
theorem l_X10_costNow_4 {g : XC} {x0 : Int32} (hg : XG g RX10 cX10_costNow 3 0 0 0 0) (l0 : Nat) (h : Hp) (hr : XR g (some .int) "costNow" (some (.int x0)) h 0 0) (K : Int32 → Option (Int32)) (hK0 : ∀ (l1 : Int32), Xo g x0 3 0 0 34 [(1, .int l1)] [] h (K l1)) : ∀ (n : Nat) (l1 : Int32) (l2 : Int32), Xo g x0 3 0 0 4 [(0, .ref (nB g.1 + l0)), (1, .int l1), (2, .int l2)] [] h (f_X10_costNow_L4 l0 h K n l1 l2) := by
  intro n
  induction n with
  | zero =>
    intro l1 l2
    exact X_none
  | succ n ih =>
    intro l1 l2
    unfold f_X10_costNow_L4
    refine X_iload_n hg 2 rfl dX10_costNow_4 ?_
    refine X_aload_n hg 0 rfl dX10_costNow_5 ?_
    refine X_getI hg (j := 2) cf_10 (Nat.le_of_ble_eq_true rfl) (Or.inl rfl) m_902 dX10_costNow_6 (fun x1 _ => ?_)
    refine X_icmp_ge hg (tgt := 34) dX10_costNow_9 rfl (fun c6 => ?_) (fun c6 => ?_)
    · refine X_lv [1] rfl ?_
      exact hK0 _
    · refine X_iload_n hg 1 rfl dX10_costNow_12 ?_
      refine X_aload_n hg 0 rfl dX10_costNow_13 ?_
      refine X_getR hg (j := 5) cf_10 (Nat.le_of_ble_eq_true rfl) (Or.inr ⟨_, rfl⟩) m_905 dX10_costNow_14 (fun x2 _ => ?_)
      refine X_iload_n hg 2 rfl dX10_costNow_17 ?_
      refine X_ald hg dX10_costNow_18 (fun x3 _ => ?_)
      refine X_aload_n hg 0 rfl dX10_costNow_19 ?_
      refine X_getR hg (j := 13) cf_10 (Nat.le_of_ble_eq_true rfl) (Or.inr ⟨_, rfl⟩) m_913 dX10_costNow_20 (fun x4 _ => ?_)
      refine X_iload_n hg 2 rfl dX10_costNow_23 ?_
      refine X_ald hg dX10_costNow_24 (fun x5 _ => ?_)
      refine X_imul hg dX10_costNow_25 ?_
      refine X_iadd hg dX10_costNow_26 ?_
      refine X_istore_n hg rfl (Nat.le_of_ble_eq_true rfl) (lv' := [(1, .int (l1 + (x3 * x5))), (0, .ref (nB g.1 + l0)), (2, .int l2)]) rfl dX10_costNow_27 ?_
      refine X_iinc hg 2 rfl (v := (l2 + (nI 1))) (icc ic_i_1) (Nat.le_of_ble_eq_true rfl) (lv' := [(2, .int (l2 + (nI 1))), (1, .int (l1 + (x3 * x5))), (0, .ref (nB g.1 + l0))]) rfl dX10_costNow_28 ?_
      refine X_goto hg (tgt := 4) dX10_costNow_31 rfl ?_
      refine X_lv [2, 1, 0] rfl ?_
      exact ih _ _
set_option maxRecDepth 10000 in
theorem c_X10_costNow (en : EN) (a0 : Nat) (h : Hp) (x0 : Int32) (e : f_X10_costNow a0 h = some x0) : Ct en yX10_costNow cX10_costNow 3 (some .int) 0 0 0 0 [.ref (nB en + a0)] h (some (.int x0)) h := by
  refine Ct.of (by decide) rfl (Nat.le_of_ble_eq_true rfl) e (fun g hen hg hr => ?_)
  subst hen
  unfold f_X10_costNow
  refine X_gd ?_
  refine X_iconst hg ic_i_0 dX10_costNow_0 ?_
  refine X_istore_n hg rfl (Nat.le_of_ble_eq_true rfl) (lv' := [(1, .int (nI 0)), (0, .ref (nB g.1 + a0))]) rfl dX10_costNow_1 ?_
  refine X_iconst hg ic_i_0 dX10_costNow_2 ?_
  refine X_istore_n hg rfl (Nat.le_of_ble_eq_true rfl) (lv' := [(2, .int (nI 0)), (1, .int (nI 0)), (0, .ref (nB g.1 + a0))]) rfl dX10_costNow_3 ?_
  refine X_lv [2, 1, 0] rfl ?_
  refine l_X10_costNow_4 hg _ _ hr _ (fun y7 => ?_) _ _ _
  refine X_iload_n hg 0 rfl dX10_costNow_34 ?_
  exact X_iret hg hr (Nat.le_of_ble_eq_true rfl) (Nat.le_of_ble_eq_true rfl) dX10_costNow_35
set_option maxRecDepth 10000 in
theorem c_X10_leastCost (en : EN) (a0 : Nat) (h : Hp) (x0 : Int32 × Hp) (e : f_X10_leastCost a0 h = some x0) : Ct en yX10_leastCost cX10_leastCost 1 (some .int) 4 99 0 0 [.ref (nB en + a0)] h (some (.int x0.1)) x0.2 := by
  refine Ct.of (by decide) rfl (Nat.le_of_ble_eq_true rfl) e (fun g hen hg hr => ?_)
  subst hen
  unfold f_X10_leastCost
  refine X_gd ?_
  refine X_aload_n hg 0 rfl dX10_leastCost_0 ?_
  refine X_aload_n hg 0 rfl dX10_leastCost_1 ?_
  refine X_getI hg (j := 12) cf_10 (Nat.le_of_ble_eq_true rfl) (Or.inl rfl) m_912 dX10_leastCost_2 (fun x1 _ => ?_)
  refine X_cVV0 hg mf_X10_layCosts m_1126 m_50 m_1124 cf_10 (fun _ e => gd_isO e) (fun y e => c_X10_layCosts g.1 a0 x1 h y e) (As := [.int x1]) rfl (Nat.le_of_ble_eq_true rfl) rfl (Nat.le_of_ble_eq_true rfl) (Nat.le_of_ble_eq_true rfl) (Nat.le_of_ble_eq_true rfl) (Nat.le_of_ble_eq_true rfl) dX10_leastCost_5 (fun h2 _ => ?_)
  refine X_aload_n hg 0 rfl dX10_leastCost_8 ?_
  refine X_iconst hg ic_i_0 dX10_leastCost_9 ?_
  refine X_aload_n hg 0 rfl dX10_leastCost_10 ?_
  refine X_getI hg (j := 2) cf_10 (Nat.le_of_ble_eq_true rfl) (Or.inl rfl) m_902 dX10_leastCost_11 (fun x3 _ => ?_)
  refine X_cVI0 hg mf_X10_costAt m_1142 m_54 m_1140 cf_10 (fun _ e => gd_isO e) (fun y e => c_X10_costAt g.1 a0 (nI 0) x3 h2 y e) (As := [.int (nI 0), .int x3]) rfl (Nat.le_of_ble_eq_true rfl) rfl (Nat.le_of_ble_eq_true rfl) (Nat.le_of_ble_eq_true rfl) (Nat.le_of_ble_eq_true rfl) (Nat.le_of_ble_eq_true rfl) dX10_leastCost_14 (fun x4 _ => ?_)
  exact X_iretW hg hr (Nat.le_of_ble_eq_true rfl) (Nat.le_of_ble_eq_true rfl) dX10_leastCost_17
set_option maxRecDepth 10000 in
theorem c_X10_build (en : EN) (a0 : Nat) (a1 : Int32) (h : Hp) (x0 : Int32 × Hp) (e : f_X10_build a0 a1 h = some x0) : Ct en yX10_build cX10_build 2 (some .int) 5 121 0 0 [.ref (nB en + a0), .int a1] h (some (.int x0.1)) x0.2 := by
  refine Ct.of (by decide) rfl (Nat.le_of_ble_eq_true rfl) e (fun g hen hg hr => ?_)
  subst hen
  unfold f_X10_build
  refine X_gd ?_
  refine X_iload_n hg 1 rfl dX10_build_0 ?_
  refine X_iconst hg ic_i_2 dX10_build_1 ?_
  refine X_iconst hg ic_i_4 dX10_build_2 ?_
  refine X_cSI0 hg mf_X10_within m_1005 m_1004 (fun y e => c_X10_within g.1 a1 (nI 2) (nI 4) h y e) (As := [.int a1, .int (nI 2), .int (nI 4)]) rfl (Nat.le_of_ble_eq_true rfl) rfl (Nat.le_of_ble_eq_true rfl) (Nat.le_of_ble_eq_true rfl) (Nat.le_of_ble_eq_true rfl) (Nat.le_of_ble_eq_true rfl) dX10_build_3 (fun x1 _ => ?_)
  refine X_if_ne hg (tgt := 12) dX10_build_6 rfl (fun c7 => ?_) (fun c7 => ?_)
  · refine X_bipush hg ic_b_m102 dX10_build_9 ?_
    exact X_iretW hg hr (Nat.le_of_ble_eq_true rfl) (Nat.le_of_ble_eq_true rfl) dX10_build_11
  · refine X_aload_n hg 0 rfl dX10_build_12 ?_
    refine X_getI hg (j := 2) cf_10 (Nat.le_of_ble_eq_true rfl) (Or.inl rfl) m_902 dX10_build_13 (fun x2 _ => ?_)
    refine X_if_ne hg (tgt := 22) dX10_build_16 rfl (fun c6 => ?_) (fun c6 => ?_)
    · refine X_bipush hg ic_b_m103 dX10_build_19 ?_
      exact X_iretW hg hr (Nat.le_of_ble_eq_true rfl) (Nat.le_of_ble_eq_true rfl) dX10_build_21
    · refine X_aload_n hg 0 rfl dX10_build_22 ?_
      refine X_iload_n hg 1 rfl dX10_build_23 ?_
      refine X_cVV0 hg mf_X10_layMenu m_1122 m_49 m_1120 cf_10 (fun _ e => gd_isO e) (fun y e => c_X10_layMenu g.1 a0 a1 h y e) (As := [.int a1]) rfl (Nat.le_of_ble_eq_true rfl) rfl (Nat.le_of_ble_eq_true rfl) (Nat.le_of_ble_eq_true rfl) (Nat.le_of_ble_eq_true rfl) (Nat.le_of_ble_eq_true rfl) dX10_build_24 (fun h3 _ => ?_)
      refine X_aload_n hg 0 rfl dX10_build_27 ?_
      refine X_iload_n hg 1 rfl dX10_build_28 ?_
      refine X_cVIW0 hg mf_X10_takeMenu m_1271 m_74 m_1269 cf_10 (fun _ e => gd_isO e) (fun y e => c_X10_takeMenu g.1 a0 a1 h3 y e) (As := [.int a1]) rfl (Nat.le_of_ble_eq_true rfl) rfl (Nat.le_of_ble_eq_true rfl) (Nat.le_of_ble_eq_true rfl) (Nat.le_of_ble_eq_true rfl) (Nat.le_of_ble_eq_true rfl) dX10_build_29 (fun p4 _ => ?_)
      refine X_pop hg rfl dX10_build_32 ?_
      refine X_aload_n hg 0 rfl dX10_build_33 ?_
      refine X_cVI0 hg mf_X10_costNow m_1279 m_76 m_1277 cf_10 (fun _ e => gd_isO e) (fun y e => c_X10_costNow g.1 a0 p4.2 y e) (As := []) rfl (Nat.le_of_ble_eq_true rfl) rfl (Nat.le_of_ble_eq_true rfl) (Nat.le_of_ble_eq_true rfl) (Nat.le_of_ble_eq_true rfl) (Nat.le_of_ble_eq_true rfl) dX10_build_34 (fun x5 _ => ?_)
      exact X_iretW hg hr (Nat.le_of_ble_eq_true rfl) (Nat.le_of_ble_eq_true rfl) dX10_build_37
set_option maxRecDepth 10000 in
theorem c_X10_tend (en : EN) (a0 : Nat) (a1 : Int32) (h : Hp) (x0 : Int32 × Hp) (e : f_X10_tend a0 a1 h = some x0) : Ct en yX10_tend cX10_tend 3 (some .int) 5 121 0 0 [.ref (nB en + a0), .int a1] h (some (.int x0.1)) x0.2 := by
  refine Ct.of (by decide) rfl (Nat.le_of_ble_eq_true rfl) e (fun g hen hg hr => ?_)
  subst hen
  unfold f_X10_tend
  refine X_gd ?_
  refine X_aload_n hg 0 rfl dX10_tend_0 ?_
  refine X_getI hg (j := 12) cf_10 (Nat.le_of_ble_eq_true rfl) (Or.inl rfl) m_912 dX10_tend_1 (fun x1 _ => ?_)
  refine X_if_ne hg (tgt := 10) dX10_tend_4 rfl (fun c11 => ?_) (fun c11 => ?_)
  · refine X_bipush hg ic_b_m103 dX10_tend_7 ?_
    exact X_iretW hg hr (Nat.le_of_ble_eq_true rfl) (Nat.le_of_ble_eq_true rfl) dX10_tend_9
  · refine X_iload_n hg 1 rfl dX10_tend_10 ?_
    refine X_iconst hg ic_i_0 dX10_tend_11 ?_
    refine X_bipush hg ic_b_100 dX10_tend_12 ?_
    refine X_cSI0 hg mf_X10_within m_1005 m_1004 (fun y e => c_X10_within g.1 a1 (nI 0) (nI 100) h y e) (As := [.int a1, .int (nI 0), .int (nI 100)]) rfl (Nat.le_of_ble_eq_true rfl) rfl (Nat.le_of_ble_eq_true rfl) (Nat.le_of_ble_eq_true rfl) (Nat.le_of_ble_eq_true rfl) (Nat.le_of_ble_eq_true rfl) dX10_tend_14 (fun x2 _ => ?_)
    refine X_if_ne hg (tgt := 23) dX10_tend_17 rfl (fun c10 => ?_) (fun c10 => ?_)
    · refine X_bipush hg ic_b_m102 dX10_tend_20 ?_
      exact X_iretW hg hr (Nat.le_of_ble_eq_true rfl) (Nat.le_of_ble_eq_true rfl) dX10_tend_22
    · refine X_aload_n hg 0 rfl dX10_tend_23 ?_
      refine X_cVIW0 hg mf_X10_leastCost m_1287 m_77 m_1285 cf_10 (fun _ e => gd_isO e) (fun y e => c_X10_leastCost g.1 a0 h y e) (As := []) rfl (Nat.le_of_ble_eq_true rfl) rfl (Nat.le_of_ble_eq_true rfl) (Nat.le_of_ble_eq_true rfl) (Nat.le_of_ble_eq_true rfl) (Nat.le_of_ble_eq_true rfl) dX10_tend_24 (fun p3 _ => ?_)
      refine X_istore_n hg rfl (Nat.le_of_ble_eq_true rfl) (lv' := [(2, .int p3.1), (0, .ref (nB g.1 + a0)), (1, .int a1)]) rfl dX10_tend_27 ?_
      refine X_bipush hg ic_b_100 dX10_tend_28 ?_
      refine X_aload_n hg 1 rfl dX10_tend_30 ?_
      refine X_cVI0 hg mf_X10_costNow m_1279 m_76 m_1277 cf_10 (fun _ e => gd_isO e) (fun y e => c_X10_costNow g.1 a0 p3.2 y e) (As := []) rfl (Nat.le_of_ble_eq_true rfl) rfl (Nat.le_of_ble_eq_true rfl) (Nat.le_of_ble_eq_true rfl) (Nat.le_of_ble_eq_true rfl) (Nat.le_of_ble_eq_true rfl) dX10_tend_31 (fun x4 _ => ?_)
      refine X_iload_n hg 0 rfl dX10_tend_34 ?_
      refine X_isub hg dX10_tend_35 ?_
      refine X_imul hg dX10_tend_36 ?_
      refine X_iload_n hg 2 rfl dX10_tend_37 ?_
      refine X_iload_n hg 0 rfl dX10_tend_38 ?_
      refine X_imul hg dX10_tend_39 ?_
      refine X_icmp_gt hg (tgt := 45) dX10_tend_40 rfl (fun c9 => ?_) (fun c9 => ?_)
      · refine X_aload_n hg 1 rfl dX10_tend_45 ?_
        refine X_aload_n hg 1 rfl dX10_tend_46 ?_
        refine X_getI hg (j := 12) cf_10 (Nat.le_of_ble_eq_true rfl) (Or.inl rfl) m_912 dX10_tend_47 (fun x5 _ => ?_)
        refine X_cVV0 hg mf_X10_layMenu m_1122 m_49 m_1120 cf_10 (fun _ e => gd_isO e) (fun y e => c_X10_layMenu g.1 a0 x5 p3.2 y e) (As := [.int x5]) rfl (Nat.le_of_ble_eq_true rfl) rfl (Nat.le_of_ble_eq_true rfl) (Nat.le_of_ble_eq_true rfl) (Nat.le_of_ble_eq_true rfl) (Nat.le_of_ble_eq_true rfl) dX10_tend_50 (fun h6 _ => ?_)
        refine X_aload_n hg 1 rfl dX10_tend_53 ?_
        refine X_aload_n hg 1 rfl dX10_tend_54 ?_
        refine X_getI hg (j := 12) cf_10 (Nat.le_of_ble_eq_true rfl) (Or.inl rfl) m_912 dX10_tend_55 (fun x7 _ => ?_)
        refine X_cVIW0 hg mf_X10_takeMenu m_1271 m_74 m_1269 cf_10 (fun _ e => gd_isO e) (fun y e => c_X10_takeMenu g.1 a0 x7 h6 y e) (As := [.int x7]) rfl (Nat.le_of_ble_eq_true rfl) rfl (Nat.le_of_ble_eq_true rfl) (Nat.le_of_ble_eq_true rfl) (Nat.le_of_ble_eq_true rfl) (Nat.le_of_ble_eq_true rfl) dX10_tend_58 (fun p8 _ => ?_)
        exact X_iretW hg hr (Nat.le_of_ble_eq_true rfl) (Nat.le_of_ble_eq_true rfl) dX10_tend_61
      · refine X_iconst hg ic_i_m1 dX10_tend_43 ?_
        exact X_iretW hg hr (Nat.le_of_ble_eq_true rfl) (Nat.le_of_ble_eq_true rfl) dX10_tend_44
set_option maxRecDepth 10000 in
theorem c_X10_path (en : EN) (a0 : Nat) (a1 : Int32) (a2 : Int32) (h : Hp) (x0 : Int32) (e : f_X10_path a0 a1 a2 h = some x0) : Ct en yX10_path cX10_path 3 (some .int) 2 43 0 0 [.ref (nB en + a0), .int a1, .int a2] h (some (.int x0)) h := by
  refine Ct.of (by decide) rfl (Nat.le_of_ble_eq_true rfl) e (fun g hen hg hr => ?_)
  subst hen
  unfold f_X10_path
  refine X_gd ?_
  refine X_aload_n hg 0 rfl dX10_path_0 ?_
  refine X_getI hg (j := 12) cf_10 (Nat.le_of_ble_eq_true rfl) (Or.inl rfl) m_912 dX10_path_1 (fun x1 _ => ?_)
  refine X_if_ne hg (tgt := 10) dX10_path_4 rfl (fun c11 => ?_) (fun c11 => ?_)
  · refine X_bipush hg ic_b_m103 dX10_path_7 ?_
    exact X_iret hg hr (Nat.le_of_ble_eq_true rfl) (Nat.le_of_ble_eq_true rfl) dX10_path_9
  · refine X_aload_n hg 0 rfl dX10_path_10 ?_
    refine X_iload_n hg 1 rfl dX10_path_11 ?_
    refine X_cVI0 hg mf_X10_isName m_1073 m_39 m_1071 cf_10 (fun _ e => gd_isO e) (fun y e => c_X10_isName g.1 a0 a1 h y e) (As := [.int a1]) rfl (Nat.le_of_ble_eq_true rfl) rfl (Nat.le_of_ble_eq_true rfl) (Nat.le_of_ble_eq_true rfl) (Nat.le_of_ble_eq_true rfl) (Nat.le_of_ble_eq_true rfl) dX10_path_12 (fun x2 _ => ?_)
    refine X_reg (fun (v3 : Int32) o => Xo g x0 3 0 0 50 [] [.int v3] h o) (fun kv3 hk3 => ?_) (fun v3 => ?_)
    · refine X_ib ?_
      refine X_if_eq hg (tgt := 48) dX10_path_15 rfl (fun c10 => ?_) (fun c10 => ?_)
      · refine X_bipush hg ic_b_m101 dX10_path_48 ?_
        refine X_lv [] rfl ?_
        exact hk3 m101
      · refine X_iload_n hg 2 rfl dX10_path_18 ?_
        refine X_iconst hg ic_i_0 dX10_path_19 ?_
        refine X_aload_n hg 0 rfl dX10_path_20 ?_
        refine X_as ?_
        refine X_getR hg (j := 13) cf_10 (Nat.le_of_ble_eq_true rfl) (Or.inr ⟨_, rfl⟩) m_913 dX10_path_21 (fun x4 _ => ?_)
        refine X_iload_n hg 1 rfl dX10_path_24 ?_
        refine X_as ?_
        refine X_ald hg dX10_path_25 (fun x5 _ => ?_)
        refine X_iconst hg ic_i_1 dX10_path_26 ?_
        refine X_isub hg dX10_path_27 ?_
        refine X_as ?_
        refine X_cSI0 hg mf_X10_within m_1005 m_1004 (fun y e => c_X10_within g.1 a2 (nI 0) (x5 - (nI 1)) h y e) (As := [.int a2, .int (nI 0), .int (x5 - (nI 1))]) rfl (Nat.le_of_ble_eq_true rfl) rfl (Nat.le_of_ble_eq_true rfl) (Nat.le_of_ble_eq_true rfl) (Nat.le_of_ble_eq_true rfl) (Nat.le_of_ble_eq_true rfl) dX10_path_28 (fun x6 _ => ?_)
        refine X_ib ?_
        refine X_if_eq hg (tgt := 48) dX10_path_31 rfl (fun c9 => ?_) (fun c9 => ?_)
        · refine X_bipush hg ic_b_m101 dX10_path_48 ?_
          refine X_lv [] rfl ?_
          exact hk3 m101
        · refine X_aload_n hg 0 rfl dX10_path_34 ?_
          refine X_as ?_
          refine X_getR hg (j := 14) cf_10 (Nat.le_of_ble_eq_true rfl) (Or.inr ⟨_, rfl⟩) m_914 dX10_path_35 (fun x7 _ => ?_)
          refine X_bipush hg ic_b_14 dX10_path_38 ?_
          refine X_iload_n hg 1 rfl dX10_path_40 ?_
          refine X_imul hg dX10_path_41 ?_
          refine X_iload_n hg 2 rfl dX10_path_42 ?_
          refine X_iadd hg dX10_path_43 ?_
          refine X_as ?_
          refine X_ald hg dX10_path_44 (fun x8 _ => ?_)
          refine X_goto hg (tgt := 50) dX10_path_45 rfl ?_
          refine X_lv [] rfl ?_
          exact hk3 x8
    · exact X_iret hg hr (Nat.le_of_ble_eq_true rfl) (Nat.le_of_ble_eq_true rfl) dX10_path_50
set_option maxRecDepth 10000 in
theorem l_X10_layAsked_4 {g : XC} {x0 : Int32 × Hp} (hg : XG g RX10 cX10_layAsked 6 0 0 0 0) (l0 : Nat) (l1 : Int32) (h : Hp) (hr : XR g (some .boolean) "layAsked" (some (.int x0.1)) x0.2 0 0) (K : Int32 → Option (Int32 × Hp)) (hK0 : ∀ (l2 : Int32), Xo g x0 6 0 0 19 [(0, .ref (nB g.1 + l0)), (1, .int l1), (2, .int l2)] [] h (K l2)) : ∀ (n : Nat) (l2 : Int32) (l3 : Int32), Xo g x0 6 0 0 4 [(0, .ref (nB g.1 + l0)), (1, .int l1), (2, .int l2), (3, .int l3)] [] h (f_X10_layAsked_L4 l0 l1 h K n l2 l3) := by
  intro n
  induction n with
  | zero =>
    intro l2 l3
    exact X_none
  | succ n ih =>
    intro l2 l3
    unfold f_X10_layAsked_L4
    refine X_iload_n hg 3 rfl dX10_layAsked_4 ?_
    refine X_if_le hg (tgt := 19) dX10_layAsked_5 rfl (fun c1 => ?_) (fun c1 => ?_)
    · refine X_lv [0, 1, 2] rfl ?_
      exact hK0 _
    · refine X_iinc hg 2 rfl (v := (l2 + (nI 1))) (icc ic_i_1) (Nat.le_of_ble_eq_true rfl) (lv' := [(2, .int (l2 + (nI 1))), (0, .ref (nB g.1 + l0)), (1, .int l1), (3, .int l3)]) rfl dX10_layAsked_8 ?_
      refine X_iload_n hg 3 rfl dX10_layAsked_11 ?_
      refine X_bipush hg ic_b_10 dX10_layAsked_12 ?_
      refine X_idiv hg (by decide) dX10_layAsked_14 ?_
      refine X_istore_n hg rfl (Nat.le_of_ble_eq_true rfl) (lv' := [(3, .int (l3 / (nI 10))), (2, .int (l2 + (nI 1))), (0, .ref (nB g.1 + l0)), (1, .int l1)]) rfl dX10_layAsked_15 ?_
      refine X_goto hg (tgt := 4) dX10_layAsked_16 rfl ?_
      refine X_lv [2, 3, 1, 0] rfl ?_
      exact ih _ _
set_option maxRecDepth 10000 in
theorem l_X10_layAsked_42 {g : XC} {x0 : Int32 × Hp} (hg : XG g RX10 cX10_layAsked 6 0 0 0 0) (l0 : Nat) (hr : XR g (some .boolean) "layAsked" (some (.int x0.1)) x0.2 0 0) (K : Int32 → Hp → Option (Int32 × Hp)) (hK0 : ∀ (l3 : Int32) (h : Hp), Xo g x0 6 0 0 92 [(3, .int l3)] [] h (K l3 h)) : ∀ (n : Nat) (l3 : Int32) (l4 : Int32) (l5 : Int32) (h : Hp), Xo g x0 6 0 0 42 [(0, .ref (nB g.1 + l0)), (3, .int l3), (4, .int l4), (5, .int l5)] [] h (f_X10_layAsked_L42 l0 K n l3 l4 l5 h) := by
  intro n
  induction n with
  | zero =>
    intro l3 l4 l5 h
    exact X_none
  | succ n ih =>
    intro l3 l4 l5 h
    unfold f_X10_layAsked_L42
    refine X_iload hg 3 rfl dX10_layAsked_42 ?_
    refine X_if_lt hg (tgt := 92) dX10_layAsked_44 rfl (fun c13 => ?_) (fun c13 => ?_)
    · refine X_lv [1] rfl ?_
      exact hK0 _ _
    · refine X_aload_n hg 0 rfl dX10_layAsked_47 ?_
      refine X_getR hg (j := 31) cf_10 (Nat.le_of_ble_eq_true rfl) (Or.inr ⟨_, rfl⟩) m_931 dX10_layAsked_48 (fun x6 _ => ?_)
      refine X_iload hg 3 rfl dX10_layAsked_51 ?_
      refine X_iload hg 2 rfl dX10_layAsked_53 ?_
      refine X_bipush hg ic_b_10 dX10_layAsked_55 ?_
      refine X_irem hg (by decide) dX10_layAsked_57 ?_
      refine X_ast hg dX10_layAsked_58 (fun h7 _ => ?_)
      refine X_iload hg 2 rfl dX10_layAsked_59 ?_
      refine X_bipush hg ic_b_10 dX10_layAsked_61 ?_
      refine X_idiv hg (by decide) dX10_layAsked_63 ?_
      refine X_istore hg (Nat.le_of_ble_eq_true rfl) (lv' := [(4, .int (l4 / (nI 10))), (0, .ref (nB g.1 + l0)), (3, .int l3), (5, .int l5)]) rfl dX10_layAsked_64 ?_
      refine X_iload_n hg 2 rfl dX10_layAsked_66 ?_
      refine X_reg (fun (v8 : Int32) o => Xo g x0 6 0 0 85 [(0, .ref (nB g.1 + l0)), (4, .int (l4 / (nI 10))), (5, .int l5)] [.int v8] h7 o) (fun kv8 hk8 => ?_) (fun v8 => ?_)
      · refine X_ib ?_
        refine X_if_eq hg (tgt := 84) dX10_layAsked_67 rfl (fun c12 => ?_) (fun c12 => ?_)
        · refine X_iconst hg ic_i_0 dX10_layAsked_84 ?_
          refine X_lv [1, 0, 3] rfl ?_
          exact hk8 (nI 0)
        · refine X_aload_n hg 1 rfl dX10_layAsked_70 ?_
          refine X_as ?_
          refine X_getR hg (j := 31) cf_10 (Nat.le_of_ble_eq_true rfl) (Or.inr ⟨_, rfl⟩) m_931 dX10_layAsked_71 (fun x9 _ => ?_)
          refine X_iload hg 3 rfl dX10_layAsked_74 ?_
          refine X_as ?_
          refine X_ald hg dX10_layAsked_76 (fun x10 _ => ?_)
          refine X_ib ?_
          refine X_if_le hg (tgt := 84) dX10_layAsked_77 rfl (fun c11 => ?_) (fun c11 => ?_)
          · refine X_iconst hg ic_i_0 dX10_layAsked_84 ?_
            refine X_lv [1, 0, 3] rfl ?_
            exact hk8 (nI 0)
          · refine X_iconst hg ic_i_1 dX10_layAsked_80 ?_
            refine X_goto hg (tgt := 85) dX10_layAsked_81 rfl ?_
            refine X_lv [1, 0, 3] rfl ?_
            exact hk8 (nI 1)
      · refine X_istore_n hg rfl (Nat.le_of_ble_eq_true rfl) (lv' := [(3, .int v8), (0, .ref (nB g.1 + l0)), (4, .int (l4 / (nI 10))), (5, .int l5)]) rfl dX10_layAsked_85 ?_
        refine X_iinc hg 3 rfl (v := (l5 + m1)) (icc ic_i_m1) (Nat.le_of_ble_eq_true rfl) (lv' := [(5, .int (l5 + m1)), (3, .int v8), (0, .ref (nB g.1 + l0)), (4, .int (l4 / (nI 10)))]) rfl dX10_layAsked_86 ?_
        refine X_goto hg (tgt := 42) dX10_layAsked_89 rfl ?_
        refine X_lv [2, 1, 3, 0] rfl ?_
        exact ih _ _ _ _
set_option maxRecDepth 10000 in
theorem c_X10_layAsked (en : EN) (a0 : Nat) (a1 : Int32) (h : Hp) (x0 : Int32 × Hp) (e : f_X10_layAsked a0 a1 h = some x0) : Ct en yX10_layAsked cX10_layAsked 6 (some .boolean) 0 0 0 0 [.ref (nB en + a0), .int a1] h (some (.int x0.1)) x0.2 := by
  refine Ct.of (by decide) rfl (Nat.le_of_ble_eq_true rfl) e (fun g hen hg hr => ?_)
  subst hen
  unfold f_X10_layAsked
  refine X_gd ?_
  refine X_iconst hg ic_i_0 dX10_layAsked_0 ?_
  refine X_istore_n hg rfl (Nat.le_of_ble_eq_true rfl) (lv' := [(2, .int (nI 0)), (0, .ref (nB g.1 + a0)), (1, .int a1)]) rfl dX10_layAsked_1 ?_
  refine X_iload_n hg 2 rfl dX10_layAsked_2 ?_
  refine X_istore_n hg rfl (Nat.le_of_ble_eq_true rfl) (lv' := [(3, .int a1), (2, .int (nI 0)), (0, .ref (nB g.1 + a0)), (1, .int a1)]) rfl dX10_layAsked_3 ?_
  refine X_lv [2, 3, 1, 0] rfl ?_
  refine l_X10_layAsked_4 hg _ _ _ hr _ (fun y2 => ?_) _ _ _
  refine X_aload_n hg 0 rfl dX10_layAsked_19 ?_
  refine X_iload_n hg 2 rfl dX10_layAsked_20 ?_
  refine X_putI hg (j := 30) cf_10 (Nat.le_of_ble_eq_true rfl) rfl (Or.inl rfl) m_930 dX10_layAsked_21 (fun h3 _ => ?_)
  refine X_iload_n hg 1 rfl dX10_layAsked_24 ?_
  refine X_reg (fun (v4 : Int32) o => Xo g x0 6 0 0 33 [(0, .ref (nB g.1 + a0)), (1, .int a1), (2, .int y2)] [.int v4] h3 o) (fun kv4 hk4 => ?_) (fun v4 => ?_)
  · refine X_ib ?_
    refine X_if_lt hg (tgt := 32) dX10_layAsked_25 rfl (fun c5 => ?_) (fun c5 => ?_)
    · refine X_iconst hg ic_i_0 dX10_layAsked_32 ?_
      exact hk4 (nI 0)
    · refine X_iconst hg ic_i_1 dX10_layAsked_28 ?_
      refine X_goto hg (tgt := 33) dX10_layAsked_29 rfl ?_
      exact hk4 (nI 1)
  · refine X_istore_n hg rfl (Nat.le_of_ble_eq_true rfl) (lv' := [(3, .int v4), (0, .ref (nB g.1 + a0)), (1, .int a1), (2, .int y2)]) rfl dX10_layAsked_33 ?_
    refine X_iload_n hg 2 rfl dX10_layAsked_34 ?_
    refine X_istore hg (Nat.le_of_ble_eq_true rfl) (lv' := [(4, .int a1), (3, .int v4), (0, .ref (nB g.1 + a0)), (1, .int a1), (2, .int y2)]) rfl dX10_layAsked_35 ?_
    refine X_iload_n hg 4 rfl dX10_layAsked_37 ?_
    refine X_iconst hg ic_i_1 dX10_layAsked_38 ?_
    refine X_isub hg dX10_layAsked_39 ?_
    refine X_istore hg (Nat.le_of_ble_eq_true rfl) (lv' := [(5, .int (y2 - (nI 1))), (4, .int a1), (3, .int v4), (0, .ref (nB g.1 + a0)), (1, .int a1), (2, .int y2)]) rfl dX10_layAsked_40 ?_
    refine X_lv [3, 2, 1, 0] rfl ?_
    refine l_X10_layAsked_42 hg _ hr _ (fun y14 h15 => ?_) _ _ _ _ _
    refine X_iload_n hg 0 rfl dX10_layAsked_92 ?_
    exact X_zretW hg hr (Nat.le_of_ble_eq_true rfl) (Nat.le_of_ble_eq_true rfl) dX10_layAsked_93
set_option maxRecDepth 10000 in
theorem l_X10_isLed_21 {g : XC} {x0 : Int32} (hg : XG g RX10 cX10_isLed 4 0 0 0 0) (l0 : Nat) (l1 : Int32) (h : Hp) (hr : XR g (some .boolean) "isLed" (some (.int x0)) h 0 0) (K : Int32 → Option (Int32)) (hK0 : ∀ (l2 : Int32), Xo g x0 4 0 0 65 [(2, .int l2)] [] h (K l2)) : ∀ (n : Nat) (l2 : Int32) (l3 : Int32), Xo g x0 4 0 0 21 [(0, .ref (nB g.1 + l0)), (1, .int l1), (2, .int l2), (3, .int l3)] [] h (f_X10_isLed_L21 l0 l1 h K n l2 l3) := by
  intro n
  induction n with
  | zero =>
    intro l2 l3
    exact X_none
  | succ n ih =>
    intro l2 l3
    unfold f_X10_isLed_L21
    refine X_iload_n hg 3 rfl dX10_isLed_21 ?_
    refine X_aload_n hg 0 rfl dX10_isLed_22 ?_
    refine X_getI hg (j := 30) cf_10 (Nat.le_of_ble_eq_true rfl) (Or.inl rfl) m_930 dX10_isLed_23 (fun x6 _ => ?_)
    refine X_icmp_ge hg (tgt := 65) dX10_isLed_26 rfl (fun c14 => ?_) (fun c14 => ?_)
    · refine X_lv [2] rfl ?_
      exact hK0 _
    · refine X_iload_n hg 2 rfl dX10_isLed_29 ?_
      refine X_if_eq hg (tgt := 65) dX10_isLed_30 rfl (fun c13 => ?_) (fun c13 => ?_)
      · refine X_lv [2] rfl ?_
        exact hK0 _
      · refine X_aload_n hg 0 rfl dX10_isLed_33 ?_
        refine X_getR hg (j := 14) cf_10 (Nat.le_of_ble_eq_true rfl) (Or.inr ⟨_, rfl⟩) m_914 dX10_isLed_34 (fun x7 _ => ?_)
        refine X_bipush hg ic_b_14 dX10_isLed_37 ?_
        refine X_iload_n hg 1 rfl dX10_isLed_39 ?_
        refine X_imul hg dX10_isLed_40 ?_
        refine X_iload_n hg 3 rfl dX10_isLed_41 ?_
        refine X_iadd hg dX10_isLed_42 ?_
        refine X_ald hg dX10_isLed_43 (fun x8 _ => ?_)
        refine X_aload_n hg 0 rfl dX10_isLed_44 ?_
        refine X_getR hg (j := 31) cf_10 (Nat.le_of_ble_eq_true rfl) (Or.inr ⟨_, rfl⟩) m_931 dX10_isLed_45 (fun x9 _ => ?_)
        refine X_iload_n hg 3 rfl dX10_isLed_48 ?_
        refine X_ald hg dX10_isLed_49 (fun x10 _ => ?_)
        refine X_reg (fun (v11 : Int32) o => Xo g x0 4 0 0 58 [(0, .ref (nB g.1 + l0)), (1, .int l1), (3, .int l3)] [.int v11] h o) (fun kv11 hk11 => ?_) (fun v11 => ?_)
        · refine X_ib ?_
          refine X_icmp_ne hg (tgt := 57) dX10_isLed_50 rfl (fun c12 => ?_) (fun c12 => ?_)
          · refine X_iconst hg ic_i_1 dX10_isLed_53 ?_
            refine X_goto hg (tgt := 58) dX10_isLed_54 rfl ?_
            refine X_lv [0, 1, 3] rfl ?_
            exact hk11 (nI 1)
          · refine X_iconst hg ic_i_0 dX10_isLed_57 ?_
            refine X_lv [0, 1, 3] rfl ?_
            exact hk11 (nI 0)
        · refine X_istore_n hg rfl (Nat.le_of_ble_eq_true rfl) (lv' := [(2, .int v11), (0, .ref (nB g.1 + l0)), (1, .int l1), (3, .int l3)]) rfl dX10_isLed_58 ?_
          refine X_iinc hg 3 rfl (v := (l3 + (nI 1))) (icc ic_i_1) (Nat.le_of_ble_eq_true rfl) (lv' := [(3, .int (l3 + (nI 1))), (2, .int v11), (0, .ref (nB g.1 + l0)), (1, .int l1)]) rfl dX10_isLed_59 ?_
          refine X_goto hg (tgt := 21) dX10_isLed_62 rfl ?_
          refine X_lv [2, 3, 1, 0] rfl ?_
          exact ih _ _
set_option maxRecDepth 10000 in
theorem c_X10_isLed (en : EN) (a0 : Nat) (a1 : Int32) (h : Hp) (x0 : Int32) (e : f_X10_isLed a0 a1 h = some x0) : Ct en yX10_isLed cX10_isLed 4 (some .boolean) 0 0 0 0 [.ref (nB en + a0), .int a1] h (some (.int x0)) h := by
  refine Ct.of (by decide) rfl (Nat.le_of_ble_eq_true rfl) e (fun g hen hg hr => ?_)
  subst hen
  unfold f_X10_isLed
  refine X_gd ?_
  refine X_aload_n hg 0 rfl dX10_isLed_0 ?_
  refine X_getI hg (j := 30) cf_10 (Nat.le_of_ble_eq_true rfl) (Or.inl rfl) m_930 dX10_isLed_1 (fun x1 _ => ?_)
  refine X_aload_n hg 0 rfl dX10_isLed_4 ?_
  refine X_getR hg (j := 13) cf_10 (Nat.le_of_ble_eq_true rfl) (Or.inr ⟨_, rfl⟩) m_913 dX10_isLed_5 (fun x2 _ => ?_)
  refine X_iload_n hg 1 rfl dX10_isLed_8 ?_
  refine X_ald hg dX10_isLed_9 (fun x3 _ => ?_)
  refine X_reg (fun (v4 : Int32) o => Xo g x0 4 0 0 18 [(0, .ref (nB g.1 + a0)), (1, .int a1)] [.int v4] h o) (fun kv4 hk4 => ?_) (fun v4 => ?_)
  · refine X_ib ?_
    refine X_icmp_gt hg (tgt := 17) dX10_isLed_10 rfl (fun c5 => ?_) (fun c5 => ?_)
    · refine X_iconst hg ic_i_0 dX10_isLed_17 ?_
      exact hk4 (nI 0)
    · refine X_iconst hg ic_i_1 dX10_isLed_13 ?_
      refine X_goto hg (tgt := 18) dX10_isLed_14 rfl ?_
      exact hk4 (nI 1)
  · refine X_istore_n hg rfl (Nat.le_of_ble_eq_true rfl) (lv' := [(2, .int v4), (0, .ref (nB g.1 + a0)), (1, .int a1)]) rfl dX10_isLed_18 ?_
    refine X_iconst hg ic_i_0 dX10_isLed_19 ?_
    refine X_istore_n hg rfl (Nat.le_of_ble_eq_true rfl) (lv' := [(3, .int (nI 0)), (2, .int v4), (0, .ref (nB g.1 + a0)), (1, .int a1)]) rfl dX10_isLed_20 ?_
    refine X_lv [2, 3, 1, 0] rfl ?_
    refine l_X10_isLed_21 hg _ _ _ hr _ (fun y15 => ?_) _ _ _
    refine X_iload_n hg 0 rfl dX10_isLed_65 ?_
    exact X_zret hg hr (Nat.le_of_ble_eq_true rfl) (Nat.le_of_ble_eq_true rfl) dX10_isLed_66
set_option maxRecDepth 10000 in
theorem l_X10_leads_28 {g : XC} {x0 : Int32 × Hp} (hg : XG g RX10 cX10_leads 5 1 25 0 0) (l0 : Nat) (h : Hp) (hr : XR g (some .int) "leads" (some (.int x0.1)) x0.2 0 0) (K : Int32 → Int32 → Option (Int32 × Hp)) (hK0 : ∀ (l2 : Int32) (l3 : Int32), Xo g x0 5 0 0 76 [(2, .int l2), (3, .int l3)] [] h (K l2 l3)) : ∀ (n : Nat) (l2 : Int32) (l3 : Int32) (l4 : Int32), Xo g x0 5 0 0 28 [(0, .ref (nB g.1 + l0)), (2, .int l2), (3, .int l3), (4, .int l4)] [] h (f_X10_leads_L28 l0 h K n l2 l3 l4) := by
  intro n
  induction n with
  | zero =>
    intro l2 l3 l4
    exact X_none
  | succ n ih =>
    intro l2 l3 l4
    unfold f_X10_leads_L28
    refine X_iload hg 3 rfl dX10_leads_28 ?_
    refine X_aload_n hg 0 rfl dX10_leads_30 ?_
    refine X_getI hg (j := 2) cf_10 (Nat.le_of_ble_eq_true rfl) (Or.inl rfl) m_902 dX10_leads_31 (fun x3 _ => ?_)
    refine X_icmp_ge hg (tgt := 76) dX10_leads_34 rfl (fun c10 => ?_) (fun c10 => ?_)
    · refine X_lv [1, 2] rfl ?_
      exact hK0 _ _
    · refine X_iload_n hg 1 rfl dX10_leads_37 ?_
      refine X_aload_n hg 0 rfl dX10_leads_38 ?_
      refine X_iload hg 3 rfl dX10_leads_39 ?_
      refine X_cVI0 hg mf_X10_isLed m_1303 m_79 m_1301 cf_10 (fun _ e => gd_isO e) (fun y e => c_X10_isLed g.1 l0 l4 h y e) (As := [.int l4]) rfl (Nat.le_of_ble_eq_true rfl) rfl (Nat.le_of_ble_eq_true rfl) (Nat.le_of_ble_eq_true rfl) (Nat.le_of_ble_eq_true rfl) (Nat.le_of_ble_eq_true rfl) dX10_leads_41 (fun x4 _ => ?_)
      refine X_reg (fun (v5 : Int32) o => Xo g x0 5 0 0 52 [(0, .ref (nB g.1 + l0)), (3, .int l3), (4, .int l4)] [.int v5, .int l2] h o) (fun kv5 hk5 => ?_) (fun v5 => ?_)
      · refine X_ib ?_
        refine X_if_eq hg (tgt := 51) dX10_leads_44 rfl (fun c6 => ?_) (fun c6 => ?_)
        · refine X_iconst hg ic_i_0 dX10_leads_51 ?_
          refine X_lv [0, 2, 3] rfl ?_
          exact hk5 (nI 0)
        · refine X_iconst hg ic_i_1 dX10_leads_47 ?_
          refine X_goto hg (tgt := 52) dX10_leads_48 rfl ?_
          refine X_lv [0, 2, 3] rfl ?_
          exact hk5 (nI 1)
      · refine X_iadd hg dX10_leads_52 ?_
        refine X_istore_n hg rfl (Nat.le_of_ble_eq_true rfl) (lv' := [(2, .int (l2 + v5)), (0, .ref (nB g.1 + l0)), (3, .int l3), (4, .int l4)]) rfl dX10_leads_53 ?_
        refine X_aload_n hg 1 rfl dX10_leads_54 ?_
        refine X_iload hg 3 rfl dX10_leads_55 ?_
        refine X_cVI0 hg mf_X10_isLed m_1303 m_79 m_1301 cf_10 (fun _ e => gd_isO e) (fun y e => c_X10_isLed g.1 l0 l4 h y e) (As := [.int l4]) rfl (Nat.le_of_ble_eq_true rfl) rfl (Nat.le_of_ble_eq_true rfl) (Nat.le_of_ble_eq_true rfl) (Nat.le_of_ble_eq_true rfl) (Nat.le_of_ble_eq_true rfl) dX10_leads_57 (fun x7 _ => ?_)
        refine X_reg (fun (v8 : Int32) o => Xo g x0 5 0 0 69 [(0, .ref (nB g.1 + l0)), (2, .int (l2 + v5)), (4, .int l4)] [.int v8] h o) (fun kv8 hk8 => ?_) (fun v8 => ?_)
        · refine X_ib ?_
          refine X_if_eq hg (tgt := 68) dX10_leads_60 rfl (fun c9 => ?_) (fun c9 => ?_)
          · refine X_iload_n hg 2 rfl dX10_leads_68 ?_
            refine X_lv [1, 0, 3] rfl ?_
            exact hk8 l3
          · refine X_iload hg 3 rfl dX10_leads_63 ?_
            refine X_goto hg (tgt := 69) dX10_leads_65 rfl ?_
            refine X_lv [1, 0, 3] rfl ?_
            exact hk8 l4
        · refine X_istore_n hg rfl (Nat.le_of_ble_eq_true rfl) (lv' := [(3, .int v8), (0, .ref (nB g.1 + l0)), (2, .int (l2 + v5)), (4, .int l4)]) rfl dX10_leads_69 ?_
          refine X_iinc hg 3 rfl (v := (l4 + (nI 1))) (icc ic_i_1) (Nat.le_of_ble_eq_true rfl) (lv' := [(4, .int (l4 + (nI 1))), (3, .int v8), (0, .ref (nB g.1 + l0)), (2, .int (l2 + v5))]) rfl dX10_leads_70 ?_
          refine X_goto hg (tgt := 28) dX10_leads_73 rfl ?_
          refine X_lv [2, 3, 1, 0] rfl ?_
          exact ih _ _ _
set_option maxRecDepth 10000 in
theorem c_X10_leads (en : EN) (a0 : Nat) (a1 : Int32) (h : Hp) (x0 : Int32 × Hp) (e : f_X10_leads a0 a1 h = some x0) : Ct en yX10_leads cX10_leads 5 (some .int) 1 25 0 0 [.ref (nB en + a0), .int a1] h (some (.int x0.1)) x0.2 := by
  refine Ct.of (by decide) rfl (Nat.le_of_ble_eq_true rfl) e (fun g hen hg hr => ?_)
  subst hen
  unfold f_X10_leads
  refine X_gd ?_
  refine X_aload_n hg 0 rfl dX10_leads_0 ?_
  refine X_getI hg (j := 12) cf_10 (Nat.le_of_ble_eq_true rfl) (Or.inl rfl) m_912 dX10_leads_1 (fun x1 _ => ?_)
  refine X_if_ne hg (tgt := 10) dX10_leads_4 rfl (fun c17 => ?_) (fun c17 => ?_)
  · refine X_bipush hg ic_b_m103 dX10_leads_7 ?_
    exact X_iretW hg hr (Nat.le_of_ble_eq_true rfl) (Nat.le_of_ble_eq_true rfl) dX10_leads_9
  · refine X_aload_n hg 0 rfl dX10_leads_10 ?_
    refine X_iload_n hg 1 rfl dX10_leads_11 ?_
    refine X_cVIW0 hg mf_X10_layAsked m_1299 m_78 m_1297 cf_10 (fun _ e => gd_isO e) (fun y e => c_X10_layAsked g.1 a0 a1 h y e) (As := [.int a1]) rfl (Nat.le_of_ble_eq_true rfl) rfl (Nat.le_of_ble_eq_true rfl) (Nat.le_of_ble_eq_true rfl) (Nat.le_of_ble_eq_true rfl) (Nat.le_of_ble_eq_true rfl) dX10_leads_12 (fun p2 _ => ?_)
    refine X_if_ne hg (tgt := 21) dX10_leads_15 rfl (fun c16 => ?_) (fun c16 => ?_)
    · refine X_bipush hg ic_b_m101 dX10_leads_18 ?_
      exact X_iretW hg hr (Nat.le_of_ble_eq_true rfl) (Nat.le_of_ble_eq_true rfl) dX10_leads_20
    · refine X_iconst hg ic_i_0 dX10_leads_21 ?_
      refine X_istore_n hg rfl (Nat.le_of_ble_eq_true rfl) (lv' := [(2, .int (nI 0)), (0, .ref (nB g.1 + a0)), (1, .int a1)]) rfl dX10_leads_22 ?_
      refine X_iconst hg ic_i_m1 dX10_leads_23 ?_
      refine X_istore_n hg rfl (Nat.le_of_ble_eq_true rfl) (lv' := [(3, .int m1), (2, .int (nI 0)), (0, .ref (nB g.1 + a0)), (1, .int a1)]) rfl dX10_leads_24 ?_
      refine X_iconst hg ic_i_0 dX10_leads_25 ?_
      refine X_istore hg (Nat.le_of_ble_eq_true rfl) (lv' := [(4, .int (nI 0)), (3, .int m1), (2, .int (nI 0)), (0, .ref (nB g.1 + a0)), (1, .int a1)]) rfl dX10_leads_26 ?_
      refine X_lv [3, 2, 1, 0] rfl ?_
      refine l_X10_leads_28 hg _ _ hr _ (fun y11 y12 => ?_) _ _ _ _
      refine X_iload_n hg 0 rfl dX10_leads_76 ?_
      refine X_reg (fun (v13 : Int32) o => Xo g x0 5 0 0 95 [] [.int v13] p2.2 o) (fun kv13 hk13 => ?_) (fun v13 => ?_)
      · refine X_ib ?_
        refine X_if_ne hg (tgt := 85) dX10_leads_77 rfl (fun c15 => ?_) (fun c15 => ?_)
        · refine X_bipush hg ic_b_m101 dX10_leads_80 ?_
          refine X_goto hg (tgt := 95) dX10_leads_82 rfl ?_
          refine X_lv [] rfl ?_
          exact hk13 m101
        · refine X_iload_n hg 0 rfl dX10_leads_85 ?_
          refine X_iconst hg ic_i_1 dX10_leads_86 ?_
          refine X_ib ?_
          refine X_icmp_ne hg (tgt := 94) dX10_leads_87 rfl (fun c14 => ?_) (fun c14 => ?_)
          · refine X_iload_n hg 1 rfl dX10_leads_90 ?_
            refine X_goto hg (tgt := 95) dX10_leads_91 rfl ?_
            refine X_lv [] rfl ?_
            exact hk13 y12
          · refine X_iconst hg ic_i_m1 dX10_leads_94 ?_
            refine X_lv [] rfl ?_
            exact hk13 m1
      · exact X_iretW hg hr (Nat.le_of_ble_eq_true rfl) (Nat.le_of_ble_eq_true rfl) dX10_leads_95
set_option maxRecDepth 10000 in
theorem l_X10_longest_4 {g : XC} {x0 : Int32} (hg : XG g RX10 cX10_longest 3 0 0 0 0) (l0 : Nat) (h : Hp) (hr : XR g (some .int) "longest" (some (.int x0)) h 0 0) (K : Int32 → Option (Int32)) (hK0 : ∀ (l1 : Int32), Xo g x0 3 0 0 39 [(1, .int l1)] [] h (K l1)) : ∀ (n : Nat) (l1 : Int32) (l2 : Int32), Xo g x0 3 0 0 4 [(0, .ref (nB g.1 + l0)), (1, .int l1), (2, .int l2)] [] h (f_X10_longest_L4 l0 h K n l1 l2) := by
  intro n
  induction n with
  | zero =>
    intro l1 l2
    exact X_none
  | succ n ih =>
    intro l1 l2
    unfold f_X10_longest_L4
    refine X_iload_n hg 2 rfl dX10_longest_4 ?_
    refine X_aload_n hg 0 rfl dX10_longest_5 ?_
    refine X_getI hg (j := 2) cf_10 (Nat.le_of_ble_eq_true rfl) (Or.inl rfl) m_902 dX10_longest_6 (fun x1 _ => ?_)
    refine X_icmp_ge hg (tgt := 39) dX10_longest_9 rfl (fun c8 => ?_) (fun c8 => ?_)
    · refine X_lv [1] rfl ?_
      exact hK0 _
    · refine X_aload_n hg 0 rfl dX10_longest_12 ?_
      refine X_getR hg (j := 13) cf_10 (Nat.le_of_ble_eq_true rfl) (Or.inr ⟨_, rfl⟩) m_913 dX10_longest_13 (fun x2 _ => ?_)
      refine X_iload_n hg 2 rfl dX10_longest_16 ?_
      refine X_ald hg dX10_longest_17 (fun x3 _ => ?_)
      refine X_iload_n hg 1 rfl dX10_longest_18 ?_
      refine X_reg (fun (v4 : Int32) o => Xo g x0 3 0 0 32 [(0, .ref (nB g.1 + l0)), (2, .int l2)] [.int v4] h o) (fun kv4 hk4 => ?_) (fun v4 => ?_)
      · refine X_ib ?_
        refine X_icmp_le hg (tgt := 31) dX10_longest_19 rfl (fun c7 => ?_) (fun c7 => ?_)
        · refine X_iload_n hg 1 rfl dX10_longest_31 ?_
          refine X_lv [0, 2] rfl ?_
          exact hk4 l1
        · refine X_aload_n hg 0 rfl dX10_longest_22 ?_
          refine X_as ?_
          refine X_getR hg (j := 13) cf_10 (Nat.le_of_ble_eq_true rfl) (Or.inr ⟨_, rfl⟩) m_913 dX10_longest_23 (fun x5 _ => ?_)
          refine X_iload_n hg 2 rfl dX10_longest_26 ?_
          refine X_as ?_
          refine X_ald hg dX10_longest_27 (fun x6 _ => ?_)
          refine X_goto hg (tgt := 32) dX10_longest_28 rfl ?_
          refine X_lv [0, 2] rfl ?_
          exact hk4 x6
      · refine X_istore_n hg rfl (Nat.le_of_ble_eq_true rfl) (lv' := [(1, .int v4), (0, .ref (nB g.1 + l0)), (2, .int l2)]) rfl dX10_longest_32 ?_
        refine X_iinc hg 2 rfl (v := (l2 + (nI 1))) (icc ic_i_1) (Nat.le_of_ble_eq_true rfl) (lv' := [(2, .int (l2 + (nI 1))), (1, .int v4), (0, .ref (nB g.1 + l0))]) rfl dX10_longest_33 ?_
        refine X_goto hg (tgt := 4) dX10_longest_36 rfl ?_
        refine X_lv [2, 1, 0] rfl ?_
        exact ih _ _
set_option maxRecDepth 10000 in
theorem c_X10_longest (en : EN) (a0 : Nat) (h : Hp) (x0 : Int32) (e : f_X10_longest a0 h = some x0) : Ct en yX10_longest cX10_longest 3 (some .int) 0 0 0 0 [.ref (nB en + a0)] h (some (.int x0)) h := by
  refine Ct.of (by decide) rfl (Nat.le_of_ble_eq_true rfl) e (fun g hen hg hr => ?_)
  subst hen
  unfold f_X10_longest
  refine X_gd ?_
  refine X_iconst hg ic_i_0 dX10_longest_0 ?_
  refine X_istore_n hg rfl (Nat.le_of_ble_eq_true rfl) (lv' := [(1, .int (nI 0)), (0, .ref (nB g.1 + a0))]) rfl dX10_longest_1 ?_
  refine X_iconst hg ic_i_0 dX10_longest_2 ?_
  refine X_istore_n hg rfl (Nat.le_of_ble_eq_true rfl) (lv' := [(2, .int (nI 0)), (1, .int (nI 0)), (0, .ref (nB g.1 + a0))]) rfl dX10_longest_3 ?_
  refine X_lv [2, 1, 0] rfl ?_
  refine l_X10_longest_4 hg _ _ hr _ (fun y9 => ?_) _ _ _
  refine X_iload_n hg 0 rfl dX10_longest_39 ?_
  exact X_iret hg hr (Nat.le_of_ble_eq_true rfl) (Nat.le_of_ble_eq_true rfl) dX10_longest_40
set_option maxRecDepth 10000 in
theorem l_X10_isSamePath_30 {g : XC} {x0 : Int32} (hg : XG g RX10 cX10_isSamePath 6 0 0 0 0) (l0 : Nat) (l1 : Int32) (l2 : Int32) (l3 : Int32) (h : Hp) (hr : XR g (some .boolean) "isSamePath" (some (.int x0)) h 0 0) (K : Int32 → Option (Int32)) (hK0 : ∀ (l4 : Int32), Xo g x0 6 0 0 81 [(4, .int l4)] [] h (K l4)) : ∀ (n : Nat) (l4 : Int32) (l5 : Int32), Xo g x0 6 0 0 30 [(0, .ref (nB g.1 + l0)), (1, .int l1), (2, .int l2), (3, .int l3), (4, .int l4), (5, .int l5)] [] h (f_X10_isSamePath_L30 l0 l1 l2 l3 h K n l4 l5) := by
  intro n
  induction n with
  | zero =>
    intro l4 l5
    exact X_none
  | succ n ih =>
    intro l4 l5
    unfold f_X10_isSamePath_L30
    refine X_iload hg 5 rfl dX10_isSamePath_30 ?_
    refine X_iload_n hg 3 rfl dX10_isSamePath_32 ?_
    refine X_icmp_ge hg (tgt := 81) dX10_isSamePath_33 rfl (fun c15 => ?_) (fun c15 => ?_)
    · refine X_lv [4] rfl ?_
      exact hK0 _
    · refine X_iload hg 4 rfl dX10_isSamePath_36 ?_
      refine X_if_eq hg (tgt := 81) dX10_isSamePath_38 rfl (fun c14 => ?_) (fun c14 => ?_)
      · refine X_lv [4] rfl ?_
        exact hK0 _
      · refine X_aload_n hg 0 rfl dX10_isSamePath_41 ?_
        refine X_getR hg (j := 14) cf_10 (Nat.le_of_ble_eq_true rfl) (Or.inr ⟨_, rfl⟩) m_914 dX10_isSamePath_42 (fun x8 _ => ?_)
        refine X_bipush hg ic_b_14 dX10_isSamePath_45 ?_
        refine X_iload_n hg 1 rfl dX10_isSamePath_47 ?_
        refine X_imul hg dX10_isSamePath_48 ?_
        refine X_iload hg 5 rfl dX10_isSamePath_49 ?_
        refine X_iadd hg dX10_isSamePath_51 ?_
        refine X_ald hg dX10_isSamePath_52 (fun x9 _ => ?_)
        refine X_aload_n hg 0 rfl dX10_isSamePath_53 ?_
        refine X_getR hg (j := 14) cf_10 (Nat.le_of_ble_eq_true rfl) (Or.inr ⟨_, rfl⟩) m_914 dX10_isSamePath_54 (fun x10 _ => ?_)
        refine X_bipush hg ic_b_14 dX10_isSamePath_57 ?_
        refine X_iload_n hg 2 rfl dX10_isSamePath_59 ?_
        refine X_imul hg dX10_isSamePath_60 ?_
        refine X_iload hg 5 rfl dX10_isSamePath_61 ?_
        refine X_iadd hg dX10_isSamePath_63 ?_
        refine X_ald hg dX10_isSamePath_64 (fun x11 _ => ?_)
        refine X_reg (fun (v12 : Int32) o => Xo g x0 6 0 0 73 [(0, .ref (nB g.1 + l0)), (1, .int l1), (2, .int l2), (3, .int l3), (5, .int l5)] [.int v12] h o) (fun kv12 hk12 => ?_) (fun v12 => ?_)
        · refine X_ib ?_
          refine X_icmp_ne hg (tgt := 72) dX10_isSamePath_65 rfl (fun c13 => ?_) (fun c13 => ?_)
          · refine X_iconst hg ic_i_1 dX10_isSamePath_68 ?_
            refine X_goto hg (tgt := 73) dX10_isSamePath_69 rfl ?_
            refine X_lv [0, 1, 2, 3, 5] rfl ?_
            exact hk12 (nI 1)
          · refine X_iconst hg ic_i_0 dX10_isSamePath_72 ?_
            refine X_lv [0, 1, 2, 3, 5] rfl ?_
            exact hk12 (nI 0)
        · refine X_istore hg (Nat.le_of_ble_eq_true rfl) (lv' := [(4, .int v12), (0, .ref (nB g.1 + l0)), (1, .int l1), (2, .int l2), (3, .int l3), (5, .int l5)]) rfl dX10_isSamePath_73 ?_
          refine X_iinc hg 5 rfl (v := (l5 + (nI 1))) (icc ic_i_1) (Nat.le_of_ble_eq_true rfl) (lv' := [(5, .int (l5 + (nI 1))), (4, .int v12), (0, .ref (nB g.1 + l0)), (1, .int l1), (2, .int l2), (3, .int l3)]) rfl dX10_isSamePath_75 ?_
          refine X_goto hg (tgt := 30) dX10_isSamePath_78 rfl ?_
          refine X_lv [2, 3, 4, 5, 1, 0] rfl ?_
          exact ih _ _
set_option maxRecDepth 10000 in
theorem c_X10_isSamePath (en : EN) (a0 : Nat) (a1 : Int32) (a2 : Int32) (a3 : Int32) (h : Hp) (x0 : Int32) (e : f_X10_isSamePath a0 a1 a2 a3 h = some x0) : Ct en yX10_isSamePath cX10_isSamePath 6 (some .boolean) 0 0 0 0 [.ref (nB en + a0), .int a1, .int a2, .int a3] h (some (.int x0)) h := by
  refine Ct.of (by decide) rfl (Nat.le_of_ble_eq_true rfl) e (fun g hen hg hr => ?_)
  subst hen
  unfold f_X10_isSamePath
  refine X_gd ?_
  refine X_iload_n hg 3 rfl dX10_isSamePath_0 ?_
  refine X_aload_n hg 0 rfl dX10_isSamePath_1 ?_
  refine X_getR hg (j := 13) cf_10 (Nat.le_of_ble_eq_true rfl) (Or.inr ⟨_, rfl⟩) m_913 dX10_isSamePath_2 (fun x1 _ => ?_)
  refine X_iload_n hg 1 rfl dX10_isSamePath_5 ?_
  refine X_ald hg dX10_isSamePath_6 (fun x2 _ => ?_)
  refine X_reg (fun (v3 : Int32) o => Xo g x0 6 0 0 25 [(0, .ref (nB g.1 + a0)), (1, .int a1), (2, .int a2), (3, .int a3)] [.int v3] h o) (fun kv3 hk3 => ?_) (fun v3 => ?_)
  · refine X_ib ?_
    refine X_icmp_gt hg (tgt := 24) dX10_isSamePath_7 rfl (fun c7 => ?_) (fun c7 => ?_)
    · refine X_iconst hg ic_i_0 dX10_isSamePath_24 ?_
      exact hk3 (nI 0)
    · refine X_iload_n hg 3 rfl dX10_isSamePath_10 ?_
      refine X_aload_n hg 0 rfl dX10_isSamePath_11 ?_
      refine X_as ?_
      refine X_getR hg (j := 13) cf_10 (Nat.le_of_ble_eq_true rfl) (Or.inr ⟨_, rfl⟩) m_913 dX10_isSamePath_12 (fun x4 _ => ?_)
      refine X_iload_n hg 2 rfl dX10_isSamePath_15 ?_
      refine X_as ?_
      refine X_ald hg dX10_isSamePath_16 (fun x5 _ => ?_)
      refine X_ib ?_
      refine X_icmp_gt hg (tgt := 24) dX10_isSamePath_17 rfl (fun c6 => ?_) (fun c6 => ?_)
      · refine X_iconst hg ic_i_0 dX10_isSamePath_24 ?_
        exact hk3 (nI 0)
      · refine X_iconst hg ic_i_1 dX10_isSamePath_20 ?_
        refine X_goto hg (tgt := 25) dX10_isSamePath_21 rfl ?_
        exact hk3 (nI 1)
  · refine X_istore hg (Nat.le_of_ble_eq_true rfl) (lv' := [(4, .int v3), (0, .ref (nB g.1 + a0)), (1, .int a1), (2, .int a2), (3, .int a3)]) rfl dX10_isSamePath_25 ?_
    refine X_iconst hg ic_i_0 dX10_isSamePath_27 ?_
    refine X_istore hg (Nat.le_of_ble_eq_true rfl) (lv' := [(5, .int (nI 0)), (4, .int v3), (0, .ref (nB g.1 + a0)), (1, .int a1), (2, .int a2), (3, .int a3)]) rfl dX10_isSamePath_28 ?_
    refine X_lv [2, 3, 4, 5, 1, 0] rfl ?_
    refine l_X10_isSamePath_30 hg _ _ _ _ _ hr _ (fun y16 => ?_) _ _ _
    refine X_iload hg 0 rfl dX10_isSamePath_81 ?_
    exact X_zret hg hr (Nat.le_of_ble_eq_true rfl) (Nat.le_of_ble_eq_true rfl) dX10_isSamePath_83
set_option maxRecDepth 10000 in
theorem l_X10_menusMany_14 {g : XC} {x0 : Int32} (hg : XG g RX10 cX10_menusMany 4 1 25 0 0) (l0 : Nat) (l2 : Int32) (h : Hp) (hr : XR g (some .int) "menusMany" (some (.int x0)) h 0 0) (K : Int32 → Option (Int32)) (hK0 : ∀ (l1 : Int32), Xo g x0 4 0 0 54 [(0, .ref (nB g.1 + l0)), (1, .int l1), (2, .int l2)] [] h (K l1)) : ∀ (n : Nat) (l1 : Int32) (l3 : Int32), Xo g x0 4 0 0 14 [(0, .ref (nB g.1 + l0)), (1, .int l1), (2, .int l2), (3, .int l3)] [] h (f_X10_menusMany_L14 l0 l2 h K n l1 l3) := by
  intro n
  induction n with
  | zero =>
    intro l1 l3
    exact X_none
  | succ n ih =>
    intro l1 l3
    unfold f_X10_menusMany_L14
    refine X_iload_n hg 3 rfl dX10_menusMany_14 ?_
    refine X_aload_n hg 0 rfl dX10_menusMany_15 ?_
    refine X_getR hg (j := 13) cf_10 (Nat.le_of_ble_eq_true rfl) (Or.inr ⟨_, rfl⟩) m_913 dX10_menusMany_16 (fun x2 _ => ?_)
    refine X_iload_n hg 2 rfl dX10_menusMany_19 ?_
    refine X_ald hg dX10_menusMany_20 (fun x3 _ => ?_)
    refine X_icmp_ge hg (tgt := 54) dX10_menusMany_21 rfl (fun c8 => ?_) (fun c8 => ?_)
    · refine X_lv [0, 1, 2] rfl ?_
      exact hK0 _
    · refine X_iload_n hg 1 rfl dX10_menusMany_24 ?_
      refine X_iload_n hg 2 rfl dX10_menusMany_25 ?_
      refine X_reg (fun (v4 : Int32) o => Xo g x0 4 0 0 46 [(0, .ref (nB g.1 + l0)), (2, .int l2), (3, .int l3)] [.int v4, .int l1] h o) (fun kv4 hk4 => ?_) (fun v4 => ?_)
      · refine X_ib ?_
        refine X_if_eq hg (tgt := 41) dX10_menusMany_26 rfl (fun c7 => ?_) (fun c7 => ?_)
        · refine X_iconst hg ic_i_1 dX10_menusMany_41 ?_
          refine X_goto hg (tgt := 46) dX10_menusMany_42 rfl ?_
          refine X_lv [0, 2, 3] rfl ?_
          exact hk4 (nI 1)
        · refine X_aload_n hg 0 rfl dX10_menusMany_29 ?_
          refine X_iload_n hg 2 rfl dX10_menusMany_30 ?_
          refine X_iconst hg ic_i_1 dX10_menusMany_31 ?_
          refine X_isub hg dX10_menusMany_32 ?_
          refine X_iload_n hg 2 rfl dX10_menusMany_33 ?_
          refine X_iload_n hg 3 rfl dX10_menusMany_34 ?_
          refine X_as ?_
          refine X_cVI0 hg mf_X10_isSamePath m_1323 m_83 m_1321 cf_10 (fun _ e => gd_isO e) (fun y e => c_X10_isSamePath g.1 l0 (l2 - (nI 1)) l2 l3 h y e) (As := [.int (l2 - (nI 1)), .int l2, .int l3]) rfl (Nat.le_of_ble_eq_true rfl) rfl (Nat.le_of_ble_eq_true rfl) (Nat.le_of_ble_eq_true rfl) (Nat.le_of_ble_eq_true rfl) (Nat.le_of_ble_eq_true rfl) dX10_menusMany_35 (fun x5 _ => ?_)
          refine X_ib ?_
          refine X_if_ne hg (tgt := 45) dX10_menusMany_38 rfl (fun c6 => ?_) (fun c6 => ?_)
          · refine X_iconst hg ic_i_1 dX10_menusMany_41 ?_
            refine X_goto hg (tgt := 46) dX10_menusMany_42 rfl ?_
            refine X_lv [0, 2, 3] rfl ?_
            exact hk4 (nI 1)
          · refine X_iconst hg ic_i_0 dX10_menusMany_45 ?_
            refine X_lv [0, 2, 3] rfl ?_
            exact hk4 (nI 0)
      · refine X_iadd hg dX10_menusMany_46 ?_
        refine X_istore_n hg rfl (Nat.le_of_ble_eq_true rfl) (lv' := [(1, .int (l1 + v4)), (0, .ref (nB g.1 + l0)), (2, .int l2), (3, .int l3)]) rfl dX10_menusMany_47 ?_
        refine X_iinc hg 3 rfl (v := (l3 + (nI 1))) (icc ic_i_1) (Nat.le_of_ble_eq_true rfl) (lv' := [(3, .int (l3 + (nI 1))), (1, .int (l1 + v4)), (0, .ref (nB g.1 + l0)), (2, .int l2)]) rfl dX10_menusMany_48 ?_
        refine X_goto hg (tgt := 14) dX10_menusMany_51 rfl ?_
        refine X_lv [2, 1, 3, 0] rfl ?_
        exact ih _ _
set_option maxRecDepth 10000 in
theorem l_X10_menusMany_4 {g : XC} {x0 : Int32} (hg : XG g RX10 cX10_menusMany 4 1 25 0 0) (l0 : Nat) (h : Hp) (hr : XR g (some .int) "menusMany" (some (.int x0)) h 0 0) (K : Int32 → Option (Int32)) (hK0 : ∀ (l1 : Int32), Xo g x0 4 0 0 60 [(1, .int l1)] [] h (K l1)) : ∀ (n : Nat) (l1 : Int32) (l2 : Int32), Xo g x0 4 0 0 4 [(0, .ref (nB g.1 + l0)), (1, .int l1), (2, .int l2)] [] h (f_X10_menusMany_L4 l0 h K n l1 l2) := by
  intro n
  induction n with
  | zero =>
    intro l1 l2
    exact X_none
  | succ n ih =>
    intro l1 l2
    unfold f_X10_menusMany_L4
    refine X_iload_n hg 2 rfl dX10_menusMany_4 ?_
    refine X_aload_n hg 0 rfl dX10_menusMany_5 ?_
    refine X_getI hg (j := 2) cf_10 (Nat.le_of_ble_eq_true rfl) (Or.inl rfl) m_902 dX10_menusMany_6 (fun x1 _ => ?_)
    refine X_icmp_ge hg (tgt := 60) dX10_menusMany_9 rfl (fun c10 => ?_) (fun c10 => ?_)
    · refine X_lv [1] rfl ?_
      exact hK0 _
    · refine X_iconst hg ic_i_0 dX10_menusMany_12 ?_
      refine X_istore_n hg rfl (Nat.le_of_ble_eq_true rfl) (lv' := [(3, .int (nI 0)), (0, .ref (nB g.1 + l0)), (1, .int l1), (2, .int l2)]) rfl dX10_menusMany_13 ?_
      refine X_lv [1, 2, 3, 0] rfl ?_
      refine l_X10_menusMany_14 hg _ _ _ hr _ (fun y9 => ?_) _ _ _
      refine X_iinc hg 2 rfl (v := (l2 + (nI 1))) (icc ic_i_1) (Nat.le_of_ble_eq_true rfl) (lv' := [(2, .int (l2 + (nI 1))), (0, .ref (nB g.1 + l0)), (1, .int y9)]) rfl dX10_menusMany_54 ?_
      refine X_goto hg (tgt := 4) dX10_menusMany_57 rfl ?_
      refine X_lv [1, 2, 0] rfl ?_
      exact ih _ _
set_option maxRecDepth 10000 in
theorem c_X10_menusMany (en : EN) (a0 : Nat) (h : Hp) (x0 : Int32) (e : f_X10_menusMany a0 h = some x0) : Ct en yX10_menusMany cX10_menusMany 4 (some .int) 1 25 0 0 [.ref (nB en + a0)] h (some (.int x0)) h := by
  refine Ct.of (by decide) rfl (Nat.le_of_ble_eq_true rfl) e (fun g hen hg hr => ?_)
  subst hen
  unfold f_X10_menusMany
  refine X_gd ?_
  refine X_iconst hg ic_i_0 dX10_menusMany_0 ?_
  refine X_istore_n hg rfl (Nat.le_of_ble_eq_true rfl) (lv' := [(1, .int (nI 0)), (0, .ref (nB g.1 + a0))]) rfl dX10_menusMany_1 ?_
  refine X_iconst hg ic_i_0 dX10_menusMany_2 ?_
  refine X_istore_n hg rfl (Nat.le_of_ble_eq_true rfl) (lv' := [(2, .int (nI 0)), (1, .int (nI 0)), (0, .ref (nB g.1 + a0))]) rfl dX10_menusMany_3 ?_
  refine X_lv [2, 1, 0] rfl ?_
  refine l_X10_menusMany_4 hg _ _ hr _ (fun y11 => ?_) _ _ _
  refine X_iload_n hg 0 rfl dX10_menusMany_60 ?_
  exact X_iret hg hr (Nat.le_of_ble_eq_true rfl) (Nat.le_of_ble_eq_true rfl) dX10_menusMany_61
set_option maxRecDepth 10000 in
theorem l_X10_wholeParts_4 {g : XC} {x0 : Int32} (hg : XG g RX10 cX10_wholeParts 3 0 0 0 0) (l0 : Nat) (h : Hp) (hr : XR g (some .int) "wholeParts" (some (.int x0)) h 0 0) (K : Int32 → Option (Int32)) (hK0 : ∀ (l1 : Int32), Xo g x0 3 0 0 54 [(1, .int l1)] [] h (K l1)) : ∀ (n : Nat) (l1 : Int32) (l2 : Int32), Xo g x0 3 0 0 4 [(0, .ref (nB g.1 + l0)), (1, .int l1), (2, .int l2)] [] h (f_X10_wholeParts_L4 l0 h K n l1 l2) := by
  intro n
  induction n with
  | zero =>
    intro l1 l2
    exact X_none
  | succ n ih =>
    intro l1 l2
    unfold f_X10_wholeParts_L4
    refine X_iload_n hg 2 rfl dX10_wholeParts_4 ?_
    refine X_aload_n hg 0 rfl dX10_wholeParts_5 ?_
    refine X_getI hg (j := 2) cf_10 (Nat.le_of_ble_eq_true rfl) (Or.inl rfl) m_902 dX10_wholeParts_6 (fun x1 _ => ?_)
    refine X_icmp_ge hg (tgt := 54) dX10_wholeParts_9 rfl (fun c11 => ?_) (fun c11 => ?_)
    · refine X_lv [1] rfl ?_
      exact hK0 _
    · refine X_aload_n hg 0 rfl dX10_wholeParts_12 ?_
      refine X_getR hg (j := 13) cf_10 (Nat.le_of_ble_eq_true rfl) (Or.inr ⟨_, rfl⟩) m_913 dX10_wholeParts_13 (fun x2 _ => ?_)
      refine X_iload_n hg 2 rfl dX10_wholeParts_16 ?_
      refine X_ald hg dX10_wholeParts_17 (fun x3 _ => ?_)
      refine X_reg (fun (v4 : Int32) o => Xo g x0 3 0 0 47 [(0, .ref (nB g.1 + l0)), (2, .int l2)] [.int v4] h o) (fun kv4 hk4 => ?_) (fun v4 => ?_)
      · refine X_ib ?_
        refine X_if_le hg (tgt := 46) dX10_wholeParts_18 rfl (fun c10 => ?_) (fun c10 => ?_)
        · refine X_iload_n hg 1 rfl dX10_wholeParts_46 ?_
          refine X_lv [0, 2] rfl ?_
          exact hk4 l1
        · refine X_aload_n hg 0 rfl dX10_wholeParts_21 ?_
          refine X_as ?_
          refine X_getR hg (j := 14) cf_10 (Nat.le_of_ble_eq_true rfl) (Or.inr ⟨_, rfl⟩) m_914 dX10_wholeParts_22 (fun x5 _ => ?_)
          refine X_bipush hg ic_b_14 dX10_wholeParts_25 ?_
          refine X_iload_n hg 2 rfl dX10_wholeParts_27 ?_
          refine X_imul hg dX10_wholeParts_28 ?_
          refine X_as ?_
          refine X_ald hg dX10_wholeParts_29 (fun x6 _ => ?_)
          refine X_iload_n hg 1 rfl dX10_wholeParts_30 ?_
          refine X_ib ?_
          refine X_icmp_le hg (tgt := 46) dX10_wholeParts_31 rfl (fun c9 => ?_) (fun c9 => ?_)
          · refine X_iload_n hg 1 rfl dX10_wholeParts_46 ?_
            refine X_lv [0, 2] rfl ?_
            exact hk4 l1
          · refine X_aload_n hg 0 rfl dX10_wholeParts_34 ?_
            refine X_as ?_
            refine X_getR hg (j := 14) cf_10 (Nat.le_of_ble_eq_true rfl) (Or.inr ⟨_, rfl⟩) m_914 dX10_wholeParts_35 (fun x7 _ => ?_)
            refine X_bipush hg ic_b_14 dX10_wholeParts_38 ?_
            refine X_iload_n hg 2 rfl dX10_wholeParts_40 ?_
            refine X_imul hg dX10_wholeParts_41 ?_
            refine X_as ?_
            refine X_ald hg dX10_wholeParts_42 (fun x8 _ => ?_)
            refine X_goto hg (tgt := 47) dX10_wholeParts_43 rfl ?_
            refine X_lv [0, 2] rfl ?_
            exact hk4 x8
      · refine X_istore_n hg rfl (Nat.le_of_ble_eq_true rfl) (lv' := [(1, .int v4), (0, .ref (nB g.1 + l0)), (2, .int l2)]) rfl dX10_wholeParts_47 ?_
        refine X_iinc hg 2 rfl (v := (l2 + (nI 1))) (icc ic_i_1) (Nat.le_of_ble_eq_true rfl) (lv' := [(2, .int (l2 + (nI 1))), (1, .int v4), (0, .ref (nB g.1 + l0))]) rfl dX10_wholeParts_48 ?_
        refine X_goto hg (tgt := 4) dX10_wholeParts_51 rfl ?_
        refine X_lv [2, 1, 0] rfl ?_
        exact ih _ _
set_option maxRecDepth 10000 in
theorem c_X10_wholeParts (en : EN) (a0 : Nat) (h : Hp) (x0 : Int32) (e : f_X10_wholeParts a0 h = some x0) : Ct en yX10_wholeParts cX10_wholeParts 3 (some .int) 0 0 0 0 [.ref (nB en + a0)] h (some (.int x0)) h := by
  refine Ct.of (by decide) rfl (Nat.le_of_ble_eq_true rfl) e (fun g hen hg hr => ?_)
  subst hen
  unfold f_X10_wholeParts
  refine X_gd ?_
  refine X_iconst hg ic_i_0 dX10_wholeParts_0 ?_
  refine X_istore_n hg rfl (Nat.le_of_ble_eq_true rfl) (lv' := [(1, .int (nI 0)), (0, .ref (nB g.1 + a0))]) rfl dX10_wholeParts_1 ?_
  refine X_iconst hg ic_i_0 dX10_wholeParts_2 ?_
  refine X_istore_n hg rfl (Nat.le_of_ble_eq_true rfl) (lv' := [(2, .int (nI 0)), (1, .int (nI 0)), (0, .ref (nB g.1 + a0))]) rfl dX10_wholeParts_3 ?_
  refine X_lv [2, 1, 0] rfl ?_
  refine l_X10_wholeParts_4 hg _ _ hr _ (fun y12 => ?_) _ _ _
  refine X_iload_n hg 0 rfl dX10_wholeParts_54 ?_
  exact X_iret hg hr (Nat.le_of_ble_eq_true rfl) (Nat.le_of_ble_eq_true rfl) dX10_wholeParts_55
set_option maxRecDepth 10000 in
theorem c_X10_menuNow (en : EN) (a0 : Nat) (a1 : Int32) (h : Hp) (x0 : Int32 × Hp) (e : f_X10_menuNow a0 a1 h = some x0) : Ct en yX10_menuNow cX10_menuNow 2 (some .int) 5 119 0 0 [.ref (nB en + a0), .int a1] h (some (.int x0.1)) x0.2 := by
  refine Ct.of (by decide) rfl (Nat.le_of_ble_eq_true rfl) e (fun g hen hg hr => ?_)
  subst hen
  unfold f_X10_menuNow
  refine X_gd ?_
  refine X_iload_n hg 1 rfl dX10_menuNow_0 ?_
  refine X_tsw hg (v := (nI 0)) (tgt := 40) dX10_menuNow_1 (by decide) (by decide) rfl rfl (fun c2 => ?_) (fun c2 => ?_)
  · refine X_aload_n hg 0 rfl dX10_menuNow_40 ?_
    refine X_getI hg (j := 12) cf_10 (Nat.le_of_ble_eq_true rfl) (Or.inl rfl) m_912 dX10_menuNow_41 (fun x1 _ => ?_)
    exact X_iretW hg hr (Nat.le_of_ble_eq_true rfl) (Nat.le_of_ble_eq_true rfl) dX10_menuNow_44
  · skip
    refine X_tsw hg (v := (nI 1)) (tgt := 45) dX10_menuNow_1 (by decide) (by decide) rfl rfl (fun c4 => ?_) (fun c4 => ?_)
    · refine X_aload_n hg 0 rfl dX10_menuNow_45 ?_
      refine X_cVI0 hg mf_X10_costNow m_1279 m_76 m_1277 cf_10 (fun _ e => gd_isO e) (fun y e => c_X10_costNow g.1 a0 h y e) (As := []) rfl (Nat.le_of_ble_eq_true rfl) rfl (Nat.le_of_ble_eq_true rfl) (Nat.le_of_ble_eq_true rfl) (Nat.le_of_ble_eq_true rfl) (Nat.le_of_ble_eq_true rfl) dX10_menuNow_46 (fun x3 _ => ?_)
      exact X_iretW hg hr (Nat.le_of_ble_eq_true rfl) (Nat.le_of_ble_eq_true rfl) dX10_menuNow_49
    · skip
      refine X_tsw hg (v := (nI 2)) (tgt := 50) dX10_menuNow_1 (by decide) (by decide) rfl rfl (fun c6 => ?_) (fun c6 => ?_)
      · refine X_aload_n hg 0 rfl dX10_menuNow_50 ?_
        refine X_cVIW0 hg mf_X10_leastCost m_1287 m_77 m_1285 cf_10 (fun _ e => gd_isO e) (fun y e => c_X10_leastCost g.1 a0 h y e) (As := []) rfl (Nat.le_of_ble_eq_true rfl) rfl (Nat.le_of_ble_eq_true rfl) (Nat.le_of_ble_eq_true rfl) (Nat.le_of_ble_eq_true rfl) (Nat.le_of_ble_eq_true rfl) dX10_menuNow_51 (fun p5 _ => ?_)
        exact X_iretW hg hr (Nat.le_of_ble_eq_true rfl) (Nat.le_of_ble_eq_true rfl) dX10_menuNow_54
      · skip
        refine X_tsw hg (v := (nI 3)) (tgt := 55) dX10_menuNow_1 (by decide) (by decide) rfl rfl (fun c8 => ?_) (fun c8 => ?_)
        · refine X_aload_n hg 0 rfl dX10_menuNow_55 ?_
          refine X_cVI0 hg mf_X10_longest m_1315 m_81 m_1313 cf_10 (fun _ e => gd_isO e) (fun y e => c_X10_longest g.1 a0 h y e) (As := []) rfl (Nat.le_of_ble_eq_true rfl) rfl (Nat.le_of_ble_eq_true rfl) (Nat.le_of_ble_eq_true rfl) (Nat.le_of_ble_eq_true rfl) (Nat.le_of_ble_eq_true rfl) dX10_menuNow_56 (fun x7 _ => ?_)
          exact X_iretW hg hr (Nat.le_of_ble_eq_true rfl) (Nat.le_of_ble_eq_true rfl) dX10_menuNow_59
        · skip
          refine X_tsw hg (v := (nI 4)) (tgt := 60) dX10_menuNow_1 (by decide) (by decide) rfl rfl (fun c10 => ?_) (fun c10 => ?_)
          · refine X_aload_n hg 0 rfl dX10_menuNow_60 ?_
            refine X_cVI0 hg mf_X10_menusMany m_1319 m_82 m_1317 cf_10 (fun _ e => gd_isO e) (fun y e => c_X10_menusMany g.1 a0 h y e) (As := []) rfl (Nat.le_of_ble_eq_true rfl) rfl (Nat.le_of_ble_eq_true rfl) (Nat.le_of_ble_eq_true rfl) (Nat.le_of_ble_eq_true rfl) (Nat.le_of_ble_eq_true rfl) dX10_menuNow_61 (fun x9 _ => ?_)
            exact X_iretW hg hr (Nat.le_of_ble_eq_true rfl) (Nat.le_of_ble_eq_true rfl) dX10_menuNow_64
          · skip
            refine X_tsw hg (v := (nI 5)) (tgt := 65) dX10_menuNow_1 (by decide) (by decide) rfl rfl (fun c12 => ?_) (fun c12 => ?_)
            · refine X_aload_n hg 0 rfl dX10_menuNow_65 ?_
              refine X_cVI0 hg mf_X10_wholeParts m_1327 m_84 m_1325 cf_10 (fun _ e => gd_isO e) (fun y e => c_X10_wholeParts g.1 a0 h y e) (As := []) rfl (Nat.le_of_ble_eq_true rfl) rfl (Nat.le_of_ble_eq_true rfl) (Nat.le_of_ble_eq_true rfl) (Nat.le_of_ble_eq_true rfl) (Nat.le_of_ble_eq_true rfl) dX10_menuNow_66 (fun x11 _ => ?_)
              exact X_iretW hg hr (Nat.le_of_ble_eq_true rfl) (Nat.le_of_ble_eq_true rfl) dX10_menuNow_69
            · skip
              refine X_tsd hg (tgt := 70) dX10_menuNow_1 (by have q0 := lv_neT c2 (a := 0) rfl; have q1 := lv_neT c4 (a := 1) rfl; have q2 := lv_neT c6 (a := 2) rfl; have q3 := lv_neT c8 (a := 3) rfl; have q4 := lv_neT c10 (a := 4) rfl; have q5 := lv_neT c12 (a := 5) rfl; omega) rfl ?_
              refine X_aload_n hg 0 rfl dX10_menuNow_70 ?_
              refine X_getI hg (j := 15) cf_10 (Nat.le_of_ble_eq_true rfl) (Or.inl rfl) m_915 dX10_menuNow_71 (fun x13 _ => ?_)
              exact X_iretW hg hr (Nat.le_of_ble_eq_true rfl) (Nat.le_of_ble_eq_true rfl) dX10_menuNow_74
set_option maxRecDepth 10000 in
theorem c_X10_menu (en : EN) (a0 : Nat) (a1 : Int32) (h : Hp) (x0 : Int32 × Hp) (e : f_X10_menu a0 a1 h = some x0) : Ct en yX10_menu cX10_menu 2 (some .int) 6 140 0 0 [.ref (nB en + a0), .int a1] h (some (.int x0.1)) x0.2 := by
  refine Ct.of (by decide) rfl (Nat.le_of_ble_eq_true rfl) e (fun g hen hg hr => ?_)
  subst hen
  unfold f_X10_menu
  refine X_gd ?_
  refine X_aload_n hg 0 rfl dX10_menu_0 ?_
  refine X_getI hg (j := 12) cf_10 (Nat.le_of_ble_eq_true rfl) (Or.inl rfl) m_912 dX10_menu_1 (fun x1 _ => ?_)
  refine X_if_ne hg (tgt := 10) dX10_menu_4 rfl (fun c6 => ?_) (fun c6 => ?_)
  · refine X_bipush hg ic_b_m103 dX10_menu_7 ?_
    exact X_iretW hg hr (Nat.le_of_ble_eq_true rfl) (Nat.le_of_ble_eq_true rfl) dX10_menu_9
  · refine X_iload_n hg 1 rfl dX10_menu_10 ?_
    refine X_iconst hg ic_i_0 dX10_menu_11 ?_
    refine X_bipush hg ic_b_6 dX10_menu_12 ?_
    refine X_cSI0 hg mf_X10_within m_1005 m_1004 (fun y e => c_X10_within g.1 a1 (nI 0) (nI 6) h y e) (As := [.int a1, .int (nI 0), .int (nI 6)]) rfl (Nat.le_of_ble_eq_true rfl) rfl (Nat.le_of_ble_eq_true rfl) (Nat.le_of_ble_eq_true rfl) (Nat.le_of_ble_eq_true rfl) (Nat.le_of_ble_eq_true rfl) dX10_menu_14 (fun x2 _ => ?_)
    refine X_reg (fun (v3 : Int32 × Hp) o => Xo g x0 2 0 0 30 [] [.int v3.1] v3.2 o) (fun kv3 hk3 => ?_) (fun v3 => ?_)
    · refine X_ib ?_
      refine X_if_eq hg (tgt := 28) dX10_menu_17 rfl (fun c5 => ?_) (fun c5 => ?_)
      · refine X_bipush hg ic_b_m102 dX10_menu_28 ?_
        refine X_lv [] rfl ?_
        exact hk3 (m102, h)
      · refine X_aload_n hg 0 rfl dX10_menu_20 ?_
        refine X_iload_n hg 1 rfl dX10_menu_21 ?_
        refine X_as ?_
        refine X_cVIW0 hg mf_X10_menuNow m_1311 m_80 m_1309 cf_10 (fun _ e => gd_isO e) (fun y e => c_X10_menuNow g.1 a0 a1 h y e) (As := [.int a1]) rfl (Nat.le_of_ble_eq_true rfl) rfl (Nat.le_of_ble_eq_true rfl) (Nat.le_of_ble_eq_true rfl) (Nat.le_of_ble_eq_true rfl) (Nat.le_of_ble_eq_true rfl) dX10_menu_22 (fun p4 _ => ?_)
        refine X_goto hg (tgt := 30) dX10_menu_25 rfl ?_
        refine X_lv [] rfl ?_
        exact hk3 (p4.1, p4.2)
    · exact X_iretW hg hr (Nat.le_of_ble_eq_true rfl) (Nat.le_of_ble_eq_true rfl) dX10_menu_30
set_option maxRecDepth 10000 in
theorem c_X10_howMany (en : EN) (a0 : Nat) (a1 : Int32) (h : Hp) (x0 : Int32) (e : f_X10_howMany a0 a1 h = some x0) : Ct en yX10_howMany cX10_howMany 2 (some .int) 0 0 0 0 [.ref (nB en + a0), .int a1] h (some (.int x0)) h := by
  refine Ct.of (by decide) rfl (Nat.le_of_ble_eq_true rfl) e (fun g hen hg hr => ?_)
  subst hen
  unfold f_X10_howMany
  refine X_gd ?_
  refine X_iload_n hg 1 rfl dX10_howMany_0 ?_
  refine X_tsw hg (v := (nI 0)) (tgt := 40) dX10_howMany_1 (by decide) (by decide) rfl rfl (fun c2 => ?_) (fun c2 => ?_)
  · refine X_aload_n hg 0 rfl dX10_howMany_40 ?_
    refine X_getI hg (j := 2) cf_10 (Nat.le_of_ble_eq_true rfl) (Or.inl rfl) m_902 dX10_howMany_41 (fun x1 _ => ?_)
    exact X_iret hg hr (Nat.le_of_ble_eq_true rfl) (Nat.le_of_ble_eq_true rfl) dX10_howMany_44
  · skip
    refine X_tsw hg (v := (nI 1)) (tgt := 45) dX10_howMany_1 (by decide) (by decide) rfl rfl (fun c4 => ?_) (fun c4 => ?_)
    · refine X_aload_n hg 0 rfl dX10_howMany_45 ?_
      refine X_getI hg (j := 0) cf_10 (Nat.le_of_ble_eq_true rfl) (Or.inl rfl) m_900 dX10_howMany_46 (fun x3 _ => ?_)
      exact X_iret hg hr (Nat.le_of_ble_eq_true rfl) (Nat.le_of_ble_eq_true rfl) dX10_howMany_49
    · skip
      refine X_tsw hg (v := (nI 2)) (tgt := 50) dX10_howMany_1 (by decide) (by decide) rfl rfl (fun c6 => ?_) (fun c6 => ?_)
      · refine X_aload_n hg 0 rfl dX10_howMany_50 ?_
        refine X_getI hg (j := 10) cf_10 (Nat.le_of_ble_eq_true rfl) (Or.inl rfl) m_910 dX10_howMany_51 (fun x5 _ => ?_)
        exact X_iret hg hr (Nat.le_of_ble_eq_true rfl) (Nat.le_of_ble_eq_true rfl) dX10_howMany_54
      · skip
        refine X_tsw hg (v := (nI 3)) (tgt := 55) dX10_howMany_1 (by decide) (by decide) rfl rfl (fun c8 => ?_) (fun c8 => ?_)
        · refine X_aload_n hg 0 rfl dX10_howMany_55 ?_
          refine X_getI hg (j := 6) cf_10 (Nat.le_of_ble_eq_true rfl) (Or.inl rfl) m_906 dX10_howMany_56 (fun x7 _ => ?_)
          exact X_iret hg hr (Nat.le_of_ble_eq_true rfl) (Nat.le_of_ble_eq_true rfl) dX10_howMany_59
        · skip
          refine X_tsw hg (v := (nI 4)) (tgt := 60) dX10_howMany_1 (by decide) (by decide) rfl rfl (fun c10 => ?_) (fun c10 => ?_)
          · refine X_aload_n hg 0 rfl dX10_howMany_60 ?_
            refine X_getI hg (j := 7) cf_10 (Nat.le_of_ble_eq_true rfl) (Or.inl rfl) m_907 dX10_howMany_61 (fun x9 _ => ?_)
            exact X_iret hg hr (Nat.le_of_ble_eq_true rfl) (Nat.le_of_ble_eq_true rfl) dX10_howMany_64
          · skip
            refine X_tsw hg (v := (nI 5)) (tgt := 65) dX10_howMany_1 (by decide) (by decide) rfl rfl (fun c12 => ?_) (fun c12 => ?_)
            · refine X_aload_n hg 0 rfl dX10_howMany_65 ?_
              refine X_getI hg (j := 8) cf_10 (Nat.le_of_ble_eq_true rfl) (Or.inl rfl) m_908 dX10_howMany_66 (fun x11 _ => ?_)
              exact X_iret hg hr (Nat.le_of_ble_eq_true rfl) (Nat.le_of_ble_eq_true rfl) dX10_howMany_69
            · skip
              refine X_tsd hg (tgt := 70) dX10_howMany_1 (by have q0 := lv_neT c2 (a := 0) rfl; have q1 := lv_neT c4 (a := 1) rfl; have q2 := lv_neT c6 (a := 2) rfl; have q3 := lv_neT c8 (a := 3) rfl; have q4 := lv_neT c10 (a := 4) rfl; have q5 := lv_neT c12 (a := 5) rfl; omega) rfl ?_
              refine X_bipush hg ic_b_m102 dX10_howMany_70 ?_
              exact X_iret hg hr (Nat.le_of_ble_eq_true rfl) (Nat.le_of_ble_eq_true rfl) dX10_howMany_72
set_option maxRecDepth 10000 in
theorem c_X10_count (en : EN) (a0 : Nat) (a1 : Int32) (h : Hp) (x0 : Int32) (e : f_X10_count a0 a1 h = some x0) : Ct en yX10_count cX10_count 2 (some .int) 1 21 0 0 [.ref (nB en + a0), .int a1] h (some (.int x0)) h := by
  refine Ct.of (by decide) rfl (Nat.le_of_ble_eq_true rfl) e (fun g hen hg hr => ?_)
  subst hen
  unfold f_X10_count
  refine X_gd ?_
  refine X_aload_n hg 0 rfl dX10_count_0 ?_
  refine X_iload_n hg 1 rfl dX10_count_1 ?_
  refine X_cVI0 hg mf_X10_howMany m_1335 m_85 m_1333 cf_10 (fun _ e => gd_isO e) (fun y e => c_X10_howMany g.1 a0 a1 h y e) (As := [.int a1]) rfl (Nat.le_of_ble_eq_true rfl) rfl (Nat.le_of_ble_eq_true rfl) (Nat.le_of_ble_eq_true rfl) (Nat.le_of_ble_eq_true rfl) (Nat.le_of_ble_eq_true rfl) dX10_count_2 (fun x1 _ => ?_)
  exact X_iret hg hr (Nat.le_of_ble_eq_true rfl) (Nat.le_of_ble_eq_true rfl) dX10_count_5
set_option maxRecDepth 10000 in
theorem c_X10_mix (en : EN) (a0 : Nat) (a1 : Int64) (h : Hp) (x0 : Hp) (e : f_X10_mix a0 a1 h = some x0) : Ct en yX10_mix cX10_mix 3 none 0 0 0 0 [.ref (nB en + a0), .long a1] h none x0 := by
  refine Ct.of (by decide) rfl (Nat.le_of_ble_eq_true rfl) e (fun g hen hg hr => ?_)
  subst hen
  unfold f_X10_mix
  refine X_gd ?_
  refine X_aload_n hg 0 rfl dX10_mix_0 ?_
  refine X_ldc2 hg m_1346 dX10_mix_1 ?_
  refine X_aload_n hg 0 rfl dX10_mix_4 ?_
  refine X_getJ hg (j := 32) cf_10 (Nat.le_of_ble_eq_true rfl) rfl m_932 dX10_mix_5 (fun x1 _ => ?_)
  refine X_lmul hg dX10_mix_8 ?_
  refine X_lload_n hg 1 rfl dX10_mix_9 ?_
  refine X_ladd hg dX10_mix_10 ?_
  refine X_putJ hg (j := 32) cf_10 (Nat.le_of_ble_eq_true rfl) rfl rfl m_932 dX10_mix_11 (fun h2 _ => ?_)
  exact X_vret hg hr (Nat.le_of_ble_eq_true rfl) (Nat.le_of_ble_eq_true rfl) dX10_mix_14
set_option maxRecDepth 10000 in
theorem l_X10_mixName_2 {g : XC} {x0 : Hp} (hg : XG g RX10 cX10_mixName 3 6 143 0 0) (l0 : Nat) (l1 : Int32) (hr : XR g none "mixName" none x0 0 0) (K : Hp → Option (Hp)) (hK0 : ∀ (h : Hp), Xo g x0 3 0 0 34 [(0, .ref (nB g.1 + l0)), (1, .int l1)] [] h (K h)) : ∀ (n : Nat) (l2 : Int32) (h : Hp), Xo g x0 3 0 0 2 [(0, .ref (nB g.1 + l0)), (1, .int l1), (2, .int l2)] [] h (f_X10_mixName_L2 l0 l1 K n l2 h) := by
  intro n
  induction n with
  | zero =>
    intro l2 h
    exact X_none
  | succ n ih =>
    intro l2 h
    unfold f_X10_mixName_L2
    refine X_iload_n hg 2 rfl dX10_mixName_2 ?_
    refine X_aload_n hg 0 rfl dX10_mixName_3 ?_
    refine X_getR hg (j := 3) cf_10 (Nat.le_of_ble_eq_true rfl) (Or.inr ⟨_, rfl⟩) m_903 dX10_mixName_4 (fun x1 _ => ?_)
    refine X_iload_n hg 1 rfl dX10_mixName_7 ?_
    refine X_ald hg dX10_mixName_8 (fun x2 _ => ?_)
    refine X_icmp_ge hg (tgt := 34) dX10_mixName_9 rfl (fun c6 => ?_) (fun c6 => ?_)
    · refine X_lv [0, 1] rfl ?_
      exact hK0  _
    · refine X_aload_n hg 0 rfl dX10_mixName_12 ?_
      refine X_aload_n hg 0 rfl dX10_mixName_13 ?_
      refine X_getR hg (j := 4) cf_10 (Nat.le_of_ble_eq_true rfl) (Or.inr ⟨_, rfl⟩) m_904 dX10_mixName_14 (fun x3 _ => ?_)
      refine X_bipush hg ic_b_8 dX10_mixName_17 ?_
      refine X_iload_n hg 1 rfl dX10_mixName_19 ?_
      refine X_imul hg dX10_mixName_20 ?_
      refine X_iload_n hg 2 rfl dX10_mixName_21 ?_
      refine X_iadd hg dX10_mixName_22 ?_
      refine X_ald hg dX10_mixName_23 (fun x4 _ => ?_)
      refine X_i2l hg dX10_mixName_24 ?_
      refine X_cVV0 hg mf_X10_mix m_1344 m_86 m_1342 cf_10 (fun _ e => gd_isO e) (fun y e => c_X10_mix g.1 l0 (Int32.toInt64 x4) h y e) (As := [.long (Int32.toInt64 x4)]) rfl (Nat.le_of_ble_eq_true rfl) rfl (Nat.le_of_ble_eq_true rfl) (Nat.le_of_ble_eq_true rfl) (Nat.le_of_ble_eq_true rfl) (Nat.le_of_ble_eq_true rfl) dX10_mixName_25 (fun h5 _ => ?_)
      refine X_iinc hg 2 rfl (v := (l2 + (nI 1))) (icc ic_i_1) (Nat.le_of_ble_eq_true rfl) (lv' := [(2, .int (l2 + (nI 1))), (0, .ref (nB g.1 + l0)), (1, .int l1)]) rfl dX10_mixName_28 ?_
      refine X_goto hg (tgt := 2) dX10_mixName_31 rfl ?_
      refine X_lv [1, 2, 0] rfl ?_
      exact ih _ _
set_option maxRecDepth 10000 in
theorem l_X10_mixName_36 {g : XC} {x0 : Hp} (hg : XG g RX10 cX10_mixName 3 6 143 0 0) (l0 : Nat) (l1 : Int32) (hr : XR g none "mixName" none x0 0 0) (K : Hp → Option (Hp)) (hK0 : ∀ (h : Hp), Xo g x0 3 0 0 59 [(0, .ref (nB g.1 + l0)), (1, .int l1)] [] h (K h)) : ∀ (n : Nat) (l2 : Int32) (h : Hp), Xo g x0 3 0 0 36 [(0, .ref (nB g.1 + l0)), (1, .int l1), (2, .int l2)] [] h (f_X10_mixName_L36 l0 l1 K n l2 h) := by
  intro n
  induction n with
  | zero =>
    intro l2 h
    exact X_none
  | succ n ih =>
    intro l2 h
    unfold f_X10_mixName_L36
    refine X_iload_n hg 2 rfl dX10_mixName_36 ?_
    refine X_bipush hg ic_b_8 dX10_mixName_37 ?_
    refine X_icmp_ge hg (tgt := 59) dX10_mixName_39 rfl (fun c10 => ?_) (fun c10 => ?_)
    · refine X_lv [0, 1] rfl ?_
      exact hK0  _
    · refine X_aload_n hg 0 rfl dX10_mixName_42 ?_
      refine X_aload_n hg 0 rfl dX10_mixName_43 ?_
      refine X_iload_n hg 1 rfl dX10_mixName_44 ?_
      refine X_iload_n hg 2 rfl dX10_mixName_45 ?_
      refine X_cVIW0 hg mf_X10_nameNow m_1085 m_40 m_1083 cf_10 (fun _ e => gd_isO e) (fun y e => c_X10_nameNow g.1 l0 l1 l2 h y e) (As := [.int l1, .int l2]) rfl (Nat.le_of_ble_eq_true rfl) rfl (Nat.le_of_ble_eq_true rfl) (Nat.le_of_ble_eq_true rfl) (Nat.le_of_ble_eq_true rfl) (Nat.le_of_ble_eq_true rfl) dX10_mixName_46 (fun p8 _ => ?_)
      refine X_i2l hg dX10_mixName_49 ?_
      refine X_cVV0 hg mf_X10_mix m_1344 m_86 m_1342 cf_10 (fun _ e => gd_isO e) (fun y e => c_X10_mix g.1 l0 (Int32.toInt64 p8.1) p8.2 y e) (As := [.long (Int32.toInt64 p8.1)]) rfl (Nat.le_of_ble_eq_true rfl) rfl (Nat.le_of_ble_eq_true rfl) (Nat.le_of_ble_eq_true rfl) (Nat.le_of_ble_eq_true rfl) (Nat.le_of_ble_eq_true rfl) dX10_mixName_50 (fun h9 _ => ?_)
      refine X_iinc hg 2 rfl (v := (l2 + (nI 1))) (icc ic_i_1) (Nat.le_of_ble_eq_true rfl) (lv' := [(2, .int (l2 + (nI 1))), (0, .ref (nB g.1 + l0)), (1, .int l1)]) rfl dX10_mixName_53 ?_
      refine X_goto hg (tgt := 36) dX10_mixName_56 rfl ?_
      refine X_lv [1, 2, 0] rfl ?_
      exact ih _ _
set_option maxRecDepth 10000 in
theorem l_X10_mixName_61 {g : XC} {x0 : Hp} (hg : XG g RX10 cX10_mixName 3 6 143 0 0) (l0 : Nat) (l1 : Int32) (hr : XR g none "mixName" none x0 0 0) (K : Hp → Option (Hp)) (hK0 : ∀ (h : Hp), Xo g x0 3 0 0 88 [] [] h (K h)) : ∀ (n : Nat) (l2 : Int32) (h : Hp), Xo g x0 3 0 0 61 [(0, .ref (nB g.1 + l0)), (1, .int l1), (2, .int l2)] [] h (f_X10_mixName_L61 l0 l1 K n l2 h) := by
  intro n
  induction n with
  | zero =>
    intro l2 h
    exact X_none
  | succ n ih =>
    intro l2 h
    unfold f_X10_mixName_L61
    refine X_iload_n hg 2 rfl dX10_mixName_61 ?_
    refine X_aload_n hg 0 rfl dX10_mixName_62 ?_
    refine X_getR hg (j := 3) cf_10 (Nat.le_of_ble_eq_true rfl) (Or.inr ⟨_, rfl⟩) m_903 dX10_mixName_63 (fun x12 _ => ?_)
    refine X_iload_n hg 1 rfl dX10_mixName_66 ?_
    refine X_ald hg dX10_mixName_67 (fun x13 _ => ?_)
    refine X_icmp_ge hg (tgt := 88) dX10_mixName_68 rfl (fun c16 => ?_) (fun c16 => ?_)
    · refine X_lv [] rfl ?_
      exact hK0  _
    · refine X_aload_n hg 0 rfl dX10_mixName_71 ?_
      refine X_aload_n hg 0 rfl dX10_mixName_72 ?_
      refine X_iload_n hg 1 rfl dX10_mixName_73 ?_
      refine X_iload_n hg 2 rfl dX10_mixName_74 ?_
      refine X_cVI0 hg mf_X10_codeAt m_1101 m_44 m_1099 cf_10 (fun _ e => gd_isO e) (fun y e => c_X10_codeAt g.1 l0 l1 l2 h y e) (As := [.int l1, .int l2]) rfl (Nat.le_of_ble_eq_true rfl) rfl (Nat.le_of_ble_eq_true rfl) (Nat.le_of_ble_eq_true rfl) (Nat.le_of_ble_eq_true rfl) (Nat.le_of_ble_eq_true rfl) dX10_mixName_75 (fun x14 _ => ?_)
      refine X_i2l hg dX10_mixName_78 ?_
      refine X_cVV0 hg mf_X10_mix m_1344 m_86 m_1342 cf_10 (fun _ e => gd_isO e) (fun y e => c_X10_mix g.1 l0 (Int32.toInt64 x14) h y e) (As := [.long (Int32.toInt64 x14)]) rfl (Nat.le_of_ble_eq_true rfl) rfl (Nat.le_of_ble_eq_true rfl) (Nat.le_of_ble_eq_true rfl) (Nat.le_of_ble_eq_true rfl) (Nat.le_of_ble_eq_true rfl) dX10_mixName_79 (fun h15 _ => ?_)
      refine X_iinc hg 2 rfl (v := (l2 + (nI 1))) (icc ic_i_1) (Nat.le_of_ble_eq_true rfl) (lv' := [(2, .int (l2 + (nI 1))), (0, .ref (nB g.1 + l0)), (1, .int l1)]) rfl dX10_mixName_82 ?_
      refine X_goto hg (tgt := 61) dX10_mixName_85 rfl ?_
      refine X_lv [1, 2, 0] rfl ?_
      exact ih _ _
set_option maxRecDepth 10000 in
theorem c_X10_mixName (en : EN) (a0 : Nat) (a1 : Int32) (h : Hp) (x0 : Hp) (e : f_X10_mixName a0 a1 h = some x0) : Ct en yX10_mixName cX10_mixName 3 none 6 143 0 0 [.ref (nB en + a0), .int a1] h none x0 := by
  refine Ct.of (by decide) rfl (Nat.le_of_ble_eq_true rfl) e (fun g hen hg hr => ?_)
  subst hen
  unfold f_X10_mixName
  refine X_gd ?_
  refine X_iconst hg ic_i_0 dX10_mixName_0 ?_
  refine X_istore_n hg rfl (Nat.le_of_ble_eq_true rfl) (lv' := [(2, .int (nI 0)), (0, .ref (nB g.1 + a0)), (1, .int a1)]) rfl dX10_mixName_1 ?_
  refine X_lv [1, 2, 0] rfl ?_
  refine l_X10_mixName_2 hg _ _ hr _ (fun h7 => ?_) _ _ _
  refine X_iconst hg ic_i_0 dX10_mixName_34 ?_
  refine X_istore_n hg rfl (Nat.le_of_ble_eq_true rfl) (lv' := [(2, .int (nI 0)), (0, .ref (nB g.1 + a0)), (1, .int a1)]) rfl dX10_mixName_35 ?_
  refine X_lv [1, 2, 0] rfl ?_
  refine l_X10_mixName_36 hg _ _ hr _ (fun h11 => ?_) _ _ _
  refine X_iconst hg ic_i_0 dX10_mixName_59 ?_
  refine X_istore_n hg rfl (Nat.le_of_ble_eq_true rfl) (lv' := [(2, .int (nI 0)), (0, .ref (nB g.1 + a0)), (1, .int a1)]) rfl dX10_mixName_60 ?_
  refine X_lv [1, 2, 0] rfl ?_
  refine l_X10_mixName_61 hg _ _ hr _ (fun h17 => ?_) _ _ _
  exact X_vret hg hr (Nat.le_of_ble_eq_true rfl) (Nat.le_of_ble_eq_true rfl) dX10_mixName_88
set_option maxRecDepth 10000 in
theorem l_X10_mixTyped_2 {g : XC} {x0 : Hp} (hg : XG g RX10 cX10_mixTyped 2 4 92 0 0) (l0 : Nat) (hr : XR g none "mixTyped" none x0 0 0) (K : Hp → Option (Hp)) (hK0 : ∀ (h : Hp), Xo g x0 2 0 0 27 [(0, .ref (nB g.1 + l0))] [] h (K h)) : ∀ (n : Nat) (l1 : Int32) (h : Hp), Xo g x0 2 0 0 2 [(0, .ref (nB g.1 + l0)), (1, .int l1)] [] h (f_X10_mixTyped_L2 l0 K n l1 h) := by
  intro n
  induction n with
  | zero =>
    intro l1 h
    exact X_none
  | succ n ih =>
    intro l1 h
    unfold f_X10_mixTyped_L2
    refine X_iload_n hg 1 rfl dX10_mixTyped_2 ?_
    refine X_aload_n hg 0 rfl dX10_mixTyped_3 ?_
    refine X_getI hg (j := 10) cf_10 (Nat.le_of_ble_eq_true rfl) (Or.inl rfl) m_910 dX10_mixTyped_4 (fun x1 _ => ?_)
    refine X_icmp_ge hg (tgt := 27) dX10_mixTyped_7 rfl (fun c5 => ?_) (fun c5 => ?_)
    · refine X_lv [0] rfl ?_
      exact hK0  _
    · refine X_aload_n hg 0 rfl dX10_mixTyped_10 ?_
      refine X_aload_n hg 0 rfl dX10_mixTyped_11 ?_
      refine X_getR hg (j := 11) cf_10 (Nat.le_of_ble_eq_true rfl) (Or.inr ⟨_, rfl⟩) m_911 dX10_mixTyped_12 (fun x2 _ => ?_)
      refine X_iload_n hg 1 rfl dX10_mixTyped_15 ?_
      refine X_ald hg dX10_mixTyped_16 (fun x3 _ => ?_)
      refine X_i2l hg dX10_mixTyped_17 ?_
      refine X_cVV0 hg mf_X10_mix m_1344 m_86 m_1342 cf_10 (fun _ e => gd_isO e) (fun y e => c_X10_mix g.1 l0 (Int32.toInt64 x3) h y e) (As := [.long (Int32.toInt64 x3)]) rfl (Nat.le_of_ble_eq_true rfl) rfl (Nat.le_of_ble_eq_true rfl) (Nat.le_of_ble_eq_true rfl) (Nat.le_of_ble_eq_true rfl) (Nat.le_of_ble_eq_true rfl) dX10_mixTyped_18 (fun h4 _ => ?_)
      refine X_iinc hg 1 rfl (v := (l1 + (nI 1))) (icc ic_i_1) (Nat.le_of_ble_eq_true rfl) (lv' := [(1, .int (l1 + (nI 1))), (0, .ref (nB g.1 + l0))]) rfl dX10_mixTyped_21 ?_
      refine X_goto hg (tgt := 2) dX10_mixTyped_24 rfl ?_
      refine X_lv [1, 0] rfl ?_
      exact ih _ _
set_option maxRecDepth 10000 in
theorem l_X10_mixTyped_29 {g : XC} {x0 : Hp} (hg : XG g RX10 cX10_mixTyped 2 4 92 0 0) (l0 : Nat) (hr : XR g none "mixTyped" none x0 0 0) (K : Hp → Option (Hp)) (hK0 : ∀ (h : Hp), Xo g x0 2 0 0 55 [(0, .ref (nB g.1 + l0))] [] h (K h)) : ∀ (n : Nat) (l1 : Int32) (h : Hp), Xo g x0 2 0 0 29 [(0, .ref (nB g.1 + l0)), (1, .int l1)] [] h (f_X10_mixTyped_L29 l0 K n l1 h) := by
  intro n
  induction n with
  | zero =>
    intro l1 h
    exact X_none
  | succ n ih =>
    intro l1 h
    unfold f_X10_mixTyped_L29
    refine X_aload_n hg 0 rfl dX10_mixTyped_29 ?_
    refine X_iload_n hg 1 rfl dX10_mixTyped_30 ?_
    refine X_cVI0 hg mf_X10_choice m_1221 m_1222 m_1355 cf_10 (fun _ e => gd_isO e) (fun y e => c_X10_choice g.1 l0 l1 h y e) (As := [.int l1]) rfl (Nat.le_of_ble_eq_true rfl) rfl (Nat.le_of_ble_eq_true rfl) (Nat.le_of_ble_eq_true rfl) (Nat.le_of_ble_eq_true rfl) (Nat.le_of_ble_eq_true rfl) dX10_mixTyped_31 (fun x7 _ => ?_)
    refine X_bipush hg ic_b_m101 dX10_mixTyped_34 ?_
    refine X_icmp_eq hg (tgt := 55) dX10_mixTyped_36 rfl (fun c10 => ?_) (fun c10 => ?_)
    · refine X_lv [0] rfl ?_
      exact hK0  _
    · refine X_aload_n hg 0 rfl dX10_mixTyped_39 ?_
      refine X_aload_n hg 0 rfl dX10_mixTyped_40 ?_
      refine X_iload_n hg 1 rfl dX10_mixTyped_41 ?_
      refine X_cVI0 hg mf_X10_choice m_1221 m_1222 m_1355 cf_10 (fun _ e => gd_isO e) (fun y e => c_X10_choice g.1 l0 l1 h y e) (As := [.int l1]) rfl (Nat.le_of_ble_eq_true rfl) rfl (Nat.le_of_ble_eq_true rfl) (Nat.le_of_ble_eq_true rfl) (Nat.le_of_ble_eq_true rfl) (Nat.le_of_ble_eq_true rfl) dX10_mixTyped_42 (fun x8 _ => ?_)
      refine X_i2l hg dX10_mixTyped_45 ?_
      refine X_cVV0 hg mf_X10_mix m_1344 m_86 m_1342 cf_10 (fun _ e => gd_isO e) (fun y e => c_X10_mix g.1 l0 (Int32.toInt64 x8) h y e) (As := [.long (Int32.toInt64 x8)]) rfl (Nat.le_of_ble_eq_true rfl) rfl (Nat.le_of_ble_eq_true rfl) (Nat.le_of_ble_eq_true rfl) (Nat.le_of_ble_eq_true rfl) (Nat.le_of_ble_eq_true rfl) dX10_mixTyped_46 (fun h9 _ => ?_)
      refine X_iinc hg 1 rfl (v := (l1 + (nI 1))) (icc ic_i_1) (Nat.le_of_ble_eq_true rfl) (lv' := [(1, .int (l1 + (nI 1))), (0, .ref (nB g.1 + l0))]) rfl dX10_mixTyped_49 ?_
      refine X_goto hg (tgt := 29) dX10_mixTyped_52 rfl ?_
      refine X_lv [1, 0] rfl ?_
      exact ih _ _
set_option maxRecDepth 10000 in
theorem l_X10_mixTyped_57 {g : XC} {x0 : Hp} (hg : XG g RX10 cX10_mixTyped 2 4 92 0 0) (l0 : Nat) (hr : XR g none "mixTyped" none x0 0 0) (K : Hp → Option (Hp)) (hK0 : ∀ (h : Hp), Xo g x0 2 0 0 78 [(0, .ref (nB g.1 + l0))] [] h (K h)) : ∀ (n : Nat) (l1 : Int32) (h : Hp), Xo g x0 2 0 0 57 [(0, .ref (nB g.1 + l0)), (1, .int l1)] [] h (f_X10_mixTyped_L57 l0 K n l1 h) := by
  intro n
  induction n with
  | zero =>
    intro l1 h
    exact X_none
  | succ n ih =>
    intro l1 h
    unfold f_X10_mixTyped_L57
    refine X_iload_n hg 1 rfl dX10_mixTyped_57 ?_
    refine X_iconst hg ic_i_4 dX10_mixTyped_58 ?_
    refine X_icmp_ge hg (tgt := 78) dX10_mixTyped_59 rfl (fun c14 => ?_) (fun c14 => ?_)
    · refine X_lv [0] rfl ?_
      exact hK0  _
    · refine X_aload_n hg 0 rfl dX10_mixTyped_62 ?_
      refine X_aload_n hg 0 rfl dX10_mixTyped_63 ?_
      refine X_iload_n hg 1 rfl dX10_mixTyped_64 ?_
      refine X_cVIW0 hg mf_X10_spellingNow m_1238 m_68 m_1236 cf_10 (fun _ e => gd_isO e) (fun y e => c_X10_spellingNow g.1 l0 l1 h y e) (As := [.int l1]) rfl (Nat.le_of_ble_eq_true rfl) rfl (Nat.le_of_ble_eq_true rfl) (Nat.le_of_ble_eq_true rfl) (Nat.le_of_ble_eq_true rfl) (Nat.le_of_ble_eq_true rfl) dX10_mixTyped_65 (fun p12 _ => ?_)
      refine X_i2l hg dX10_mixTyped_68 ?_
      refine X_cVV0 hg mf_X10_mix m_1344 m_86 m_1342 cf_10 (fun _ e => gd_isO e) (fun y e => c_X10_mix g.1 l0 (Int32.toInt64 p12.1) p12.2 y e) (As := [.long (Int32.toInt64 p12.1)]) rfl (Nat.le_of_ble_eq_true rfl) rfl (Nat.le_of_ble_eq_true rfl) (Nat.le_of_ble_eq_true rfl) (Nat.le_of_ble_eq_true rfl) (Nat.le_of_ble_eq_true rfl) dX10_mixTyped_69 (fun h13 _ => ?_)
      refine X_iinc hg 1 rfl (v := (l1 + (nI 1))) (icc ic_i_1) (Nat.le_of_ble_eq_true rfl) (lv' := [(1, .int (l1 + (nI 1))), (0, .ref (nB g.1 + l0))]) rfl dX10_mixTyped_72 ?_
      refine X_goto hg (tgt := 57) dX10_mixTyped_75 rfl ?_
      refine X_lv [1, 0] rfl ?_
      exact ih _ _
set_option maxRecDepth 10000 in
theorem l_X10_mixTyped_80 {g : XC} {x0 : Hp} (hg : XG g RX10 cX10_mixTyped 2 4 92 0 0) (l0 : Nat) (hr : XR g none "mixTyped" none x0 0 0) (K : Hp → Option (Hp)) (hK0 : ∀ (h : Hp), Xo g x0 2 0 0 106 [] [] h (K h)) : ∀ (n : Nat) (l1 : Int32) (h : Hp), Xo g x0 2 0 0 80 [(0, .ref (nB g.1 + l0)), (1, .int l1)] [] h (f_X10_mixTyped_L80 l0 K n l1 h) := by
  intro n
  induction n with
  | zero =>
    intro l1 h
    exact X_none
  | succ n ih =>
    intro l1 h
    unfold f_X10_mixTyped_L80
    refine X_aload_n hg 0 rfl dX10_mixTyped_80 ?_
    refine X_iload_n hg 1 rfl dX10_mixTyped_81 ?_
    refine X_cVIW0 hg mf_X10_pieceNow m_1259 m_72 m_1257 cf_10 (fun _ e => gd_isO e) (fun y e => c_X10_pieceNow g.1 l0 l1 h y e) (As := [.int l1]) rfl (Nat.le_of_ble_eq_true rfl) rfl (Nat.le_of_ble_eq_true rfl) (Nat.le_of_ble_eq_true rfl) (Nat.le_of_ble_eq_true rfl) (Nat.le_of_ble_eq_true rfl) dX10_mixTyped_82 (fun p16 _ => ?_)
    refine X_bipush hg ic_b_m101 dX10_mixTyped_85 ?_
    refine X_icmp_eq hg (tgt := 106) dX10_mixTyped_87 rfl (fun c19 => ?_) (fun c19 => ?_)
    · refine X_lv [] rfl ?_
      exact hK0  _
    · refine X_aload_n hg 0 rfl dX10_mixTyped_90 ?_
      refine X_aload_n hg 0 rfl dX10_mixTyped_91 ?_
      refine X_iload_n hg 1 rfl dX10_mixTyped_92 ?_
      refine X_cVIW0 hg mf_X10_pieceNow m_1259 m_72 m_1257 cf_10 (fun _ e => gd_isO e) (fun y e => c_X10_pieceNow g.1 l0 l1 p16.2 y e) (As := [.int l1]) rfl (Nat.le_of_ble_eq_true rfl) rfl (Nat.le_of_ble_eq_true rfl) (Nat.le_of_ble_eq_true rfl) (Nat.le_of_ble_eq_true rfl) (Nat.le_of_ble_eq_true rfl) dX10_mixTyped_93 (fun p17 _ => ?_)
      refine X_i2l hg dX10_mixTyped_96 ?_
      refine X_cVV0 hg mf_X10_mix m_1344 m_86 m_1342 cf_10 (fun _ e => gd_isO e) (fun y e => c_X10_mix g.1 l0 (Int32.toInt64 p17.1) p17.2 y e) (As := [.long (Int32.toInt64 p17.1)]) rfl (Nat.le_of_ble_eq_true rfl) rfl (Nat.le_of_ble_eq_true rfl) (Nat.le_of_ble_eq_true rfl) (Nat.le_of_ble_eq_true rfl) (Nat.le_of_ble_eq_true rfl) dX10_mixTyped_97 (fun h18 _ => ?_)
      refine X_iinc hg 1 rfl (v := (l1 + (nI 1))) (icc ic_i_1) (Nat.le_of_ble_eq_true rfl) (lv' := [(1, .int (l1 + (nI 1))), (0, .ref (nB g.1 + l0))]) rfl dX10_mixTyped_100 ?_
      refine X_goto hg (tgt := 80) dX10_mixTyped_103 rfl ?_
      refine X_lv [1, 0] rfl ?_
      exact ih _ _
set_option maxRecDepth 10000 in
theorem c_X10_mixTyped (en : EN) (a0 : Nat) (h : Hp) (x0 : Hp) (e : f_X10_mixTyped a0 h = some x0) : Ct en yX10_mixTyped cX10_mixTyped 2 none 4 92 0 0 [.ref (nB en + a0)] h none x0 := by
  refine Ct.of (by decide) rfl (Nat.le_of_ble_eq_true rfl) e (fun g hen hg hr => ?_)
  subst hen
  unfold f_X10_mixTyped
  refine X_gd ?_
  refine X_iconst hg ic_i_0 dX10_mixTyped_0 ?_
  refine X_istore_n hg rfl (Nat.le_of_ble_eq_true rfl) (lv' := [(1, .int (nI 0)), (0, .ref (nB g.1 + a0))]) rfl dX10_mixTyped_1 ?_
  refine X_lv [1, 0] rfl ?_
  refine l_X10_mixTyped_2 hg _ hr _ (fun h6 => ?_) _ _ _
  refine X_iconst hg ic_i_0 dX10_mixTyped_27 ?_
  refine X_istore_n hg rfl (Nat.le_of_ble_eq_true rfl) (lv' := [(1, .int (nI 0)), (0, .ref (nB g.1 + a0))]) rfl dX10_mixTyped_28 ?_
  refine X_lv [1, 0] rfl ?_
  refine l_X10_mixTyped_29 hg _ hr _ (fun h11 => ?_) _ _ _
  refine X_iconst hg ic_i_0 dX10_mixTyped_55 ?_
  refine X_istore_n hg rfl (Nat.le_of_ble_eq_true rfl) (lv' := [(1, .int (nI 0)), (0, .ref (nB g.1 + a0))]) rfl dX10_mixTyped_56 ?_
  refine X_lv [1, 0] rfl ?_
  refine l_X10_mixTyped_57 hg _ hr _ (fun h15 => ?_) _ _ _
  refine X_iconst hg ic_i_0 dX10_mixTyped_78 ?_
  refine X_istore_n hg rfl (Nat.le_of_ble_eq_true rfl) (lv' := [(1, .int (nI 0)), (0, .ref (nB g.1 + a0))]) rfl dX10_mixTyped_79 ?_
  refine X_lv [1, 0] rfl ?_
  refine l_X10_mixTyped_80 hg _ hr _ (fun h20 => ?_) _ _ _
  exact X_vret hg hr (Nat.le_of_ble_eq_true rfl) (Nat.le_of_ble_eq_true rfl) dX10_mixTyped_106
set_option maxRecDepth 10000 in
theorem l_X10_mixMenu_2 {g : XC} {x0 : Hp} (hg : XG g RX10 cX10_mixMenu 3 6 140 0 0) (l0 : Nat) (hr : XR g none "mixMenu" none x0 0 0) (K : Hp → Option (Hp)) (hK0 : ∀ (h : Hp), Xo g x0 3 0 0 24 [(0, .ref (nB g.1 + l0))] [] h (K h)) : ∀ (n : Nat) (l1 : Int32) (h : Hp), Xo g x0 3 0 0 2 [(0, .ref (nB g.1 + l0)), (1, .int l1)] [] h (f_X10_mixMenu_L2 l0 K n l1 h) := by
  intro n
  induction n with
  | zero =>
    intro l1 h
    exact X_none
  | succ n ih =>
    intro l1 h
    unfold f_X10_mixMenu_L2
    refine X_iload_n hg 1 rfl dX10_mixMenu_2 ?_
    refine X_bipush hg ic_b_7 dX10_mixMenu_3 ?_
    refine X_icmp_ge hg (tgt := 24) dX10_mixMenu_5 rfl (fun c3 => ?_) (fun c3 => ?_)
    · refine X_lv [0] rfl ?_
      exact hK0  _
    · refine X_aload_n hg 0 rfl dX10_mixMenu_8 ?_
      refine X_aload_n hg 0 rfl dX10_mixMenu_9 ?_
      refine X_iload_n hg 1 rfl dX10_mixMenu_10 ?_
      refine X_cVIW0 hg mf_X10_menuNow m_1311 m_80 m_1309 cf_10 (fun _ e => gd_isO e) (fun y e => c_X10_menuNow g.1 l0 l1 h y e) (As := [.int l1]) rfl (Nat.le_of_ble_eq_true rfl) rfl (Nat.le_of_ble_eq_true rfl) (Nat.le_of_ble_eq_true rfl) (Nat.le_of_ble_eq_true rfl) (Nat.le_of_ble_eq_true rfl) dX10_mixMenu_11 (fun p1 _ => ?_)
      refine X_i2l hg dX10_mixMenu_14 ?_
      refine X_cVV0 hg mf_X10_mix m_1344 m_86 m_1342 cf_10 (fun _ e => gd_isO e) (fun y e => c_X10_mix g.1 l0 (Int32.toInt64 p1.1) p1.2 y e) (As := [.long (Int32.toInt64 p1.1)]) rfl (Nat.le_of_ble_eq_true rfl) rfl (Nat.le_of_ble_eq_true rfl) (Nat.le_of_ble_eq_true rfl) (Nat.le_of_ble_eq_true rfl) (Nat.le_of_ble_eq_true rfl) dX10_mixMenu_15 (fun h2 _ => ?_)
      refine X_iinc hg 1 rfl (v := (l1 + (nI 1))) (icc ic_i_1) (Nat.le_of_ble_eq_true rfl) (lv' := [(1, .int (l1 + (nI 1))), (0, .ref (nB g.1 + l0))]) rfl dX10_mixMenu_18 ?_
      refine X_goto hg (tgt := 2) dX10_mixMenu_21 rfl ?_
      refine X_lv [1, 0] rfl ?_
      exact ih _ _
set_option maxRecDepth 10000 in
theorem l_X10_mixMenu_36 {g : XC} {x0 : Hp} (hg : XG g RX10 cX10_mixMenu 3 6 140 0 0) (l0 : Nat) (l1 : Int32) (hr : XR g none "mixMenu" none x0 0 0) (K : Hp → Option (Hp)) (hK0 : ∀ (h : Hp), Xo g x0 3 0 0 68 [(0, .ref (nB g.1 + l0)), (1, .int l1)] [] h (K h)) : ∀ (n : Nat) (l2 : Int32) (h : Hp), Xo g x0 3 0 0 36 [(0, .ref (nB g.1 + l0)), (1, .int l1), (2, .int l2)] [] h (f_X10_mixMenu_L36 l0 l1 K n l2 h) := by
  intro n
  induction n with
  | zero =>
    intro l2 h
    exact X_none
  | succ n ih =>
    intro l2 h
    unfold f_X10_mixMenu_L36
    refine X_iload_n hg 2 rfl dX10_mixMenu_36 ?_
    refine X_aload_n hg 0 rfl dX10_mixMenu_37 ?_
    refine X_getR hg (j := 13) cf_10 (Nat.le_of_ble_eq_true rfl) (Or.inr ⟨_, rfl⟩) m_913 dX10_mixMenu_38 (fun x6 _ => ?_)
    refine X_iload_n hg 1 rfl dX10_mixMenu_41 ?_
    refine X_ald hg dX10_mixMenu_42 (fun x7 _ => ?_)
    refine X_icmp_ge hg (tgt := 68) dX10_mixMenu_43 rfl (fun c11 => ?_) (fun c11 => ?_)
    · refine X_lv [0, 1] rfl ?_
      exact hK0  _
    · refine X_aload_n hg 0 rfl dX10_mixMenu_46 ?_
      refine X_aload_n hg 0 rfl dX10_mixMenu_47 ?_
      refine X_getR hg (j := 14) cf_10 (Nat.le_of_ble_eq_true rfl) (Or.inr ⟨_, rfl⟩) m_914 dX10_mixMenu_48 (fun x8 _ => ?_)
      refine X_bipush hg ic_b_14 dX10_mixMenu_51 ?_
      refine X_iload_n hg 1 rfl dX10_mixMenu_53 ?_
      refine X_imul hg dX10_mixMenu_54 ?_
      refine X_iload_n hg 2 rfl dX10_mixMenu_55 ?_
      refine X_iadd hg dX10_mixMenu_56 ?_
      refine X_ald hg dX10_mixMenu_57 (fun x9 _ => ?_)
      refine X_i2l hg dX10_mixMenu_58 ?_
      refine X_cVV0 hg mf_X10_mix m_1344 m_86 m_1342 cf_10 (fun _ e => gd_isO e) (fun y e => c_X10_mix g.1 l0 (Int32.toInt64 x9) h y e) (As := [.long (Int32.toInt64 x9)]) rfl (Nat.le_of_ble_eq_true rfl) rfl (Nat.le_of_ble_eq_true rfl) (Nat.le_of_ble_eq_true rfl) (Nat.le_of_ble_eq_true rfl) (Nat.le_of_ble_eq_true rfl) dX10_mixMenu_59 (fun h10 _ => ?_)
      refine X_iinc hg 2 rfl (v := (l2 + (nI 1))) (icc ic_i_1) (Nat.le_of_ble_eq_true rfl) (lv' := [(2, .int (l2 + (nI 1))), (0, .ref (nB g.1 + l0)), (1, .int l1)]) rfl dX10_mixMenu_62 ?_
      refine X_goto hg (tgt := 36) dX10_mixMenu_65 rfl ?_
      refine X_lv [1, 2, 0] rfl ?_
      exact ih _ _
set_option maxRecDepth 10000 in
theorem l_X10_mixMenu_26 {g : XC} {x0 : Hp} (hg : XG g RX10 cX10_mixMenu 3 6 140 0 0) (l0 : Nat) (hr : XR g none "mixMenu" none x0 0 0) (K : Hp → Option (Hp)) (hK0 : ∀ (h : Hp), Xo g x0 3 0 0 74 [] [] h (K h)) : ∀ (n : Nat) (l1 : Int32) (h : Hp), Xo g x0 3 0 0 26 [(0, .ref (nB g.1 + l0)), (1, .int l1)] [] h (f_X10_mixMenu_L26 l0 K n l1 h) := by
  intro n
  induction n with
  | zero =>
    intro l1 h
    exact X_none
  | succ n ih =>
    intro l1 h
    unfold f_X10_mixMenu_L26
    refine X_iload_n hg 1 rfl dX10_mixMenu_26 ?_
    refine X_aload_n hg 0 rfl dX10_mixMenu_27 ?_
    refine X_getI hg (j := 2) cf_10 (Nat.le_of_ble_eq_true rfl) (Or.inl rfl) m_902 dX10_mixMenu_28 (fun x5 _ => ?_)
    refine X_icmp_ge hg (tgt := 74) dX10_mixMenu_31 rfl (fun c13 => ?_) (fun c13 => ?_)
    · refine X_lv [] rfl ?_
      exact hK0  _
    · refine X_iconst hg ic_i_0 dX10_mixMenu_34 ?_
      refine X_istore_n hg rfl (Nat.le_of_ble_eq_true rfl) (lv' := [(2, .int (nI 0)), (0, .ref (nB g.1 + l0)), (1, .int l1)]) rfl dX10_mixMenu_35 ?_
      refine X_lv [1, 2, 0] rfl ?_
      refine l_X10_mixMenu_36 hg _ _ hr _ (fun h12 => ?_) _ _ _
      refine X_iinc hg 1 rfl (v := (l1 + (nI 1))) (icc ic_i_1) (Nat.le_of_ble_eq_true rfl) (lv' := [(1, .int (l1 + (nI 1))), (0, .ref (nB g.1 + l0))]) rfl dX10_mixMenu_68 ?_
      refine X_goto hg (tgt := 26) dX10_mixMenu_71 rfl ?_
      refine X_lv [1, 0] rfl ?_
      exact ih _ _
set_option maxRecDepth 10000 in
theorem c_X10_mixMenu (en : EN) (a0 : Nat) (h : Hp) (x0 : Hp) (e : f_X10_mixMenu a0 h = some x0) : Ct en yX10_mixMenu cX10_mixMenu 3 none 6 140 0 0 [.ref (nB en + a0)] h none x0 := by
  refine Ct.of (by decide) rfl (Nat.le_of_ble_eq_true rfl) e (fun g hen hg hr => ?_)
  subst hen
  unfold f_X10_mixMenu
  refine X_gd ?_
  refine X_iconst hg ic_i_0 dX10_mixMenu_0 ?_
  refine X_istore_n hg rfl (Nat.le_of_ble_eq_true rfl) (lv' := [(1, .int (nI 0)), (0, .ref (nB g.1 + a0))]) rfl dX10_mixMenu_1 ?_
  refine X_lv [1, 0] rfl ?_
  refine l_X10_mixMenu_2 hg _ hr _ (fun h4 => ?_) _ _ _
  refine X_iconst hg ic_i_0 dX10_mixMenu_24 ?_
  refine X_istore_n hg rfl (Nat.le_of_ble_eq_true rfl) (lv' := [(1, .int (nI 0)), (0, .ref (nB g.1 + a0))]) rfl dX10_mixMenu_25 ?_
  refine X_lv [1, 0] rfl ?_
  refine l_X10_mixMenu_26 hg _ hr _ (fun h14 => ?_) _ _ _
  exact X_vret hg hr (Nat.le_of_ble_eq_true rfl) (Nat.le_of_ble_eq_true rfl) dX10_mixMenu_74
set_option maxRecDepth 10000 in
theorem l_X10_digest_9 {g : XC} {x0 : Int64 × Hp} (hg : XG g RX10 cX10_digest 2 7 165 0 0) (l0 : Nat) (hr : XR g (some .long) "digest" (some (.long x0.1)) x0.2 0 0) (K : Hp → Option (Int64 × Hp)) (hK0 : ∀ (h : Hp), Xo g x0 2 0 0 32 [(0, .ref (nB g.1 + l0))] [] h (K h)) : ∀ (n : Nat) (l1 : Int32) (h : Hp), Xo g x0 2 0 0 9 [(0, .ref (nB g.1 + l0)), (1, .int l1)] [] h (f_X10_digest_L9 l0 K n l1 h) := by
  intro n
  induction n with
  | zero =>
    intro l1 h
    exact X_none
  | succ n ih =>
    intro l1 h
    unfold f_X10_digest_L9
    refine X_iload_n hg 1 rfl dX10_digest_9 ?_
    refine X_bipush hg ic_b_26 dX10_digest_10 ?_
    refine X_icmp_ge hg (tgt := 32) dX10_digest_12 rfl (fun c5 => ?_) (fun c5 => ?_)
    · refine X_lv [0] rfl ?_
      exact hK0  _
    · refine X_aload_n hg 0 rfl dX10_digest_15 ?_
      refine X_aload_n hg 0 rfl dX10_digest_16 ?_
      refine X_getR hg (j := 9) cf_10 (Nat.le_of_ble_eq_true rfl) (Or.inr ⟨_, rfl⟩) m_909 dX10_digest_17 (fun x2 _ => ?_)
      refine X_iload_n hg 1 rfl dX10_digest_20 ?_
      refine X_ald hg dX10_digest_21 (fun x3 _ => ?_)
      refine X_i2l hg dX10_digest_22 ?_
      refine X_cVV0 hg mf_X10_mix m_1344 m_86 m_1342 cf_10 (fun _ e => gd_isO e) (fun y e => c_X10_mix g.1 l0 (Int32.toInt64 x3) h y e) (As := [.long (Int32.toInt64 x3)]) rfl (Nat.le_of_ble_eq_true rfl) rfl (Nat.le_of_ble_eq_true rfl) (Nat.le_of_ble_eq_true rfl) (Nat.le_of_ble_eq_true rfl) (Nat.le_of_ble_eq_true rfl) dX10_digest_23 (fun h4 _ => ?_)
      refine X_iinc hg 1 rfl (v := (l1 + (nI 1))) (icc ic_i_1) (Nat.le_of_ble_eq_true rfl) (lv' := [(1, .int (l1 + (nI 1))), (0, .ref (nB g.1 + l0))]) rfl dX10_digest_26 ?_
      refine X_goto hg (tgt := 9) dX10_digest_29 rfl ?_
      refine X_lv [1, 0] rfl ?_
      exact ih _ _
set_option maxRecDepth 10000 in
theorem l_X10_digest_34 {g : XC} {x0 : Int64 × Hp} (hg : XG g RX10 cX10_digest 2 7 165 0 0) (l0 : Nat) (hr : XR g (some .long) "digest" (some (.long x0.1)) x0.2 0 0) (K : Hp → Option (Int64 × Hp)) (hK0 : ∀ (h : Hp), Xo g x0 2 0 0 53 [(0, .ref (nB g.1 + l0))] [] h (K h)) : ∀ (n : Nat) (l1 : Int32) (h : Hp), Xo g x0 2 0 0 34 [(0, .ref (nB g.1 + l0)), (1, .int l1)] [] h (f_X10_digest_L34 l0 K n l1 h) := by
  intro n
  induction n with
  | zero =>
    intro l1 h
    exact X_none
  | succ n ih =>
    intro l1 h
    unfold f_X10_digest_L34
    refine X_iload_n hg 1 rfl dX10_digest_34 ?_
    refine X_aload_n hg 0 rfl dX10_digest_35 ?_
    refine X_getI hg (j := 2) cf_10 (Nat.le_of_ble_eq_true rfl) (Or.inl rfl) m_902 dX10_digest_36 (fun x7 _ => ?_)
    refine X_icmp_ge hg (tgt := 53) dX10_digest_39 rfl (fun c9 => ?_) (fun c9 => ?_)
    · refine X_lv [0] rfl ?_
      exact hK0  _
    · refine X_aload_n hg 0 rfl dX10_digest_42 ?_
      refine X_iload_n hg 1 rfl dX10_digest_43 ?_
      refine X_cVV0 hg mf_X10_mixName m_1349 m_87 m_1347 cf_10 (fun _ e => gd_isO e) (fun y e => c_X10_mixName g.1 l0 l1 h y e) (As := [.int l1]) rfl (Nat.le_of_ble_eq_true rfl) rfl (Nat.le_of_ble_eq_true rfl) (Nat.le_of_ble_eq_true rfl) (Nat.le_of_ble_eq_true rfl) (Nat.le_of_ble_eq_true rfl) dX10_digest_44 (fun h8 _ => ?_)
      refine X_iinc hg 1 rfl (v := (l1 + (nI 1))) (icc ic_i_1) (Nat.le_of_ble_eq_true rfl) (lv' := [(1, .int (l1 + (nI 1))), (0, .ref (nB g.1 + l0))]) rfl dX10_digest_47 ?_
      refine X_goto hg (tgt := 34) dX10_digest_50 rfl ?_
      refine X_lv [1, 0] rfl ?_
      exact ih _ _
set_option maxRecDepth 10000 in
theorem l_X10_digest_55 {g : XC} {x0 : Int64 × Hp} (hg : XG g RX10 cX10_digest 2 7 165 0 0) (l0 : Nat) (hr : XR g (some .long) "digest" (some (.long x0.1)) x0.2 0 0) (K : Hp → Option (Int64 × Hp)) (hK0 : ∀ (h : Hp), Xo g x0 2 0 0 77 [(0, .ref (nB g.1 + l0))] [] h (K h)) : ∀ (n : Nat) (l1 : Int32) (h : Hp), Xo g x0 2 0 0 55 [(0, .ref (nB g.1 + l0)), (1, .int l1)] [] h (f_X10_digest_L55 l0 K n l1 h) := by
  intro n
  induction n with
  | zero =>
    intro l1 h
    exact X_none
  | succ n ih =>
    intro l1 h
    unfold f_X10_digest_L55
    refine X_iload_n hg 1 rfl dX10_digest_55 ?_
    refine X_bipush hg ic_b_7 dX10_digest_56 ?_
    refine X_icmp_ge hg (tgt := 77) dX10_digest_58 rfl (fun c13 => ?_) (fun c13 => ?_)
    · refine X_lv [0] rfl ?_
      exact hK0  _
    · refine X_aload_n hg 0 rfl dX10_digest_61 ?_
      refine X_aload_n hg 0 rfl dX10_digest_62 ?_
      refine X_iload_n hg 1 rfl dX10_digest_63 ?_
      refine X_cVI0 hg mf_X10_aboutNow m_1178 m_59 m_1176 cf_10 (fun _ e => gd_isO e) (fun y e => c_X10_aboutNow g.1 l0 l1 h y e) (As := [.int l1]) rfl (Nat.le_of_ble_eq_true rfl) rfl (Nat.le_of_ble_eq_true rfl) (Nat.le_of_ble_eq_true rfl) (Nat.le_of_ble_eq_true rfl) (Nat.le_of_ble_eq_true rfl) dX10_digest_64 (fun x11 _ => ?_)
      refine X_i2l hg dX10_digest_67 ?_
      refine X_cVV0 hg mf_X10_mix m_1344 m_86 m_1342 cf_10 (fun _ e => gd_isO e) (fun y e => c_X10_mix g.1 l0 (Int32.toInt64 x11) h y e) (As := [.long (Int32.toInt64 x11)]) rfl (Nat.le_of_ble_eq_true rfl) rfl (Nat.le_of_ble_eq_true rfl) (Nat.le_of_ble_eq_true rfl) (Nat.le_of_ble_eq_true rfl) (Nat.le_of_ble_eq_true rfl) dX10_digest_68 (fun h12 _ => ?_)
      refine X_iinc hg 1 rfl (v := (l1 + (nI 1))) (icc ic_i_1) (Nat.le_of_ble_eq_true rfl) (lv' := [(1, .int (l1 + (nI 1))), (0, .ref (nB g.1 + l0))]) rfl dX10_digest_71 ?_
      refine X_goto hg (tgt := 55) dX10_digest_74 rfl ?_
      refine X_lv [1, 0] rfl ?_
      exact ih _ _
set_option maxRecDepth 10000 in
theorem l_X10_digest_94 {g : XC} {x0 : Int64 × Hp} (hg : XG g RX10 cX10_digest 2 7 165 0 0) (l0 : Nat) (hr : XR g (some .long) "digest" (some (.long x0.1)) x0.2 0 0) (K : Hp → Option (Int64 × Hp)) (hK0 : ∀ (h : Hp), Xo g x0 2 0 0 119 [(0, .ref (nB g.1 + l0))] [] h (K h)) : ∀ (n : Nat) (l1 : Int32) (h : Hp), Xo g x0 2 0 0 94 [(0, .ref (nB g.1 + l0)), (1, .int l1)] [] h (f_X10_digest_L94 l0 K n l1 h) := by
  intro n
  induction n with
  | zero =>
    intro l1 h
    exact X_none
  | succ n ih =>
    intro l1 h
    unfold f_X10_digest_L94
    refine X_iload_n hg 1 rfl dX10_digest_94 ?_
    refine X_aload_n hg 0 rfl dX10_digest_95 ?_
    refine X_getI hg (j := 0) cf_10 (Nat.le_of_ble_eq_true rfl) (Or.inl rfl) m_900 dX10_digest_96 (fun x20 _ => ?_)
    refine X_icmp_ge hg (tgt := 119) dX10_digest_99 rfl (fun c24 => ?_) (fun c24 => ?_)
    · refine X_lv [0] rfl ?_
      exact hK0  _
    · refine X_aload_n hg 0 rfl dX10_digest_102 ?_
      refine X_aload_n hg 0 rfl dX10_digest_103 ?_
      refine X_getR hg (j := 1) cf_10 (Nat.le_of_ble_eq_true rfl) (Or.inr ⟨_, rfl⟩) m_901 dX10_digest_104 (fun x21 _ => ?_)
      refine X_iload_n hg 1 rfl dX10_digest_107 ?_
      refine X_ald hg dX10_digest_108 (fun x22 _ => ?_)
      refine X_i2l hg dX10_digest_109 ?_
      refine X_cVV0 hg mf_X10_mix m_1344 m_86 m_1342 cf_10 (fun _ e => gd_isO e) (fun y e => c_X10_mix g.1 l0 (Int32.toInt64 x22) h y e) (As := [.long (Int32.toInt64 x22)]) rfl (Nat.le_of_ble_eq_true rfl) rfl (Nat.le_of_ble_eq_true rfl) (Nat.le_of_ble_eq_true rfl) (Nat.le_of_ble_eq_true rfl) (Nat.le_of_ble_eq_true rfl) dX10_digest_110 (fun h23 _ => ?_)
      refine X_iinc hg 1 rfl (v := (l1 + (nI 1))) (icc ic_i_1) (Nat.le_of_ble_eq_true rfl) (lv' := [(1, .int (l1 + (nI 1))), (0, .ref (nB g.1 + l0))]) rfl dX10_digest_113 ?_
      refine X_goto hg (tgt := 94) dX10_digest_116 rfl ?_
      refine X_lv [1, 0] rfl ?_
      exact ih _ _
set_option maxRecDepth 10000 in
theorem l_X10_digest_121 {g : XC} {x0 : Int64 × Hp} (hg : XG g RX10 cX10_digest 2 7 165 0 0) (l0 : Nat) (hr : XR g (some .long) "digest" (some (.long x0.1)) x0.2 0 0) (K : Hp → Option (Int64 × Hp)) (hK0 : ∀ (h : Hp), Xo g x0 2 0 0 143 [(0, .ref (nB g.1 + l0))] [] h (K h)) : ∀ (n : Nat) (l1 : Int32) (h : Hp), Xo g x0 2 0 0 121 [(0, .ref (nB g.1 + l0)), (1, .int l1)] [] h (f_X10_digest_L121 l0 K n l1 h) := by
  intro n
  induction n with
  | zero =>
    intro l1 h
    exact X_none
  | succ n ih =>
    intro l1 h
    unfold f_X10_digest_L121
    refine X_iload_n hg 1 rfl dX10_digest_121 ?_
    refine X_bipush hg ic_b_6 dX10_digest_122 ?_
    refine X_icmp_ge hg (tgt := 143) dX10_digest_124 rfl (fun c28 => ?_) (fun c28 => ?_)
    · refine X_lv [0] rfl ?_
      exact hK0  _
    · refine X_aload_n hg 0 rfl dX10_digest_127 ?_
      refine X_aload_n hg 0 rfl dX10_digest_128 ?_
      refine X_iload_n hg 1 rfl dX10_digest_129 ?_
      refine X_cVI0 hg mf_X10_howMany m_1335 m_85 m_1333 cf_10 (fun _ e => gd_isO e) (fun y e => c_X10_howMany g.1 l0 l1 h y e) (As := [.int l1]) rfl (Nat.le_of_ble_eq_true rfl) rfl (Nat.le_of_ble_eq_true rfl) (Nat.le_of_ble_eq_true rfl) (Nat.le_of_ble_eq_true rfl) (Nat.le_of_ble_eq_true rfl) dX10_digest_130 (fun x26 _ => ?_)
      refine X_i2l hg dX10_digest_133 ?_
      refine X_cVV0 hg mf_X10_mix m_1344 m_86 m_1342 cf_10 (fun _ e => gd_isO e) (fun y e => c_X10_mix g.1 l0 (Int32.toInt64 x26) h y e) (As := [.long (Int32.toInt64 x26)]) rfl (Nat.le_of_ble_eq_true rfl) rfl (Nat.le_of_ble_eq_true rfl) (Nat.le_of_ble_eq_true rfl) (Nat.le_of_ble_eq_true rfl) (Nat.le_of_ble_eq_true rfl) dX10_digest_134 (fun h27 _ => ?_)
      refine X_iinc hg 1 rfl (v := (l1 + (nI 1))) (icc ic_i_1) (Nat.le_of_ble_eq_true rfl) (lv' := [(1, .int (l1 + (nI 1))), (0, .ref (nB g.1 + l0))]) rfl dX10_digest_137 ?_
      refine X_goto hg (tgt := 121) dX10_digest_140 rfl ?_
      refine X_lv [1, 0] rfl ?_
      exact ih _ _
set_option maxRecDepth 10000 in
theorem c_X10_digest (en : EN) (a0 : Nat) (h : Hp) (x0 : Int64 × Hp) (e : f_X10_digest a0 h = some x0) : Ct en yX10_digest cX10_digest 2 (some .long) 7 165 0 0 [.ref (nB en + a0)] h (some (.long x0.1)) x0.2 := by
  refine Ct.of (by decide) rfl (Nat.le_of_ble_eq_true rfl) e (fun g hen hg hr => ?_)
  subst hen
  unfold f_X10_digest
  refine X_gd ?_
  refine X_aload_n hg 0 rfl dX10_digest_0 ?_
  refine X_ldc2 hg m_1341 dX10_digest_1 ?_
  refine X_putJ hg (j := 32) cf_10 (Nat.le_of_ble_eq_true rfl) rfl rfl m_932 dX10_digest_4 (fun h1 _ => ?_)
  refine X_iconst hg ic_i_0 dX10_digest_7 ?_
  refine X_istore_n hg rfl (Nat.le_of_ble_eq_true rfl) (lv' := [(1, .int (nI 0)), (0, .ref (nB g.1 + a0))]) rfl dX10_digest_8 ?_
  refine X_lv [1, 0] rfl ?_
  refine l_X10_digest_9 hg _ hr _ (fun h6 => ?_) _ _ _
  refine X_iconst hg ic_i_0 dX10_digest_32 ?_
  refine X_istore_n hg rfl (Nat.le_of_ble_eq_true rfl) (lv' := [(1, .int (nI 0)), (0, .ref (nB g.1 + a0))]) rfl dX10_digest_33 ?_
  refine X_lv [1, 0] rfl ?_
  refine l_X10_digest_34 hg _ hr _ (fun h10 => ?_) _ _ _
  refine X_iconst hg ic_i_0 dX10_digest_53 ?_
  refine X_istore_n hg rfl (Nat.le_of_ble_eq_true rfl) (lv' := [(1, .int (nI 0)), (0, .ref (nB g.1 + a0))]) rfl dX10_digest_54 ?_
  refine X_lv [1, 0] rfl ?_
  refine l_X10_digest_55 hg _ hr _ (fun h14 => ?_) _ _ _
  refine X_aload_n hg 0 rfl dX10_digest_77 ?_
  refine X_cVV0 hg mf_X10_mixTyped m_1353 m_88 m_1351 cf_10 (fun _ e => gd_isO e) (fun y e => c_X10_mixTyped g.1 a0 h14 y e) (As := []) rfl (Nat.le_of_ble_eq_true rfl) rfl (Nat.le_of_ble_eq_true rfl) (Nat.le_of_ble_eq_true rfl) (Nat.le_of_ble_eq_true rfl) (Nat.le_of_ble_eq_true rfl) dX10_digest_78 (fun h15 _ => ?_)
  refine X_aload_n hg 0 rfl dX10_digest_81 ?_
  refine X_getI hg (j := 12) cf_10 (Nat.le_of_ble_eq_true rfl) (Or.inl rfl) m_912 dX10_digest_82 (fun x16 _ => ?_)
  refine X_reg (fun (v17 : Hp) o => Xo g x0 2 0 0 92 [(0, .ref (nB g.1 + a0))] [] v17 o) (fun kv17 hk17 => ?_) (fun v17 => ?_)
  · refine X_ib ?_
    refine X_if_le hg (tgt := 92) dX10_digest_85 rfl (fun c19 => ?_) (fun c19 => ?_)
    · exact hk17 h15
    · refine X_aload_n hg 0 rfl dX10_digest_88 ?_
      refine X_as ?_
      refine X_cVV0 hg mf_X10_mixMenu m_1358 m_89 m_1356 cf_10 (fun _ e => gd_isO e) (fun y e => c_X10_mixMenu g.1 a0 h15 y e) (As := []) rfl (Nat.le_of_ble_eq_true rfl) rfl (Nat.le_of_ble_eq_true rfl) (Nat.le_of_ble_eq_true rfl) (Nat.le_of_ble_eq_true rfl) (Nat.le_of_ble_eq_true rfl) dX10_digest_89 (fun h18 _ => ?_)
      exact hk17 h18
  · refine X_iconst hg ic_i_0 dX10_digest_92 ?_
    refine X_istore_n hg rfl (Nat.le_of_ble_eq_true rfl) (lv' := [(1, .int (nI 0)), (0, .ref (nB g.1 + a0))]) rfl dX10_digest_93 ?_
    refine X_lv [1, 0] rfl ?_
    refine l_X10_digest_94 hg _ hr _ (fun h25 => ?_) _ _ _
    refine X_iconst hg ic_i_0 dX10_digest_119 ?_
    refine X_istore_n hg rfl (Nat.le_of_ble_eq_true rfl) (lv' := [(1, .int (nI 0)), (0, .ref (nB g.1 + a0))]) rfl dX10_digest_120 ?_
    refine X_lv [1, 0] rfl ?_
    refine l_X10_digest_121 hg _ hr _ (fun h29 => ?_) _ _ _
    refine X_aload_n hg 0 rfl dX10_digest_143 ?_
    refine X_getJ hg (j := 32) cf_10 (Nat.le_of_ble_eq_true rfl) rfl m_932 dX10_digest_144 (fun x30 _ => ?_)
    exact X_lretW hg hr (Nat.le_of_ble_eq_true rfl) (Nat.le_of_ble_eq_true rfl) dX10_digest_147
