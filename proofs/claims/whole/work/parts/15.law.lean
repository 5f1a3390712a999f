-- ===== end of PART A; then your names; then what follows =====
/-! THE CLAIM OUT OF ONE WALK OF THE LAW'S BODY. Your part is whole_start (and what it stands on); all else here is the same for every law, but numbers. -/
def R_law : String := "DialMenusLaw"
def lw_P (b : Addr) (xs : List Int32) (args : Array Value) (s : State) : Prop := args = #[.ref b] ∧ s.IntsAt b xs ∧ xs.length ≤ 1536 ∧ (Jvm.Cond.and given_1 narrow_1).before args s = true
def lw_Q (_ : Array Value) (s : State) (o : Outcome) (t : State) : Prop := o = .returned (some (.int 1)) ∧ Framed s o t [] 600000 7302250
def lw_Z (below : List Frame) (a : Array Value) (s : State) : State → Prop := fun t => ∃ o, t.status = .running ∧ Ended t below o ∧ lw_Q a s o t
/-- the law's own end, with 1 on the stack, nothing written that was there before, its room as the claim has it -/
theorem lw_ret {p : Program} {l : Launch} {e : Env} {s : State} {m : MethodId} {below : List Frame} {meth : Method} {c : Code} {b : Nat} (hx : p.tables.exec = Jvm.exec) (hb : c.code = code) (hr : meth.sig.returnType = ret) (hlocks : meth.locks = false) {pc : Nat} {H : Heap} {ls : Array Slot} (hdg : decode code pc = .ok (.ireturn, 1)) : W p l e room_1 s m #[Value.ref b] below meth c H [] 600000 7302250 (lw_Z below #[Value.ref b] s) (F0 m pc ls [.int 1]) := by
  intro T hT X
  obtain ⟨fs, hret, hrun, hended, hW, hframe⟩ := X.leave (v := some (.int 1)) (hlocks := hlocks) (fun h => by rw [hr] at h; cases h)
  have hmeth' : T.vm.method? m = some meth := X.method'
  refine ⟨T.setFrames fs, ?_, .returned (some (.int 1)), hrun, hended, rfl, ⟨_, rfl⟩, hW, hframe⟩
  jvm_step X.here [X.here.top, hx, hb, hdg, hmeth', hr, ret, narrow_b1]
  (try refine ⟨rfl, ?_⟩); (try refine ⟨rfl, ?_⟩)
  first | (intro acts; rw [hret _ acts rfl rfl rfl]) | rw [hret _ _ rfl rfl rfl]
  exact Steps.refl _
/-- what holds at the law's entry: the machine, the code, the tables' words (any of lw_tbl by 'hts w (by decide +kernel)'), the script of L ints xs at the cell b, what the Statement gives of the start (any of its parts by flat_of_before) -/
def lw_At (p : Program) (s : State) (m : MethodId) (meth : Method) (c : Code) (b L : Nat) (xs : Nat → Int32) : Prop :=
  p.tables.exec = Jvm.exec ∧ c.code = code ∧ meth.sig.returnType = ret ∧ c.maxLocals = 4 ∧ s.vm.findClass R_law = some m.cls ∧ (∀ w ∈ lw_tbl, w.before #[Value.ref b] s = true) ∧ va_X b L xs s s.heap ∧ b < s.heap.size ∧ meth.locks = false ∧ (Jvm.Cond.and given_1 narrow_1).before #[Value.ref b] s = true
theorem ic_b_31 : (Int8.ofInt (31 : Int)).toInt32 = (nI 31) := by decide
theorem m_91 : Cond.initialized RX9 ∈ lw_tbl := List.mem_of_getElem? (i := 91) (by decide +kernel)
theorem m_101 : Cond.initialized RX10 ∈ lw_tbl := List.mem_of_getElem? (i := 101) (by decide +kernel)
theorem m_105 : Cond.classLink RL 7 RX9 ∈ lw_tbl := List.mem_of_getElem? (i := 105) (by decide +kernel)
theorem m_106 : Cond.instantiable RX9 15 ∈ lw_tbl := List.mem_of_getElem? (i := 106) (by decide +kernel)
theorem m_107 : Cond.methodLink RL 9 yX9_init ∈ lw_tbl := List.mem_of_getElem? (i := 107) (by decide +kernel)
theorem m_108 : Cond.instanceMethod yX9_init ∈ lw_tbl := List.mem_of_getElem? (i := 108) (by decide +kernel)
theorem m_323 : Cond.methodLink RL 13 yX9_letter ∈ lw_tbl := List.mem_of_getElem? (i := 323) (by decide +kernel)
theorem m_324 : Cond.instanceMethod yX9_letter ∈ lw_tbl := List.mem_of_getElem? (i := 324) (by decide +kernel)
theorem m_325 : Cond.selects RX9 yX9_letter yX9_letter ∈ lw_tbl := List.mem_of_getElem? (i := 325) (by decide +kernel)
theorem m_340 : Cond.methodLink RL 18 yX9_blank ∈ lw_tbl := List.mem_of_getElem? (i := 340) (by decide +kernel)
theorem m_341 : Cond.instanceMethod yX9_blank ∈ lw_tbl := List.mem_of_getElem? (i := 341) (by decide +kernel)
theorem m_342 : Cond.selects RX9 yX9_blank yX9_blank ∈ lw_tbl := List.mem_of_getElem? (i := 342) (by decide +kernel)
theorem m_348 : Cond.methodLink RL 23 yX9_fault ∈ lw_tbl := List.mem_of_getElem? (i := 348) (by decide +kernel)
theorem m_349 : Cond.instanceMethod yX9_fault ∈ lw_tbl := List.mem_of_getElem? (i := 349) (by decide +kernel)
theorem m_350 : Cond.selects RX9 yX9_fault yX9_fault ∈ lw_tbl := List.mem_of_getElem? (i := 350) (by decide +kernel)
theorem m_385 : Cond.methodLink RL 27 yX9_names ∈ lw_tbl := List.mem_of_getElem? (i := 385) (by decide +kernel)
theorem m_386 : Cond.instanceMethod yX9_names ∈ lw_tbl := List.mem_of_getElem? (i := 386) (by decide +kernel)
theorem m_387 : Cond.selects RX9 yX9_names yX9_names ∈ lw_tbl := List.mem_of_getElem? (i := 387) (by decide +kernel)
theorem m_468 : Cond.methodLink RL 31 yX9_dial ∈ lw_tbl := List.mem_of_getElem? (i := 468) (by decide +kernel)
theorem m_469 : Cond.instanceMethod yX9_dial ∈ lw_tbl := List.mem_of_getElem? (i := 469) (by decide +kernel)
theorem m_470 : Cond.selects RX9 yX9_dial yX9_dial ∈ lw_tbl := List.mem_of_getElem? (i := 470) (by decide +kernel)
theorem m_487 : Cond.methodLink RL 35 yX9_drop ∈ lw_tbl := List.mem_of_getElem? (i := 487) (by decide +kernel)
theorem m_488 : Cond.instanceMethod yX9_drop ∈ lw_tbl := List.mem_of_getElem? (i := 488) (by decide +kernel)
theorem m_489 : Cond.selects RX9 yX9_drop yX9_drop ∈ lw_tbl := List.mem_of_getElem? (i := 489) (by decide +kernel)
theorem m_504 : Cond.methodLink RL 39 yX9_use ∈ lw_tbl := List.mem_of_getElem? (i := 504) (by decide +kernel)
theorem m_505 : Cond.instanceMethod yX9_use ∈ lw_tbl := List.mem_of_getElem? (i := 505) (by decide +kernel)
theorem m_506 : Cond.selects RX9 yX9_use yX9_use ∈ lw_tbl := List.mem_of_getElem? (i := 506) (by decide +kernel)
theorem m_512 : Cond.methodLink RL 44 yX9_name ∈ lw_tbl := List.mem_of_getElem? (i := 512) (by decide +kernel)
theorem m_622 : Cond.methodLink RL 48 yX9_sign ∈ lw_tbl := List.mem_of_getElem? (i := 622) (by decide +kernel)
theorem m_623 : Cond.instanceMethod yX9_sign ∈ lw_tbl := List.mem_of_getElem? (i := 623) (by decide +kernel)
theorem m_624 : Cond.selects RX9 yX9_sign yX9_sign ∈ lw_tbl := List.mem_of_getElem? (i := 624) (by decide +kernel)
theorem m_634 : Cond.methodLink RL 52 yX9_digit ∈ lw_tbl := List.mem_of_getElem? (i := 634) (by decide +kernel)
theorem m_635 : Cond.instanceMethod yX9_digit ∈ lw_tbl := List.mem_of_getElem? (i := 635) (by decide +kernel)
theorem m_636 : Cond.selects RX9 yX9_digit yX9_digit ∈ lw_tbl := List.mem_of_getElem? (i := 636) (by decide +kernel)
theorem m_646 : Cond.methodLink RL 56 yX9_laid ∈ lw_tbl := List.mem_of_getElem? (i := 646) (by decide +kernel)
theorem m_647 : Cond.instanceMethod yX9_laid ∈ lw_tbl := List.mem_of_getElem? (i := 647) (by decide +kernel)
theorem m_648 : Cond.selects RX9 yX9_laid yX9_laid ∈ lw_tbl := List.mem_of_getElem? (i := 648) (by decide +kernel)
theorem m_651 : Cond.methodLink RL 60 yX9_about ∈ lw_tbl := List.mem_of_getElem? (i := 651) (by decide +kernel)
theorem m_683 : Cond.methodLink RL 64 yX9_press ∈ lw_tbl := List.mem_of_getElem? (i := 683) (by decide +kernel)
theorem m_684 : Cond.instanceMethod yX9_press ∈ lw_tbl := List.mem_of_getElem? (i := 684) (by decide +kernel)
theorem m_685 : Cond.selects RX9 yX9_press yX9_press ∈ lw_tbl := List.mem_of_getElem? (i := 685) (by decide +kernel)
theorem m_687 : Cond.methodLink RL 68 yX9_back ∈ lw_tbl := List.mem_of_getElem? (i := 687) (by decide +kernel)
theorem m_688 : Cond.instanceMethod yX9_back ∈ lw_tbl := List.mem_of_getElem? (i := 688) (by decide +kernel)
theorem m_689 : Cond.selects RX9 yX9_back yX9_back ∈ lw_tbl := List.mem_of_getElem? (i := 689) (by decide +kernel)
theorem m_695 : Cond.methodLink RL 72 yX9_wipe ∈ lw_tbl := List.mem_of_getElem? (i := 695) (by decide +kernel)
theorem m_696 : Cond.instanceMethod yX9_wipe ∈ lw_tbl := List.mem_of_getElem? (i := 696) (by decide +kernel)
theorem m_697 : Cond.selects RX9 yX9_wipe yX9_wipe ∈ lw_tbl := List.mem_of_getElem? (i := 697) (by decide +kernel)
theorem m_699 : Cond.methodLink RL 76 yX9_typed ∈ lw_tbl := List.mem_of_getElem? (i := 699) (by decide +kernel)
theorem m_700 : Cond.instanceMethod yX9_typed ∈ lw_tbl := List.mem_of_getElem? (i := 700) (by decide +kernel)
theorem m_701 : Cond.selects RX9 yX9_typed yX9_typed ∈ lw_tbl := List.mem_of_getElem? (i := 701) (by decide +kernel)
theorem m_704 : Cond.methodLink RL 80 yX9_choice ∈ lw_tbl := List.mem_of_getElem? (i := 704) (by decide +kernel)
theorem m_705 : Cond.instanceMethod yX9_choice ∈ lw_tbl := List.mem_of_getElem? (i := 705) (by decide +kernel)
theorem m_706 : Cond.selects RX9 yX9_choice yX9_choice ∈ lw_tbl := List.mem_of_getElem? (i := 706) (by decide +kernel)
theorem m_733 : Cond.methodLink RL 84 yX9_spelling ∈ lw_tbl := List.mem_of_getElem? (i := 733) (by decide +kernel)
theorem m_734 : Cond.instanceMethod yX9_spelling ∈ lw_tbl := List.mem_of_getElem? (i := 734) (by decide +kernel)
theorem m_735 : Cond.selects RX9 yX9_spelling yX9_spelling ∈ lw_tbl := List.mem_of_getElem? (i := 735) (by decide +kernel)
theorem m_784 : Cond.methodLink RL 88 yX9_piece ∈ lw_tbl := List.mem_of_getElem? (i := 784) (by decide +kernel)
theorem m_785 : Cond.instanceMethod yX9_piece ∈ lw_tbl := List.mem_of_getElem? (i := 785) (by decide +kernel)
theorem m_786 : Cond.selects RX9 yX9_piece yX9_piece ∈ lw_tbl := List.mem_of_getElem? (i := 786) (by decide +kernel)
theorem m_792 : Cond.methodLink RL 92 yX9_build ∈ lw_tbl := List.mem_of_getElem? (i := 792) (by decide +kernel)
theorem m_793 : Cond.instanceMethod yX9_build ∈ lw_tbl := List.mem_of_getElem? (i := 793) (by decide +kernel)
theorem m_794 : Cond.selects RX9 yX9_build yX9_build ∈ lw_tbl := List.mem_of_getElem? (i := 794) (by decide +kernel)
theorem m_805 : Cond.methodLink RL 96 yX9_tend ∈ lw_tbl := List.mem_of_getElem? (i := 805) (by decide +kernel)
theorem m_806 : Cond.instanceMethod yX9_tend ∈ lw_tbl := List.mem_of_getElem? (i := 806) (by decide +kernel)
theorem m_807 : Cond.selects RX9 yX9_tend yX9_tend ∈ lw_tbl := List.mem_of_getElem? (i := 807) (by decide +kernel)
theorem m_825 : Cond.methodLink RL 100 yX9_path ∈ lw_tbl := List.mem_of_getElem? (i := 825) (by decide +kernel)
theorem m_826 : Cond.instanceMethod yX9_path ∈ lw_tbl := List.mem_of_getElem? (i := 826) (by decide +kernel)
theorem m_827 : Cond.selects RX9 yX9_path yX9_path ∈ lw_tbl := List.mem_of_getElem? (i := 827) (by decide +kernel)
theorem m_830 : Cond.methodLink RL 104 yX9_leads ∈ lw_tbl := List.mem_of_getElem? (i := 830) (by decide +kernel)
theorem m_831 : Cond.instanceMethod yX9_leads ∈ lw_tbl := List.mem_of_getElem? (i := 831) (by decide +kernel)
theorem m_832 : Cond.selects RX9 yX9_leads yX9_leads ∈ lw_tbl := List.mem_of_getElem? (i := 832) (by decide +kernel)
theorem m_850 : Cond.methodLink RL 108 yX9_menu ∈ lw_tbl := List.mem_of_getElem? (i := 850) (by decide +kernel)
theorem m_866 : Cond.methodLink RL 112 yX9_count ∈ lw_tbl := List.mem_of_getElem? (i := 866) (by decide +kernel)
theorem m_870 : Cond.methodLink RL 116 yX9_digest ∈ lw_tbl := List.mem_of_getElem? (i := 870) (by decide +kernel)
theorem m_871 : Cond.instanceMethod yX9_digest ∈ lw_tbl := List.mem_of_getElem? (i := 871) (by decide +kernel)
theorem m_872 : Cond.selects RX9 yX9_digest yX9_digest ∈ lw_tbl := List.mem_of_getElem? (i := 872) (by decide +kernel)
theorem m_894 : Cond.classLink RL 10 RX10 ∈ lw_tbl := List.mem_of_getElem? (i := 894) (by decide +kernel)
theorem m_895 : Cond.instantiable RX10 33 ∈ lw_tbl := List.mem_of_getElem? (i := 895) (by decide +kernel)
theorem m_896 : Cond.methodLink RL 12 yX10_init ∈ lw_tbl := List.mem_of_getElem? (i := 896) (by decide +kernel)
theorem m_897 : Cond.instanceMethod yX10_init ∈ lw_tbl := List.mem_of_getElem? (i := 897) (by decide +kernel)
theorem m_1000 : Cond.methodLink RL 17 yX10_letter ∈ lw_tbl := List.mem_of_getElem? (i := 1000) (by decide +kernel)
theorem m_1001 : Cond.instanceMethod yX10_letter ∈ lw_tbl := List.mem_of_getElem? (i := 1001) (by decide +kernel)
theorem m_1002 : Cond.selects RX10 yX10_letter yX10_letter ∈ lw_tbl := List.mem_of_getElem? (i := 1002) (by decide +kernel)
theorem m_1007 : Cond.methodLink RL 22 yX10_blank ∈ lw_tbl := List.mem_of_getElem? (i := 1007) (by decide +kernel)
theorem m_1008 : Cond.instanceMethod yX10_blank ∈ lw_tbl := List.mem_of_getElem? (i := 1008) (by decide +kernel)
theorem m_1009 : Cond.selects RX10 yX10_blank yX10_blank ∈ lw_tbl := List.mem_of_getElem? (i := 1009) (by decide +kernel)
theorem m_1011 : Cond.methodLink RL 26 yX10_fault ∈ lw_tbl := List.mem_of_getElem? (i := 1011) (by decide +kernel)
theorem m_1012 : Cond.instanceMethod yX10_fault ∈ lw_tbl := List.mem_of_getElem? (i := 1012) (by decide +kernel)
theorem m_1013 : Cond.selects RX10 yX10_fault yX10_fault ∈ lw_tbl := List.mem_of_getElem? (i := 1013) (by decide +kernel)
theorem m_1039 : Cond.methodLink RL 30 yX10_names ∈ lw_tbl := List.mem_of_getElem? (i := 1039) (by decide +kernel)
theorem m_1040 : Cond.instanceMethod yX10_names ∈ lw_tbl := List.mem_of_getElem? (i := 1040) (by decide +kernel)
theorem m_1041 : Cond.selects RX10 yX10_names yX10_names ∈ lw_tbl := List.mem_of_getElem? (i := 1041) (by decide +kernel)
theorem m_1059 : Cond.methodLink RL 34 yX10_dial ∈ lw_tbl := List.mem_of_getElem? (i := 1059) (by decide +kernel)
theorem m_1060 : Cond.instanceMethod yX10_dial ∈ lw_tbl := List.mem_of_getElem? (i := 1060) (by decide +kernel)
theorem m_1061 : Cond.selects RX10 yX10_dial yX10_dial ∈ lw_tbl := List.mem_of_getElem? (i := 1061) (by decide +kernel)
theorem m_1067 : Cond.methodLink RL 38 yX10_drop ∈ lw_tbl := List.mem_of_getElem? (i := 1067) (by decide +kernel)
theorem m_1068 : Cond.instanceMethod yX10_drop ∈ lw_tbl := List.mem_of_getElem? (i := 1068) (by decide +kernel)
theorem m_1069 : Cond.selects RX10 yX10_drop yX10_drop ∈ lw_tbl := List.mem_of_getElem? (i := 1069) (by decide +kernel)
theorem m_1075 : Cond.methodLink RL 43 yX10_use ∈ lw_tbl := List.mem_of_getElem? (i := 1075) (by decide +kernel)
theorem m_1076 : Cond.instanceMethod yX10_use ∈ lw_tbl := List.mem_of_getElem? (i := 1076) (by decide +kernel)
theorem m_1077 : Cond.selects RX10 yX10_use yX10_use ∈ lw_tbl := List.mem_of_getElem? (i := 1077) (by decide +kernel)
theorem m_1079 : Cond.methodLink RL 47 yX10_name ∈ lw_tbl := List.mem_of_getElem? (i := 1079) (by decide +kernel)
theorem m_1080 : Cond.instanceMethod yX10_name ∈ lw_tbl := List.mem_of_getElem? (i := 1080) (by decide +kernel)
theorem m_1081 : Cond.selects RX10 yX10_name yX10_name ∈ lw_tbl := List.mem_of_getElem? (i := 1081) (by decide +kernel)
theorem m_1160 : Cond.methodLink RL 51 yX10_sign ∈ lw_tbl := List.mem_of_getElem? (i := 1160) (by decide +kernel)
theorem m_1161 : Cond.instanceMethod yX10_sign ∈ lw_tbl := List.mem_of_getElem? (i := 1161) (by decide +kernel)
theorem m_1162 : Cond.selects RX10 yX10_sign yX10_sign ∈ lw_tbl := List.mem_of_getElem? (i := 1162) (by decide +kernel)
theorem m_1164 : Cond.methodLink RL 55 yX10_digit ∈ lw_tbl := List.mem_of_getElem? (i := 1164) (by decide +kernel)
theorem m_1165 : Cond.instanceMethod yX10_digit ∈ lw_tbl := List.mem_of_getElem? (i := 1165) (by decide +kernel)
theorem m_1166 : Cond.selects RX10 yX10_digit yX10_digit ∈ lw_tbl := List.mem_of_getElem? (i := 1166) (by decide +kernel)
theorem m_1168 : Cond.methodLink RL 59 yX10_laid ∈ lw_tbl := List.mem_of_getElem? (i := 1168) (by decide +kernel)
theorem m_1169 : Cond.instanceMethod yX10_laid ∈ lw_tbl := List.mem_of_getElem? (i := 1169) (by decide +kernel)
theorem m_1170 : Cond.selects RX10 yX10_laid yX10_laid ∈ lw_tbl := List.mem_of_getElem? (i := 1170) (by decide +kernel)
theorem m_1172 : Cond.methodLink RL 63 yX10_about ∈ lw_tbl := List.mem_of_getElem? (i := 1172) (by decide +kernel)
theorem m_1173 : Cond.instanceMethod yX10_about ∈ lw_tbl := List.mem_of_getElem? (i := 1173) (by decide +kernel)
theorem m_1174 : Cond.selects RX10 yX10_about yX10_about ∈ lw_tbl := List.mem_of_getElem? (i := 1174) (by decide +kernel)
theorem m_1204 : Cond.methodLink RL 67 yX10_press ∈ lw_tbl := List.mem_of_getElem? (i := 1204) (by decide +kernel)
theorem m_1205 : Cond.instanceMethod yX10_press ∈ lw_tbl := List.mem_of_getElem? (i := 1205) (by decide +kernel)
theorem m_1206 : Cond.selects RX10 yX10_press yX10_press ∈ lw_tbl := List.mem_of_getElem? (i := 1206) (by decide +kernel)
theorem m_1208 : Cond.methodLink RL 71 yX10_back ∈ lw_tbl := List.mem_of_getElem? (i := 1208) (by decide +kernel)
theorem m_1209 : Cond.instanceMethod yX10_back ∈ lw_tbl := List.mem_of_getElem? (i := 1209) (by decide +kernel)
theorem m_1210 : Cond.selects RX10 yX10_back yX10_back ∈ lw_tbl := List.mem_of_getElem? (i := 1210) (by decide +kernel)
theorem m_1212 : Cond.methodLink RL 75 yX10_wipe ∈ lw_tbl := List.mem_of_getElem? (i := 1212) (by decide +kernel)
theorem m_1213 : Cond.instanceMethod yX10_wipe ∈ lw_tbl := List.mem_of_getElem? (i := 1213) (by decide +kernel)
theorem m_1214 : Cond.selects RX10 yX10_wipe yX10_wipe ∈ lw_tbl := List.mem_of_getElem? (i := 1214) (by decide +kernel)
theorem m_1216 : Cond.methodLink RL 79 yX10_typed ∈ lw_tbl := List.mem_of_getElem? (i := 1216) (by decide +kernel)
theorem m_1217 : Cond.instanceMethod yX10_typed ∈ lw_tbl := List.mem_of_getElem? (i := 1217) (by decide +kernel)
theorem m_1218 : Cond.selects RX10 yX10_typed yX10_typed ∈ lw_tbl := List.mem_of_getElem? (i := 1218) (by decide +kernel)
theorem m_1220 : Cond.methodLink RL 83 yX10_choice ∈ lw_tbl := List.mem_of_getElem? (i := 1220) (by decide +kernel)
theorem m_1232 : Cond.methodLink RL 87 yX10_spelling ∈ lw_tbl := List.mem_of_getElem? (i := 1232) (by decide +kernel)
theorem m_1233 : Cond.instanceMethod yX10_spelling ∈ lw_tbl := List.mem_of_getElem? (i := 1233) (by decide +kernel)
theorem m_1234 : Cond.selects RX10 yX10_spelling yX10_spelling ∈ lw_tbl := List.mem_of_getElem? (i := 1234) (by decide +kernel)
theorem m_1253 : Cond.methodLink RL 91 yX10_piece ∈ lw_tbl := List.mem_of_getElem? (i := 1253) (by decide +kernel)
theorem m_1254 : Cond.instanceMethod yX10_piece ∈ lw_tbl := List.mem_of_getElem? (i := 1254) (by decide +kernel)
theorem m_1255 : Cond.selects RX10 yX10_piece yX10_piece ∈ lw_tbl := List.mem_of_getElem? (i := 1255) (by decide +kernel)
theorem m_1265 : Cond.methodLink RL 95 yX10_build ∈ lw_tbl := List.mem_of_getElem? (i := 1265) (by decide +kernel)
theorem m_1266 : Cond.instanceMethod yX10_build ∈ lw_tbl := List.mem_of_getElem? (i := 1266) (by decide +kernel)
theorem m_1267 : Cond.selects RX10 yX10_build yX10_build ∈ lw_tbl := List.mem_of_getElem? (i := 1267) (by decide +kernel)
theorem m_1281 : Cond.methodLink RL 99 yX10_tend ∈ lw_tbl := List.mem_of_getElem? (i := 1281) (by decide +kernel)
theorem m_1282 : Cond.instanceMethod yX10_tend ∈ lw_tbl := List.mem_of_getElem? (i := 1282) (by decide +kernel)
theorem m_1283 : Cond.selects RX10 yX10_tend yX10_tend ∈ lw_tbl := List.mem_of_getElem? (i := 1283) (by decide +kernel)
theorem m_1289 : Cond.methodLink RL 103 yX10_path ∈ lw_tbl := List.mem_of_getElem? (i := 1289) (by decide +kernel)
theorem m_1290 : Cond.instanceMethod yX10_path ∈ lw_tbl := List.mem_of_getElem? (i := 1290) (by decide +kernel)
theorem m_1291 : Cond.selects RX10 yX10_path yX10_path ∈ lw_tbl := List.mem_of_getElem? (i := 1291) (by decide +kernel)
theorem m_1293 : Cond.methodLink RL 107 yX10_leads ∈ lw_tbl := List.mem_of_getElem? (i := 1293) (by decide +kernel)
theorem m_1294 : Cond.instanceMethod yX10_leads ∈ lw_tbl := List.mem_of_getElem? (i := 1294) (by decide +kernel)
theorem m_1295 : Cond.selects RX10 yX10_leads yX10_leads ∈ lw_tbl := List.mem_of_getElem? (i := 1295) (by decide +kernel)
theorem m_1305 : Cond.methodLink RL 111 yX10_menu ∈ lw_tbl := List.mem_of_getElem? (i := 1305) (by decide +kernel)
theorem m_1306 : Cond.instanceMethod yX10_menu ∈ lw_tbl := List.mem_of_getElem? (i := 1306) (by decide +kernel)
theorem m_1307 : Cond.selects RX10 yX10_menu yX10_menu ∈ lw_tbl := List.mem_of_getElem? (i := 1307) (by decide +kernel)
theorem m_1329 : Cond.methodLink RL 115 yX10_count ∈ lw_tbl := List.mem_of_getElem? (i := 1329) (by decide +kernel)
theorem m_1330 : Cond.instanceMethod yX10_count ∈ lw_tbl := List.mem_of_getElem? (i := 1330) (by decide +kernel)
theorem m_1331 : Cond.selects RX10 yX10_count yX10_count ∈ lw_tbl := List.mem_of_getElem? (i := 1331) (by decide +kernel)
theorem m_1337 : Cond.methodLink RL 120 yX10_digest ∈ lw_tbl := List.mem_of_getElem? (i := 1337) (by decide +kernel)
theorem m_1338 : Cond.instanceMethod yX10_digest ∈ lw_tbl := List.mem_of_getElem? (i := 1338) (by decide +kernel)
theorem m_1339 : Cond.selects RX10 yX10_digest yX10_digest ∈ lw_tbl := List.mem_of_getElem? (i := 1339) (by decide +kernel)
/-- a place of the script -/
def sld (L : Nat) (xs : Nat → Int32) (i : Int32) : Option Int32 := if inA i L then some (xs i.toInt.toNat) else none
/-- the law's own frame: its script, its end -/
def LG (g : XC) (b L : Nat) (xs : Nat → Int32) : Prop := g.2.2.2.2.2.2.1 = #[Value.ref b] ∧ g.2.2.2.2.2.2.2.2.1.sig.returnType = ret ∧ g.2.2.2.2.2.2.2.2.1.locks = false ∧ g.2.2.2.2.2.2.2.2.2.2 = lw_Z g.2.2.2.2.2.2.2.1 #[Value.ref b] g.2.2.2.2.1 ∧ nB g.1 = g.2.2.2.2.1.heap.size ∧ va_X b L xs g.2.2.2.2.1 g.2.2.2.2.1.heap ∧ b < g.2.2.2.2.1.heap.size
section
variable {α : Type} {g : XC} {x0 : α} {own : String} {nL fr lo mc ms k n pc b L : Nat} {xs : Nat → Int32} {lv lv' : List (Nat × Value)} {st : List Value} {h : Hp} {cc : ByteArray}
theorem X_slen (hg : XG g own cc nL fr lo mc ms) (hr : LG g b L xs) {o : Option α} (d : decode cc pc = .ok (.arraylength, 1)) (kk : Xo g x0 nL k n (pc + 1) lv (.int (Int32.ofNat L) :: st) h o) : Xo g x0 nL k n pc lv (.ref b :: st) h o := fun ho ls H locs hl hP hS =>
  va_slen hg.1 hg.2.1 hr.2.2.2.2.2.1 hr.2.2.2.2.2.2 (by rw [hr.2.2.2.2.1]; exact Nat.not_le.mpr hr.2.2.2.2.2.2) hS d (kk ho ls H locs hl hP hS)
theorem X_sld (hg : XG g own cc nL fr lo mc ms) (hr : LG g b L xs) {i : Int32} (d : decode cc pc = .ok (.iaload, 1)) {K : Int32 → Option α} (kk : ∀ x, sld L xs i = some x → Xo g x0 nL k n (pc + 1) lv (.int x :: st) h (K x)) : Xo g x0 nL k n pc lv (.int i :: .ref b :: st) h ((sld L xs i).bind K) := X_bd fun x e ho ls H locs hl hP hS => by
  have e' := e
  unfold sld at e'
  split at e'
  · next q =>
    have ex : x = xs i.toNatClampNeg := (Option.some.inj e').symm
    have K1 := kk x e ho ls H locs hl hP hS
    rw [ex] at K1
    exact va_sld hg.1 hg.2.1 hr.2.2.2.2.2.1 hr.2.2.2.2.2.2 (by rw [hr.2.2.2.2.1]; exact Nat.not_le.mpr hr.2.2.2.2.2.2) hS (inA_vp q) d K1
  · cases e'
theorem X_lret0 : Xo g (nI 1) nL k n pc lv st h (some (nI 0)) := fun ho => absurd ho (by decide)
theorem X_lret1 (hg : XG g RL code nL fr lo 600000 7302250) (hr : LG g b L xs) (hR : g.2.2.2.1 = room_1) (hk : k ≤ 600000) (hn : n ≤ 7302250) (d : decode code pc = .ok (.ireturn, 1)) : Xo g (nI 1) nL k n pc lv [.int (nI 1)] h (some (nI 1)) := fun ho ls H locs hl hP hS => by
  refine va_forget (fun q hq => by rw [← hr.2.2.2.2.1]; exact hS.2.2 q hq) ?_
  refine W.widen (k := 600000) (n := 7302250) hk hn ?_
  rw [hr.2.2.2.1, hr.1, hR]
  exact lw_ret hg.1 hg.2.1 hr.2.1 hr.2.2.1 d
end
def f_L_law_L18 (L : Nat) (xs : Nat → Int32) (l0 : Nat) (l1 : Nat) (l2 : Nat) (K : Hp → Option (Int32)) : Nat → Int32 → Hp → Option (Int32)
  | 0, _, _ => none
  | n + 1, l3, h => if ((Int32.ofNat L) - (nI 3)) < l3 then (K  h) else ((sld L xs l3).bind fun x5 => if (x5 &&& (nI 31)) = (nI 0) then ((sld L xs (l3 + (nI 1))).bind fun x6 => (f_X9_letter l1 x6 h).bind fun p7 => (sld L xs (l3 + (nI 1))).bind fun x8 => (f_X10_letter l2 x8 p7.2).bind fun p9 => if p7.1 = p9.1 then (f_L_law_L18 L xs l0 l1 l2 K n (l3 + (nI 3)) p9.2) else (some (nI 0))) else (if (x5 &&& (nI 31)) = (nI 1) then ((f_X9_blank l1 h).bind fun p12 => (f_X10_blank l2 p12.2).bind fun p13 => if p12.1 = p13.1 then (f_L_law_L18 L xs l0 l1 l2 K n (l3 + (nI 3)) p13.2) else (some (nI 0))) else (if (x5 &&& (nI 31)) = (nI 2) then ((f_X9_fault l1 h).bind fun p16 => (f_X10_fault l2 p16.2).bind fun p17 => if p16.1 = p17.1 then (f_L_law_L18 L xs l0 l1 l2 K n (l3 + (nI 3)) p17.2) else (some (nI 0))) else (if (x5 &&& (nI 31)) = (nI 3) then ((f_X9_names l1 h).bind fun p20 => (f_X10_names l2 p20.2).bind fun p21 => if p20.1 = p21.1 then (f_L_law_L18 L xs l0 l1 l2 K n (l3 + (nI 3)) p21.2) else (some (nI 0))) else (if (x5 &&& (nI 31)) = (nI 4) then ((f_X9_dial l1 h).bind fun p24 => (f_X10_dial l2 p24.2).bind fun p25 => if p24.1 = p25.1 then (f_L_law_L18 L xs l0 l1 l2 K n (l3 + (nI 3)) p25.2) else (some (nI 0))) else (if (x5 &&& (nI 31)) = (nI 5) then ((sld L xs (l3 + (nI 1))).bind fun x28 => (f_X9_drop l1 x28 h).bind fun p29 => (sld L xs (l3 + (nI 1))).bind fun x30 => (f_X10_drop l2 x30 p29.2).bind fun p31 => if p29.1 = p31.1 then (f_L_law_L18 L xs l0 l1 l2 K n (l3 + (nI 3)) p31.2) else (some (nI 0))) else (if (x5 &&& (nI 31)) = (nI 6) then ((sld L xs (l3 + (nI 1))).bind fun x34 => (sld L xs (l3 + (nI 2))).bind fun x35 => (f_X9_use l1 x34 x35 h).bind fun p36 => (sld L xs (l3 + (nI 1))).bind fun x37 => (sld L xs (l3 + (nI 2))).bind fun x38 => (f_X10_use l2 x37 x38 p36.2).bind fun p39 => if p36.1 = p39.1 then (f_L_law_L18 L xs l0 l1 l2 K n (l3 + (nI 3)) p39.2) else (some (nI 0))) else (if (x5 &&& (nI 31)) = (nI 7) then ((sld L xs (l3 + (nI 1))).bind fun x42 => (sld L xs (l3 + (nI 2))).bind fun x43 => (f_X9_name l1 x42 x43 h).bind fun p44 => (sld L xs (l3 + (nI 1))).bind fun x45 => (sld L xs (l3 + (nI 2))).bind fun x46 => (f_X10_name l2 x45 x46 p44.2).bind fun p47 => if p44.1 = p47.1 then (f_L_law_L18 L xs l0 l1 l2 K n (l3 + (nI 3)) p47.2) else (some (nI 0))) else (if (x5 &&& (nI 31)) = (nI 8) then ((sld L xs (l3 + (nI 1))).bind fun x50 => (sld L xs (l3 + (nI 2))).bind fun x51 => (f_X9_sign l1 x50 x51 h).bind fun x52 => (sld L xs (l3 + (nI 1))).bind fun x53 => (sld L xs (l3 + (nI 2))).bind fun x54 => (f_X10_sign l2 x53 x54 h).bind fun x55 => if x52 = x55 then (f_L_law_L18 L xs l0 l1 l2 K n (l3 + (nI 3)) h) else (some (nI 0))) else (if (x5 &&& (nI 31)) = (nI 9) then ((sld L xs (l3 + (nI 1))).bind fun x58 => (sld L xs (l3 + (nI 2))).bind fun x59 => (f_X9_digit l1 x58 x59 h).bind fun x60 => (sld L xs (l3 + (nI 1))).bind fun x61 => (sld L xs (l3 + (nI 2))).bind fun x62 => (f_X10_digit l2 x61 x62 h).bind fun x63 => if x60 = x63 then (f_L_law_L18 L xs l0 l1 l2 K n (l3 + (nI 3)) h) else (some (nI 0))) else (if (x5 &&& (nI 31)) = (nI 10) then ((sld L xs (l3 + (nI 1))).bind fun x66 => (f_X9_laid l1 x66 h).bind fun x67 => (sld L xs (l3 + (nI 1))).bind fun x68 => (f_X10_laid l2 x68 h).bind fun x69 => if x67 = x69 then (f_L_law_L18 L xs l0 l1 l2 K n (l3 + (nI 3)) h) else (some (nI 0))) else (if (x5 &&& (nI 31)) = (nI 11) then ((sld L xs (l3 + (nI 1))).bind fun x72 => (f_X9_about l1 x72 h).bind fun x73 => (sld L xs (l3 + (nI 1))).bind fun x74 => (f_X10_about l2 x74 h).bind fun x75 => if x73 = x75 then (f_L_law_L18 L xs l0 l1 l2 K n (l3 + (nI 3)) h) else (some (nI 0))) else (if (x5 &&& (nI 31)) = (nI 12) then ((sld L xs (l3 + (nI 1))).bind fun x78 => (f_X9_press l1 x78 h).bind fun p79 => (sld L xs (l3 + (nI 1))).bind fun x80 => (f_X10_press l2 x80 p79.2).bind fun p81 => if p79.1 = p81.1 then (f_L_law_L18 L xs l0 l1 l2 K n (l3 + (nI 3)) p81.2) else (some (nI 0))) else (if (x5 &&& (nI 31)) = (nI 13) then ((f_X9_back l1 h).bind fun p84 => (f_X10_back l2 p84.2).bind fun p85 => if p84.1 = p85.1 then (f_L_law_L18 L xs l0 l1 l2 K n (l3 + (nI 3)) p85.2) else (some (nI 0))) else (if (x5 &&& (nI 31)) = (nI 14) then ((f_X9_wipe l1 h).bind fun p88 => (f_X10_wipe l2 p88.2).bind fun p89 => if p88.1 = p89.1 then (f_L_law_L18 L xs l0 l1 l2 K n (l3 + (nI 3)) p89.2) else (some (nI 0))) else (if (x5 &&& (nI 31)) = (nI 15) then ((sld L xs (l3 + (nI 1))).bind fun x92 => (f_X9_typed l1 x92 h).bind fun x93 => (sld L xs (l3 + (nI 1))).bind fun x94 => (f_X10_typed l2 x94 h).bind fun x95 => if x93 = x95 then (f_L_law_L18 L xs l0 l1 l2 K n (l3 + (nI 3)) h) else (some (nI 0))) else (if (x5 &&& (nI 31)) = (nI 16) then ((sld L xs (l3 + (nI 1))).bind fun x98 => (f_X9_choice l1 x98 h).bind fun p99 => (sld L xs (l3 + (nI 1))).bind fun x100 => (f_X10_choice l2 x100 p99.2).bind fun x101 => if p99.1 = x101 then (f_L_law_L18 L xs l0 l1 l2 K n (l3 + (nI 3)) p99.2) else (some (nI 0))) else (if (x5 &&& (nI 31)) = (nI 17) then ((sld L xs (l3 + (nI 1))).bind fun x104 => (f_X9_spelling l1 x104 h).bind fun p105 => (sld L xs (l3 + (nI 1))).bind fun x106 => (f_X10_spelling l2 x106 p105.2).bind fun p107 => if p105.1 = p107.1 then (f_L_law_L18 L xs l0 l1 l2 K n (l3 + (nI 3)) p107.2) else (some (nI 0))) else (if (x5 &&& (nI 31)) = (nI 18) then ((sld L xs (l3 + (nI 1))).bind fun x110 => (f_X9_piece l1 x110 h).bind fun p111 => (sld L xs (l3 + (nI 1))).bind fun x112 => (f_X10_piece l2 x112 p111.2).bind fun p113 => if p111.1 = p113.1 then (f_L_law_L18 L xs l0 l1 l2 K n (l3 + (nI 3)) p113.2) else (some (nI 0))) else (if (x5 &&& (nI 31)) = (nI 19) then ((sld L xs (l3 + (nI 1))).bind fun x116 => (f_X9_build l1 x116 h).bind fun p117 => (sld L xs (l3 + (nI 1))).bind fun x118 => (f_X10_build l2 x118 p117.2).bind fun p119 => if p117.1 = p119.1 then (f_L_law_L18 L xs l0 l1 l2 K n (l3 + (nI 3)) p119.2) else (some (nI 0))) else (if (x5 &&& (nI 31)) = (nI 20) then ((sld L xs (l3 + (nI 1))).bind fun x122 => (f_X9_tend l1 x122 h).bind fun p123 => (sld L xs (l3 + (nI 1))).bind fun x124 => (f_X10_tend l2 x124 p123.2).bind fun p125 => if p123.1 = p125.1 then (f_L_law_L18 L xs l0 l1 l2 K n (l3 + (nI 3)) p125.2) else (some (nI 0))) else (if (x5 &&& (nI 31)) = (nI 21) then ((sld L xs (l3 + (nI 1))).bind fun x128 => (sld L xs (l3 + (nI 2))).bind fun x129 => (f_X9_path l1 x128 x129 h).bind fun x130 => (sld L xs (l3 + (nI 1))).bind fun x131 => (sld L xs (l3 + (nI 2))).bind fun x132 => (f_X10_path l2 x131 x132 h).bind fun x133 => if x130 = x133 then (f_L_law_L18 L xs l0 l1 l2 K n (l3 + (nI 3)) h) else (some (nI 0))) else (if (x5 &&& (nI 31)) = (nI 22) then ((sld L xs (l3 + (nI 1))).bind fun x136 => (f_X9_leads l1 x136 h).bind fun p137 => (sld L xs (l3 + (nI 1))).bind fun x138 => (f_X10_leads l2 x138 p137.2).bind fun p139 => if p137.1 = p139.1 then (f_L_law_L18 L xs l0 l1 l2 K n (l3 + (nI 3)) p139.2) else (some (nI 0))) else (if (x5 &&& (nI 31)) = (nI 23) then ((sld L xs (l3 + (nI 1))).bind fun x142 => (f_X9_menu l1 x142 h).bind fun p143 => (sld L xs (l3 + (nI 1))).bind fun x144 => (f_X10_menu l2 x144 p143.2).bind fun p145 => if p143.1 = p145.1 then (f_L_law_L18 L xs l0 l1 l2 K n (l3 + (nI 3)) p145.2) else (some (nI 0))) else (if (x5 &&& (nI 31)) = (nI 24) then ((sld L xs (l3 + (nI 1))).bind fun x148 => (f_X9_count l1 x148 h).bind fun x149 => (sld L xs (l3 + (nI 1))).bind fun x150 => (f_X10_count l2 x150 h).bind fun x151 => if x149 = x151 then (f_L_law_L18 L xs l0 l1 l2 K n (l3 + (nI 3)) h) else (some (nI 0))) else (if (x5 &&& (nI 31)) = (nI 25) then ((f_X9_digest l1 h).bind fun p154 => (f_X10_digest l2 p154.2).bind fun p155 => if p154.1 = p155.1 then (f_L_law_L18 L xs l0 l1 l2 K n (l3 + (nI 3)) p155.2) else (some (nI 0))) else (f_L_law_L18 L xs l0 l1 l2 K n (l3 + (nI 3)) h)))))))))))))))))))))))))))
def f_L_law (l0 L : Nat) (xs : Nat → Int32) (h : Hp) : Option Int32 := (some (newC h 9 0 (fun _ => 0))).bind fun h1 => (f_X9_init (hN h) h1).bind fun h2 => (some (newC h2 10 0 (fun _ => 0))).bind fun h3 => (f_X10_init (hN h2) h3).bind fun h4 => f_L_law_L18 L xs l0 (hN h) (hN h2) (fun h159 => some (nI 1)) 513 (nI 0) h4
set_option maxRecDepth 10000 in
theorem l_L_law_18 {g : XC} (L : Nat) (xs : Nat → Int32) (hg : XG g RL code 4 10 372 600000 7302250) (l0 : Nat) (l1 : Nat) (l2 : Nat) (hr : LG g l0 L xs) (K : Hp → Option (Int32)) (hK0 : ∀ (k n0 : Nat), k ≤ 600000 → n0 ≤ 7302250 → ∀  (h : Hp), Xo g (nI 1) 4 k n0 737 [] [] h (K  h)) : ∀ (n k n0 : Nat), k + 48 * n ≤ 600000 → n0 + 304 * n ≤ 7302250 → ∀ (l3 : Int32) (h : Hp), Xo g (nI 1) 4 k n0 18 [(0, .ref l0), (1, .ref (nB g.1 + l1)), (2, .ref (nB g.1 + l2)), (3, .int l3)] [] h (f_L_law_L18 L xs l0 l1 l2 K n l3 h) := by
  intro n
  induction n with
  | zero =>
    intro k n0 _ _
    intro l3 h
    exact X_none
  | succ n ih =>
    intro k n0 hk1 hn1
    intro l3 h
    unfold f_L_law_L18
    refine X_iload_n hg 3 rfl dL_law_18 ?_
    refine X_aload_n hg 0 rfl dL_law_19 ?_
    refine X_slen hg hr dL_law_20 ?_
    refine X_iconst hg ic_i_3 dL_law_21 ?_
    refine X_isub hg dL_law_22 ?_
    refine X_icmp_gt hg (tgt := 737) dL_law_23 rfl (fun c158 => ?_) (fun c158 => ?_)
    · refine X_lv [] rfl ?_
      exact hK0 _ _ (by omega) (by omega)  _
    · refine X_aload_n hg 0 rfl dL_law_26 ?_
      refine X_iload_n hg 3 rfl dL_law_27 ?_
      refine X_sld hg hr dL_law_28 (fun x5 _ => ?_)
      refine X_bipush hg ic_b_31 dL_law_29 ?_
      refine X_iand hg dL_law_31 ?_
      refine X_tsw hg (v := (nI 0)) (tgt := 152) dL_law_32 (by decide) (by decide) rfl rfl (fun c11 => ?_) (fun c11 => ?_)
      · refine X_aload_n hg 1 rfl dL_law_152 ?_
        refine X_aload_n hg 0 rfl dL_law_153 ?_
        refine X_iload_n hg 3 rfl dL_law_154 ?_
        refine X_iconst hg ic_i_1 dL_law_155 ?_
        refine X_iadd hg dL_law_156 ?_
        refine X_sld hg hr dL_law_157 (fun x6 _ => ?_)
        refine X_cVIW0 hg mf_X9_letter m_324 m_325 m_323 cf_9 (fun _ e => gd_isO e) (fun y e => c_X9_letter g.1 l1 x6 h y e) (As := [.int x6]) rfl (Nat.le_of_ble_eq_true rfl) rfl (Nat.le_of_ble_eq_true rfl) (Nat.le_of_ble_eq_true rfl) (by omega) (by omega) dL_law_158 (fun p7 _ => ?_)
        refine X_aload_n hg 2 rfl dL_law_161 ?_
        refine X_aload_n hg 0 rfl dL_law_162 ?_
        refine X_iload_n hg 3 rfl dL_law_163 ?_
        refine X_iconst hg ic_i_1 dL_law_164 ?_
        refine X_iadd hg dL_law_165 ?_
        refine X_sld hg hr dL_law_166 (fun x8 _ => ?_)
        refine X_cVIW0 hg mf_X10_letter m_1001 m_1002 m_1000 cf_10 (fun _ e => gd_isO e) (fun y e => c_X10_letter g.1 l2 x8 p7.2 y e) (As := [.int x8]) rfl (Nat.le_of_ble_eq_true rfl) rfl (Nat.le_of_ble_eq_true rfl) (Nat.le_of_ble_eq_true rfl) (by omega) (by omega) dL_law_167 (fun p9 _ => ?_)
        refine X_icmp_eq hg (tgt := 731) dL_law_170 rfl (fun c10 => ?_) (fun c10 => ?_)
        · refine X_iinc hg 3 rfl (v := (l3 + (nI 3))) (icc ic_i_3) (Nat.le_of_ble_eq_true rfl) (lv' := [(3, .int (l3 + (nI 3))), (0, .ref l0), (1, .ref (nB g.1 + l1)), (2, .ref (nB g.1 + l2))]) rfl dL_law_731 ?_
          refine X_goto hg (tgt := 18) dL_law_734 rfl ?_
          refine X_lv [1, 2, 3, 0] rfl ?_
          exact ih _ _ (by omega) (by omega) _ _
        · refine X_iconst hg ic_i_0 dL_law_173 ?_
          exact X_lret0
      · skip
        refine X_tsw hg (v := (nI 1)) (tgt := 175) dL_law_32 (by decide) (by decide) rfl rfl (fun c15 => ?_) (fun c15 => ?_)
        · refine X_aload_n hg 1 rfl dL_law_175 ?_
          refine X_cVIW0 hg mf_X9_blank m_341 m_342 m_340 cf_9 (fun _ e => gd_isO e) (fun y e => c_X9_blank g.1 l1 h y e) (As := []) rfl (Nat.le_of_ble_eq_true rfl) rfl (Nat.le_of_ble_eq_true rfl) (Nat.le_of_ble_eq_true rfl) (by omega) (by omega) dL_law_176 (fun p12 _ => ?_)
          refine X_aload_n hg 2 rfl dL_law_179 ?_
          refine X_cVIW0 hg mf_X10_blank m_1008 m_1009 m_1007 cf_10 (fun _ e => gd_isO e) (fun y e => c_X10_blank g.1 l2 p12.2 y e) (As := []) rfl (Nat.le_of_ble_eq_true rfl) rfl (Nat.le_of_ble_eq_true rfl) (Nat.le_of_ble_eq_true rfl) (by omega) (by omega) dL_law_180 (fun p13 _ => ?_)
          refine X_icmp_eq hg (tgt := 731) dL_law_183 rfl (fun c14 => ?_) (fun c14 => ?_)
          · refine X_iinc hg 3 rfl (v := (l3 + (nI 3))) (icc ic_i_3) (Nat.le_of_ble_eq_true rfl) (lv' := [(3, .int (l3 + (nI 3))), (0, .ref l0), (1, .ref (nB g.1 + l1)), (2, .ref (nB g.1 + l2))]) rfl dL_law_731 ?_
            refine X_goto hg (tgt := 18) dL_law_734 rfl ?_
            refine X_lv [1, 2, 3, 0] rfl ?_
            exact ih _ _ (by omega) (by omega) _ _
          · refine X_iconst hg ic_i_0 dL_law_186 ?_
            exact X_lret0
        · skip
          refine X_tsw hg (v := (nI 2)) (tgt := 188) dL_law_32 (by decide) (by decide) rfl rfl (fun c19 => ?_) (fun c19 => ?_)
          · refine X_aload_n hg 1 rfl dL_law_188 ?_
            refine X_cVIW0 hg mf_X9_fault m_349 m_350 m_348 cf_9 (fun _ e => gd_isO e) (fun y e => c_X9_fault g.1 l1 h y e) (As := []) rfl (Nat.le_of_ble_eq_true rfl) rfl (Nat.le_of_ble_eq_true rfl) (Nat.le_of_ble_eq_true rfl) (by omega) (by omega) dL_law_189 (fun p16 _ => ?_)
            refine X_aload_n hg 2 rfl dL_law_192 ?_
            refine X_cVIW0 hg mf_X10_fault m_1012 m_1013 m_1011 cf_10 (fun _ e => gd_isO e) (fun y e => c_X10_fault g.1 l2 p16.2 y e) (As := []) rfl (Nat.le_of_ble_eq_true rfl) rfl (Nat.le_of_ble_eq_true rfl) (Nat.le_of_ble_eq_true rfl) (by omega) (by omega) dL_law_193 (fun p17 _ => ?_)
            refine X_icmp_eq hg (tgt := 731) dL_law_196 rfl (fun c18 => ?_) (fun c18 => ?_)
            · refine X_iinc hg 3 rfl (v := (l3 + (nI 3))) (icc ic_i_3) (Nat.le_of_ble_eq_true rfl) (lv' := [(3, .int (l3 + (nI 3))), (0, .ref l0), (1, .ref (nB g.1 + l1)), (2, .ref (nB g.1 + l2))]) rfl dL_law_731 ?_
              refine X_goto hg (tgt := 18) dL_law_734 rfl ?_
              refine X_lv [1, 2, 3, 0] rfl ?_
              exact ih _ _ (by omega) (by omega) _ _
            · refine X_iconst hg ic_i_0 dL_law_199 ?_
              exact X_lret0
          · skip
            refine X_tsw hg (v := (nI 3)) (tgt := 201) dL_law_32 (by decide) (by decide) rfl rfl (fun c23 => ?_) (fun c23 => ?_)
            · refine X_aload_n hg 1 rfl dL_law_201 ?_
              refine X_cVIW hg mf_X9_names m_386 m_387 m_385 cf_9 (fun _ e => gd_isO e) (fun y e => c_X9_names g.1 l1 h y e) (As := []) rfl (Nat.le_of_ble_eq_true rfl) rfl (Nat.le_of_ble_eq_true rfl) (Nat.le_of_ble_eq_true rfl) (by omega) (by omega) dL_law_202 (fun p20 _ => ?_)
              refine X_aload_n hg 2 rfl dL_law_205 ?_
              refine X_cVIW0 hg mf_X10_names m_1040 m_1041 m_1039 cf_10 (fun _ e => gd_isO e) (fun y e => c_X10_names g.1 l2 p20.2 y e) (As := []) rfl (Nat.le_of_ble_eq_true rfl) rfl (Nat.le_of_ble_eq_true rfl) (Nat.le_of_ble_eq_true rfl) (by omega) (by omega) dL_law_206 (fun p21 _ => ?_)
              refine X_icmp_eq hg (tgt := 731) dL_law_209 rfl (fun c22 => ?_) (fun c22 => ?_)
              · refine X_iinc hg 3 rfl (v := (l3 + (nI 3))) (icc ic_i_3) (Nat.le_of_ble_eq_true rfl) (lv' := [(3, .int (l3 + (nI 3))), (0, .ref l0), (1, .ref (nB g.1 + l1)), (2, .ref (nB g.1 + l2))]) rfl dL_law_731 ?_
                refine X_goto hg (tgt := 18) dL_law_734 rfl ?_
                refine X_lv [1, 2, 3, 0] rfl ?_
                exact ih _ _ (by omega) (by omega) _ _
              · refine X_iconst hg ic_i_0 dL_law_212 ?_
                exact X_lret0
            · skip
              refine X_tsw hg (v := (nI 4)) (tgt := 214) dL_law_32 (by decide) (by decide) rfl rfl (fun c27 => ?_) (fun c27 => ?_)
              · refine X_aload_n hg 1 rfl dL_law_214 ?_
                refine X_cVIW0 hg mf_X9_dial m_469 m_470 m_468 cf_9 (fun _ e => gd_isO e) (fun y e => c_X9_dial g.1 l1 h y e) (As := []) rfl (Nat.le_of_ble_eq_true rfl) rfl (Nat.le_of_ble_eq_true rfl) (Nat.le_of_ble_eq_true rfl) (by omega) (by omega) dL_law_215 (fun p24 _ => ?_)
                refine X_aload_n hg 2 rfl dL_law_218 ?_
                refine X_cVIW0 hg mf_X10_dial m_1060 m_1061 m_1059 cf_10 (fun _ e => gd_isO e) (fun y e => c_X10_dial g.1 l2 p24.2 y e) (As := []) rfl (Nat.le_of_ble_eq_true rfl) rfl (Nat.le_of_ble_eq_true rfl) (Nat.le_of_ble_eq_true rfl) (by omega) (by omega) dL_law_219 (fun p25 _ => ?_)
                refine X_icmp_eq hg (tgt := 731) dL_law_222 rfl (fun c26 => ?_) (fun c26 => ?_)
                · refine X_iinc hg 3 rfl (v := (l3 + (nI 3))) (icc ic_i_3) (Nat.le_of_ble_eq_true rfl) (lv' := [(3, .int (l3 + (nI 3))), (0, .ref l0), (1, .ref (nB g.1 + l1)), (2, .ref (nB g.1 + l2))]) rfl dL_law_731 ?_
                  refine X_goto hg (tgt := 18) dL_law_734 rfl ?_
                  refine X_lv [1, 2, 3, 0] rfl ?_
                  exact ih _ _ (by omega) (by omega) _ _
                · refine X_iconst hg ic_i_0 dL_law_225 ?_
                  exact X_lret0
              · skip
                refine X_tsw hg (v := (nI 5)) (tgt := 227) dL_law_32 (by decide) (by decide) rfl rfl (fun c33 => ?_) (fun c33 => ?_)
                · refine X_aload_n hg 1 rfl dL_law_227 ?_
                  refine X_aload_n hg 0 rfl dL_law_228 ?_
                  refine X_iload_n hg 3 rfl dL_law_229 ?_
                  refine X_iconst hg ic_i_1 dL_law_230 ?_
                  refine X_iadd hg dL_law_231 ?_
                  refine X_sld hg hr dL_law_232 (fun x28 _ => ?_)
                  refine X_cVIW0 hg mf_X9_drop m_488 m_489 m_487 cf_9 (fun _ e => gd_isO e) (fun y e => c_X9_drop g.1 l1 x28 h y e) (As := [.int x28]) rfl (Nat.le_of_ble_eq_true rfl) rfl (Nat.le_of_ble_eq_true rfl) (Nat.le_of_ble_eq_true rfl) (by omega) (by omega) dL_law_233 (fun p29 _ => ?_)
                  refine X_aload_n hg 2 rfl dL_law_236 ?_
                  refine X_aload_n hg 0 rfl dL_law_237 ?_
                  refine X_iload_n hg 3 rfl dL_law_238 ?_
                  refine X_iconst hg ic_i_1 dL_law_239 ?_
                  refine X_iadd hg dL_law_240 ?_
                  refine X_sld hg hr dL_law_241 (fun x30 _ => ?_)
                  refine X_cVIW0 hg mf_X10_drop m_1068 m_1069 m_1067 cf_10 (fun _ e => gd_isO e) (fun y e => c_X10_drop g.1 l2 x30 p29.2 y e) (As := [.int x30]) rfl (Nat.le_of_ble_eq_true rfl) rfl (Nat.le_of_ble_eq_true rfl) (Nat.le_of_ble_eq_true rfl) (by omega) (by omega) dL_law_242 (fun p31 _ => ?_)
                  refine X_icmp_eq hg (tgt := 731) dL_law_245 rfl (fun c32 => ?_) (fun c32 => ?_)
                  · refine X_iinc hg 3 rfl (v := (l3 + (nI 3))) (icc ic_i_3) (Nat.le_of_ble_eq_true rfl) (lv' := [(3, .int (l3 + (nI 3))), (0, .ref l0), (1, .ref (nB g.1 + l1)), (2, .ref (nB g.1 + l2))]) rfl dL_law_731 ?_
                    refine X_goto hg (tgt := 18) dL_law_734 rfl ?_
                    refine X_lv [1, 2, 3, 0] rfl ?_
                    exact ih _ _ (by omega) (by omega) _ _
                  · refine X_iconst hg ic_i_0 dL_law_248 ?_
                    exact X_lret0
                · skip
                  refine X_tsw hg (v := (nI 6)) (tgt := 250) dL_law_32 (by decide) (by decide) rfl rfl (fun c41 => ?_) (fun c41 => ?_)
                  · refine X_aload_n hg 1 rfl dL_law_250 ?_
                    refine X_aload_n hg 0 rfl dL_law_251 ?_
                    refine X_iload_n hg 3 rfl dL_law_252 ?_
                    refine X_iconst hg ic_i_1 dL_law_253 ?_
                    refine X_iadd hg dL_law_254 ?_
                    refine X_sld hg hr dL_law_255 (fun x34 _ => ?_)
                    refine X_aload_n hg 0 rfl dL_law_256 ?_
                    refine X_iload_n hg 3 rfl dL_law_257 ?_
                    refine X_iconst hg ic_i_2 dL_law_258 ?_
                    refine X_iadd hg dL_law_259 ?_
                    refine X_sld hg hr dL_law_260 (fun x35 _ => ?_)
                    refine X_cVIW0 hg mf_X9_use m_505 m_506 m_504 cf_9 (fun _ e => gd_isO e) (fun y e => c_X9_use g.1 l1 x34 x35 h y e) (As := [.int x34, .int x35]) rfl (Nat.le_of_ble_eq_true rfl) rfl (Nat.le_of_ble_eq_true rfl) (Nat.le_of_ble_eq_true rfl) (by omega) (by omega) dL_law_261 (fun p36 _ => ?_)
                    refine X_aload_n hg 2 rfl dL_law_264 ?_
                    refine X_aload_n hg 0 rfl dL_law_265 ?_
                    refine X_iload_n hg 3 rfl dL_law_266 ?_
                    refine X_iconst hg ic_i_1 dL_law_267 ?_
                    refine X_iadd hg dL_law_268 ?_
                    refine X_sld hg hr dL_law_269 (fun x37 _ => ?_)
                    refine X_aload_n hg 0 rfl dL_law_270 ?_
                    refine X_iload_n hg 3 rfl dL_law_271 ?_
                    refine X_iconst hg ic_i_2 dL_law_272 ?_
                    refine X_iadd hg dL_law_273 ?_
                    refine X_sld hg hr dL_law_274 (fun x38 _ => ?_)
                    refine X_cVIW0 hg mf_X10_use m_1076 m_1077 m_1075 cf_10 (fun _ e => gd_isO e) (fun y e => c_X10_use g.1 l2 x37 x38 p36.2 y e) (As := [.int x37, .int x38]) rfl (Nat.le_of_ble_eq_true rfl) rfl (Nat.le_of_ble_eq_true rfl) (Nat.le_of_ble_eq_true rfl) (by omega) (by omega) dL_law_275 (fun p39 _ => ?_)
                    refine X_icmp_eq hg (tgt := 731) dL_law_278 rfl (fun c40 => ?_) (fun c40 => ?_)
                    · refine X_iinc hg 3 rfl (v := (l3 + (nI 3))) (icc ic_i_3) (Nat.le_of_ble_eq_true rfl) (lv' := [(3, .int (l3 + (nI 3))), (0, .ref l0), (1, .ref (nB g.1 + l1)), (2, .ref (nB g.1 + l2))]) rfl dL_law_731 ?_
                      refine X_goto hg (tgt := 18) dL_law_734 rfl ?_
                      refine X_lv [1, 2, 3, 0] rfl ?_
                      exact ih _ _ (by omega) (by omega) _ _
                    · refine X_iconst hg ic_i_0 dL_law_281 ?_
                      exact X_lret0
                  · skip
                    refine X_tsw hg (v := (nI 7)) (tgt := 283) dL_law_32 (by decide) (by decide) rfl rfl (fun c49 => ?_) (fun c49 => ?_)
                    · refine X_aload_n hg 1 rfl dL_law_283 ?_
                      refine X_aload_n hg 0 rfl dL_law_284 ?_
                      refine X_iload_n hg 3 rfl dL_law_285 ?_
                      refine X_iconst hg ic_i_1 dL_law_286 ?_
                      refine X_iadd hg dL_law_287 ?_
                      refine X_sld hg hr dL_law_288 (fun x42 _ => ?_)
                      refine X_aload_n hg 0 rfl dL_law_289 ?_
                      refine X_iload_n hg 3 rfl dL_law_290 ?_
                      refine X_iconst hg ic_i_2 dL_law_291 ?_
                      refine X_iadd hg dL_law_292 ?_
                      refine X_sld hg hr dL_law_293 (fun x43 _ => ?_)
                      refine X_cVIW0 hg mf_X9_name m_513 m_514 m_512 cf_9 (fun _ e => gd_isO e) (fun y e => c_X9_name g.1 l1 x42 x43 h y e) (As := [.int x42, .int x43]) rfl (Nat.le_of_ble_eq_true rfl) rfl (Nat.le_of_ble_eq_true rfl) (Nat.le_of_ble_eq_true rfl) (by omega) (by omega) dL_law_294 (fun p44 _ => ?_)
                      refine X_aload_n hg 2 rfl dL_law_297 ?_
                      refine X_aload_n hg 0 rfl dL_law_298 ?_
                      refine X_iload_n hg 3 rfl dL_law_299 ?_
                      refine X_iconst hg ic_i_1 dL_law_300 ?_
                      refine X_iadd hg dL_law_301 ?_
                      refine X_sld hg hr dL_law_302 (fun x45 _ => ?_)
                      refine X_aload_n hg 0 rfl dL_law_303 ?_
                      refine X_iload_n hg 3 rfl dL_law_304 ?_
                      refine X_iconst hg ic_i_2 dL_law_305 ?_
                      refine X_iadd hg dL_law_306 ?_
                      refine X_sld hg hr dL_law_307 (fun x46 _ => ?_)
                      refine X_cVIW0 hg mf_X10_name m_1080 m_1081 m_1079 cf_10 (fun _ e => gd_isO e) (fun y e => c_X10_name g.1 l2 x45 x46 p44.2 y e) (As := [.int x45, .int x46]) rfl (Nat.le_of_ble_eq_true rfl) rfl (Nat.le_of_ble_eq_true rfl) (Nat.le_of_ble_eq_true rfl) (by omega) (by omega) dL_law_308 (fun p47 _ => ?_)
                      refine X_icmp_eq hg (tgt := 731) dL_law_311 rfl (fun c48 => ?_) (fun c48 => ?_)
                      · refine X_iinc hg 3 rfl (v := (l3 + (nI 3))) (icc ic_i_3) (Nat.le_of_ble_eq_true rfl) (lv' := [(3, .int (l3 + (nI 3))), (0, .ref l0), (1, .ref (nB g.1 + l1)), (2, .ref (nB g.1 + l2))]) rfl dL_law_731 ?_
                        refine X_goto hg (tgt := 18) dL_law_734 rfl ?_
                        refine X_lv [1, 2, 3, 0] rfl ?_
                        exact ih _ _ (by omega) (by omega) _ _
                      · refine X_iconst hg ic_i_0 dL_law_314 ?_
                        exact X_lret0
                    · skip
                      refine X_tsw hg (v := (nI 8)) (tgt := 316) dL_law_32 (by decide) (by decide) rfl rfl (fun c57 => ?_) (fun c57 => ?_)
                      · refine X_aload_n hg 1 rfl dL_law_316 ?_
                        refine X_aload_n hg 0 rfl dL_law_317 ?_
                        refine X_iload_n hg 3 rfl dL_law_318 ?_
                        refine X_iconst hg ic_i_1 dL_law_319 ?_
                        refine X_iadd hg dL_law_320 ?_
                        refine X_sld hg hr dL_law_321 (fun x50 _ => ?_)
                        refine X_aload_n hg 0 rfl dL_law_322 ?_
                        refine X_iload_n hg 3 rfl dL_law_323 ?_
                        refine X_iconst hg ic_i_2 dL_law_324 ?_
                        refine X_iadd hg dL_law_325 ?_
                        refine X_sld hg hr dL_law_326 (fun x51 _ => ?_)
                        refine X_cVI0 hg mf_X9_sign m_623 m_624 m_622 cf_9 (fun _ e => gd_isO e) (fun y e => c_X9_sign g.1 l1 x50 x51 h y e) (As := [.int x50, .int x51]) rfl (Nat.le_of_ble_eq_true rfl) rfl (Nat.le_of_ble_eq_true rfl) (Nat.le_of_ble_eq_true rfl) (by omega) (by omega) dL_law_327 (fun x52 _ => ?_)
                        refine X_aload_n hg 2 rfl dL_law_330 ?_
                        refine X_aload_n hg 0 rfl dL_law_331 ?_
                        refine X_iload_n hg 3 rfl dL_law_332 ?_
                        refine X_iconst hg ic_i_1 dL_law_333 ?_
                        refine X_iadd hg dL_law_334 ?_
                        refine X_sld hg hr dL_law_335 (fun x53 _ => ?_)
                        refine X_aload_n hg 0 rfl dL_law_336 ?_
                        refine X_iload_n hg 3 rfl dL_law_337 ?_
                        refine X_iconst hg ic_i_2 dL_law_338 ?_
                        refine X_iadd hg dL_law_339 ?_
                        refine X_sld hg hr dL_law_340 (fun x54 _ => ?_)
                        refine X_cVI0 hg mf_X10_sign m_1161 m_1162 m_1160 cf_10 (fun _ e => gd_isO e) (fun y e => c_X10_sign g.1 l2 x53 x54 h y e) (As := [.int x53, .int x54]) rfl (Nat.le_of_ble_eq_true rfl) rfl (Nat.le_of_ble_eq_true rfl) (Nat.le_of_ble_eq_true rfl) (by omega) (by omega) dL_law_341 (fun x55 _ => ?_)
                        refine X_icmp_eq hg (tgt := 731) dL_law_344 rfl (fun c56 => ?_) (fun c56 => ?_)
                        · refine X_iinc hg 3 rfl (v := (l3 + (nI 3))) (icc ic_i_3) (Nat.le_of_ble_eq_true rfl) (lv' := [(3, .int (l3 + (nI 3))), (0, .ref l0), (1, .ref (nB g.1 + l1)), (2, .ref (nB g.1 + l2))]) rfl dL_law_731 ?_
                          refine X_goto hg (tgt := 18) dL_law_734 rfl ?_
                          refine X_lv [1, 2, 3, 0] rfl ?_
                          exact ih _ _ (by omega) (by omega) _ _
                        · refine X_iconst hg ic_i_0 dL_law_347 ?_
                          exact X_lret0
                      · skip
                        refine X_tsw hg (v := (nI 9)) (tgt := 349) dL_law_32 (by decide) (by decide) rfl rfl (fun c65 => ?_) (fun c65 => ?_)
                        · refine X_aload_n hg 1 rfl dL_law_349 ?_
                          refine X_aload_n hg 0 rfl dL_law_350 ?_
                          refine X_iload_n hg 3 rfl dL_law_351 ?_
                          refine X_iconst hg ic_i_1 dL_law_352 ?_
                          refine X_iadd hg dL_law_353 ?_
                          refine X_sld hg hr dL_law_354 (fun x58 _ => ?_)
                          refine X_aload_n hg 0 rfl dL_law_355 ?_
                          refine X_iload_n hg 3 rfl dL_law_356 ?_
                          refine X_iconst hg ic_i_2 dL_law_357 ?_
                          refine X_iadd hg dL_law_358 ?_
                          refine X_sld hg hr dL_law_359 (fun x59 _ => ?_)
                          refine X_cVI0 hg mf_X9_digit m_635 m_636 m_634 cf_9 (fun _ e => gd_isO e) (fun y e => c_X9_digit g.1 l1 x58 x59 h y e) (As := [.int x58, .int x59]) rfl (Nat.le_of_ble_eq_true rfl) rfl (Nat.le_of_ble_eq_true rfl) (Nat.le_of_ble_eq_true rfl) (by omega) (by omega) dL_law_360 (fun x60 _ => ?_)
                          refine X_aload_n hg 2 rfl dL_law_363 ?_
                          refine X_aload_n hg 0 rfl dL_law_364 ?_
                          refine X_iload_n hg 3 rfl dL_law_365 ?_
                          refine X_iconst hg ic_i_1 dL_law_366 ?_
                          refine X_iadd hg dL_law_367 ?_
                          refine X_sld hg hr dL_law_368 (fun x61 _ => ?_)
                          refine X_aload_n hg 0 rfl dL_law_369 ?_
                          refine X_iload_n hg 3 rfl dL_law_370 ?_
                          refine X_iconst hg ic_i_2 dL_law_371 ?_
                          refine X_iadd hg dL_law_372 ?_
                          refine X_sld hg hr dL_law_373 (fun x62 _ => ?_)
                          refine X_cVI0 hg mf_X10_digit m_1165 m_1166 m_1164 cf_10 (fun _ e => gd_isO e) (fun y e => c_X10_digit g.1 l2 x61 x62 h y e) (As := [.int x61, .int x62]) rfl (Nat.le_of_ble_eq_true rfl) rfl (Nat.le_of_ble_eq_true rfl) (Nat.le_of_ble_eq_true rfl) (by omega) (by omega) dL_law_374 (fun x63 _ => ?_)
                          refine X_icmp_eq hg (tgt := 731) dL_law_377 rfl (fun c64 => ?_) (fun c64 => ?_)
                          · refine X_iinc hg 3 rfl (v := (l3 + (nI 3))) (icc ic_i_3) (Nat.le_of_ble_eq_true rfl) (lv' := [(3, .int (l3 + (nI 3))), (0, .ref l0), (1, .ref (nB g.1 + l1)), (2, .ref (nB g.1 + l2))]) rfl dL_law_731 ?_
                            refine X_goto hg (tgt := 18) dL_law_734 rfl ?_
                            refine X_lv [1, 2, 3, 0] rfl ?_
                            exact ih _ _ (by omega) (by omega) _ _
                          · refine X_iconst hg ic_i_0 dL_law_380 ?_
                            exact X_lret0
                        · skip
                          refine X_tsw hg (v := (nI 10)) (tgt := 382) dL_law_32 (by decide) (by decide) rfl rfl (fun c71 => ?_) (fun c71 => ?_)
                          · refine X_aload_n hg 1 rfl dL_law_382 ?_
                            refine X_aload_n hg 0 rfl dL_law_383 ?_
                            refine X_iload_n hg 3 rfl dL_law_384 ?_
                            refine X_iconst hg ic_i_1 dL_law_385 ?_
                            refine X_iadd hg dL_law_386 ?_
                            refine X_sld hg hr dL_law_387 (fun x66 _ => ?_)
                            refine X_cVI0 hg mf_X9_laid m_647 m_648 m_646 cf_9 (fun _ e => gd_isO e) (fun y e => c_X9_laid g.1 l1 x66 h y e) (As := [.int x66]) rfl (Nat.le_of_ble_eq_true rfl) rfl (Nat.le_of_ble_eq_true rfl) (Nat.le_of_ble_eq_true rfl) (by omega) (by omega) dL_law_388 (fun x67 _ => ?_)
                            refine X_aload_n hg 2 rfl dL_law_391 ?_
                            refine X_aload_n hg 0 rfl dL_law_392 ?_
                            refine X_iload_n hg 3 rfl dL_law_393 ?_
                            refine X_iconst hg ic_i_1 dL_law_394 ?_
                            refine X_iadd hg dL_law_395 ?_
                            refine X_sld hg hr dL_law_396 (fun x68 _ => ?_)
                            refine X_cVI0 hg mf_X10_laid m_1169 m_1170 m_1168 cf_10 (fun _ e => gd_isO e) (fun y e => c_X10_laid g.1 l2 x68 h y e) (As := [.int x68]) rfl (Nat.le_of_ble_eq_true rfl) rfl (Nat.le_of_ble_eq_true rfl) (Nat.le_of_ble_eq_true rfl) (by omega) (by omega) dL_law_397 (fun x69 _ => ?_)
                            refine X_icmp_eq hg (tgt := 731) dL_law_400 rfl (fun c70 => ?_) (fun c70 => ?_)
                            · refine X_iinc hg 3 rfl (v := (l3 + (nI 3))) (icc ic_i_3) (Nat.le_of_ble_eq_true rfl) (lv' := [(3, .int (l3 + (nI 3))), (0, .ref l0), (1, .ref (nB g.1 + l1)), (2, .ref (nB g.1 + l2))]) rfl dL_law_731 ?_
                              refine X_goto hg (tgt := 18) dL_law_734 rfl ?_
                              refine X_lv [1, 2, 3, 0] rfl ?_
                              exact ih _ _ (by omega) (by omega) _ _
                            · refine X_iconst hg ic_i_0 dL_law_403 ?_
                              exact X_lret0
                          · skip
                            refine X_tsw hg (v := (nI 11)) (tgt := 405) dL_law_32 (by decide) (by decide) rfl rfl (fun c77 => ?_) (fun c77 => ?_)
                            · refine X_aload_n hg 1 rfl dL_law_405 ?_
                              refine X_aload_n hg 0 rfl dL_law_406 ?_
                              refine X_iload_n hg 3 rfl dL_law_407 ?_
                              refine X_iconst hg ic_i_1 dL_law_408 ?_
                              refine X_iadd hg dL_law_409 ?_
                              refine X_sld hg hr dL_law_410 (fun x72 _ => ?_)
                              refine X_cVI0 hg mf_X9_about m_652 m_653 m_651 cf_9 (fun _ e => gd_isO e) (fun y e => c_X9_about g.1 l1 x72 h y e) (As := [.int x72]) rfl (Nat.le_of_ble_eq_true rfl) rfl (Nat.le_of_ble_eq_true rfl) (Nat.le_of_ble_eq_true rfl) (by omega) (by omega) dL_law_411 (fun x73 _ => ?_)
                              refine X_aload_n hg 2 rfl dL_law_414 ?_
                              refine X_aload_n hg 0 rfl dL_law_415 ?_
                              refine X_iload_n hg 3 rfl dL_law_416 ?_
                              refine X_iconst hg ic_i_1 dL_law_417 ?_
                              refine X_iadd hg dL_law_418 ?_
                              refine X_sld hg hr dL_law_419 (fun x74 _ => ?_)
                              refine X_cVI0 hg mf_X10_about m_1173 m_1174 m_1172 cf_10 (fun _ e => gd_isO e) (fun y e => c_X10_about g.1 l2 x74 h y e) (As := [.int x74]) rfl (Nat.le_of_ble_eq_true rfl) rfl (Nat.le_of_ble_eq_true rfl) (Nat.le_of_ble_eq_true rfl) (by omega) (by omega) dL_law_420 (fun x75 _ => ?_)
                              refine X_icmp_eq hg (tgt := 731) dL_law_423 rfl (fun c76 => ?_) (fun c76 => ?_)
                              · refine X_iinc hg 3 rfl (v := (l3 + (nI 3))) (icc ic_i_3) (Nat.le_of_ble_eq_true rfl) (lv' := [(3, .int (l3 + (nI 3))), (0, .ref l0), (1, .ref (nB g.1 + l1)), (2, .ref (nB g.1 + l2))]) rfl dL_law_731 ?_
                                refine X_goto hg (tgt := 18) dL_law_734 rfl ?_
                                refine X_lv [1, 2, 3, 0] rfl ?_
                                exact ih _ _ (by omega) (by omega) _ _
                              · refine X_iconst hg ic_i_0 dL_law_426 ?_
                                exact X_lret0
                            · skip
                              refine X_tsw hg (v := (nI 12)) (tgt := 428) dL_law_32 (by decide) (by decide) rfl rfl (fun c83 => ?_) (fun c83 => ?_)
                              · refine X_aload_n hg 1 rfl dL_law_428 ?_
                                refine X_aload_n hg 0 rfl dL_law_429 ?_
                                refine X_iload_n hg 3 rfl dL_law_430 ?_
                                refine X_iconst hg ic_i_1 dL_law_431 ?_
                                refine X_iadd hg dL_law_432 ?_
                                refine X_sld hg hr dL_law_433 (fun x78 _ => ?_)
                                refine X_cVIW0 hg mf_X9_press m_684 m_685 m_683 cf_9 (fun _ e => gd_isO e) (fun y e => c_X9_press g.1 l1 x78 h y e) (As := [.int x78]) rfl (Nat.le_of_ble_eq_true rfl) rfl (Nat.le_of_ble_eq_true rfl) (Nat.le_of_ble_eq_true rfl) (by omega) (by omega) dL_law_434 (fun p79 _ => ?_)
                                refine X_aload_n hg 2 rfl dL_law_437 ?_
                                refine X_aload_n hg 0 rfl dL_law_438 ?_
                                refine X_iload_n hg 3 rfl dL_law_439 ?_
                                refine X_iconst hg ic_i_1 dL_law_440 ?_
                                refine X_iadd hg dL_law_441 ?_
                                refine X_sld hg hr dL_law_442 (fun x80 _ => ?_)
                                refine X_cVIW0 hg mf_X10_press m_1205 m_1206 m_1204 cf_10 (fun _ e => gd_isO e) (fun y e => c_X10_press g.1 l2 x80 p79.2 y e) (As := [.int x80]) rfl (Nat.le_of_ble_eq_true rfl) rfl (Nat.le_of_ble_eq_true rfl) (Nat.le_of_ble_eq_true rfl) (by omega) (by omega) dL_law_443 (fun p81 _ => ?_)
                                refine X_icmp_eq hg (tgt := 731) dL_law_446 rfl (fun c82 => ?_) (fun c82 => ?_)
                                · refine X_iinc hg 3 rfl (v := (l3 + (nI 3))) (icc ic_i_3) (Nat.le_of_ble_eq_true rfl) (lv' := [(3, .int (l3 + (nI 3))), (0, .ref l0), (1, .ref (nB g.1 + l1)), (2, .ref (nB g.1 + l2))]) rfl dL_law_731 ?_
                                  refine X_goto hg (tgt := 18) dL_law_734 rfl ?_
                                  refine X_lv [1, 2, 3, 0] rfl ?_
                                  exact ih _ _ (by omega) (by omega) _ _
                                · refine X_iconst hg ic_i_0 dL_law_449 ?_
                                  exact X_lret0
                              · skip
                                refine X_tsw hg (v := (nI 13)) (tgt := 451) dL_law_32 (by decide) (by decide) rfl rfl (fun c87 => ?_) (fun c87 => ?_)
                                · refine X_aload_n hg 1 rfl dL_law_451 ?_
                                  refine X_cVIW0 hg mf_X9_back m_688 m_689 m_687 cf_9 (fun _ e => gd_isO e) (fun y e => c_X9_back g.1 l1 h y e) (As := []) rfl (Nat.le_of_ble_eq_true rfl) rfl (Nat.le_of_ble_eq_true rfl) (Nat.le_of_ble_eq_true rfl) (by omega) (by omega) dL_law_452 (fun p84 _ => ?_)
                                  refine X_aload_n hg 2 rfl dL_law_455 ?_
                                  refine X_cVIW0 hg mf_X10_back m_1209 m_1210 m_1208 cf_10 (fun _ e => gd_isO e) (fun y e => c_X10_back g.1 l2 p84.2 y e) (As := []) rfl (Nat.le_of_ble_eq_true rfl) rfl (Nat.le_of_ble_eq_true rfl) (Nat.le_of_ble_eq_true rfl) (by omega) (by omega) dL_law_456 (fun p85 _ => ?_)
                                  refine X_icmp_eq hg (tgt := 731) dL_law_459 rfl (fun c86 => ?_) (fun c86 => ?_)
                                  · refine X_iinc hg 3 rfl (v := (l3 + (nI 3))) (icc ic_i_3) (Nat.le_of_ble_eq_true rfl) (lv' := [(3, .int (l3 + (nI 3))), (0, .ref l0), (1, .ref (nB g.1 + l1)), (2, .ref (nB g.1 + l2))]) rfl dL_law_731 ?_
                                    refine X_goto hg (tgt := 18) dL_law_734 rfl ?_
                                    refine X_lv [1, 2, 3, 0] rfl ?_
                                    exact ih _ _ (by omega) (by omega) _ _
                                  · refine X_iconst hg ic_i_0 dL_law_462 ?_
                                    exact X_lret0
                                · skip
                                  refine X_tsw hg (v := (nI 14)) (tgt := 464) dL_law_32 (by decide) (by decide) rfl rfl (fun c91 => ?_) (fun c91 => ?_)
                                  · refine X_aload_n hg 1 rfl dL_law_464 ?_
                                    refine X_cVIW0 hg mf_X9_wipe m_696 m_697 m_695 cf_9 (fun _ e => gd_isO e) (fun y e => c_X9_wipe g.1 l1 h y e) (As := []) rfl (Nat.le_of_ble_eq_true rfl) rfl (Nat.le_of_ble_eq_true rfl) (Nat.le_of_ble_eq_true rfl) (by omega) (by omega) dL_law_465 (fun p88 _ => ?_)
                                    refine X_aload_n hg 2 rfl dL_law_468 ?_
                                    refine X_cVIW0 hg mf_X10_wipe m_1213 m_1214 m_1212 cf_10 (fun _ e => gd_isO e) (fun y e => c_X10_wipe g.1 l2 p88.2 y e) (As := []) rfl (Nat.le_of_ble_eq_true rfl) rfl (Nat.le_of_ble_eq_true rfl) (Nat.le_of_ble_eq_true rfl) (by omega) (by omega) dL_law_469 (fun p89 _ => ?_)
                                    refine X_icmp_eq hg (tgt := 731) dL_law_472 rfl (fun c90 => ?_) (fun c90 => ?_)
                                    · refine X_iinc hg 3 rfl (v := (l3 + (nI 3))) (icc ic_i_3) (Nat.le_of_ble_eq_true rfl) (lv' := [(3, .int (l3 + (nI 3))), (0, .ref l0), (1, .ref (nB g.1 + l1)), (2, .ref (nB g.1 + l2))]) rfl dL_law_731 ?_
                                      refine X_goto hg (tgt := 18) dL_law_734 rfl ?_
                                      refine X_lv [1, 2, 3, 0] rfl ?_
                                      exact ih _ _ (by omega) (by omega) _ _
                                    · refine X_iconst hg ic_i_0 dL_law_475 ?_
                                      exact X_lret0
                                  · skip
                                    refine X_tsw hg (v := (nI 15)) (tgt := 477) dL_law_32 (by decide) (by decide) rfl rfl (fun c97 => ?_) (fun c97 => ?_)
                                    · refine X_aload_n hg 1 rfl dL_law_477 ?_
                                      refine X_aload_n hg 0 rfl dL_law_478 ?_
                                      refine X_iload_n hg 3 rfl dL_law_479 ?_
                                      refine X_iconst hg ic_i_1 dL_law_480 ?_
                                      refine X_iadd hg dL_law_481 ?_
                                      refine X_sld hg hr dL_law_482 (fun x92 _ => ?_)
                                      refine X_cVI0 hg mf_X9_typed m_700 m_701 m_699 cf_9 (fun _ e => gd_isO e) (fun y e => c_X9_typed g.1 l1 x92 h y e) (As := [.int x92]) rfl (Nat.le_of_ble_eq_true rfl) rfl (Nat.le_of_ble_eq_true rfl) (Nat.le_of_ble_eq_true rfl) (by omega) (by omega) dL_law_483 (fun x93 _ => ?_)
                                      refine X_aload_n hg 2 rfl dL_law_486 ?_
                                      refine X_aload_n hg 0 rfl dL_law_487 ?_
                                      refine X_iload_n hg 3 rfl dL_law_488 ?_
                                      refine X_iconst hg ic_i_1 dL_law_489 ?_
                                      refine X_iadd hg dL_law_490 ?_
                                      refine X_sld hg hr dL_law_491 (fun x94 _ => ?_)
                                      refine X_cVI0 hg mf_X10_typed m_1217 m_1218 m_1216 cf_10 (fun _ e => gd_isO e) (fun y e => c_X10_typed g.1 l2 x94 h y e) (As := [.int x94]) rfl (Nat.le_of_ble_eq_true rfl) rfl (Nat.le_of_ble_eq_true rfl) (Nat.le_of_ble_eq_true rfl) (by omega) (by omega) dL_law_492 (fun x95 _ => ?_)
                                      refine X_icmp_eq hg (tgt := 731) dL_law_495 rfl (fun c96 => ?_) (fun c96 => ?_)
                                      · refine X_iinc hg 3 rfl (v := (l3 + (nI 3))) (icc ic_i_3) (Nat.le_of_ble_eq_true rfl) (lv' := [(3, .int (l3 + (nI 3))), (0, .ref l0), (1, .ref (nB g.1 + l1)), (2, .ref (nB g.1 + l2))]) rfl dL_law_731 ?_
                                        refine X_goto hg (tgt := 18) dL_law_734 rfl ?_
                                        refine X_lv [1, 2, 3, 0] rfl ?_
                                        exact ih _ _ (by omega) (by omega) _ _
                                      · refine X_iconst hg ic_i_0 dL_law_498 ?_
                                        exact X_lret0
                                    · skip
                                      refine X_tsw hg (v := (nI 16)) (tgt := 500) dL_law_32 (by decide) (by decide) rfl rfl (fun c103 => ?_) (fun c103 => ?_)
                                      · refine X_aload_n hg 1 rfl dL_law_500 ?_
                                        refine X_aload_n hg 0 rfl dL_law_501 ?_
                                        refine X_iload_n hg 3 rfl dL_law_502 ?_
                                        refine X_iconst hg ic_i_1 dL_law_503 ?_
                                        refine X_iadd hg dL_law_504 ?_
                                        refine X_sld hg hr dL_law_505 (fun x98 _ => ?_)
                                        refine X_cVIW0 hg mf_X9_choice m_705 m_706 m_704 cf_9 (fun _ e => gd_isO e) (fun y e => c_X9_choice g.1 l1 x98 h y e) (As := [.int x98]) rfl (Nat.le_of_ble_eq_true rfl) rfl (Nat.le_of_ble_eq_true rfl) (Nat.le_of_ble_eq_true rfl) (by omega) (by omega) dL_law_506 (fun p99 _ => ?_)
                                        refine X_aload_n hg 2 rfl dL_law_509 ?_
                                        refine X_aload_n hg 0 rfl dL_law_510 ?_
                                        refine X_iload_n hg 3 rfl dL_law_511 ?_
                                        refine X_iconst hg ic_i_1 dL_law_512 ?_
                                        refine X_iadd hg dL_law_513 ?_
                                        refine X_sld hg hr dL_law_514 (fun x100 _ => ?_)
                                        refine X_cVI0 hg mf_X10_choice m_1221 m_1222 m_1220 cf_10 (fun _ e => gd_isO e) (fun y e => c_X10_choice g.1 l2 x100 p99.2 y e) (As := [.int x100]) rfl (Nat.le_of_ble_eq_true rfl) rfl (Nat.le_of_ble_eq_true rfl) (Nat.le_of_ble_eq_true rfl) (by omega) (by omega) dL_law_515 (fun x101 _ => ?_)
                                        refine X_icmp_eq hg (tgt := 731) dL_law_518 rfl (fun c102 => ?_) (fun c102 => ?_)
                                        · refine X_iinc hg 3 rfl (v := (l3 + (nI 3))) (icc ic_i_3) (Nat.le_of_ble_eq_true rfl) (lv' := [(3, .int (l3 + (nI 3))), (0, .ref l0), (1, .ref (nB g.1 + l1)), (2, .ref (nB g.1 + l2))]) rfl dL_law_731 ?_
                                          refine X_goto hg (tgt := 18) dL_law_734 rfl ?_
                                          refine X_lv [1, 2, 3, 0] rfl ?_
                                          exact ih _ _ (by omega) (by omega) _ _
                                        · refine X_iconst hg ic_i_0 dL_law_521 ?_
                                          exact X_lret0
                                      · skip
                                        refine X_tsw hg (v := (nI 17)) (tgt := 523) dL_law_32 (by decide) (by decide) rfl rfl (fun c109 => ?_) (fun c109 => ?_)
                                        · refine X_aload_n hg 1 rfl dL_law_523 ?_
                                          refine X_aload_n hg 0 rfl dL_law_524 ?_
                                          refine X_iload_n hg 3 rfl dL_law_525 ?_
                                          refine X_iconst hg ic_i_1 dL_law_526 ?_
                                          refine X_iadd hg dL_law_527 ?_
                                          refine X_sld hg hr dL_law_528 (fun x104 _ => ?_)
                                          refine X_cVIW0 hg mf_X9_spelling m_734 m_735 m_733 cf_9 (fun _ e => gd_isO e) (fun y e => c_X9_spelling g.1 l1 x104 h y e) (As := [.int x104]) rfl (Nat.le_of_ble_eq_true rfl) rfl (Nat.le_of_ble_eq_true rfl) (Nat.le_of_ble_eq_true rfl) (by omega) (by omega) dL_law_529 (fun p105 _ => ?_)
                                          refine X_aload_n hg 2 rfl dL_law_532 ?_
                                          refine X_aload_n hg 0 rfl dL_law_533 ?_
                                          refine X_iload_n hg 3 rfl dL_law_534 ?_
                                          refine X_iconst hg ic_i_1 dL_law_535 ?_
                                          refine X_iadd hg dL_law_536 ?_
                                          refine X_sld hg hr dL_law_537 (fun x106 _ => ?_)
                                          refine X_cVIW0 hg mf_X10_spelling m_1233 m_1234 m_1232 cf_10 (fun _ e => gd_isO e) (fun y e => c_X10_spelling g.1 l2 x106 p105.2 y e) (As := [.int x106]) rfl (Nat.le_of_ble_eq_true rfl) rfl (Nat.le_of_ble_eq_true rfl) (Nat.le_of_ble_eq_true rfl) (by omega) (by omega) dL_law_538 (fun p107 _ => ?_)
                                          refine X_icmp_eq hg (tgt := 731) dL_law_541 rfl (fun c108 => ?_) (fun c108 => ?_)
                                          · refine X_iinc hg 3 rfl (v := (l3 + (nI 3))) (icc ic_i_3) (Nat.le_of_ble_eq_true rfl) (lv' := [(3, .int (l3 + (nI 3))), (0, .ref l0), (1, .ref (nB g.1 + l1)), (2, .ref (nB g.1 + l2))]) rfl dL_law_731 ?_
                                            refine X_goto hg (tgt := 18) dL_law_734 rfl ?_
                                            refine X_lv [1, 2, 3, 0] rfl ?_
                                            exact ih _ _ (by omega) (by omega) _ _
                                          · refine X_iconst hg ic_i_0 dL_law_544 ?_
                                            exact X_lret0
                                        · skip
                                          refine X_tsw hg (v := (nI 18)) (tgt := 546) dL_law_32 (by decide) (by decide) rfl rfl (fun c115 => ?_) (fun c115 => ?_)
                                          · refine X_aload_n hg 1 rfl dL_law_546 ?_
                                            refine X_aload_n hg 0 rfl dL_law_547 ?_
                                            refine X_iload_n hg 3 rfl dL_law_548 ?_
                                            refine X_iconst hg ic_i_1 dL_law_549 ?_
                                            refine X_iadd hg dL_law_550 ?_
                                            refine X_sld hg hr dL_law_551 (fun x110 _ => ?_)
                                            refine X_cVIW0 hg mf_X9_piece m_785 m_786 m_784 cf_9 (fun _ e => gd_isO e) (fun y e => c_X9_piece g.1 l1 x110 h y e) (As := [.int x110]) rfl (Nat.le_of_ble_eq_true rfl) rfl (Nat.le_of_ble_eq_true rfl) (Nat.le_of_ble_eq_true rfl) (by omega) (by omega) dL_law_552 (fun p111 _ => ?_)
                                            refine X_aload_n hg 2 rfl dL_law_555 ?_
                                            refine X_aload_n hg 0 rfl dL_law_556 ?_
                                            refine X_iload_n hg 3 rfl dL_law_557 ?_
                                            refine X_iconst hg ic_i_1 dL_law_558 ?_
                                            refine X_iadd hg dL_law_559 ?_
                                            refine X_sld hg hr dL_law_560 (fun x112 _ => ?_)
                                            refine X_cVIW0 hg mf_X10_piece m_1254 m_1255 m_1253 cf_10 (fun _ e => gd_isO e) (fun y e => c_X10_piece g.1 l2 x112 p111.2 y e) (As := [.int x112]) rfl (Nat.le_of_ble_eq_true rfl) rfl (Nat.le_of_ble_eq_true rfl) (Nat.le_of_ble_eq_true rfl) (by omega) (by omega) dL_law_561 (fun p113 _ => ?_)
                                            refine X_icmp_eq hg (tgt := 731) dL_law_564 rfl (fun c114 => ?_) (fun c114 => ?_)
                                            · refine X_iinc hg 3 rfl (v := (l3 + (nI 3))) (icc ic_i_3) (Nat.le_of_ble_eq_true rfl) (lv' := [(3, .int (l3 + (nI 3))), (0, .ref l0), (1, .ref (nB g.1 + l1)), (2, .ref (nB g.1 + l2))]) rfl dL_law_731 ?_
                                              refine X_goto hg (tgt := 18) dL_law_734 rfl ?_
                                              refine X_lv [1, 2, 3, 0] rfl ?_
                                              exact ih _ _ (by omega) (by omega) _ _
                                            · refine X_iconst hg ic_i_0 dL_law_567 ?_
                                              exact X_lret0
                                          · skip
                                            refine X_tsw hg (v := (nI 19)) (tgt := 569) dL_law_32 (by decide) (by decide) rfl rfl (fun c121 => ?_) (fun c121 => ?_)
                                            · refine X_aload_n hg 1 rfl dL_law_569 ?_
                                              refine X_aload_n hg 0 rfl dL_law_570 ?_
                                              refine X_iload_n hg 3 rfl dL_law_571 ?_
                                              refine X_iconst hg ic_i_1 dL_law_572 ?_
                                              refine X_iadd hg dL_law_573 ?_
                                              refine X_sld hg hr dL_law_574 (fun x116 _ => ?_)
                                              refine X_cVIW0 hg mf_X9_build m_793 m_794 m_792 cf_9 (fun _ e => gd_isO e) (fun y e => c_X9_build g.1 l1 x116 h y e) (As := [.int x116]) rfl (Nat.le_of_ble_eq_true rfl) rfl (Nat.le_of_ble_eq_true rfl) (Nat.le_of_ble_eq_true rfl) (by omega) (by omega) dL_law_575 (fun p117 _ => ?_)
                                              refine X_aload_n hg 2 rfl dL_law_578 ?_
                                              refine X_aload_n hg 0 rfl dL_law_579 ?_
                                              refine X_iload_n hg 3 rfl dL_law_580 ?_
                                              refine X_iconst hg ic_i_1 dL_law_581 ?_
                                              refine X_iadd hg dL_law_582 ?_
                                              refine X_sld hg hr dL_law_583 (fun x118 _ => ?_)
                                              refine X_cVIW0 hg mf_X10_build m_1266 m_1267 m_1265 cf_10 (fun _ e => gd_isO e) (fun y e => c_X10_build g.1 l2 x118 p117.2 y e) (As := [.int x118]) rfl (Nat.le_of_ble_eq_true rfl) rfl (Nat.le_of_ble_eq_true rfl) (Nat.le_of_ble_eq_true rfl) (by omega) (by omega) dL_law_584 (fun p119 _ => ?_)
                                              refine X_icmp_eq hg (tgt := 731) dL_law_587 rfl (fun c120 => ?_) (fun c120 => ?_)
                                              · refine X_iinc hg 3 rfl (v := (l3 + (nI 3))) (icc ic_i_3) (Nat.le_of_ble_eq_true rfl) (lv' := [(3, .int (l3 + (nI 3))), (0, .ref l0), (1, .ref (nB g.1 + l1)), (2, .ref (nB g.1 + l2))]) rfl dL_law_731 ?_
                                                refine X_goto hg (tgt := 18) dL_law_734 rfl ?_
                                                refine X_lv [1, 2, 3, 0] rfl ?_
                                                exact ih _ _ (by omega) (by omega) _ _
                                              · refine X_iconst hg ic_i_0 dL_law_590 ?_
                                                exact X_lret0
                                            · skip
                                              refine X_tsw hg (v := (nI 20)) (tgt := 592) dL_law_32 (by decide) (by decide) rfl rfl (fun c127 => ?_) (fun c127 => ?_)
                                              · refine X_aload_n hg 1 rfl dL_law_592 ?_
                                                refine X_aload_n hg 0 rfl dL_law_593 ?_
                                                refine X_iload_n hg 3 rfl dL_law_594 ?_
                                                refine X_iconst hg ic_i_1 dL_law_595 ?_
                                                refine X_iadd hg dL_law_596 ?_
                                                refine X_sld hg hr dL_law_597 (fun x122 _ => ?_)
                                                refine X_cVIW0 hg mf_X9_tend m_806 m_807 m_805 cf_9 (fun _ e => gd_isO e) (fun y e => c_X9_tend g.1 l1 x122 h y e) (As := [.int x122]) rfl (Nat.le_of_ble_eq_true rfl) rfl (Nat.le_of_ble_eq_true rfl) (Nat.le_of_ble_eq_true rfl) (by omega) (by omega) dL_law_598 (fun p123 _ => ?_)
                                                refine X_aload_n hg 2 rfl dL_law_601 ?_
                                                refine X_aload_n hg 0 rfl dL_law_602 ?_
                                                refine X_iload_n hg 3 rfl dL_law_603 ?_
                                                refine X_iconst hg ic_i_1 dL_law_604 ?_
                                                refine X_iadd hg dL_law_605 ?_
                                                refine X_sld hg hr dL_law_606 (fun x124 _ => ?_)
                                                refine X_cVIW0 hg mf_X10_tend m_1282 m_1283 m_1281 cf_10 (fun _ e => gd_isO e) (fun y e => c_X10_tend g.1 l2 x124 p123.2 y e) (As := [.int x124]) rfl (Nat.le_of_ble_eq_true rfl) rfl (Nat.le_of_ble_eq_true rfl) (Nat.le_of_ble_eq_true rfl) (by omega) (by omega) dL_law_607 (fun p125 _ => ?_)
                                                refine X_icmp_eq hg (tgt := 731) dL_law_610 rfl (fun c126 => ?_) (fun c126 => ?_)
                                                · refine X_iinc hg 3 rfl (v := (l3 + (nI 3))) (icc ic_i_3) (Nat.le_of_ble_eq_true rfl) (lv' := [(3, .int (l3 + (nI 3))), (0, .ref l0), (1, .ref (nB g.1 + l1)), (2, .ref (nB g.1 + l2))]) rfl dL_law_731 ?_
                                                  refine X_goto hg (tgt := 18) dL_law_734 rfl ?_
                                                  refine X_lv [1, 2, 3, 0] rfl ?_
                                                  exact ih _ _ (by omega) (by omega) _ _
                                                · refine X_iconst hg ic_i_0 dL_law_613 ?_
                                                  exact X_lret0
                                              · skip
                                                refine X_tsw hg (v := (nI 21)) (tgt := 615) dL_law_32 (by decide) (by decide) rfl rfl (fun c135 => ?_) (fun c135 => ?_)
                                                · refine X_aload_n hg 1 rfl dL_law_615 ?_
                                                  refine X_aload_n hg 0 rfl dL_law_616 ?_
                                                  refine X_iload_n hg 3 rfl dL_law_617 ?_
                                                  refine X_iconst hg ic_i_1 dL_law_618 ?_
                                                  refine X_iadd hg dL_law_619 ?_
                                                  refine X_sld hg hr dL_law_620 (fun x128 _ => ?_)
                                                  refine X_aload_n hg 0 rfl dL_law_621 ?_
                                                  refine X_iload_n hg 3 rfl dL_law_622 ?_
                                                  refine X_iconst hg ic_i_2 dL_law_623 ?_
                                                  refine X_iadd hg dL_law_624 ?_
                                                  refine X_sld hg hr dL_law_625 (fun x129 _ => ?_)
                                                  refine X_cVI0 hg mf_X9_path m_826 m_827 m_825 cf_9 (fun _ e => gd_isO e) (fun y e => c_X9_path g.1 l1 x128 x129 h y e) (As := [.int x128, .int x129]) rfl (Nat.le_of_ble_eq_true rfl) rfl (Nat.le_of_ble_eq_true rfl) (Nat.le_of_ble_eq_true rfl) (by omega) (by omega) dL_law_626 (fun x130 _ => ?_)
                                                  refine X_aload_n hg 2 rfl dL_law_629 ?_
                                                  refine X_aload_n hg 0 rfl dL_law_630 ?_
                                                  refine X_iload_n hg 3 rfl dL_law_631 ?_
                                                  refine X_iconst hg ic_i_1 dL_law_632 ?_
                                                  refine X_iadd hg dL_law_633 ?_
                                                  refine X_sld hg hr dL_law_634 (fun x131 _ => ?_)
                                                  refine X_aload_n hg 0 rfl dL_law_635 ?_
                                                  refine X_iload_n hg 3 rfl dL_law_636 ?_
                                                  refine X_iconst hg ic_i_2 dL_law_637 ?_
                                                  refine X_iadd hg dL_law_638 ?_
                                                  refine X_sld hg hr dL_law_639 (fun x132 _ => ?_)
                                                  refine X_cVI0 hg mf_X10_path m_1290 m_1291 m_1289 cf_10 (fun _ e => gd_isO e) (fun y e => c_X10_path g.1 l2 x131 x132 h y e) (As := [.int x131, .int x132]) rfl (Nat.le_of_ble_eq_true rfl) rfl (Nat.le_of_ble_eq_true rfl) (Nat.le_of_ble_eq_true rfl) (by omega) (by omega) dL_law_640 (fun x133 _ => ?_)
                                                  refine X_icmp_eq hg (tgt := 731) dL_law_643 rfl (fun c134 => ?_) (fun c134 => ?_)
                                                  · refine X_iinc hg 3 rfl (v := (l3 + (nI 3))) (icc ic_i_3) (Nat.le_of_ble_eq_true rfl) (lv' := [(3, .int (l3 + (nI 3))), (0, .ref l0), (1, .ref (nB g.1 + l1)), (2, .ref (nB g.1 + l2))]) rfl dL_law_731 ?_
                                                    refine X_goto hg (tgt := 18) dL_law_734 rfl ?_
                                                    refine X_lv [1, 2, 3, 0] rfl ?_
                                                    exact ih _ _ (by omega) (by omega) _ _
                                                  · refine X_iconst hg ic_i_0 dL_law_646 ?_
                                                    exact X_lret0
                                                · skip
                                                  refine X_tsw hg (v := (nI 22)) (tgt := 648) dL_law_32 (by decide) (by decide) rfl rfl (fun c141 => ?_) (fun c141 => ?_)
                                                  · refine X_aload_n hg 1 rfl dL_law_648 ?_
                                                    refine X_aload_n hg 0 rfl dL_law_649 ?_
                                                    refine X_iload_n hg 3 rfl dL_law_650 ?_
                                                    refine X_iconst hg ic_i_1 dL_law_651 ?_
                                                    refine X_iadd hg dL_law_652 ?_
                                                    refine X_sld hg hr dL_law_653 (fun x136 _ => ?_)
                                                    refine X_cVIW0 hg mf_X9_leads m_831 m_832 m_830 cf_9 (fun _ e => gd_isO e) (fun y e => c_X9_leads g.1 l1 x136 h y e) (As := [.int x136]) rfl (Nat.le_of_ble_eq_true rfl) rfl (Nat.le_of_ble_eq_true rfl) (Nat.le_of_ble_eq_true rfl) (by omega) (by omega) dL_law_654 (fun p137 _ => ?_)
                                                    refine X_aload_n hg 2 rfl dL_law_657 ?_
                                                    refine X_aload_n hg 0 rfl dL_law_658 ?_
                                                    refine X_iload_n hg 3 rfl dL_law_659 ?_
                                                    refine X_iconst hg ic_i_1 dL_law_660 ?_
                                                    refine X_iadd hg dL_law_661 ?_
                                                    refine X_sld hg hr dL_law_662 (fun x138 _ => ?_)
                                                    refine X_cVIW0 hg mf_X10_leads m_1294 m_1295 m_1293 cf_10 (fun _ e => gd_isO e) (fun y e => c_X10_leads g.1 l2 x138 p137.2 y e) (As := [.int x138]) rfl (Nat.le_of_ble_eq_true rfl) rfl (Nat.le_of_ble_eq_true rfl) (Nat.le_of_ble_eq_true rfl) (by omega) (by omega) dL_law_663 (fun p139 _ => ?_)
                                                    refine X_icmp_eq hg (tgt := 731) dL_law_666 rfl (fun c140 => ?_) (fun c140 => ?_)
                                                    · refine X_iinc hg 3 rfl (v := (l3 + (nI 3))) (icc ic_i_3) (Nat.le_of_ble_eq_true rfl) (lv' := [(3, .int (l3 + (nI 3))), (0, .ref l0), (1, .ref (nB g.1 + l1)), (2, .ref (nB g.1 + l2))]) rfl dL_law_731 ?_
                                                      refine X_goto hg (tgt := 18) dL_law_734 rfl ?_
                                                      refine X_lv [1, 2, 3, 0] rfl ?_
                                                      exact ih _ _ (by omega) (by omega) _ _
                                                    · refine X_iconst hg ic_i_0 dL_law_669 ?_
                                                      exact X_lret0
                                                  · skip
                                                    refine X_tsw hg (v := (nI 23)) (tgt := 671) dL_law_32 (by decide) (by decide) rfl rfl (fun c147 => ?_) (fun c147 => ?_)
                                                    · refine X_aload_n hg 1 rfl dL_law_671 ?_
                                                      refine X_aload_n hg 0 rfl dL_law_672 ?_
                                                      refine X_iload_n hg 3 rfl dL_law_673 ?_
                                                      refine X_iconst hg ic_i_1 dL_law_674 ?_
                                                      refine X_iadd hg dL_law_675 ?_
                                                      refine X_sld hg hr dL_law_676 (fun x142 _ => ?_)
                                                      refine X_cVIW0 hg mf_X9_menu m_851 m_852 m_850 cf_9 (fun _ e => gd_isO e) (fun y e => c_X9_menu g.1 l1 x142 h y e) (As := [.int x142]) rfl (Nat.le_of_ble_eq_true rfl) rfl (Nat.le_of_ble_eq_true rfl) (Nat.le_of_ble_eq_true rfl) (by omega) (by omega) dL_law_677 (fun p143 _ => ?_)
                                                      refine X_aload_n hg 2 rfl dL_law_680 ?_
                                                      refine X_aload_n hg 0 rfl dL_law_681 ?_
                                                      refine X_iload_n hg 3 rfl dL_law_682 ?_
                                                      refine X_iconst hg ic_i_1 dL_law_683 ?_
                                                      refine X_iadd hg dL_law_684 ?_
                                                      refine X_sld hg hr dL_law_685 (fun x144 _ => ?_)
                                                      refine X_cVIW0 hg mf_X10_menu m_1306 m_1307 m_1305 cf_10 (fun _ e => gd_isO e) (fun y e => c_X10_menu g.1 l2 x144 p143.2 y e) (As := [.int x144]) rfl (Nat.le_of_ble_eq_true rfl) rfl (Nat.le_of_ble_eq_true rfl) (Nat.le_of_ble_eq_true rfl) (by omega) (by omega) dL_law_686 (fun p145 _ => ?_)
                                                      refine X_icmp_eq hg (tgt := 731) dL_law_689 rfl (fun c146 => ?_) (fun c146 => ?_)
                                                      · refine X_iinc hg 3 rfl (v := (l3 + (nI 3))) (icc ic_i_3) (Nat.le_of_ble_eq_true rfl) (lv' := [(3, .int (l3 + (nI 3))), (0, .ref l0), (1, .ref (nB g.1 + l1)), (2, .ref (nB g.1 + l2))]) rfl dL_law_731 ?_
                                                        refine X_goto hg (tgt := 18) dL_law_734 rfl ?_
                                                        refine X_lv [1, 2, 3, 0] rfl ?_
                                                        exact ih _ _ (by omega) (by omega) _ _
                                                      · refine X_iconst hg ic_i_0 dL_law_692 ?_
                                                        exact X_lret0
                                                    · skip
                                                      refine X_tsw hg (v := (nI 24)) (tgt := 694) dL_law_32 (by decide) (by decide) rfl rfl (fun c153 => ?_) (fun c153 => ?_)
                                                      · refine X_aload_n hg 1 rfl dL_law_694 ?_
                                                        refine X_aload_n hg 0 rfl dL_law_695 ?_
                                                        refine X_iload_n hg 3 rfl dL_law_696 ?_
                                                        refine X_iconst hg ic_i_1 dL_law_697 ?_
                                                        refine X_iadd hg dL_law_698 ?_
                                                        refine X_sld hg hr dL_law_699 (fun x148 _ => ?_)
                                                        refine X_cVI0 hg mf_X9_count m_867 m_868 m_866 cf_9 (fun _ e => gd_isO e) (fun y e => c_X9_count g.1 l1 x148 h y e) (As := [.int x148]) rfl (Nat.le_of_ble_eq_true rfl) rfl (Nat.le_of_ble_eq_true rfl) (Nat.le_of_ble_eq_true rfl) (by omega) (by omega) dL_law_700 (fun x149 _ => ?_)
                                                        refine X_aload_n hg 2 rfl dL_law_703 ?_
                                                        refine X_aload_n hg 0 rfl dL_law_704 ?_
                                                        refine X_iload_n hg 3 rfl dL_law_705 ?_
                                                        refine X_iconst hg ic_i_1 dL_law_706 ?_
                                                        refine X_iadd hg dL_law_707 ?_
                                                        refine X_sld hg hr dL_law_708 (fun x150 _ => ?_)
                                                        refine X_cVI0 hg mf_X10_count m_1330 m_1331 m_1329 cf_10 (fun _ e => gd_isO e) (fun y e => c_X10_count g.1 l2 x150 h y e) (As := [.int x150]) rfl (Nat.le_of_ble_eq_true rfl) rfl (Nat.le_of_ble_eq_true rfl) (Nat.le_of_ble_eq_true rfl) (by omega) (by omega) dL_law_709 (fun x151 _ => ?_)
                                                        refine X_icmp_eq hg (tgt := 731) dL_law_712 rfl (fun c152 => ?_) (fun c152 => ?_)
                                                        · refine X_iinc hg 3 rfl (v := (l3 + (nI 3))) (icc ic_i_3) (Nat.le_of_ble_eq_true rfl) (lv' := [(3, .int (l3 + (nI 3))), (0, .ref l0), (1, .ref (nB g.1 + l1)), (2, .ref (nB g.1 + l2))]) rfl dL_law_731 ?_
                                                          refine X_goto hg (tgt := 18) dL_law_734 rfl ?_
                                                          refine X_lv [1, 2, 3, 0] rfl ?_
                                                          exact ih _ _ (by omega) (by omega) _ _
                                                        · refine X_iconst hg ic_i_0 dL_law_715 ?_
                                                          exact X_lret0
                                                      · skip
                                                        refine X_tsw hg (v := (nI 25)) (tgt := 717) dL_law_32 (by decide) (by decide) rfl rfl (fun c157 => ?_) (fun c157 => ?_)
                                                        · refine X_aload_n hg 1 rfl dL_law_717 ?_
                                                          refine X_cVJW0 hg mf_X9_digest m_871 m_872 m_870 cf_9 (fun _ e => gd_isO e) (fun y e => c_X9_digest g.1 l1 h y e) (As := []) rfl (Nat.le_of_ble_eq_true rfl) rfl (Nat.le_of_ble_eq_true rfl) (Nat.le_of_ble_eq_true rfl) (by omega) (by omega) dL_law_718 (fun p154 _ => ?_)
                                                          refine X_aload_n hg 2 rfl dL_law_721 ?_
                                                          refine X_cVJW0 hg mf_X10_digest m_1338 m_1339 m_1337 cf_10 (fun _ e => gd_isO e) (fun y e => c_X10_digest g.1 l2 p154.2 y e) (As := []) rfl (Nat.le_of_ble_eq_true rfl) rfl (Nat.le_of_ble_eq_true rfl) (Nat.le_of_ble_eq_true rfl) (by omega) (by omega) dL_law_722 (fun p155 _ => ?_)
                                                          refine X_lcmpne hg (tgt := 731) dL_law_725 dL_law_726 rfl (fun c156 => ?_) (fun c156 => ?_)
                                                          · refine X_iinc hg 3 rfl (v := (l3 + (nI 3))) (icc ic_i_3) (Nat.le_of_ble_eq_true rfl) (lv' := [(3, .int (l3 + (nI 3))), (0, .ref l0), (1, .ref (nB g.1 + l1)), (2, .ref (nB g.1 + l2))]) rfl dL_law_731 ?_
                                                            refine X_goto hg (tgt := 18) dL_law_734 rfl ?_
                                                            refine X_lv [1, 2, 3, 0] rfl ?_
                                                            exact ih _ _ (by omega) (by omega) _ _
                                                          · refine X_iconst hg ic_i_0 dL_law_729 ?_
                                                            exact X_lret0
                                                        · skip
                                                          refine X_tsd hg (tgt := 731) dL_law_32 (by have q0 := lv_neT c11 (a := 0) rfl; have q1 := lv_neT c15 (a := 1) rfl; have q2 := lv_neT c19 (a := 2) rfl; have q3 := lv_neT c23 (a := 3) rfl; have q4 := lv_neT c27 (a := 4) rfl; have q5 := lv_neT c33 (a := 5) rfl; have q6 := lv_neT c41 (a := 6) rfl; have q7 := lv_neT c49 (a := 7) rfl; have q8 := lv_neT c57 (a := 8) rfl; have q9 := lv_neT c65 (a := 9) rfl; have q10 := lv_neT c71 (a := 10) rfl; have q11 := lv_neT c77 (a := 11) rfl; have q12 := lv_neT c83 (a := 12) rfl; have q13 := lv_neT c87 (a := 13) rfl; have q14 := lv_neT c91 (a := 14) rfl; have q15 := lv_neT c97 (a := 15) rfl; have q16 := lv_neT c103 (a := 16) rfl; have q17 := lv_neT c109 (a := 17) rfl; have q18 := lv_neT c115 (a := 18) rfl; have q19 := lv_neT c121 (a := 19) rfl; have q20 := lv_neT c127 (a := 20) rfl; have q21 := lv_neT c135 (a := 21) rfl; have q22 := lv_neT c141 (a := 22) rfl; have q23 := lv_neT c147 (a := 23) rfl; have q24 := lv_neT c153 (a := 24) rfl; have q25 := lv_neT c157 (a := 25) rfl; omega) rfl ?_
                                                          refine X_iinc hg 3 rfl (v := (l3 + (nI 3))) (icc ic_i_3) (Nat.le_of_ble_eq_true rfl) (lv' := [(3, .int (l3 + (nI 3))), (0, .ref l0), (1, .ref (nB g.1 + l1)), (2, .ref (nB g.1 + l2))]) rfl dL_law_731 ?_
                                                          refine X_goto hg (tgt := 18) dL_law_734 rfl ?_
                                                          refine X_lv [1, 2, 3, 0] rfl ?_
                                                          exact ih _ _ (by omega) (by omega) _ _
set_option maxRecDepth 10000 in
theorem t_L_law {g : XC} {l0 L : Nat} {xs : Nat → Int32} {h : Hp} (hg : XG g RL code 4 10 372 600000 7302250) (hr : LG g l0 L xs) : Xo g (nI 1) 4 0 0 0 [(0, .ref l0)] [] h (f_L_law l0 L xs h) := by
  unfold f_L_law
  refine X_newO hg cf_9 ok_9 m_105 m_106 m_91 (by omega) (by omega) dL_law_0 (fun h1 _ => ?_)
  refine X_dup hg rfl dL_law_3 ?_
  refine X_cIV hg mf_X9_init rfl rfl m_108 m_107 (fun y e => c_X9_init g.1 (hN h) h1 y e) (As := []) rfl (Nat.le_of_ble_eq_true rfl) rfl (Nat.le_of_ble_eq_true rfl) (Nat.le_of_ble_eq_true rfl) (by omega) (by omega) dL_law_4 (fun h2 _ => ?_)
  refine X_astore_n hg rfl (Nat.le_of_ble_eq_true rfl) (lv' := [(1, .ref (nB g.1 + (hN h))), (0, .ref l0)]) rfl dL_law_7 ?_
  refine X_newO hg cf_10 ok_10 m_894 m_895 m_101 (by omega) (by omega) dL_law_8 (fun h3 _ => ?_)
  refine X_dup hg rfl dL_law_11 ?_
  refine X_cIV hg mf_X10_init rfl rfl m_897 m_896 (fun y e => c_X10_init g.1 (hN h2) h3 y e) (As := []) rfl (Nat.le_of_ble_eq_true rfl) rfl (Nat.le_of_ble_eq_true rfl) (Nat.le_of_ble_eq_true rfl) (by omega) (by omega) dL_law_12 (fun h4 _ => ?_)
  refine X_astore_n hg rfl (Nat.le_of_ble_eq_true rfl) (lv' := [(2, .ref (nB g.1 + (hN h2))), (1, .ref (nB g.1 + (hN h))), (0, .ref l0)]) rfl dL_law_15 ?_
  refine X_iconst hg ic_i_0 dL_law_16 ?_
  refine X_istore_n hg rfl (Nat.le_of_ble_eq_true rfl) (lv' := [(3, .int (nI 0)), (2, .ref (nB g.1 + (hN h2))), (1, .ref (nB g.1 + (hN h))), (0, .ref l0)]) rfl dL_law_17 ?_
  refine X_lv [3, 2, 1, 0] rfl ?_
  refine l_L_law_18 L xs hg _ _ _ hr _ (fun _ _ hk1 hn1 h159 => ?_) 513 _ _ (by omega) (by omega) _ _
  refine X_iconst hg ic_i_1 dL_law_737 ?_
  exact X_lret1 hg hr hg.2.2.2.2.2.2 (by omega) (by omega) dL_law_738
