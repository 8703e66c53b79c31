/-! THE CLAIM OUT OF ONE WALK OF THE LAW'S BODY. Your part is whole_start (and what it stands on); all else here is the same for every law, but numbers. -/
def R_law : String := "DiskEvidenceLaw"
def lw_P (b : Addr) (xs : List Int32) (args : Array Value) (s : State) : Prop := args = #[.ref b] ∧ s.IntsAt b xs ∧ xs.length ≤ 5 ∧ (Jvm.Cond.and given_1 narrow_1).before args s = true
def lw_Q (_ : Array Value) (s : State) (o : Outcome) (t : State) : Prop := o = .returned (some (.int 1)) ∧ Framed s o t [] 600000 7302250
def lw_Z (below : List Frame) (a : Array Value) (s : State) : State → Prop := fun t => ∃ o, t.status = .running ∧ Ended t below o ∧ lw_Q a s o t
/-- the law's own end, with 1 on the stack, nothing written that was there before, its room as the claim has it -/
theorem lw_ret {p : Program} {l : Launch} {e : Env} {s : State} {m : MethodId} {below : List Frame} {meth : Method} {c : Code} {b : Nat} (hx : p.tables.exec = Jvm.exec) (hb : c.code = code) (hr : meth.sig.returnType = ret) (hlocks : meth.locks = false) {pc : Nat} {H : Heap} {ls : Array Slot} (hdg : decode code pc = .ok (.ireturn, 1)) : W p l e room_1 s m #[Value.ref b] below meth c H [] 600000 7302250 (lw_Z below #[Value.ref b] s) (F0 m pc ls [.int 1]) := by
  intro T hT X
  obtain ⟨fs, hret, hrun, hended, hW, hframe⟩ := X.leave (v := some (.int 1)) (hlocks := hlocks) (fun h => by rw [hr] at h; cases h)
  have hmeth' : T.vm.method? m = some meth := X.method'
  refine ⟨T.setFrames fs, ?_, .returned (some (.int 1)), hrun, hended, rfl, ⟨_, rfl⟩, hW, hframe⟩
  jvm_step X.here [X.here.top, hx, hb, hdg, hmeth', hr, ret, narrow_b1]
  (try refine ⟨rfl, ?_⟩); (try refine ⟨rfl, ?_⟩)
  first | (intro acts; rw [hret _ acts rfl rfl rfl]) | rw [hret _ _ rfl rfl rfl]
  exact Steps.refl _
/-- what holds at the law's entry: the machine, the code, the tables' words (any of lw_tbl by 'hts w (by decide +kernel)'), the script of L ints xs at the cell b, what the Statement gives of the start (any of its parts by flat_of_before) -/
def lw_At (p : Program) (s : State) (m : MethodId) (meth : Method) (c : Code) (b L : Nat) (xs : Nat → Int32) : Prop :=
  p.tables.exec = Jvm.exec ∧ c.code = code ∧ meth.sig.returnType = ret ∧ c.maxLocals = 4 ∧ s.vm.findClass R_law = some m.cls ∧ (∀ w ∈ lw_tbl, w.before #[Value.ref b] s = true) ∧ va_X b L xs s s.heap ∧ b < s.heap.size ∧ meth.locks = false ∧ (Jvm.Cond.and given_1 narrow_1).before #[Value.ref b] s = true
theorem tm_290 : Cond.initialized RX11 ∈ lw_tbl := List.mem_of_getElem? (i := 290) (by decide +kernel)
theorem tm_296 : Cond.initialized RX12 ∈ lw_tbl := List.mem_of_getElem? (i := 296) (by decide +kernel)
theorem tm_310 : Cond.classLink RL 7 RX11 ∈ lw_tbl := List.mem_of_getElem? (i := 310) (by decide +kernel)
theorem tm_311 : Cond.instantiable RX11 20 ∈ lw_tbl := List.mem_of_getElem? (i := 311) (by decide +kernel)
theorem tm_312 : Cond.methodLink RL 9 yX11_init ∈ lw_tbl := List.mem_of_getElem? (i := 312) (by decide +kernel)
theorem tm_313 : Cond.instanceMethod yX11_init ∈ lw_tbl := List.mem_of_getElem? (i := 313) (by decide +kernel)
theorem tm_2239 : Cond.classLink RL 10 RX12 ∈ lw_tbl := List.mem_of_getElem? (i := 2239) (by decide +kernel)
theorem tm_2240 : Cond.instantiable RX12 172 ∈ lw_tbl := List.mem_of_getElem? (i := 2240) (by decide +kernel)
theorem tm_2241 : Cond.methodLink RL 12 yX12_init ∈ lw_tbl := List.mem_of_getElem? (i := 2241) (by decide +kernel)
theorem tm_2242 : Cond.instanceMethod yX12_init ∈ lw_tbl := List.mem_of_getElem? (i := 2242) (by decide +kernel)
theorem tm_3727 : Cond.constantLong RL 13 (4294967295) ∈ lw_tbl := List.mem_of_getElem? (i := 3727) (by decide +kernel)
theorem gq_L_law_X11_collect_15 : GoodIn lw_tbl (wsV RL 15 RX11 yX11_collect wq_X11_collect) := goodIn_app (goodIn_r _ [647, 648, 649, 290] (by decide +kernel) (by decide +kernel)) (goodIn_sub tq_X11_collect ga_X11_collect)
theorem gq_L_law_X12_collect_19 : GoodIn lw_tbl (wsV RL 19 RX12 yX12_collect wq_X12_collect) := goodIn_app (goodIn_r _ [2767, 2768, 2769, 296] (by decide +kernel) (by decide +kernel)) (goodIn_sub tq_X12_collect ga_X12_collect)
theorem gq_L_law_X11_forget_20 : GoodIn lw_tbl (wsV RL 20 RX11 yX11_forget wq_X11_forget) := goodIn_app (goodIn_r _ [651, 652, 653, 290] (by decide +kernel) (by decide +kernel)) (goodIn_sub tq_X11_forget ga_X11_forget)
theorem gq_L_law_X12_forget_24 : GoodIn lw_tbl (wsV RL 24 RX12 yX12_forget wq_X12_forget) := goodIn_app (goodIn_r _ [2776, 2777, 2778, 296] (by decide +kernel) (by decide +kernel)) (goodIn_sub tq_X12_forget ga_X12_forget)
theorem gq_L_law_X11_tick_25 : GoodIn lw_tbl (wsV RL 25 RX11 yX11_tick wq_X11_tick) := goodIn_app (goodIn_r _ [655, 656, 657, 290] (by decide +kernel) (by decide +kernel)) (goodIn_sub tq_X11_tick ga_X11_tick)
theorem gq_L_law_X12_tick_29 : GoodIn lw_tbl (wsV RL 29 RX12 yX12_tick wq_X12_tick) := goodIn_app (goodIn_r _ [2780, 2781, 2782, 296] (by decide +kernel) (by decide +kernel)) (goodIn_sub tq_X12_tick ga_X12_tick)
theorem gq_L_law_X11_blank_30 : GoodIn lw_tbl (wsV RL 30 RX11 yX11_blank wq_X11_blank) := goodIn_app (goodIn_r _ [661, 662, 663, 290] (by decide +kernel) (by decide +kernel)) (goodIn_sub tq_X11_blank ga_X11_blank)
theorem gq_L_law_X12_blank_33 : GoodIn lw_tbl (wsV RL 33 RX12 yX12_blank wq_X12_blank) := goodIn_app (goodIn_r _ [2786, 2787, 2788, 296] (by decide +kernel) (by decide +kernel)) (goodIn_sub tq_X12_blank ga_X12_blank)
theorem gq_L_law_X11_picture_34 : GoodIn lw_tbl (wsV RL 34 RX11 yX11_picture wq_X11_picture) := goodIn_app (goodIn_r _ [696, 697, 698, 290] (by decide +kernel) (by decide +kernel)) (goodIn_sub tq_X11_picture ga_X11_picture)
theorem gq_L_law_X12_picture_37 : GoodIn lw_tbl (wsV RL 37 RX12 yX12_picture wq_X12_picture) := goodIn_app (goodIn_r _ [2795, 2796, 2797, 296] (by decide +kernel) (by decide +kernel)) (goodIn_sub tq_X12_picture ga_X12_picture)
theorem gq_L_law_X11_sectors_38 : GoodIn lw_tbl (wsV RL 38 RX11 yX11_sectors wq_X11_sectors) := goodIn_app (goodIn_r _ [738, 739, 740, 290] (by decide +kernel) (by decide +kernel)) (goodIn_sub tq_X11_sectors ga_X11_sectors)
theorem gq_L_law_X12_sectors_41 : GoodIn lw_tbl (wsV RL 41 RX12 yX12_sectors wq_X12_sectors) := goodIn_app (goodIn_r _ [2818, 2819, 2820, 296] (by decide +kernel) (by decide +kernel)) (goodIn_sub tq_X12_sectors ga_X12_sectors)
theorem gq_L_law_X11_spoil_42 : GoodIn lw_tbl (wsV RL 42 RX11 yX11_spoil wq_X11_spoil) := goodIn_app (goodIn_r _ [746, 747, 748, 290] (by decide +kernel) (by decide +kernel)) (goodIn_sub tq_X11_spoil ga_X11_spoil)
theorem gq_L_law_X12_spoil_46 : GoodIn lw_tbl (wsV RL 46 RX12 yX12_spoil wq_X12_spoil) := goodIn_app (goodIn_r _ [2826, 2827, 2828, 296] (by decide +kernel) (by decide +kernel)) (goodIn_sub tq_X12_spoil ga_X12_spoil)
theorem gq_L_law_X11_byteAt_47 : GoodIn lw_tbl (wsV RL 47 RX11 yX11_byteAt wq_X11_byteAt) := goodIn_app (goodIn_r _ [750, 751, 752, 290] (by decide +kernel) (by decide +kernel)) (goodIn_sub tq_X11_byteAt ga_X11_byteAt)
theorem gq_L_law_X12_byteAt_51 : GoodIn lw_tbl (wsV RL 51 RX12 yX12_byteAt wq_X12_byteAt) := goodIn_app (goodIn_r _ [2838, 2839, 2840, 296] (by decide +kernel) (by decide +kernel)) (goodIn_sub tq_X12_byteAt ga_X12_byteAt)
theorem gq_L_law_X11_poke_52 : GoodIn lw_tbl (wsV RL 52 RX11 yX11_poke wq_X11_poke) := goodIn_app (goodIn_r _ [763, 764, 765, 290] (by decide +kernel) (by decide +kernel)) (goodIn_sub tq_X11_poke ga_X11_poke)
theorem gq_L_law_X12_poke_56 : GoodIn lw_tbl (wsV RL 56 RX12 yX12_poke wq_X12_poke) := goodIn_app (goodIn_r _ [2850, 2851, 2852, 296] (by decide +kernel) (by decide +kernel)) (goodIn_sub tq_X12_poke ga_X12_poke)
theorem gq_L_law_X11_crc_57 : GoodIn lw_tbl (wsV RL 57 RX11 yX11_crc wq_X11_crc) := goodIn_app (goodIn_r _ [767, 768, 769, 290] (by decide +kernel) (by decide +kernel)) (goodIn_sub tq_X11_crc ga_X11_crc)
theorem gq_L_law_X12_crc_61 : GoodIn lw_tbl (wsV RL 61 RX12 yX12_crc wq_X12_crc) := goodIn_app (goodIn_r _ [2854, 2855, 2856, 296] (by decide +kernel) (by decide +kernel)) (goodIn_sub tq_X12_crc ga_X12_crc)
theorem gq_L_law_X11_parts_62 : GoodIn lw_tbl (wsV RL 62 RX11 yX11_parts wq_X11_parts) := goodIn_app (goodIn_r _ [773, 774, 775, 290] (by decide +kernel) (by decide +kernel)) (goodIn_sub tq_X11_parts ga_X11_parts)
theorem gq_L_law_X12_parts_65 : GoodIn lw_tbl (wsV RL 65 RX12 yX12_parts wq_X12_parts) := goodIn_app (goodIn_r _ [2860, 2861, 2862, 296] (by decide +kernel) (by decide +kernel)) (goodIn_sub tq_X12_parts ga_X12_parts)
theorem gq_L_law_X11_part_66 : GoodIn lw_tbl (wsV RL 66 RX11 yX11_part wq_X11_part) := goodIn_app (goodIn_r _ [793, 794, 795, 290] (by decide +kernel) (by decide +kernel)) (goodIn_sub tq_X11_part ga_X11_part)
theorem gq_L_law_X12_part_69 : GoodIn lw_tbl (wsV RL 69 RX12 yX12_part wq_X12_part) := goodIn_app (goodIn_r _ [2880, 2881, 2882, 296] (by decide +kernel) (by decide +kernel)) (goodIn_sub tq_X12_part ga_X12_part)
theorem gq_L_law_X11_volume_70 : GoodIn lw_tbl (wsV RL 70 RX11 yX11_volume wq_X11_volume) := goodIn_app (goodIn_r _ [811, 812, 813, 290] (by decide +kernel) (by decide +kernel)) (goodIn_sub tq_X11_volume ga_X11_volume)
theorem gq_L_law_X12_volume_73 : GoodIn lw_tbl (wsV RL 73 RX12 yX12_volume wq_X12_volume) := goodIn_app (goodIn_r _ [2889, 2890, 2891, 296] (by decide +kernel) (by decide +kernel)) (goodIn_sub tq_X12_volume ga_X12_volume)
theorem gq_L_law_X11_join_74 : GoodIn lw_tbl (wsV RL 74 RX11 yX11_join wq_X11_join) := goodIn_app (goodIn_r _ [853, 854, 855, 290] (by decide +kernel) (by decide +kernel)) (goodIn_sub tq_X11_join ga_X11_join)
theorem gq_L_law_X12_join_78 : GoodIn lw_tbl (wsV RL 78 RX12 yX12_join wq_X12_join) := goodIn_app (goodIn_r _ [2897, 2898, 2899, 296] (by decide +kernel) (by decide +kernel)) (goodIn_sub tq_X12_join ga_X12_join)
theorem gq_L_law_X11_blocks_79 : GoodIn lw_tbl (wsV RL 79 RX11 yX11_blocks wq_X11_blocks) := goodIn_app (goodIn_r _ [869, 870, 871, 290] (by decide +kernel) (by decide +kernel)) (goodIn_sub tq_X11_blocks ga_X11_blocks)
theorem gq_L_law_X12_blocks_82 : GoodIn lw_tbl (wsV RL 82 RX12 yX12_blocks wq_X12_blocks) := goodIn_app (goodIn_r _ [2906, 2907, 2908, 296] (by decide +kernel) (by decide +kernel)) (goodIn_sub tq_X12_blocks ga_X12_blocks)
theorem gq_L_law_X11_volumeByte_83 : GoodIn lw_tbl (wsV RL 83 RX11 yX11_volumeByte wq_X11_volumeByte) := goodIn_app (goodIn_r _ [873, 874, 875, 290] (by decide +kernel) (by decide +kernel)) (goodIn_sub tq_X11_volumeByte ga_X11_volumeByte)
theorem gq_L_law_X12_volumeByte_86 : GoodIn lw_tbl (wsV RL 86 RX12 yX12_volumeByte wq_X12_volumeByte) := goodIn_app (goodIn_r _ [2910, 2911, 2912, 296] (by decide +kernel) (by decide +kernel)) (goodIn_sub tq_X12_volumeByte ga_X12_volumeByte)
theorem gq_L_law_X11_where_87 : GoodIn lw_tbl (wsV RL 87 RX11 yX11_where wq_X11_where) := goodIn_app (goodIn_r _ [915, 916, 917, 290] (by decide +kernel) (by decide +kernel)) (goodIn_sub tq_X11_where ga_X11_where)
theorem gq_L_law_X12_where_90 : GoodIn lw_tbl (wsV RL 90 RX12 yX12_where wq_X12_where) := goodIn_app (goodIn_r _ [2933, 2934, 2935, 296] (by decide +kernel) (by decide +kernel)) (goodIn_sub tq_X12_where ga_X12_where)
theorem gq_L_law_X11_format_91 : GoodIn lw_tbl (wsV RL 91 RX11 yX11_format wq_X11_format) := goodIn_app (goodIn_r _ [922, 923, 924, 290] (by decide +kernel) (by decide +kernel)) (goodIn_sub tq_X11_format ga_X11_format)
theorem gq_L_law_X12_format_94 : GoodIn lw_tbl (wsV RL 94 RX12 yX12_format wq_X12_format) := goodIn_app (goodIn_r _ [2937, 2938, 2939, 296] (by decide +kernel) (by decide +kernel)) (goodIn_sub tq_X12_format ga_X12_format)
theorem gq_L_law_X11_save_95 : GoodIn lw_tbl (wsV RL 95 RX11 yX11_save wq_X11_save) := goodIn_app (goodIn_r _ [972, 973, 974, 290] (by decide +kernel) (by decide +kernel)) (goodIn_sub tq_X11_save ga_X11_save)
theorem gq_L_law_X12_save_98 : GoodIn lw_tbl (wsV RL 98 RX12 yX12_save wq_X12_save) := goodIn_app (goodIn_r _ [2995, 2996, 2997, 296] (by decide +kernel) (by decide +kernel)) (goodIn_sub tq_X12_save ga_X12_save)
theorem gq_L_law_X11_folder_99 : GoodIn lw_tbl (wsV RL 99 RX11 yX11_folder wq_X11_folder) := goodIn_app (goodIn_r _ [1229, 1230, 1231, 290] (by decide +kernel) (by decide +kernel)) (goodIn_sub tq_X11_folder ga_X11_folder)
theorem gq_L_law_X12_folder_102 : GoodIn lw_tbl (wsV RL 102 RX12 yX12_folder wq_X12_folder) := goodIn_app (goodIn_r _ [3213, 3214, 3215, 296] (by decide +kernel) (by decide +kernel)) (goodIn_sub tq_X12_folder ga_X12_folder)
theorem gq_L_law_X11_erase_103 : GoodIn lw_tbl (wsV RL 103 RX11 yX11_erase wq_X11_erase) := goodIn_app (goodIn_r _ [1233, 1234, 1235, 290] (by decide +kernel) (by decide +kernel)) (goodIn_sub tq_X11_erase ga_X11_erase)
theorem gq_L_law_X12_erase_106 : GoodIn lw_tbl (wsV RL 106 RX12 yX12_erase wq_X12_erase) := goodIn_app (goodIn_r _ [3217, 3218, 3219, 296] (by decide +kernel) (by decide +kernel)) (goodIn_sub tq_X12_erase ga_X12_erase)
theorem gq_L_law_X11_mount_107 : GoodIn lw_tbl (wsV RL 107 RX11 yX11_mount wq_X11_mount) := goodIn_app (goodIn_r _ [1237, 1238, 1239, 290] (by decide +kernel) (by decide +kernel)) (goodIn_sub tq_X11_mount ga_X11_mount)
theorem gq_L_law_X12_mount_110 : GoodIn lw_tbl (wsV RL 110 RX12 yX12_mount wq_X12_mount) := goodIn_app (goodIn_r _ [3229, 3230, 3231, 296] (by decide +kernel) (by decide +kernel)) (goodIn_sub tq_X12_mount ga_X12_mount)
theorem gq_L_law_X11_tree_111 : GoodIn lw_tbl (wsV RL 111 RX11 yX11_tree wq_X11_tree) := goodIn_app (goodIn_r _ [1738, 1739, 1740, 290] (by decide +kernel) (by decide +kernel)) (goodIn_sub tq_X11_tree ga_X11_tree)
theorem gq_L_law_X12_tree_114 : GoodIn lw_tbl (wsV RL 114 RX12 yX12_tree wq_X12_tree) := goodIn_app (goodIn_r _ [3466, 3467, 3468, 296] (by decide +kernel) (by decide +kernel)) (goodIn_sub tq_X12_tree ga_X12_tree)
theorem gq_L_law_X11_fault_115 : GoodIn lw_tbl (wsV RL 115 RX11 yX11_fault wq_X11_fault) := goodIn_app (goodIn_r _ [1754, 1755, 1756, 290] (by decide +kernel) (by decide +kernel)) (goodIn_sub tq_X11_fault ga_X11_fault)
theorem gq_L_law_X12_fault_118 : GoodIn lw_tbl (wsV RL 118 RX12 yX12_fault wq_X12_fault) := goodIn_app (goodIn_r _ [3478, 3479, 3480, 296] (by decide +kernel) (by decide +kernel)) (goodIn_sub tq_X12_fault ga_X12_fault)
theorem gq_L_law_X11_owner_119 : GoodIn lw_tbl (wsV RL 119 RX11 yX11_owner wq_X11_owner) := goodIn_app (goodIn_r _ [1758, 1759, 1760, 290] (by decide +kernel) (by decide +kernel)) (goodIn_sub tq_X11_owner ga_X11_owner)
theorem gq_L_law_X12_owner__122 : GoodIn lw_tbl (wsV RL 122 RX12 yX12_owner_ wq_X12_owner_) := goodIn_app (goodIn_r _ [3482, 3483, 3484, 296] (by decide +kernel) (by decide +kernel)) (goodIn_sub tq_X12_owner_ ga_X12_owner_)
theorem gq_L_law_X11_free_123 : GoodIn lw_tbl (wsV RL 123 RX11 yX11_free wq_X11_free) := goodIn_app (goodIn_r _ [1762, 1763, 1764, 290] (by decide +kernel) (by decide +kernel)) (goodIn_sub tq_X11_free ga_X11_free)
theorem gq_L_law_X12_free_126 : GoodIn lw_tbl (wsV RL 126 RX12 yX12_free wq_X12_free) := goodIn_app (goodIn_r _ [3474, 3475, 3476, 296] (by decide +kernel) (by decide +kernel)) (goodIn_sub tq_X12_free ga_X12_free)
theorem gq_L_law_X11_find_127 : GoodIn lw_tbl (wsV RL 127 RX11 yX11_find wq_X11_find) := goodIn_app (goodIn_r _ [1772, 1773, 1774, 290] (by decide +kernel) (by decide +kernel)) (goodIn_sub tq_X11_find ga_X11_find)
theorem gq_L_law_X12_find_130 : GoodIn lw_tbl (wsV RL 130 RX12 yX12_find wq_X12_find) := goodIn_app (goodIn_r _ [3486, 3487, 3488, 296] (by decide +kernel) (by decide +kernel)) (goodIn_sub tq_X12_find ga_X12_find)
theorem gq_L_law_X11_name_131 : GoodIn lw_tbl (wsV RL 131 RX11 yX11_name wq_X11_name) := goodIn_app (goodIn_r _ [1789, 1790, 1791, 290] (by decide +kernel) (by decide +kernel)) (goodIn_sub tq_X11_name ga_X11_name)
theorem gq_L_law_X12_name_134 : GoodIn lw_tbl (wsV RL 134 RX12 yX12_name wq_X12_name) := goodIn_app (goodIn_r _ [3494, 3495, 3496, 296] (by decide +kernel) (by decide +kernel)) (goodIn_sub tq_X12_name ga_X12_name)
theorem gq_L_law_X11_field_135 : GoodIn lw_tbl (wsV RL 135 RX11 yX11_field wq_X11_field) := goodIn_app (goodIn_r _ [1796, 1797, 1798, 290] (by decide +kernel) (by decide +kernel)) (goodIn_sub tq_X11_field ga_X11_field)
theorem gq_L_law_X12_field_138 : GoodIn lw_tbl (wsV RL 138 RX12 yX12_field wq_X12_field) := goodIn_app (goodIn_r _ [3498, 3499, 3500, 296] (by decide +kernel) (by decide +kernel)) (goodIn_sub tq_X12_field ga_X12_field)
theorem gq_L_law_X11_block_139 : GoodIn lw_tbl (wsV RL 139 RX11 yX11_block wq_X11_block) := goodIn_app (goodIn_r _ [1805, 1806, 1807, 290] (by decide +kernel) (by decide +kernel)) (goodIn_sub tq_X11_block ga_X11_block)
theorem gq_L_law_X12_block_142 : GoodIn lw_tbl (wsV RL 142 RX12 yX12_block wq_X12_block) := goodIn_app (goodIn_r _ [3502, 3503, 3504, 296] (by decide +kernel) (by decide +kernel)) (goodIn_sub tq_X12_block ga_X12_block)
theorem gq_L_law_X11_content_143 : GoodIn lw_tbl (wsV RL 143 RX11 yX11_content wq_X11_content) := goodIn_app (goodIn_r _ [1810, 1811, 1812, 290] (by decide +kernel) (by decide +kernel)) (goodIn_sub tq_X11_content ga_X11_content)
theorem gq_L_law_X12_content_146 : GoodIn lw_tbl (wsV RL 146 RX12 yX12_content wq_X12_content) := goodIn_app (goodIn_r _ [3506, 3407, 3408, 296] (by decide +kernel) (by decide +kernel)) (goodIn_sub tq_X12_content ga_X12_content)
theorem gq_L_law_X11_slack_147 : GoodIn lw_tbl (wsV RL 147 RX11 yX11_slack wq_X11_slack) := goodIn_app (goodIn_r _ [1820, 1821, 1822, 290] (by decide +kernel) (by decide +kernel)) (goodIn_sub tq_X11_slack ga_X11_slack)
theorem gq_L_law_X12_slack_150 : GoodIn lw_tbl (wsV RL 150 RX12 yX12_slack wq_X12_slack) := goodIn_app (goodIn_r _ [3507, 3508, 3509, 296] (by decide +kernel) (by decide +kernel)) (goodIn_sub tq_X12_slack ga_X12_slack)
theorem gq_L_law_X11_open_151 : GoodIn lw_tbl (wsV RL 151 RX11 yX11_open wq_X11_open) := goodIn_app (goodIn_r _ [1824, 1825, 1826, 290] (by decide +kernel) (by decide +kernel)) (goodIn_sub tq_X11_open ga_X11_open)
theorem gq_L_law_X12_open_154 : GoodIn lw_tbl (wsV RL 154 RX12 yX12_open wq_X12_open) := goodIn_app (goodIn_r _ [3394, 3395, 3396, 296] (by decide +kernel) (by decide +kernel)) (goodIn_sub tq_X12_open ga_X12_open)
theorem gq_L_law_X11_node_155 : GoodIn lw_tbl (wsV RL 155 RX11 yX11_node wq_X11_node) := goodIn_app (goodIn_r _ [1869, 1870, 1871, 290] (by decide +kernel) (by decide +kernel)) (goodIn_sub tq_X11_node ga_X11_node)
theorem gq_L_law_X12_node_158 : GoodIn lw_tbl (wsV RL 158 RX12 yX12_node wq_X12_node) := goodIn_app (goodIn_r _ [3442, 3443, 3444, 296] (by decide +kernel) (by decide +kernel)) (goodIn_sub tq_X12_node ga_X12_node)
theorem gq_L_law_X11_opened_159 : GoodIn lw_tbl (wsV RL 159 RX11 yX11_opened wq_X11_opened) := goodIn_app (goodIn_r _ [1881, 1882, 1883, 290] (by decide +kernel) (by decide +kernel)) (goodIn_sub tq_X11_opened ga_X11_opened)
theorem gq_L_law_X12_opened_162 : GoodIn lw_tbl (wsV RL 162 RX12 yX12_opened wq_X12_opened) := goodIn_app (goodIn_r _ [3454, 3455, 3456, 296] (by decide +kernel) (by decide +kernel)) (goodIn_sub tq_X12_opened ga_X12_opened)
theorem gq_L_law_X11_inside_163 : GoodIn lw_tbl (wsV RL 163 RX11 yX11_inside wq_X11_inside) := goodIn_app (goodIn_r _ [1890, 1891, 1892, 290] (by decide +kernel) (by decide +kernel)) (goodIn_sub tq_X11_inside ga_X11_inside)
theorem gq_L_law_X12_inside_166 : GoodIn lw_tbl (wsV RL 166 RX12 yX12_inside wq_X12_inside) := goodIn_app (goodIn_r _ [3462, 3463, 3464, 296] (by decide +kernel) (by decide +kernel)) (goodIn_sub tq_X12_inside ga_X12_inside)
theorem gq_L_law_X11_word_167 : GoodIn lw_tbl (wsV RL 167 RX11 yX11_word wq_X11_word) := goodIn_app (goodIn_r _ [1902, 1903, 1904, 290] (by decide +kernel) (by decide +kernel)) (goodIn_sub tq_X11_word ga_X11_word)
theorem gq_L_law_X12_word_170 : GoodIn lw_tbl (wsV RL 170 RX12 yX12_word wq_X12_word) := goodIn_app (goodIn_r _ [3511, 3512, 3513, 296] (by decide +kernel) (by decide +kernel)) (goodIn_sub tq_X12_word ga_X12_word)
theorem gq_L_law_X11_pattern_171 : GoodIn lw_tbl (wsV RL 171 RX11 yX11_pattern wq_X11_pattern) := goodIn_app (goodIn_r _ [1939, 1940, 1941, 290] (by decide +kernel) (by decide +kernel)) (goodIn_sub tq_X11_pattern ga_X11_pattern)
theorem gq_L_law_X12_pattern_174 : GoodIn lw_tbl (wsV RL 174 RX12 yX12_pattern wq_X12_pattern) := goodIn_app (goodIn_r _ [3527, 3528, 3529, 296] (by decide +kernel) (by decide +kernel)) (goodIn_sub tq_X12_pattern ga_X12_pattern)
theorem gq_L_law_X11_hit_175 : GoodIn lw_tbl (wsV RL 175 RX11 yX11_hit wq_X11_hit) := goodIn_app (goodIn_r _ [1971, 1972, 1973, 290] (by decide +kernel) (by decide +kernel)) (goodIn_sub tq_X11_hit ga_X11_hit)
theorem gq_L_law_X12_hit_178 : GoodIn lw_tbl (wsV RL 178 RX12 yX12_hit wq_X12_hit) := goodIn_app (goodIn_r _ [3551, 3552, 3553, 296] (by decide +kernel) (by decide +kernel)) (goodIn_sub tq_X12_hit ga_X12_hit)
theorem gq_L_law_X11_question_179 : GoodIn lw_tbl (wsV RL 179 RX11 yX11_question wq_X11_question) := goodIn_app (goodIn_r _ [1975, 1976, 1977, 290] (by decide +kernel) (by decide +kernel)) (goodIn_sub tq_X11_question ga_X11_question)
theorem gq_L_law_X12_question_182 : GoodIn lw_tbl (wsV RL 182 RX12 yX12_question wq_X12_question) := goodIn_app (goodIn_r _ [3555, 3556, 3557, 296] (by decide +kernel) (by decide +kernel)) (goodIn_sub tq_X12_question ga_X12_question)
theorem gq_L_law_X11_row_183 : GoodIn lw_tbl (wsV RL 183 RX11 yX11_row wq_X11_row) := goodIn_app (goodIn_r _ [2123, 2124, 2125, 290] (by decide +kernel) (by decide +kernel)) (goodIn_sub tq_X11_row ga_X11_row)
theorem gq_L_law_X12_row_186 : GoodIn lw_tbl (wsV RL 186 RX12 yX12_row wq_X12_row) := goodIn_app (goodIn_r _ [3644, 3645, 3646, 296] (by decide +kernel) (by decide +kernel)) (goodIn_sub tq_X12_row ga_X12_row)
theorem gq_L_law_X11_line_187 : GoodIn lw_tbl (wsV RL 187 RX11 yX11_line wq_X11_line) := goodIn_app (goodIn_r _ [2127, 2128, 2129, 290] (by decide +kernel) (by decide +kernel)) (goodIn_sub tq_X11_line ga_X11_line)
theorem gq_L_law_X12_line_190 : GoodIn lw_tbl (wsV RL 190 RX12 yX12_line wq_X12_line) := goodIn_app (goodIn_r _ [3648, 3649, 3650, 296] (by decide +kernel) (by decide +kernel)) (goodIn_sub tq_X12_line ga_X12_line)
theorem gq_L_law_X11_time_191 : GoodIn lw_tbl (wsV RL 191 RX11 yX11_time wq_X11_time) := goodIn_app (goodIn_r _ [2158, 2159, 2160, 290] (by decide +kernel) (by decide +kernel)) (goodIn_sub tq_X11_time ga_X11_time)
theorem gq_L_law_X12_time_195 : GoodIn lw_tbl (wsV RL 195 RX12 yX12_time wq_X12_time) := goodIn_app (goodIn_r _ [3660, 3661, 3662, 296] (by decide +kernel) (by decide +kernel)) (goodIn_sub tq_X12_time ga_X12_time)
theorem gq_L_law_X11_doubts_196 : GoodIn lw_tbl (wsV RL 196 RX11 yX11_doubts wq_X11_doubts) := goodIn_app (goodIn_r _ [2167, 2168, 2169, 290] (by decide +kernel) (by decide +kernel)) (goodIn_sub tq_X11_doubts ga_X11_doubts)
theorem gq_L_law_X12_doubts_199 : GoodIn lw_tbl (wsV RL 199 RX12 yX12_doubts wq_X12_doubts) := goodIn_app (goodIn_r _ [3664, 3665, 3666, 296] (by decide +kernel) (by decide +kernel)) (goodIn_sub tq_X12_doubts ga_X12_doubts)
theorem gq_L_law_X11_doubt_200 : GoodIn lw_tbl (wsV RL 200 RX11 yX11_doubt wq_X11_doubt) := goodIn_app (goodIn_r _ [2179, 2180, 2181, 290] (by decide +kernel) (by decide +kernel)) (goodIn_sub tq_X11_doubt ga_X11_doubt)
theorem gq_L_law_X12_doubt_203 : GoodIn lw_tbl (wsV RL 203 RX12 yX12_doubt wq_X12_doubt) := goodIn_app (goodIn_r _ [3672, 3673, 3674, 296] (by decide +kernel) (by decide +kernel)) (goodIn_sub tq_X12_doubt ga_X12_doubt)
theorem gq_L_law_X11_claim_204 : GoodIn lw_tbl (wsV RL 204 RX11 yX11_claim wq_X11_claim) := goodIn_app (goodIn_r _ [2187, 2188, 2189, 290] (by decide +kernel) (by decide +kernel)) (goodIn_sub tq_X11_claim ga_X11_claim)
theorem gq_L_law_X12_claim_207 : GoodIn lw_tbl (wsV RL 207 RX12 yX12_claim wq_X12_claim) := goodIn_app (goodIn_r _ [3676, 3677, 3678, 296] (by decide +kernel) (by decide +kernel)) (goodIn_sub tq_X12_claim ga_X12_claim)
theorem gq_L_law_X11_claimed_208 : GoodIn lw_tbl (wsV RL 208 RX11 yX11_claimed wq_X11_claimed) := goodIn_app (goodIn_r _ [2200, 2201, 2202, 290] (by decide +kernel) (by decide +kernel)) (goodIn_sub tq_X11_claimed ga_X11_claimed)
theorem gq_L_law_X12_claimed_211 : GoodIn lw_tbl (wsV RL 211 RX12 yX12_claimed wq_X12_claimed) := goodIn_app (goodIn_r _ [3688, 3689, 3690, 296] (by decide +kernel) (by decide +kernel)) (goodIn_sub tq_X12_claimed ga_X12_claimed)
theorem gq_L_law_X11_check_212 : GoodIn lw_tbl (wsV RL 212 RX11 yX11_check wq_X11_check) := goodIn_app (goodIn_r _ [2204, 2205, 2206, 290] (by decide +kernel) (by decide +kernel)) (goodIn_sub tq_X11_check ga_X11_check)
theorem gq_L_law_X12_check_215 : GoodIn lw_tbl (wsV RL 215 RX12 yX12_check wq_X12_check) := goodIn_app (goodIn_r _ [3692, 3693, 3694, 296] (by decide +kernel) (by decide +kernel)) (goodIn_sub tq_X12_check ga_X12_check)
theorem gq_L_law_X11_act_216 : GoodIn lw_tbl (wsV RL 216 RX11 yX11_act wq_X11_act) := goodIn_app (goodIn_r _ [2212, 2213, 2214, 290] (by decide +kernel) (by decide +kernel)) (goodIn_sub tq_X11_act ga_X11_act)
theorem gq_L_law_X12_act_219 : GoodIn lw_tbl (wsV RL 219 RX12 yX12_act wq_X12_act) := goodIn_app (goodIn_r _ [3700, 3701, 3702, 296] (by decide +kernel) (by decide +kernel)) (goodIn_sub tq_X12_act ga_X12_act)
theorem gq_L_law_X11_link_220 : GoodIn lw_tbl (wsV RL 220 RX11 yX11_link wq_X11_link) := goodIn_app (goodIn_r _ [2223, 2224, 2225, 290] (by decide +kernel) (by decide +kernel)) (goodIn_sub tq_X11_link ga_X11_link)
theorem gq_L_law_X12_link_224 : GoodIn lw_tbl (wsV RL 224 RX12 yX12_link wq_X12_link) := goodIn_app (goodIn_r _ [3711, 3712, 3713, 296] (by decide +kernel) (by decide +kernel)) (goodIn_sub tq_X12_link ga_X12_link)
theorem gq_L_law_X11_alter_225 : GoodIn lw_tbl (wsV RL 225 RX11 yX11_alter wq_X11_alter) := goodIn_app (goodIn_r _ [2227, 2228, 2229, 290] (by decide +kernel) (by decide +kernel)) (goodIn_sub tq_X11_alter ga_X11_alter)
theorem gq_L_law_X12_alter_228 : GoodIn lw_tbl (wsV RL 228 RX12 yX12_alter wq_X12_alter) := goodIn_app (goodIn_r _ [3715, 3716, 3717, 296] (by decide +kernel) (by decide +kernel)) (goodIn_sub tq_X12_alter ga_X12_alter)
theorem gq_L_law_X11_chain_229 : GoodIn lw_tbl (wsV RL 229 RX11 yX11_chain wq_X11_chain) := goodIn_app (goodIn_r _ [2231, 2232, 2233, 290] (by decide +kernel) (by decide +kernel)) (goodIn_sub tq_X11_chain ga_X11_chain)
theorem gq_L_law_X12_chain_232 : GoodIn lw_tbl (wsV RL 232 RX12 yX12_chain wq_X12_chain) := goodIn_app (goodIn_r _ [3719, 3720, 3721, 296] (by decide +kernel) (by decide +kernel)) (goodIn_sub tq_X12_chain ga_X12_chain)
theorem gq_L_law_X11_count_233 : GoodIn lw_tbl (wsV RL 233 RX11 yX11_count wq_X11_count) := goodIn_app (goodIn_r _ [2235, 2236, 2237, 290] (by decide +kernel) (by decide +kernel)) (goodIn_sub tq_X11_count ga_X11_count)
theorem gq_L_law_X12_count_236 : GoodIn lw_tbl (wsV RL 236 RX12 yX12_count wq_X12_count) := goodIn_app (goodIn_r _ [3723, 3724, 3725, 296] (by decide +kernel) (by decide +kernel)) (goodIn_sub tq_X12_count ga_X12_count)
theorem gq_L_law_X11_init_n9 : GoodIn lw_tbl wq_X11_init := (goodIn_sub tq_X11_init ga_X11_init)
theorem gq_L_law_X12_init_n12 : GoodIn lw_tbl wq_X12_init := (goodIn_sub tq_X12_init ga_X12_init)
set_option maxHeartbeats 40000000 in
set_option maxRecDepth 100000 in
/-- from the end of a case on: the loop is left, the answer is 1 -/
theorem law_tail {p : Program} {e : Env} {s : State} {m : MethodId} {below : List Frame} {meth : Method} {c : Code} (l : Launch) {b L : Nat} {xs : Nat → Int32} (C0 : lw_At p s m meth c b L xs) {A : Nat → Prop} (hA : ∀ q : Nat, s.heap.size ≤ q → A q) (hAl : ∀ q : Nat, A q → s.heap.size ≤ q) (hL : L = 5) {H : Heap} {locs : List Loc} (hS : va_S A s.heap H locs) {k n : Nat} (hk : k ≤ 600000) (hn : n ≤ 7302250) (x0 m0 : Nat) (ls : Array Slot) (hl : lv_has ls 4 [(3, .int 0), (2, .ref m0), (1, .ref x0), (0, .ref b)]) : W p l e room_1 s m #[Value.ref b] below meth c H locs k n (lw_Z below #[Value.ref b] s) (F0 m 1979 ls []) := by
  subst hL
  obtain ⟨hx, hb, hr, hml, hown, hts, hX, hbl, hlocks, hgv⟩ := id C0
  have hown : s.vm.findClass RL = some m.cls := hown
  have hbA : ¬ A b := fun h => absurd (hAl b h) (Nat.not_le.mpr hbl)
  refine lv_iinc (v := 5) (lv' := [(3, .int 5), (2, .ref m0), (1, .ref x0), (0, .ref b)]) hx hb dL_law_1979 hl (k := 0) rfl (by decide) (by decide) rfl (fun ls hl => ?_)
  refine lv_goto (tgt := 18) hx hb dL_law_1982 (by decide) ?_
  refine lv_iload_n hx hb dL_law_18 rfl (lv_at hl 0 rfl) ?_
  refine lv_aload_n hx hb dL_law_19 rfl (lv_at hl 3 rfl) ?_
  refine va_slen hx hb hX hbl hbA hS dL_law_20 ?_
  refine lv_iconst (v := 5) hx hb dL_law_21 (by decide) ?_
  refine lv_isub hx hb dL_law_22 ?_
  refine lv_topi (fun f_2 ef_2 => ?_)
  obtain rfl : (0 : Int32) = f_2 := (ef_2.trans (by decide)).symm
  refine lv_icmp_gt (tgt := 1985) hx hb dL_law_23 (by decide) (fun _ => ?_) (fun c_3 => absurd (by decide) c_3)
  refine lv_iconst (v := 1) hx hb dL_law_1985 (by decide) ?_
  refine va_forget (fun q hq => hAl _ (hS.2.2 q hq)) ?_
  refine W.widen (k := 600000) (n := 7302250) hk hn ?_
  exact lw_ret hx hb hr hlocks dL_law_1986
set_option maxHeartbeats 40000000 in
set_option maxRecDepth 100000 in
theorem law_case_0 {p : Program} {e : Env} {s : State} {m : MethodId} {below : List Frame} {meth : Method} {c : Code} (l : Launch) {b L : Nat} {xs : Nat → Int32} (C0 : lw_At p s m meth c b L xs) {A : Nat → Prop} (hA : ∀ q : Nat, s.heap.size ≤ q → A q) (hAl : ∀ q : Nat, A q → s.heap.size ≤ q) (hL : L = 5) (dC : Nat → ClassId) (dI : Nat → Nat → Nat) (cI cB cZ cJ cC cP cV cT cO : ClassId) (x0 m0 : Nat) (g tf tq tt gm : Nat → Nat) (hK : va_K (dC, dI) vwCl [(cI, .int), (cB, .byte), (cZ, .boolean), (cJ, .long), (cC, .char), (cP, .object "DiskEvidence$Picture"), (cV, .object "DiskEvidence$Volume"), (cT, .object "DiskEvidence$Tree"), (cO, .object "DiskEvidence$Opening")] s) {H : Heap} {locs : List Loc} (hP : va_P (dC, dI) vwCl [(x0, .inr (11, (fsX g))), ((g 0), .inl (cB, 4000, (.inl (fun _ => 0)))), ((g 3), .inl (cP, 6, (.inr (.inr (.inr (.inr (fun _ => none))))))), ((g 14), .inr (0, (fs0 tf))), ((g 15), .inr (6, (fs6 tq))), ((g 16), .inr (8, (fs8 tt))), ((g 17), .inl (cI, 300, (.inl (fun _ => 0)))), ((g 18), .inl (cJ, 100, (.inr (.inl (fun _ => 0))))), (m0, .inr (12, (fsM gm))), ((gm 1), .inl (cI, 4000, (.inl (fun _ => 0)))), ((gm 4), .inl (cI, 6, (.inl (fun _ => 0)))), ((gm 5), .inl (cI, 49152, (.inl (fun _ => 0)))), ((gm 6), .inl (cZ, 768, (.inl (fun _ => 0)))), ((gm 168), .inl (cI, 100, (.inl (fun _ => 0)))), ((gm 169), .inl (cI, 100, (.inl (fun _ => 0)))), ((gm 170), .inl (cI, 100, (.inl (fun _ => 0)))), ((gm 171), .inl (cJ, 100, (.inr (.inl (fun _ => 0)))))] H) (hD : va_D A [(x0, .inr (11, (fsX g))), ((g 0), .inl (cB, 4000, (.inl (fun _ => 0)))), ((g 3), .inl (cP, 6, (.inr (.inr (.inr (.inr (fun _ => none))))))), ((g 14), .inr (0, (fs0 tf))), ((g 15), .inr (6, (fs6 tq))), ((g 16), .inr (8, (fs8 tt))), ((g 17), .inl (cI, 300, (.inl (fun _ => 0)))), ((g 18), .inl (cJ, 100, (.inr (.inl (fun _ => 0))))), (m0, .inr (12, (fsM gm))), ((gm 1), .inl (cI, 4000, (.inl (fun _ => 0)))), ((gm 4), .inl (cI, 6, (.inl (fun _ => 0)))), ((gm 5), .inl (cI, 49152, (.inl (fun _ => 0)))), ((gm 6), .inl (cZ, 768, (.inl (fun _ => 0)))), ((gm 168), .inl (cI, 100, (.inl (fun _ => 0)))), ((gm 169), .inl (cI, 100, (.inl (fun _ => 0)))), ((gm 170), .inl (cI, 100, (.inl (fun _ => 0)))), ((gm 171), .inl (cJ, 100, (.inr (.inl (fun _ => 0)))))]) (hS : va_S A s.heap H locs) (ls : Array Slot) (hl : lv_has ls 4 [(3, .int 0), (2, .ref m0), (1, .ref x0), (0, .ref b)]) : W p l e room_1 s m #[Value.ref b] below meth c H locs 147 815844 (lw_Z below #[Value.ref b] s) (F0 m 260 ls []) := by
  subst hL
  obtain ⟨hx, hb, hr, hml, hown, hts, hX, hbl, hlocks, hgv⟩ := id C0
  have hown : s.vm.findClass RL = some m.cls := hown
  have hbA : ¬ A b := fun h => absurd (hAl b h) (Nat.not_le.mpr hbl)
  refine lv_aload_n hx hb dL_law_260 rfl (lv_at hl 2 rfl) ?_
  refine lv_aload_n hx hb dL_law_261 rfl (lv_at hl 3 rfl) ?_
  refine lv_iload_n hx hb dL_law_262 rfl (lv_at hl 0 rfl) ?_
  refine lv_iconst (v := 1) hx hb dL_law_263 (by decide) ?_
  refine lv_iadd hx hb dL_law_264 ?_
  refine lv_topi (fun f_1 ef_1 => ?_)
  obtain rfl : (1 : Int32) = f_1 := (ef_1.trans (by decide)).symm
  refine va_sld hx hb hX hbl hbA hS (vp_in_nI (n := 1) (N := 5) (by decide) (by decide)) dL_law_265 ?_
  refine lv_i2l hx hb dL_law_266 rfl ?_
  refine lv_topl (fun f_2 ef_2 => ?_)
  refine lv_bipush (v := 32) hx hb dL_law_267 (by decide) ?_
  refine lv_lshl hx hb dL_law_269 rfl ?_
  refine lv_topl (fun f_3 ef_3 => ?_)
  refine lv_aload_n hx hb dL_law_270 rfl (lv_at hl 3 rfl) ?_
  refine lv_iload_n hx hb dL_law_271 rfl (lv_at hl 0 rfl) ?_
  refine lv_iconst (v := 2) hx hb dL_law_272 (by decide) ?_
  refine lv_iadd hx hb dL_law_273 ?_
  refine lv_topi (fun f_4 ef_4 => ?_)
  obtain rfl : (2 : Int32) = f_4 := (ef_4.trans (by decide)).symm
  refine va_sld hx hb hX hbl hbA hS (vp_in_nI (n := 2) (N := 5) (by decide) (by decide)) dL_law_274 ?_
  refine lv_i2l hx hb dL_law_275 rfl ?_
  refine lv_topl (fun f_5 ef_5 => ?_)
  refine lv_ldc2 (v := 4294967295) hx hb hown (hts (.constantLong RL 13 (4294967295)) tm_3727) dL_law_276 ?_
  refine lv_land hx hb dL_law_279 ?_
  refine lv_topl (fun f_6 ef_6 => ?_)
  refine lv_lor hx hb dL_law_280 ?_
  refine lv_topl (fun f_7 ef_7 => ?_)
  refine lv_aload_n hx hb dL_law_281 rfl (lv_at hl 3 rfl) ?_
  refine lv_iload_n hx hb dL_law_282 rfl (lv_at hl 0 rfl) ?_
  refine lv_iconst (v := 3) hx hb dL_law_283 (by decide) ?_
  refine lv_iadd hx hb dL_law_284 ?_
  refine lv_topi (fun f_8 ef_8 => ?_)
  obtain rfl : (3 : Int32) = f_8 := (ef_8.trans (by decide)).symm
  refine va_sld hx hb hX hbl hbA hS (vp_in_nI (n := 3) (N := 5) (by decide) (by decide)) dL_law_285 ?_
  have hPc := hP.sub (ws' := [(x0, .inr (11, (fsX g))), ((g 0), .inl (cB, 4000, (.inl (fun _ => 0))))]) [0, 1] rfl
  have hDc := hD.sub (ws' := [(x0, .inr (11, (fsX g))), ((g 0), .inl (cB, 4000, (.inl (fun _ => 0))))]) [0, 1] (by decide) rfl
  have hKc := hK
  have hFc := va_free (wc := [(x0, .inr (11, (fsX g))), ((g 0), .inl (cB, 4000, (.inl (fun _ => 0))))]) hD hS hA [0, 1] rfl
  refine va_calli (va_runV (As := [.long f_7, .int (xs (3 : Int32).toNatClampNeg)]) (rest := []) ⟨hx, hb, hml, hown, hts⟩ (c_X11_collect l dC dI cI cB cZ cJ cC cP cV cT cO H.size x0 g (fun _ => 0) f_7 (xs (3 : Int32).toNatClampNeg)) (cwV 2 hts gq_L_law_X11_collect_15 rfl rfl rfl (by decide +kernel) ⟨Nat.le_of_ble_eq_true rfl, Nat.le_of_ble_eq_true rfl⟩) ⟨fun a U g mk q => by obtain ⟨q0, q1, qP, qK, qD⟩ := q; exact ⟨q0, q1, qP, va_K.moved (u := U) (U := U.calling g mk a) (Vm.Alike.refl U.vm) qK, qD⟩, va_recv hKc hPc (ci := 11) (q0 := 0) rfl rfl, fun U hU hW => ⟨rfl, by rw [hU], by rw [hU]; exact hPc, va_K.moved hW.alike hKc, hDc.weaken (fun _ _ _ _ => trivial)⟩⟩ rfl rfl hl.1 rfl (lv_room (Nat.le_of_ble_eq_true rfl)) dL_law_286 ⟨Nat.le_of_ble_eq_true rfl, Nat.le_of_ble_eq_true rfl⟩) hS (fun q _ h => hFc q h) hFc (fun r_9 u t H1 locs ht hvm hr_9 hB hz1 hk1 hS => ?_)
  obtain ⟨hP, hD⟩ := va_join (wr := [((g 3), .inl (cP, 6, (.inr (.inr (.inr (.inr (fun _ => none))))))), ((g 14), .inr (0, (fs0 tf))), ((g 15), .inr (6, (fs6 tq))), ((g 16), .inr (8, (fs8 tt))), ((g 17), .inl (cI, 300, (.inl (fun _ => 0)))), ((g 18), .inl (cJ, 100, (.inr (.inl (fun _ => 0))))), (m0, .inr (12, (fsM gm))), ((gm 1), .inl (cI, 4000, (.inl (fun _ => 0)))), ((gm 4), .inl (cI, 6, (.inl (fun _ => 0)))), ((gm 5), .inl (cI, 49152, (.inl (fun _ => 0)))), ((gm 6), .inl (cZ, 768, (.inl (fun _ => 0)))), ((gm 168), .inl (cI, 100, (.inl (fun _ => 0)))), ((gm 169), .inl (cI, 100, (.inl (fun _ => 0)))), ((gm 170), .inl (cI, 100, (.inl (fun _ => 0)))), ((gm 171), .inl (cJ, 100, (.inr (.inl (fun _ => 0)))))]) (w1 := []) hP hD [0, 1] [2, 3, 4, 5, 6, 7, 8, 9, 10, 11, 12, 13, 14, 15, 16] rfl rfl (by decide) (by decide) hk1 hFc nw_P0 nw_D0
  generalize H1 = H at hP hS ⊢
  have hP : va_P (dC, dI) vwCl [((g 3), .inl (cP, 6, (.inr (.inr (.inr (.inr (fun _ => none))))))), ((g 14), .inr (0, (fs0 tf))), ((g 15), .inr (6, (fs6 tq))), ((g 16), .inr (8, (fs8 tt))), ((g 17), .inl (cI, 300, (.inl (fun _ => 0)))), ((g 18), .inl (cJ, 100, (.inr (.inl (fun _ => 0))))), (m0, .inr (12, (fsM gm))), ((gm 1), .inl (cI, 4000, (.inl (fun _ => 0)))), ((gm 4), .inl (cI, 6, (.inl (fun _ => 0)))), ((gm 5), .inl (cI, 49152, (.inl (fun _ => 0)))), ((gm 6), .inl (cZ, 768, (.inl (fun _ => 0)))), ((gm 168), .inl (cI, 100, (.inl (fun _ => 0)))), ((gm 169), .inl (cI, 100, (.inl (fun _ => 0)))), ((gm 170), .inl (cI, 100, (.inl (fun _ => 0)))), ((gm 171), .inl (cJ, 100, (.inr (.inl (fun _ => 0)))))] H := hP
  have hD : va_D A [((g 3), .inl (cP, 6, (.inr (.inr (.inr (.inr (fun _ => none))))))), ((g 14), .inr (0, (fs0 tf))), ((g 15), .inr (6, (fs6 tq))), ((g 16), .inr (8, (fs8 tt))), ((g 17), .inl (cI, 300, (.inl (fun _ => 0)))), ((g 18), .inl (cJ, 100, (.inr (.inl (fun _ => 0))))), (m0, .inr (12, (fsM gm))), ((gm 1), .inl (cI, 4000, (.inl (fun _ => 0)))), ((gm 4), .inl (cI, 6, (.inl (fun _ => 0)))), ((gm 5), .inl (cI, 49152, (.inl (fun _ => 0)))), ((gm 6), .inl (cZ, 768, (.inl (fun _ => 0)))), ((gm 168), .inl (cI, 100, (.inl (fun _ => 0)))), ((gm 169), .inl (cI, 100, (.inl (fun _ => 0)))), ((gm 170), .inl (cI, 100, (.inl (fun _ => 0)))), ((gm 171), .inl (cJ, 100, (.inr (.inl (fun _ => 0)))))] := hD
  refine lv_aload_n hx hb dL_law_289 rfl (lv_at hl 1 rfl) ?_
  refine lv_aload_n hx hb dL_law_290 rfl (lv_at hl 3 rfl) ?_
  refine lv_iload_n hx hb dL_law_291 rfl (lv_at hl 0 rfl) ?_
  refine lv_iconst (v := 1) hx hb dL_law_292 (by decide) ?_
  refine lv_iadd hx hb dL_law_293 ?_
  refine lv_topi (fun f_10 ef_10 => ?_)
  obtain rfl : (1 : Int32) = f_10 := (ef_10.trans (by decide)).symm
  refine va_sld hx hb hX hbl hbA hS (vp_in_nI (n := 1) (N := 5) (by decide) (by decide)) dL_law_294 ?_
  refine lv_i2l hx hb dL_law_295 rfl ?_
  refine lv_topl (fun f_11 ef_11 => ?_)
  refine lv_bipush (v := 32) hx hb dL_law_296 (by decide) ?_
  refine lv_lshl hx hb dL_law_298 rfl ?_
  refine lv_topl (fun f_12 ef_12 => ?_)
  refine lv_aload_n hx hb dL_law_299 rfl (lv_at hl 3 rfl) ?_
  refine lv_iload_n hx hb dL_law_300 rfl (lv_at hl 0 rfl) ?_
  refine lv_iconst (v := 2) hx hb dL_law_301 (by decide) ?_
  refine lv_iadd hx hb dL_law_302 ?_
  refine lv_topi (fun f_13 ef_13 => ?_)
  obtain rfl : (2 : Int32) = f_13 := (ef_13.trans (by decide)).symm
  refine va_sld hx hb hX hbl hbA hS (vp_in_nI (n := 2) (N := 5) (by decide) (by decide)) dL_law_303 ?_
  refine lv_i2l hx hb dL_law_304 rfl ?_
  refine lv_topl (fun f_14 ef_14 => ?_)
  refine lv_ldc2 (v := 4294967295) hx hb hown (hts (.constantLong RL 13 (4294967295)) tm_3727) dL_law_305 ?_
  refine lv_land hx hb dL_law_308 ?_
  refine lv_topl (fun f_15 ef_15 => ?_)
  refine lv_lor hx hb dL_law_309 ?_
  refine lv_topl (fun f_16 ef_16 => ?_)
  refine lv_aload_n hx hb dL_law_310 rfl (lv_at hl 3 rfl) ?_
  refine lv_iload_n hx hb dL_law_311 rfl (lv_at hl 0 rfl) ?_
  refine lv_iconst (v := 3) hx hb dL_law_312 (by decide) ?_
  refine lv_iadd hx hb dL_law_313 ?_
  refine lv_topi (fun f_17 ef_17 => ?_)
  obtain rfl : (3 : Int32) = f_17 := (ef_17.trans (by decide)).symm
  refine va_sld hx hb hX hbl hbA hS (vp_in_nI (n := 3) (N := 5) (by decide) (by decide)) dL_law_314 ?_
  have hPc := hP.sub (ws' := [(m0, .inr (12, (fsM gm))), ((gm 1), .inl (cI, 4000, (.inl (fun _ => 0))))]) [6, 7] rfl
  have hDc := hD.sub (ws' := [(m0, .inr (12, (fsM gm))), ((gm 1), .inl (cI, 4000, (.inl (fun _ => 0))))]) [6, 7] (by decide) rfl
  have hKc := hK
  have hFc := va_free (wc := [(m0, .inr (12, (fsM gm))), ((gm 1), .inl (cI, 4000, (.inl (fun _ => 0))))]) hD hS hA [6, 7] rfl
  refine va_calli (va_runV (As := [.long f_16, .int (xs (3 : Int32).toNatClampNeg)]) (rest := [.int r_9]) ⟨hx, hb, hml, hown, hts⟩ (c_X12_collect l dC dI cI cB cZ cJ cC cP cV cT cO H.size m0 gm (fun _ => 0) f_16 (xs (3 : Int32).toNatClampNeg)) (cwV 2 hts gq_L_law_X12_collect_19 rfl rfl rfl (by decide +kernel) ⟨Nat.le_of_ble_eq_true rfl, Nat.le_of_ble_eq_true rfl⟩) ⟨fun a U g mk q => by obtain ⟨q0, q1, qP, qK, qD⟩ := q; exact ⟨q0, q1, qP, va_K.moved (u := U) (U := U.calling g mk a) (Vm.Alike.refl U.vm) qK, qD⟩, va_recv hKc hPc (ci := 12) (q0 := 0) rfl rfl, fun U hU hW => ⟨rfl, by rw [hU], by rw [hU]; exact hPc, va_K.moved hW.alike hKc, hDc.weaken (fun _ _ _ _ => trivial)⟩⟩ rfl rfl hl.1 rfl (lv_room (Nat.le_of_ble_eq_true rfl)) dL_law_315 ⟨Nat.le_of_ble_eq_true rfl, Nat.le_of_ble_eq_true rfl⟩) hS (fun q _ h => hFc q h) hFc (fun r_18 u t H1 locs ht hvm hr_18 hB hz1 hk1 hS => ?_)
  obtain ⟨hP, hD⟩ := va_join (wr := [((g 3), .inl (cP, 6, (.inr (.inr (.inr (.inr (fun _ => none))))))), ((g 14), .inr (0, (fs0 tf))), ((g 15), .inr (6, (fs6 tq))), ((g 16), .inr (8, (fs8 tt))), ((g 17), .inl (cI, 300, (.inl (fun _ => 0)))), ((g 18), .inl (cJ, 100, (.inr (.inl (fun _ => 0))))), ((gm 4), .inl (cI, 6, (.inl (fun _ => 0)))), ((gm 5), .inl (cI, 49152, (.inl (fun _ => 0)))), ((gm 6), .inl (cZ, 768, (.inl (fun _ => 0)))), ((gm 168), .inl (cI, 100, (.inl (fun _ => 0)))), ((gm 169), .inl (cI, 100, (.inl (fun _ => 0)))), ((gm 170), .inl (cI, 100, (.inl (fun _ => 0)))), ((gm 171), .inl (cJ, 100, (.inr (.inl (fun _ => 0)))))]) (w1 := []) hP hD [6, 7] [0, 1, 2, 3, 4, 5, 8, 9, 10, 11, 12, 13, 14] rfl rfl (by decide) (by decide) hk1 hFc nw_P0 nw_D0
  generalize H1 = H at hP hS ⊢
  have hP : va_P (dC, dI) vwCl [((g 3), .inl (cP, 6, (.inr (.inr (.inr (.inr (fun _ => none))))))), ((g 14), .inr (0, (fs0 tf))), ((g 15), .inr (6, (fs6 tq))), ((g 16), .inr (8, (fs8 tt))), ((g 17), .inl (cI, 300, (.inl (fun _ => 0)))), ((g 18), .inl (cJ, 100, (.inr (.inl (fun _ => 0))))), ((gm 4), .inl (cI, 6, (.inl (fun _ => 0)))), ((gm 5), .inl (cI, 49152, (.inl (fun _ => 0)))), ((gm 6), .inl (cZ, 768, (.inl (fun _ => 0)))), ((gm 168), .inl (cI, 100, (.inl (fun _ => 0)))), ((gm 169), .inl (cI, 100, (.inl (fun _ => 0)))), ((gm 170), .inl (cI, 100, (.inl (fun _ => 0)))), ((gm 171), .inl (cJ, 100, (.inr (.inl (fun _ => 0)))))] H := hP
  have hD : va_D A [((g 3), .inl (cP, 6, (.inr (.inr (.inr (.inr (fun _ => none))))))), ((g 14), .inr (0, (fs0 tf))), ((g 15), .inr (6, (fs6 tq))), ((g 16), .inr (8, (fs8 tt))), ((g 17), .inl (cI, 300, (.inl (fun _ => 0)))), ((g 18), .inl (cJ, 100, (.inr (.inl (fun _ => 0))))), ((gm 4), .inl (cI, 6, (.inl (fun _ => 0)))), ((gm 5), .inl (cI, 49152, (.inl (fun _ => 0)))), ((gm 6), .inl (cZ, 768, (.inl (fun _ => 0)))), ((gm 168), .inl (cI, 100, (.inl (fun _ => 0)))), ((gm 169), .inl (cI, 100, (.inl (fun _ => 0)))), ((gm 170), .inl (cI, 100, (.inl (fun _ => 0)))), ((gm 171), .inl (cJ, 100, (.inr (.inl (fun _ => 0)))))] := hD
  refine lv_icmp_eq (tgt := 1979) hx hb dL_law_318 (by decide) (fun _ => ?_) (fun c_19 => absurd (hr_9.trans hr_18.symm) c_19)
  exact law_tail l C0 hA hAl rfl hS (Nat.le_of_ble_eq_true rfl) (Nat.le_of_ble_eq_true rfl) x0 m0 ls (lv_sub hl [0, 1, 2, 3] rfl)
set_option maxHeartbeats 40000000 in
set_option maxRecDepth 100000 in
theorem law_case_1 {p : Program} {e : Env} {s : State} {m : MethodId} {below : List Frame} {meth : Method} {c : Code} (l : Launch) {b L : Nat} {xs : Nat → Int32} (C0 : lw_At p s m meth c b L xs) {A : Nat → Prop} (hA : ∀ q : Nat, s.heap.size ≤ q → A q) (hAl : ∀ q : Nat, A q → s.heap.size ≤ q) (hL : L = 5) (dC : Nat → ClassId) (dI : Nat → Nat → Nat) (cI cB cZ cJ cC cP cV cT cO : ClassId) (x0 m0 : Nat) (g tf tq tt gm : Nat → Nat) (hK : va_K (dC, dI) vwCl [(cI, .int), (cB, .byte), (cZ, .boolean), (cJ, .long), (cC, .char), (cP, .object "DiskEvidence$Picture"), (cV, .object "DiskEvidence$Volume"), (cT, .object "DiskEvidence$Tree"), (cO, .object "DiskEvidence$Opening")] s) {H : Heap} {locs : List Loc} (hP : va_P (dC, dI) vwCl [(x0, .inr (11, (fsX g))), ((g 0), .inl (cB, 4000, (.inl (fun _ => 0)))), ((g 3), .inl (cP, 6, (.inr (.inr (.inr (.inr (fun _ => none))))))), ((g 14), .inr (0, (fs0 tf))), ((g 15), .inr (6, (fs6 tq))), ((g 16), .inr (8, (fs8 tt))), ((g 17), .inl (cI, 300, (.inl (fun _ => 0)))), ((g 18), .inl (cJ, 100, (.inr (.inl (fun _ => 0))))), (m0, .inr (12, (fsM gm))), ((gm 1), .inl (cI, 4000, (.inl (fun _ => 0)))), ((gm 4), .inl (cI, 6, (.inl (fun _ => 0)))), ((gm 5), .inl (cI, 49152, (.inl (fun _ => 0)))), ((gm 6), .inl (cZ, 768, (.inl (fun _ => 0)))), ((gm 168), .inl (cI, 100, (.inl (fun _ => 0)))), ((gm 169), .inl (cI, 100, (.inl (fun _ => 0)))), ((gm 170), .inl (cI, 100, (.inl (fun _ => 0)))), ((gm 171), .inl (cJ, 100, (.inr (.inl (fun _ => 0)))))] H) (hD : va_D A [(x0, .inr (11, (fsX g))), ((g 0), .inl (cB, 4000, (.inl (fun _ => 0)))), ((g 3), .inl (cP, 6, (.inr (.inr (.inr (.inr (fun _ => none))))))), ((g 14), .inr (0, (fs0 tf))), ((g 15), .inr (6, (fs6 tq))), ((g 16), .inr (8, (fs8 tt))), ((g 17), .inl (cI, 300, (.inl (fun _ => 0)))), ((g 18), .inl (cJ, 100, (.inr (.inl (fun _ => 0))))), (m0, .inr (12, (fsM gm))), ((gm 1), .inl (cI, 4000, (.inl (fun _ => 0)))), ((gm 4), .inl (cI, 6, (.inl (fun _ => 0)))), ((gm 5), .inl (cI, 49152, (.inl (fun _ => 0)))), ((gm 6), .inl (cZ, 768, (.inl (fun _ => 0)))), ((gm 168), .inl (cI, 100, (.inl (fun _ => 0)))), ((gm 169), .inl (cI, 100, (.inl (fun _ => 0)))), ((gm 170), .inl (cI, 100, (.inl (fun _ => 0)))), ((gm 171), .inl (cJ, 100, (.inr (.inl (fun _ => 0)))))]) (hS : va_S A s.heap H locs) (ls : Array Slot) (hl : lv_has ls 4 [(3, .int 0), (2, .ref m0), (1, .ref x0), (0, .ref b)]) : W p l e room_1 s m #[Value.ref b] below meth c H locs 147 815844 (lw_Z below #[Value.ref b] s) (F0 m 323 ls []) := by
  subst hL
  obtain ⟨hx, hb, hr, hml, hown, hts, hX, hbl, hlocks, hgv⟩ := id C0
  have hown : s.vm.findClass RL = some m.cls := hown
  have hbA : ¬ A b := fun h => absurd (hAl b h) (Nat.not_le.mpr hbl)
  refine lv_aload_n hx hb dL_law_323 rfl (lv_at hl 2 rfl) ?_
  have hPc := hP.sub (ws' := [(x0, .inr (11, (fsX g)))]) [0] rfl
  have hDc := hD.sub (ws' := [(x0, .inr (11, (fsX g)))]) [0] (by decide) rfl
  have hKc := hK
  have hFc := va_free (wc := [(x0, .inr (11, (fsX g)))]) hD hS hA [0] rfl
  refine va_calli (va_runV (As := []) (rest := []) ⟨hx, hb, hml, hown, hts⟩ (c_X11_forget l dC dI cI cB cZ cJ cC cP cV cT cO H.size x0 g) (cwV 0 hts gq_L_law_X11_forget_20 rfl rfl rfl (by decide +kernel) ⟨Nat.le_of_ble_eq_true rfl, Nat.le_of_ble_eq_true rfl⟩) ⟨fun a U g mk q => by obtain ⟨q0, q1, qP, qK, qD⟩ := q; exact ⟨q0, q1, qP, va_K.moved (u := U) (U := U.calling g mk a) (Vm.Alike.refl U.vm) qK, qD⟩, va_recv hKc hPc (ci := 11) (q0 := 0) rfl rfl, fun U hU hW => ⟨rfl, by rw [hU], by rw [hU]; exact hPc, va_K.moved hW.alike hKc, hDc.weaken (fun _ _ _ _ => trivial)⟩⟩ rfl rfl hl.1 rfl (lv_room (Nat.le_of_ble_eq_true rfl)) dL_law_324 ⟨Nat.le_of_ble_eq_true rfl, Nat.le_of_ble_eq_true rfl⟩) hS (fun q _ h => hFc q h) hFc (fun r_1 u t H1 locs ht hvm hr_1 hB hz1 hk1 hS => ?_)
  obtain ⟨hP1, hD1⟩ := hB
  rw [ht] at hP1
  obtain ⟨hP, hD⟩ := va_join (wr := [((g 0), .inl (cB, 4000, (.inl (fun _ => 0)))), ((g 3), .inl (cP, 6, (.inr (.inr (.inr (.inr (fun _ => none))))))), ((g 14), .inr (0, (fs0 tf))), ((g 15), .inr (6, (fs6 tq))), ((g 16), .inr (8, (fs8 tt))), ((g 17), .inl (cI, 300, (.inl (fun _ => 0)))), ((g 18), .inl (cJ, 100, (.inr (.inl (fun _ => 0))))), (m0, .inr (12, (fsM gm))), ((gm 1), .inl (cI, 4000, (.inl (fun _ => 0)))), ((gm 4), .inl (cI, 6, (.inl (fun _ => 0)))), ((gm 5), .inl (cI, 49152, (.inl (fun _ => 0)))), ((gm 6), .inl (cZ, 768, (.inl (fun _ => 0)))), ((gm 168), .inl (cI, 100, (.inl (fun _ => 0)))), ((gm 169), .inl (cI, 100, (.inl (fun _ => 0)))), ((gm 170), .inl (cI, 100, (.inl (fun _ => 0)))), ((gm 171), .inl (cJ, 100, (.inr (.inl (fun _ => 0)))))]) (w1 := [(x0, .inr (11, (fsX g)))]) hP hD [0] [1, 2, 3, 4, 5, 6, 7, 8, 9, 10, 11, 12, 13, 14, 15, 16] rfl rfl (by decide) (by decide) hk1 hFc hP1 hD1
  generalize H1 = H at hP hS ⊢
  have hP : va_P (dC, dI) vwCl [((g 0), .inl (cB, 4000, (.inl (fun _ => 0)))), ((g 3), .inl (cP, 6, (.inr (.inr (.inr (.inr (fun _ => none))))))), ((g 14), .inr (0, (fs0 tf))), ((g 15), .inr (6, (fs6 tq))), ((g 16), .inr (8, (fs8 tt))), ((g 17), .inl (cI, 300, (.inl (fun _ => 0)))), ((g 18), .inl (cJ, 100, (.inr (.inl (fun _ => 0))))), (m0, .inr (12, (fsM gm))), ((gm 1), .inl (cI, 4000, (.inl (fun _ => 0)))), ((gm 4), .inl (cI, 6, (.inl (fun _ => 0)))), ((gm 5), .inl (cI, 49152, (.inl (fun _ => 0)))), ((gm 6), .inl (cZ, 768, (.inl (fun _ => 0)))), ((gm 168), .inl (cI, 100, (.inl (fun _ => 0)))), ((gm 169), .inl (cI, 100, (.inl (fun _ => 0)))), ((gm 170), .inl (cI, 100, (.inl (fun _ => 0)))), ((gm 171), .inl (cJ, 100, (.inr (.inl (fun _ => 0))))), (x0, .inr (11, (fsX g)))] H := hP
  have hD : va_D A [((g 0), .inl (cB, 4000, (.inl (fun _ => 0)))), ((g 3), .inl (cP, 6, (.inr (.inr (.inr (.inr (fun _ => none))))))), ((g 14), .inr (0, (fs0 tf))), ((g 15), .inr (6, (fs6 tq))), ((g 16), .inr (8, (fs8 tt))), ((g 17), .inl (cI, 300, (.inl (fun _ => 0)))), ((g 18), .inl (cJ, 100, (.inr (.inl (fun _ => 0))))), (m0, .inr (12, (fsM gm))), ((gm 1), .inl (cI, 4000, (.inl (fun _ => 0)))), ((gm 4), .inl (cI, 6, (.inl (fun _ => 0)))), ((gm 5), .inl (cI, 49152, (.inl (fun _ => 0)))), ((gm 6), .inl (cZ, 768, (.inl (fun _ => 0)))), ((gm 168), .inl (cI, 100, (.inl (fun _ => 0)))), ((gm 169), .inl (cI, 100, (.inl (fun _ => 0)))), ((gm 170), .inl (cI, 100, (.inl (fun _ => 0)))), ((gm 171), .inl (cJ, 100, (.inr (.inl (fun _ => 0))))), (x0, .inr (11, (fsX g)))] := hD
  obtain rfl : r_1 = 0 := hr_1
  refine lv_aload_n hx hb dL_law_327 rfl (lv_at hl 1 rfl) ?_
  have hPc := hP.sub (ws' := [(m0, .inr (12, (fsM gm)))]) [7] rfl
  have hDc := hD.sub (ws' := [(m0, .inr (12, (fsM gm)))]) [7] (by decide) rfl
  have hKc := hK
  have hFc := va_free (wc := [(m0, .inr (12, (fsM gm)))]) hD hS hA [7] rfl
  refine va_calli (va_runV (As := []) (rest := [.int 0]) ⟨hx, hb, hml, hown, hts⟩ (c_X12_forget l dC dI cI cB cZ cJ cC cP cV cT cO H.size m0 gm) (cwV 0 hts gq_L_law_X12_forget_24 rfl rfl rfl (by decide +kernel) ⟨Nat.le_of_ble_eq_true rfl, Nat.le_of_ble_eq_true rfl⟩) ⟨fun a U g mk q => by obtain ⟨q0, q1, qP, qK, qD⟩ := q; exact ⟨q0, q1, qP, va_K.moved (u := U) (U := U.calling g mk a) (Vm.Alike.refl U.vm) qK, qD⟩, va_recv hKc hPc (ci := 12) (q0 := 0) rfl rfl, fun U hU hW => ⟨rfl, by rw [hU], by rw [hU]; exact hPc, va_K.moved hW.alike hKc, hDc.weaken (fun _ _ _ _ => trivial)⟩⟩ rfl rfl hl.1 rfl (lv_room (Nat.le_of_ble_eq_true rfl)) dL_law_328 ⟨Nat.le_of_ble_eq_true rfl, Nat.le_of_ble_eq_true rfl⟩) hS (fun q _ h => hFc q h) hFc (fun r_2 u t H1 locs ht hvm hr_2 hB hz1 hk1 hS => ?_)
  obtain ⟨hP1, hD1⟩ := hB
  rw [ht] at hP1
  obtain ⟨hP, hD⟩ := va_join (wr := [((g 0), .inl (cB, 4000, (.inl (fun _ => 0)))), ((g 3), .inl (cP, 6, (.inr (.inr (.inr (.inr (fun _ => none))))))), ((g 14), .inr (0, (fs0 tf))), ((g 15), .inr (6, (fs6 tq))), ((g 16), .inr (8, (fs8 tt))), ((g 17), .inl (cI, 300, (.inl (fun _ => 0)))), ((g 18), .inl (cJ, 100, (.inr (.inl (fun _ => 0))))), ((gm 1), .inl (cI, 4000, (.inl (fun _ => 0)))), ((gm 4), .inl (cI, 6, (.inl (fun _ => 0)))), ((gm 5), .inl (cI, 49152, (.inl (fun _ => 0)))), ((gm 6), .inl (cZ, 768, (.inl (fun _ => 0)))), ((gm 168), .inl (cI, 100, (.inl (fun _ => 0)))), ((gm 169), .inl (cI, 100, (.inl (fun _ => 0)))), ((gm 170), .inl (cI, 100, (.inl (fun _ => 0)))), ((gm 171), .inl (cJ, 100, (.inr (.inl (fun _ => 0))))), (x0, .inr (11, (fsX g)))]) (w1 := [(m0, .inr (12, (fsM gm)))]) hP hD [7] [0, 1, 2, 3, 4, 5, 6, 8, 9, 10, 11, 12, 13, 14, 15, 16] rfl rfl (by decide) (by decide) hk1 hFc hP1 hD1
  generalize H1 = H at hP hS ⊢
  have hP : va_P (dC, dI) vwCl [((g 0), .inl (cB, 4000, (.inl (fun _ => 0)))), ((g 3), .inl (cP, 6, (.inr (.inr (.inr (.inr (fun _ => none))))))), ((g 14), .inr (0, (fs0 tf))), ((g 15), .inr (6, (fs6 tq))), ((g 16), .inr (8, (fs8 tt))), ((g 17), .inl (cI, 300, (.inl (fun _ => 0)))), ((g 18), .inl (cJ, 100, (.inr (.inl (fun _ => 0))))), ((gm 1), .inl (cI, 4000, (.inl (fun _ => 0)))), ((gm 4), .inl (cI, 6, (.inl (fun _ => 0)))), ((gm 5), .inl (cI, 49152, (.inl (fun _ => 0)))), ((gm 6), .inl (cZ, 768, (.inl (fun _ => 0)))), ((gm 168), .inl (cI, 100, (.inl (fun _ => 0)))), ((gm 169), .inl (cI, 100, (.inl (fun _ => 0)))), ((gm 170), .inl (cI, 100, (.inl (fun _ => 0)))), ((gm 171), .inl (cJ, 100, (.inr (.inl (fun _ => 0))))), (x0, .inr (11, (fsX g))), (m0, .inr (12, (fsM gm)))] H := hP
  have hD : va_D A [((g 0), .inl (cB, 4000, (.inl (fun _ => 0)))), ((g 3), .inl (cP, 6, (.inr (.inr (.inr (.inr (fun _ => none))))))), ((g 14), .inr (0, (fs0 tf))), ((g 15), .inr (6, (fs6 tq))), ((g 16), .inr (8, (fs8 tt))), ((g 17), .inl (cI, 300, (.inl (fun _ => 0)))), ((g 18), .inl (cJ, 100, (.inr (.inl (fun _ => 0))))), ((gm 1), .inl (cI, 4000, (.inl (fun _ => 0)))), ((gm 4), .inl (cI, 6, (.inl (fun _ => 0)))), ((gm 5), .inl (cI, 49152, (.inl (fun _ => 0)))), ((gm 6), .inl (cZ, 768, (.inl (fun _ => 0)))), ((gm 168), .inl (cI, 100, (.inl (fun _ => 0)))), ((gm 169), .inl (cI, 100, (.inl (fun _ => 0)))), ((gm 170), .inl (cI, 100, (.inl (fun _ => 0)))), ((gm 171), .inl (cJ, 100, (.inr (.inl (fun _ => 0))))), (x0, .inr (11, (fsX g))), (m0, .inr (12, (fsM gm)))] := hD
  obtain rfl : r_2 = 0 := hr_2
  refine lv_icmp_eq (tgt := 1979) hx hb dL_law_331 (by decide) (fun _ => ?_) (fun c_3 => absurd (by decide) c_3)
  exact law_tail l C0 hA hAl rfl hS (Nat.le_of_ble_eq_true rfl) (Nat.le_of_ble_eq_true rfl) x0 m0 ls (lv_sub hl [0, 1, 2, 3] rfl)
set_option maxHeartbeats 40000000 in
set_option maxRecDepth 100000 in
theorem law_case_2 {p : Program} {e : Env} {s : State} {m : MethodId} {below : List Frame} {meth : Method} {c : Code} (l : Launch) {b L : Nat} {xs : Nat → Int32} (C0 : lw_At p s m meth c b L xs) {A : Nat → Prop} (hA : ∀ q : Nat, s.heap.size ≤ q → A q) (hAl : ∀ q : Nat, A q → s.heap.size ≤ q) (hL : L = 5) (dC : Nat → ClassId) (dI : Nat → Nat → Nat) (cI cB cZ cJ cC cP cV cT cO : ClassId) (x0 m0 : Nat) (g tf tq tt gm : Nat → Nat) (hK : va_K (dC, dI) vwCl [(cI, .int), (cB, .byte), (cZ, .boolean), (cJ, .long), (cC, .char), (cP, .object "DiskEvidence$Picture"), (cV, .object "DiskEvidence$Volume"), (cT, .object "DiskEvidence$Tree"), (cO, .object "DiskEvidence$Opening")] s) {H : Heap} {locs : List Loc} (hP : va_P (dC, dI) vwCl [(x0, .inr (11, (fsX g))), ((g 0), .inl (cB, 4000, (.inl (fun _ => 0)))), ((g 3), .inl (cP, 6, (.inr (.inr (.inr (.inr (fun _ => none))))))), ((g 14), .inr (0, (fs0 tf))), ((g 15), .inr (6, (fs6 tq))), ((g 16), .inr (8, (fs8 tt))), ((g 17), .inl (cI, 300, (.inl (fun _ => 0)))), ((g 18), .inl (cJ, 100, (.inr (.inl (fun _ => 0))))), (m0, .inr (12, (fsM gm))), ((gm 1), .inl (cI, 4000, (.inl (fun _ => 0)))), ((gm 4), .inl (cI, 6, (.inl (fun _ => 0)))), ((gm 5), .inl (cI, 49152, (.inl (fun _ => 0)))), ((gm 6), .inl (cZ, 768, (.inl (fun _ => 0)))), ((gm 168), .inl (cI, 100, (.inl (fun _ => 0)))), ((gm 169), .inl (cI, 100, (.inl (fun _ => 0)))), ((gm 170), .inl (cI, 100, (.inl (fun _ => 0)))), ((gm 171), .inl (cJ, 100, (.inr (.inl (fun _ => 0)))))] H) (hD : va_D A [(x0, .inr (11, (fsX g))), ((g 0), .inl (cB, 4000, (.inl (fun _ => 0)))), ((g 3), .inl (cP, 6, (.inr (.inr (.inr (.inr (fun _ => none))))))), ((g 14), .inr (0, (fs0 tf))), ((g 15), .inr (6, (fs6 tq))), ((g 16), .inr (8, (fs8 tt))), ((g 17), .inl (cI, 300, (.inl (fun _ => 0)))), ((g 18), .inl (cJ, 100, (.inr (.inl (fun _ => 0))))), (m0, .inr (12, (fsM gm))), ((gm 1), .inl (cI, 4000, (.inl (fun _ => 0)))), ((gm 4), .inl (cI, 6, (.inl (fun _ => 0)))), ((gm 5), .inl (cI, 49152, (.inl (fun _ => 0)))), ((gm 6), .inl (cZ, 768, (.inl (fun _ => 0)))), ((gm 168), .inl (cI, 100, (.inl (fun _ => 0)))), ((gm 169), .inl (cI, 100, (.inl (fun _ => 0)))), ((gm 170), .inl (cI, 100, (.inl (fun _ => 0)))), ((gm 171), .inl (cJ, 100, (.inr (.inl (fun _ => 0)))))]) (hS : va_S A s.heap H locs) (ls : Array Slot) (hl : lv_has ls 4 [(3, .int 0), (2, .ref m0), (1, .ref x0), (0, .ref b)]) : W p l e room_1 s m #[Value.ref b] below meth c H locs 147 815844 (lw_Z below #[Value.ref b] s) (F0 m 336 ls []) := by
  subst hL
  obtain ⟨hx, hb, hr, hml, hown, hts, hX, hbl, hlocks, hgv⟩ := id C0
  have hown : s.vm.findClass RL = some m.cls := hown
  have hbA : ¬ A b := fun h => absurd (hAl b h) (Nat.not_le.mpr hbl)
  refine lv_aload_n hx hb dL_law_336 rfl (lv_at hl 2 rfl) ?_
  refine lv_aload_n hx hb dL_law_337 rfl (lv_at hl 3 rfl) ?_
  refine lv_iload_n hx hb dL_law_338 rfl (lv_at hl 0 rfl) ?_
  refine lv_iconst (v := 1) hx hb dL_law_339 (by decide) ?_
  refine lv_iadd hx hb dL_law_340 ?_
  refine lv_topi (fun f_1 ef_1 => ?_)
  obtain rfl : (1 : Int32) = f_1 := (ef_1.trans (by decide)).symm
  refine va_sld hx hb hX hbl hbA hS (vp_in_nI (n := 1) (N := 5) (by decide) (by decide)) dL_law_341 ?_
  have hPc := hP.sub (ws' := [(x0, .inr (11, (fsX g)))]) [0] rfl
  have hDc := hD.sub (ws' := [(x0, .inr (11, (fsX g)))]) [0] (by decide) rfl
  have hKc := hK
  have hFc := va_free (wc := [(x0, .inr (11, (fsX g)))]) hD hS hA [0] rfl
  refine va_calli (va_runV (As := [.int (xs (1 : Int32).toNatClampNeg)]) (rest := []) ⟨hx, hb, hml, hown, hts⟩ (c_X11_tick l dC dI cI cB cZ cJ cC cP cV cT cO H.size x0 g (xs (1 : Int32).toNatClampNeg)) (cwV 1 hts gq_L_law_X11_tick_25 rfl rfl rfl (by decide +kernel) ⟨Nat.le_of_ble_eq_true rfl, Nat.le_of_ble_eq_true rfl⟩) ⟨fun a U g mk q => by obtain ⟨q0, q1, qP, qK, qD⟩ := q; exact ⟨q0, q1, qP, va_K.moved (u := U) (U := U.calling g mk a) (Vm.Alike.refl U.vm) qK, qD⟩, va_recv hKc hPc (ci := 11) (q0 := 0) rfl rfl, fun U hU hW => ⟨rfl, by rw [hU], by rw [hU]; exact hPc, va_K.moved hW.alike hKc, hDc.weaken (fun _ _ _ _ => trivial)⟩⟩ rfl rfl hl.1 rfl (lv_room (Nat.le_of_ble_eq_true rfl)) dL_law_342 ⟨Nat.le_of_ble_eq_true rfl, Nat.le_of_ble_eq_true rfl⟩) hS (fun q _ h => hFc q h) hFc (fun r_2 u t H1 locs ht hvm hr_2 hB hz1 hk1 hS => ?_)
  obtain ⟨hP, hD⟩ := va_join (wr := [((g 0), .inl (cB, 4000, (.inl (fun _ => 0)))), ((g 3), .inl (cP, 6, (.inr (.inr (.inr (.inr (fun _ => none))))))), ((g 14), .inr (0, (fs0 tf))), ((g 15), .inr (6, (fs6 tq))), ((g 16), .inr (8, (fs8 tt))), ((g 17), .inl (cI, 300, (.inl (fun _ => 0)))), ((g 18), .inl (cJ, 100, (.inr (.inl (fun _ => 0))))), (m0, .inr (12, (fsM gm))), ((gm 1), .inl (cI, 4000, (.inl (fun _ => 0)))), ((gm 4), .inl (cI, 6, (.inl (fun _ => 0)))), ((gm 5), .inl (cI, 49152, (.inl (fun _ => 0)))), ((gm 6), .inl (cZ, 768, (.inl (fun _ => 0)))), ((gm 168), .inl (cI, 100, (.inl (fun _ => 0)))), ((gm 169), .inl (cI, 100, (.inl (fun _ => 0)))), ((gm 170), .inl (cI, 100, (.inl (fun _ => 0)))), ((gm 171), .inl (cJ, 100, (.inr (.inl (fun _ => 0)))))]) (w1 := []) hP hD [0] [1, 2, 3, 4, 5, 6, 7, 8, 9, 10, 11, 12, 13, 14, 15, 16] rfl rfl (by decide) (by decide) hk1 hFc nw_P0 nw_D0
  generalize H1 = H at hP hS ⊢
  have hP : va_P (dC, dI) vwCl [((g 0), .inl (cB, 4000, (.inl (fun _ => 0)))), ((g 3), .inl (cP, 6, (.inr (.inr (.inr (.inr (fun _ => none))))))), ((g 14), .inr (0, (fs0 tf))), ((g 15), .inr (6, (fs6 tq))), ((g 16), .inr (8, (fs8 tt))), ((g 17), .inl (cI, 300, (.inl (fun _ => 0)))), ((g 18), .inl (cJ, 100, (.inr (.inl (fun _ => 0))))), (m0, .inr (12, (fsM gm))), ((gm 1), .inl (cI, 4000, (.inl (fun _ => 0)))), ((gm 4), .inl (cI, 6, (.inl (fun _ => 0)))), ((gm 5), .inl (cI, 49152, (.inl (fun _ => 0)))), ((gm 6), .inl (cZ, 768, (.inl (fun _ => 0)))), ((gm 168), .inl (cI, 100, (.inl (fun _ => 0)))), ((gm 169), .inl (cI, 100, (.inl (fun _ => 0)))), ((gm 170), .inl (cI, 100, (.inl (fun _ => 0)))), ((gm 171), .inl (cJ, 100, (.inr (.inl (fun _ => 0)))))] H := hP
  have hD : va_D A [((g 0), .inl (cB, 4000, (.inl (fun _ => 0)))), ((g 3), .inl (cP, 6, (.inr (.inr (.inr (.inr (fun _ => none))))))), ((g 14), .inr (0, (fs0 tf))), ((g 15), .inr (6, (fs6 tq))), ((g 16), .inr (8, (fs8 tt))), ((g 17), .inl (cI, 300, (.inl (fun _ => 0)))), ((g 18), .inl (cJ, 100, (.inr (.inl (fun _ => 0))))), (m0, .inr (12, (fsM gm))), ((gm 1), .inl (cI, 4000, (.inl (fun _ => 0)))), ((gm 4), .inl (cI, 6, (.inl (fun _ => 0)))), ((gm 5), .inl (cI, 49152, (.inl (fun _ => 0)))), ((gm 6), .inl (cZ, 768, (.inl (fun _ => 0)))), ((gm 168), .inl (cI, 100, (.inl (fun _ => 0)))), ((gm 169), .inl (cI, 100, (.inl (fun _ => 0)))), ((gm 170), .inl (cI, 100, (.inl (fun _ => 0)))), ((gm 171), .inl (cJ, 100, (.inr (.inl (fun _ => 0)))))] := hD
  refine lv_aload_n hx hb dL_law_345 rfl (lv_at hl 1 rfl) ?_
  refine lv_aload_n hx hb dL_law_346 rfl (lv_at hl 3 rfl) ?_
  refine lv_iload_n hx hb dL_law_347 rfl (lv_at hl 0 rfl) ?_
  refine lv_iconst (v := 1) hx hb dL_law_348 (by decide) ?_
  refine lv_iadd hx hb dL_law_349 ?_
  refine lv_topi (fun f_3 ef_3 => ?_)
  obtain rfl : (1 : Int32) = f_3 := (ef_3.trans (by decide)).symm
  refine va_sld hx hb hX hbl hbA hS (vp_in_nI (n := 1) (N := 5) (by decide) (by decide)) dL_law_350 ?_
  have hPc := hP.sub (ws' := [(m0, .inr (12, (fsM gm)))]) [7] rfl
  have hDc := hD.sub (ws' := [(m0, .inr (12, (fsM gm)))]) [7] (by decide) rfl
  have hKc := hK
  have hFc := va_free (wc := [(m0, .inr (12, (fsM gm)))]) hD hS hA [7] rfl
  refine va_calli (va_runV (As := [.int (xs (1 : Int32).toNatClampNeg)]) (rest := [.int r_2]) ⟨hx, hb, hml, hown, hts⟩ (c_X12_tick l dC dI cI cB cZ cJ cC cP cV cT cO H.size m0 gm (xs (1 : Int32).toNatClampNeg)) (cwV 1 hts gq_L_law_X12_tick_29 rfl rfl rfl (by decide +kernel) ⟨Nat.le_of_ble_eq_true rfl, Nat.le_of_ble_eq_true rfl⟩) ⟨fun a U g mk q => by obtain ⟨q0, q1, qP, qK, qD⟩ := q; exact ⟨q0, q1, qP, va_K.moved (u := U) (U := U.calling g mk a) (Vm.Alike.refl U.vm) qK, qD⟩, va_recv hKc hPc (ci := 12) (q0 := 0) rfl rfl, fun U hU hW => ⟨rfl, by rw [hU], by rw [hU]; exact hPc, va_K.moved hW.alike hKc, hDc.weaken (fun _ _ _ _ => trivial)⟩⟩ rfl rfl hl.1 rfl (lv_room (Nat.le_of_ble_eq_true rfl)) dL_law_351 ⟨Nat.le_of_ble_eq_true rfl, Nat.le_of_ble_eq_true rfl⟩) hS (fun q _ h => hFc q h) hFc (fun r_4 u t H1 locs ht hvm hr_4 hB hz1 hk1 hS => ?_)
  obtain ⟨hP, hD⟩ := va_join (wr := [((g 0), .inl (cB, 4000, (.inl (fun _ => 0)))), ((g 3), .inl (cP, 6, (.inr (.inr (.inr (.inr (fun _ => none))))))), ((g 14), .inr (0, (fs0 tf))), ((g 15), .inr (6, (fs6 tq))), ((g 16), .inr (8, (fs8 tt))), ((g 17), .inl (cI, 300, (.inl (fun _ => 0)))), ((g 18), .inl (cJ, 100, (.inr (.inl (fun _ => 0))))), ((gm 1), .inl (cI, 4000, (.inl (fun _ => 0)))), ((gm 4), .inl (cI, 6, (.inl (fun _ => 0)))), ((gm 5), .inl (cI, 49152, (.inl (fun _ => 0)))), ((gm 6), .inl (cZ, 768, (.inl (fun _ => 0)))), ((gm 168), .inl (cI, 100, (.inl (fun _ => 0)))), ((gm 169), .inl (cI, 100, (.inl (fun _ => 0)))), ((gm 170), .inl (cI, 100, (.inl (fun _ => 0)))), ((gm 171), .inl (cJ, 100, (.inr (.inl (fun _ => 0)))))]) (w1 := []) hP hD [7] [0, 1, 2, 3, 4, 5, 6, 8, 9, 10, 11, 12, 13, 14, 15] rfl rfl (by decide) (by decide) hk1 hFc nw_P0 nw_D0
  generalize H1 = H at hP hS ⊢
  have hP : va_P (dC, dI) vwCl [((g 0), .inl (cB, 4000, (.inl (fun _ => 0)))), ((g 3), .inl (cP, 6, (.inr (.inr (.inr (.inr (fun _ => none))))))), ((g 14), .inr (0, (fs0 tf))), ((g 15), .inr (6, (fs6 tq))), ((g 16), .inr (8, (fs8 tt))), ((g 17), .inl (cI, 300, (.inl (fun _ => 0)))), ((g 18), .inl (cJ, 100, (.inr (.inl (fun _ => 0))))), ((gm 1), .inl (cI, 4000, (.inl (fun _ => 0)))), ((gm 4), .inl (cI, 6, (.inl (fun _ => 0)))), ((gm 5), .inl (cI, 49152, (.inl (fun _ => 0)))), ((gm 6), .inl (cZ, 768, (.inl (fun _ => 0)))), ((gm 168), .inl (cI, 100, (.inl (fun _ => 0)))), ((gm 169), .inl (cI, 100, (.inl (fun _ => 0)))), ((gm 170), .inl (cI, 100, (.inl (fun _ => 0)))), ((gm 171), .inl (cJ, 100, (.inr (.inl (fun _ => 0)))))] H := hP
  have hD : va_D A [((g 0), .inl (cB, 4000, (.inl (fun _ => 0)))), ((g 3), .inl (cP, 6, (.inr (.inr (.inr (.inr (fun _ => none))))))), ((g 14), .inr (0, (fs0 tf))), ((g 15), .inr (6, (fs6 tq))), ((g 16), .inr (8, (fs8 tt))), ((g 17), .inl (cI, 300, (.inl (fun _ => 0)))), ((g 18), .inl (cJ, 100, (.inr (.inl (fun _ => 0))))), ((gm 1), .inl (cI, 4000, (.inl (fun _ => 0)))), ((gm 4), .inl (cI, 6, (.inl (fun _ => 0)))), ((gm 5), .inl (cI, 49152, (.inl (fun _ => 0)))), ((gm 6), .inl (cZ, 768, (.inl (fun _ => 0)))), ((gm 168), .inl (cI, 100, (.inl (fun _ => 0)))), ((gm 169), .inl (cI, 100, (.inl (fun _ => 0)))), ((gm 170), .inl (cI, 100, (.inl (fun _ => 0)))), ((gm 171), .inl (cJ, 100, (.inr (.inl (fun _ => 0)))))] := hD
  refine lv_icmp_eq (tgt := 1979) hx hb dL_law_354 (by decide) (fun _ => ?_) (fun c_5 => absurd (hr_2.trans hr_4.symm) c_5)
  exact law_tail l C0 hA hAl rfl hS (Nat.le_of_ble_eq_true rfl) (Nat.le_of_ble_eq_true rfl) x0 m0 ls (lv_sub hl [0, 1, 2, 3] rfl)
set_option maxHeartbeats 40000000 in
set_option maxRecDepth 100000 in
theorem law_case_3 {p : Program} {e : Env} {s : State} {m : MethodId} {below : List Frame} {meth : Method} {c : Code} (l : Launch) {b L : Nat} {xs : Nat → Int32} (C0 : lw_At p s m meth c b L xs) {A : Nat → Prop} (hA : ∀ q : Nat, s.heap.size ≤ q → A q) (hAl : ∀ q : Nat, A q → s.heap.size ≤ q) (hL : L = 5) (dC : Nat → ClassId) (dI : Nat → Nat → Nat) (cI cB cZ cJ cC cP cV cT cO : ClassId) (x0 m0 : Nat) (g tf tq tt gm : Nat → Nat) (hK : va_K (dC, dI) vwCl [(cI, .int), (cB, .byte), (cZ, .boolean), (cJ, .long), (cC, .char), (cP, .object "DiskEvidence$Picture"), (cV, .object "DiskEvidence$Volume"), (cT, .object "DiskEvidence$Tree"), (cO, .object "DiskEvidence$Opening")] s) {H : Heap} {locs : List Loc} (hP : va_P (dC, dI) vwCl [(x0, .inr (11, (fsX g))), ((g 0), .inl (cB, 4000, (.inl (fun _ => 0)))), ((g 3), .inl (cP, 6, (.inr (.inr (.inr (.inr (fun _ => none))))))), ((g 14), .inr (0, (fs0 tf))), ((g 15), .inr (6, (fs6 tq))), ((g 16), .inr (8, (fs8 tt))), ((g 17), .inl (cI, 300, (.inl (fun _ => 0)))), ((g 18), .inl (cJ, 100, (.inr (.inl (fun _ => 0))))), (m0, .inr (12, (fsM gm))), ((gm 1), .inl (cI, 4000, (.inl (fun _ => 0)))), ((gm 4), .inl (cI, 6, (.inl (fun _ => 0)))), ((gm 5), .inl (cI, 49152, (.inl (fun _ => 0)))), ((gm 6), .inl (cZ, 768, (.inl (fun _ => 0)))), ((gm 168), .inl (cI, 100, (.inl (fun _ => 0)))), ((gm 169), .inl (cI, 100, (.inl (fun _ => 0)))), ((gm 170), .inl (cI, 100, (.inl (fun _ => 0)))), ((gm 171), .inl (cJ, 100, (.inr (.inl (fun _ => 0)))))] H) (hD : va_D A [(x0, .inr (11, (fsX g))), ((g 0), .inl (cB, 4000, (.inl (fun _ => 0)))), ((g 3), .inl (cP, 6, (.inr (.inr (.inr (.inr (fun _ => none))))))), ((g 14), .inr (0, (fs0 tf))), ((g 15), .inr (6, (fs6 tq))), ((g 16), .inr (8, (fs8 tt))), ((g 17), .inl (cI, 300, (.inl (fun _ => 0)))), ((g 18), .inl (cJ, 100, (.inr (.inl (fun _ => 0))))), (m0, .inr (12, (fsM gm))), ((gm 1), .inl (cI, 4000, (.inl (fun _ => 0)))), ((gm 4), .inl (cI, 6, (.inl (fun _ => 0)))), ((gm 5), .inl (cI, 49152, (.inl (fun _ => 0)))), ((gm 6), .inl (cZ, 768, (.inl (fun _ => 0)))), ((gm 168), .inl (cI, 100, (.inl (fun _ => 0)))), ((gm 169), .inl (cI, 100, (.inl (fun _ => 0)))), ((gm 170), .inl (cI, 100, (.inl (fun _ => 0)))), ((gm 171), .inl (cJ, 100, (.inr (.inl (fun _ => 0)))))]) (hS : va_S A s.heap H locs) (ls : Array Slot) (hl : lv_has ls 4 [(3, .int 0), (2, .ref m0), (1, .ref x0), (0, .ref b)]) : W p l e room_1 s m #[Value.ref b] below meth c H locs 147 815844 (lw_Z below #[Value.ref b] s) (F0 m 359 ls []) := by
  subst hL
  obtain ⟨hx, hb, hr, hml, hown, hts, hX, hbl, hlocks, hgv⟩ := id C0
  have hown : s.vm.findClass RL = some m.cls := hown
  have hbA : ¬ A b := fun h => absurd (hAl b h) (Nat.not_le.mpr hbl)
  refine lv_aload_n hx hb dL_law_359 rfl (lv_at hl 2 rfl) ?_
  refine lv_aload_n hx hb dL_law_360 rfl (lv_at hl 3 rfl) ?_
  refine lv_iload_n hx hb dL_law_361 rfl (lv_at hl 0 rfl) ?_
  refine lv_iconst (v := 1) hx hb dL_law_362 (by decide) ?_
  refine lv_iadd hx hb dL_law_363 ?_
  refine lv_topi (fun f_1 ef_1 => ?_)
  obtain rfl : (1 : Int32) = f_1 := (ef_1.trans (by decide)).symm
  refine va_sld hx hb hX hbl hbA hS (vp_in_nI (n := 1) (N := 5) (by decide) (by decide)) dL_law_364 ?_
  have hPc := hP.sub (ws' := [(x0, .inr (11, (fsX g))), ((g 3), .inl (cP, 6, (.inr (.inr (.inr (.inr (fun _ => none)))))))]) [0, 2] rfl
  have hDc := hD.sub (ws' := [(x0, .inr (11, (fsX g))), ((g 3), .inl (cP, 6, (.inr (.inr (.inr (.inr (fun _ => none)))))))]) [0, 2] (by decide) rfl
  have hKc := hK
  have hFc := va_free (wc := [(x0, .inr (11, (fsX g))), ((g 3), .inl (cP, 6, (.inr (.inr (.inr (.inr (fun _ => none)))))))]) hD hS hA [0, 2] rfl
  refine va_calli (va_runV (As := [.int (xs (1 : Int32).toNatClampNeg)]) (rest := []) ⟨hx, hb, hml, hown, hts⟩ (c_X11_blank l dC dI cI cB cZ cJ cC cP cV cT cO H.size x0 g (fun _ => none) (xs (1 : Int32).toNatClampNeg)) (cwV 1 hts gq_L_law_X11_blank_30 rfl rfl rfl (by decide +kernel) ⟨Nat.le_of_ble_eq_true rfl, Nat.le_of_ble_eq_true rfl⟩) ⟨fun a U g mk q => by obtain ⟨q0, q1, qP, qK, qD⟩ := q; exact ⟨q0, q1, qP, va_K.moved (u := U) (U := U.calling g mk a) (Vm.Alike.refl U.vm) qK, qD⟩, va_recv hKc hPc (ci := 11) (q0 := 0) rfl rfl, fun U hU hW => ⟨rfl, by rw [hU], by rw [hU]; exact hPc, va_K.moved hW.alike hKc, hDc.weaken (fun _ _ _ _ => trivial)⟩⟩ rfl rfl hl.1 rfl (lv_room (Nat.le_of_ble_eq_true rfl)) dL_law_365 ⟨Nat.le_of_ble_eq_true rfl, Nat.le_of_ble_eq_true rfl⟩) hS (fun q _ h => hFc q h) hFc (fun r_2 u t H1 locs ht hvm hr_2 hB hz1 hk1 hS => ?_)
  obtain ⟨hP, hD⟩ := va_join (wr := [((g 0), .inl (cB, 4000, (.inl (fun _ => 0)))), ((g 14), .inr (0, (fs0 tf))), ((g 15), .inr (6, (fs6 tq))), ((g 16), .inr (8, (fs8 tt))), ((g 17), .inl (cI, 300, (.inl (fun _ => 0)))), ((g 18), .inl (cJ, 100, (.inr (.inl (fun _ => 0))))), (m0, .inr (12, (fsM gm))), ((gm 1), .inl (cI, 4000, (.inl (fun _ => 0)))), ((gm 4), .inl (cI, 6, (.inl (fun _ => 0)))), ((gm 5), .inl (cI, 49152, (.inl (fun _ => 0)))), ((gm 6), .inl (cZ, 768, (.inl (fun _ => 0)))), ((gm 168), .inl (cI, 100, (.inl (fun _ => 0)))), ((gm 169), .inl (cI, 100, (.inl (fun _ => 0)))), ((gm 170), .inl (cI, 100, (.inl (fun _ => 0)))), ((gm 171), .inl (cJ, 100, (.inr (.inl (fun _ => 0)))))]) (w1 := []) hP hD [0, 2] [1, 3, 4, 5, 6, 7, 8, 9, 10, 11, 12, 13, 14, 15, 16] rfl rfl (by decide) (by decide) hk1 hFc nw_P0 nw_D0
  generalize H1 = H at hP hS ⊢
  have hP : va_P (dC, dI) vwCl [((g 0), .inl (cB, 4000, (.inl (fun _ => 0)))), ((g 14), .inr (0, (fs0 tf))), ((g 15), .inr (6, (fs6 tq))), ((g 16), .inr (8, (fs8 tt))), ((g 17), .inl (cI, 300, (.inl (fun _ => 0)))), ((g 18), .inl (cJ, 100, (.inr (.inl (fun _ => 0))))), (m0, .inr (12, (fsM gm))), ((gm 1), .inl (cI, 4000, (.inl (fun _ => 0)))), ((gm 4), .inl (cI, 6, (.inl (fun _ => 0)))), ((gm 5), .inl (cI, 49152, (.inl (fun _ => 0)))), ((gm 6), .inl (cZ, 768, (.inl (fun _ => 0)))), ((gm 168), .inl (cI, 100, (.inl (fun _ => 0)))), ((gm 169), .inl (cI, 100, (.inl (fun _ => 0)))), ((gm 170), .inl (cI, 100, (.inl (fun _ => 0)))), ((gm 171), .inl (cJ, 100, (.inr (.inl (fun _ => 0)))))] H := hP
  have hD : va_D A [((g 0), .inl (cB, 4000, (.inl (fun _ => 0)))), ((g 14), .inr (0, (fs0 tf))), ((g 15), .inr (6, (fs6 tq))), ((g 16), .inr (8, (fs8 tt))), ((g 17), .inl (cI, 300, (.inl (fun _ => 0)))), ((g 18), .inl (cJ, 100, (.inr (.inl (fun _ => 0))))), (m0, .inr (12, (fsM gm))), ((gm 1), .inl (cI, 4000, (.inl (fun _ => 0)))), ((gm 4), .inl (cI, 6, (.inl (fun _ => 0)))), ((gm 5), .inl (cI, 49152, (.inl (fun _ => 0)))), ((gm 6), .inl (cZ, 768, (.inl (fun _ => 0)))), ((gm 168), .inl (cI, 100, (.inl (fun _ => 0)))), ((gm 169), .inl (cI, 100, (.inl (fun _ => 0)))), ((gm 170), .inl (cI, 100, (.inl (fun _ => 0)))), ((gm 171), .inl (cJ, 100, (.inr (.inl (fun _ => 0)))))] := hD
  refine W.widen (k := 152) (n := 824443) (by decide) (by decide) ?_
  refine lv_aload_n hx hb dL_law_368 rfl (lv_at hl 1 rfl) ?_
  refine lv_aload_n hx hb dL_law_369 rfl (lv_at hl 3 rfl) ?_
  refine lv_iload_n hx hb dL_law_370 rfl (lv_at hl 0 rfl) ?_
  refine lv_iconst (v := 1) hx hb dL_law_371 (by decide) ?_
  refine lv_iadd hx hb dL_law_372 ?_
  refine lv_topi (fun f_3 ef_3 => ?_)
  obtain rfl : (1 : Int32) = f_3 := (ef_3.trans (by decide)).symm
  refine va_sld hx hb hX hbl hbA hS (vp_in_nI (n := 1) (N := 5) (by decide) (by decide)) dL_law_373 ?_
  have hPc := hP.sub (ws' := [(m0, .inr (12, (fsM gm))), ((gm 4), .inl (cI, 6, (.inl (fun _ => 0)))), ((gm 5), .inl (cI, 49152, (.inl (fun _ => 0)))), ((gm 6), .inl (cZ, 768, (.inl (fun _ => 0))))]) [6, 8, 9, 10] rfl
  have hDc := hD.sub (ws' := [(m0, .inr (12, (fsM gm))), ((gm 4), .inl (cI, 6, (.inl (fun _ => 0)))), ((gm 5), .inl (cI, 49152, (.inl (fun _ => 0)))), ((gm 6), .inl (cZ, 768, (.inl (fun _ => 0))))]) [6, 8, 9, 10] (by decide) rfl
  have hKc := hK
  have hFc := va_free (wc := [(m0, .inr (12, (fsM gm))), ((gm 4), .inl (cI, 6, (.inl (fun _ => 0)))), ((gm 5), .inl (cI, 49152, (.inl (fun _ => 0)))), ((gm 6), .inl (cZ, 768, (.inl (fun _ => 0))))]) hD hS hA [6, 8, 9, 10] rfl
  refine va_calli (va_runV (As := [.int (xs (1 : Int32).toNatClampNeg)]) (rest := [.int r_2]) ⟨hx, hb, hml, hown, hts⟩ (c_X12_blank l dC dI cI cB cZ cJ cC cP cV cT cO H.size m0 gm (fun _ => 0) (fun _ => 0) (fun _ => 0) (xs (1 : Int32).toNatClampNeg)) (cwV 1 hts gq_L_law_X12_blank_33 rfl rfl rfl (by decide +kernel) ⟨Nat.le_of_ble_eq_true rfl, Nat.le_of_ble_eq_true rfl⟩) ⟨fun a U g mk q => by obtain ⟨q0, q1, qP, qK, qD⟩ := q; exact ⟨q0, q1, qP, va_K.moved (u := U) (U := U.calling g mk a) (Vm.Alike.refl U.vm) qK, qD⟩, va_recv hKc hPc (ci := 12) (q0 := 0) rfl rfl, fun U hU hW => ⟨rfl, by rw [hU], by rw [hU]; exact hPc, va_K.moved hW.alike hKc, hDc.weaken (fun _ _ _ _ => trivial)⟩⟩ rfl rfl hl.1 rfl (lv_room (Nat.le_of_ble_eq_true rfl)) dL_law_374 ⟨Nat.le_of_ble_eq_true rfl, Nat.le_of_ble_eq_true rfl⟩) hS (fun q _ h => hFc q h) hFc (fun r_4 u t H1 locs ht hvm hr_4 hB hz1 hk1 hS => ?_)
  obtain ⟨hP, hD⟩ := va_join (wr := [((g 0), .inl (cB, 4000, (.inl (fun _ => 0)))), ((g 14), .inr (0, (fs0 tf))), ((g 15), .inr (6, (fs6 tq))), ((g 16), .inr (8, (fs8 tt))), ((g 17), .inl (cI, 300, (.inl (fun _ => 0)))), ((g 18), .inl (cJ, 100, (.inr (.inl (fun _ => 0))))), ((gm 1), .inl (cI, 4000, (.inl (fun _ => 0)))), ((gm 168), .inl (cI, 100, (.inl (fun _ => 0)))), ((gm 169), .inl (cI, 100, (.inl (fun _ => 0)))), ((gm 170), .inl (cI, 100, (.inl (fun _ => 0)))), ((gm 171), .inl (cJ, 100, (.inr (.inl (fun _ => 0)))))]) (w1 := []) hP hD [6, 8, 9, 10] [0, 1, 2, 3, 4, 5, 7, 11, 12, 13, 14] rfl rfl (by decide) (by decide) hk1 hFc nw_P0 nw_D0
  generalize H1 = H at hP hS ⊢
  have hP : va_P (dC, dI) vwCl [((g 0), .inl (cB, 4000, (.inl (fun _ => 0)))), ((g 14), .inr (0, (fs0 tf))), ((g 15), .inr (6, (fs6 tq))), ((g 16), .inr (8, (fs8 tt))), ((g 17), .inl (cI, 300, (.inl (fun _ => 0)))), ((g 18), .inl (cJ, 100, (.inr (.inl (fun _ => 0))))), ((gm 1), .inl (cI, 4000, (.inl (fun _ => 0)))), ((gm 168), .inl (cI, 100, (.inl (fun _ => 0)))), ((gm 169), .inl (cI, 100, (.inl (fun _ => 0)))), ((gm 170), .inl (cI, 100, (.inl (fun _ => 0)))), ((gm 171), .inl (cJ, 100, (.inr (.inl (fun _ => 0)))))] H := hP
  have hD : va_D A [((g 0), .inl (cB, 4000, (.inl (fun _ => 0)))), ((g 14), .inr (0, (fs0 tf))), ((g 15), .inr (6, (fs6 tq))), ((g 16), .inr (8, (fs8 tt))), ((g 17), .inl (cI, 300, (.inl (fun _ => 0)))), ((g 18), .inl (cJ, 100, (.inr (.inl (fun _ => 0))))), ((gm 1), .inl (cI, 4000, (.inl (fun _ => 0)))), ((gm 168), .inl (cI, 100, (.inl (fun _ => 0)))), ((gm 169), .inl (cI, 100, (.inl (fun _ => 0)))), ((gm 170), .inl (cI, 100, (.inl (fun _ => 0)))), ((gm 171), .inl (cJ, 100, (.inr (.inl (fun _ => 0)))))] := hD
  refine lv_icmp_eq (tgt := 1979) hx hb dL_law_377 (by decide) (fun _ => ?_) (fun c_5 => absurd (hr_2.trans hr_4.symm) c_5)
  exact law_tail l C0 hA hAl rfl hS (Nat.le_of_ble_eq_true rfl) (Nat.le_of_ble_eq_true rfl) x0 m0 ls (lv_sub hl [0, 1, 2, 3] rfl)
set_option maxHeartbeats 40000000 in
set_option maxRecDepth 100000 in
theorem law_case_4 {p : Program} {e : Env} {s : State} {m : MethodId} {below : List Frame} {meth : Method} {c : Code} (l : Launch) {b L : Nat} {xs : Nat → Int32} (C0 : lw_At p s m meth c b L xs) {A : Nat → Prop} (hA : ∀ q : Nat, s.heap.size ≤ q → A q) (hAl : ∀ q : Nat, A q → s.heap.size ≤ q) (hL : L = 5) (dC : Nat → ClassId) (dI : Nat → Nat → Nat) (cI cB cZ cJ cC cP cV cT cO : ClassId) (x0 m0 : Nat) (g tf tq tt gm : Nat → Nat) (hK : va_K (dC, dI) vwCl [(cI, .int), (cB, .byte), (cZ, .boolean), (cJ, .long), (cC, .char), (cP, .object "DiskEvidence$Picture"), (cV, .object "DiskEvidence$Volume"), (cT, .object "DiskEvidence$Tree"), (cO, .object "DiskEvidence$Opening")] s) {H : Heap} {locs : List Loc} (hP : va_P (dC, dI) vwCl [(x0, .inr (11, (fsX g))), ((g 0), .inl (cB, 4000, (.inl (fun _ => 0)))), ((g 3), .inl (cP, 6, (.inr (.inr (.inr (.inr (fun _ => none))))))), ((g 14), .inr (0, (fs0 tf))), ((g 15), .inr (6, (fs6 tq))), ((g 16), .inr (8, (fs8 tt))), ((g 17), .inl (cI, 300, (.inl (fun _ => 0)))), ((g 18), .inl (cJ, 100, (.inr (.inl (fun _ => 0))))), (m0, .inr (12, (fsM gm))), ((gm 1), .inl (cI, 4000, (.inl (fun _ => 0)))), ((gm 4), .inl (cI, 6, (.inl (fun _ => 0)))), ((gm 5), .inl (cI, 49152, (.inl (fun _ => 0)))), ((gm 6), .inl (cZ, 768, (.inl (fun _ => 0)))), ((gm 168), .inl (cI, 100, (.inl (fun _ => 0)))), ((gm 169), .inl (cI, 100, (.inl (fun _ => 0)))), ((gm 170), .inl (cI, 100, (.inl (fun _ => 0)))), ((gm 171), .inl (cJ, 100, (.inr (.inl (fun _ => 0)))))] H) (hD : va_D A [(x0, .inr (11, (fsX g))), ((g 0), .inl (cB, 4000, (.inl (fun _ => 0)))), ((g 3), .inl (cP, 6, (.inr (.inr (.inr (.inr (fun _ => none))))))), ((g 14), .inr (0, (fs0 tf))), ((g 15), .inr (6, (fs6 tq))), ((g 16), .inr (8, (fs8 tt))), ((g 17), .inl (cI, 300, (.inl (fun _ => 0)))), ((g 18), .inl (cJ, 100, (.inr (.inl (fun _ => 0))))), (m0, .inr (12, (fsM gm))), ((gm 1), .inl (cI, 4000, (.inl (fun _ => 0)))), ((gm 4), .inl (cI, 6, (.inl (fun _ => 0)))), ((gm 5), .inl (cI, 49152, (.inl (fun _ => 0)))), ((gm 6), .inl (cZ, 768, (.inl (fun _ => 0)))), ((gm 168), .inl (cI, 100, (.inl (fun _ => 0)))), ((gm 169), .inl (cI, 100, (.inl (fun _ => 0)))), ((gm 170), .inl (cI, 100, (.inl (fun _ => 0)))), ((gm 171), .inl (cJ, 100, (.inr (.inl (fun _ => 0)))))]) (hS : va_S A s.heap H locs) (ls : Array Slot) (hl : lv_has ls 4 [(3, .int 0), (2, .ref m0), (1, .ref x0), (0, .ref b)]) : W p l e room_1 s m #[Value.ref b] below meth c H locs 147 815844 (lw_Z below #[Value.ref b] s) (F0 m 382 ls []) := by
  subst hL
  obtain ⟨hx, hb, hr, hml, hown, hts, hX, hbl, hlocks, hgv⟩ := id C0
  have hown : s.vm.findClass RL = some m.cls := hown
  have hbA : ¬ A b := fun h => absurd (hAl b h) (Nat.not_le.mpr hbl)
  refine lv_aload_n hx hb dL_law_382 rfl (lv_at hl 2 rfl) ?_
  have hPc := hP.sub (ws' := [(x0, .inr (11, (fsX g)))]) [0] rfl
  have hDc := hD.sub (ws' := [(x0, .inr (11, (fsX g)))]) [0] (by decide) rfl
  have hKc := hK
  have hFc := va_free (wc := [(x0, .inr (11, (fsX g)))]) hD hS hA [0] rfl
  refine va_calli (va_runV (As := []) (rest := []) ⟨hx, hb, hml, hown, hts⟩ (c_X11_picture l dC dI cI cB cZ cJ cC cP cV cT cO H.size x0 g) (cwV 0 hts gq_L_law_X11_picture_34 rfl rfl rfl (by decide +kernel) ⟨Nat.le_of_ble_eq_true rfl, Nat.le_of_ble_eq_true rfl⟩) ⟨fun a U g mk q => by obtain ⟨q0, q1, qP, qK, qD⟩ := q; exact ⟨q0, q1, qP, va_K.moved (u := U) (U := U.calling g mk a) (Vm.Alike.refl U.vm) qK, qD⟩, va_recv hKc hPc (ci := 11) (q0 := 0) rfl rfl, fun U hU hW => ⟨rfl, by rw [hU], by rw [hU]; exact hPc, va_K.moved hW.alike hKc, hDc.weaken (fun _ _ _ _ => trivial)⟩⟩ rfl rfl hl.1 rfl (lv_room (Nat.le_of_ble_eq_true rfl)) dL_law_383 ⟨Nat.le_of_ble_eq_true rfl, Nat.le_of_ble_eq_true rfl⟩) hS (fun q _ h => hFc q h) hFc (fun r_1 u t H1 locs ht hvm hr_1 hB hz1 hk1 hS => ?_)
  obtain ⟨hP, hD⟩ := va_join (wr := [((g 0), .inl (cB, 4000, (.inl (fun _ => 0)))), ((g 3), .inl (cP, 6, (.inr (.inr (.inr (.inr (fun _ => none))))))), ((g 14), .inr (0, (fs0 tf))), ((g 15), .inr (6, (fs6 tq))), ((g 16), .inr (8, (fs8 tt))), ((g 17), .inl (cI, 300, (.inl (fun _ => 0)))), ((g 18), .inl (cJ, 100, (.inr (.inl (fun _ => 0))))), (m0, .inr (12, (fsM gm))), ((gm 1), .inl (cI, 4000, (.inl (fun _ => 0)))), ((gm 4), .inl (cI, 6, (.inl (fun _ => 0)))), ((gm 5), .inl (cI, 49152, (.inl (fun _ => 0)))), ((gm 6), .inl (cZ, 768, (.inl (fun _ => 0)))), ((gm 168), .inl (cI, 100, (.inl (fun _ => 0)))), ((gm 169), .inl (cI, 100, (.inl (fun _ => 0)))), ((gm 170), .inl (cI, 100, (.inl (fun _ => 0)))), ((gm 171), .inl (cJ, 100, (.inr (.inl (fun _ => 0)))))]) (w1 := []) hP hD [0] [1, 2, 3, 4, 5, 6, 7, 8, 9, 10, 11, 12, 13, 14, 15, 16] rfl rfl (by decide) (by decide) hk1 hFc nw_P0 nw_D0
  generalize H1 = H at hP hS ⊢
  have hP : va_P (dC, dI) vwCl [((g 0), .inl (cB, 4000, (.inl (fun _ => 0)))), ((g 3), .inl (cP, 6, (.inr (.inr (.inr (.inr (fun _ => none))))))), ((g 14), .inr (0, (fs0 tf))), ((g 15), .inr (6, (fs6 tq))), ((g 16), .inr (8, (fs8 tt))), ((g 17), .inl (cI, 300, (.inl (fun _ => 0)))), ((g 18), .inl (cJ, 100, (.inr (.inl (fun _ => 0))))), (m0, .inr (12, (fsM gm))), ((gm 1), .inl (cI, 4000, (.inl (fun _ => 0)))), ((gm 4), .inl (cI, 6, (.inl (fun _ => 0)))), ((gm 5), .inl (cI, 49152, (.inl (fun _ => 0)))), ((gm 6), .inl (cZ, 768, (.inl (fun _ => 0)))), ((gm 168), .inl (cI, 100, (.inl (fun _ => 0)))), ((gm 169), .inl (cI, 100, (.inl (fun _ => 0)))), ((gm 170), .inl (cI, 100, (.inl (fun _ => 0)))), ((gm 171), .inl (cJ, 100, (.inr (.inl (fun _ => 0)))))] H := hP
  have hD : va_D A [((g 0), .inl (cB, 4000, (.inl (fun _ => 0)))), ((g 3), .inl (cP, 6, (.inr (.inr (.inr (.inr (fun _ => none))))))), ((g 14), .inr (0, (fs0 tf))), ((g 15), .inr (6, (fs6 tq))), ((g 16), .inr (8, (fs8 tt))), ((g 17), .inl (cI, 300, (.inl (fun _ => 0)))), ((g 18), .inl (cJ, 100, (.inr (.inl (fun _ => 0))))), (m0, .inr (12, (fsM gm))), ((gm 1), .inl (cI, 4000, (.inl (fun _ => 0)))), ((gm 4), .inl (cI, 6, (.inl (fun _ => 0)))), ((gm 5), .inl (cI, 49152, (.inl (fun _ => 0)))), ((gm 6), .inl (cZ, 768, (.inl (fun _ => 0)))), ((gm 168), .inl (cI, 100, (.inl (fun _ => 0)))), ((gm 169), .inl (cI, 100, (.inl (fun _ => 0)))), ((gm 170), .inl (cI, 100, (.inl (fun _ => 0)))), ((gm 171), .inl (cJ, 100, (.inr (.inl (fun _ => 0)))))] := hD
  obtain rfl : r_1 = (-100) := hr_1
  refine lv_aload_n hx hb dL_law_386 rfl (lv_at hl 1 rfl) ?_
  have hPc := hP.sub (ws' := [(m0, .inr (12, (fsM gm)))]) [7] rfl
  have hDc := hD.sub (ws' := [(m0, .inr (12, (fsM gm)))]) [7] (by decide) rfl
  have hKc := hK
  have hFc := va_free (wc := [(m0, .inr (12, (fsM gm)))]) hD hS hA [7] rfl
  refine va_calli (va_runV (As := []) (rest := [.int (-100)]) ⟨hx, hb, hml, hown, hts⟩ (c_X12_picture l dC dI cI cB cZ cJ cC cP cV cT cO H.size m0 gm) (cwV 0 hts gq_L_law_X12_picture_37 rfl rfl rfl (by decide +kernel) ⟨Nat.le_of_ble_eq_true rfl, Nat.le_of_ble_eq_true rfl⟩) ⟨fun a U g mk q => by obtain ⟨q0, q1, qP, qK, qD⟩ := q; exact ⟨q0, q1, qP, va_K.moved (u := U) (U := U.calling g mk a) (Vm.Alike.refl U.vm) qK, qD⟩, va_recv hKc hPc (ci := 12) (q0 := 0) rfl rfl, fun U hU hW => ⟨rfl, by rw [hU], by rw [hU]; exact hPc, va_K.moved hW.alike hKc, hDc.weaken (fun _ _ _ _ => trivial)⟩⟩ rfl rfl hl.1 rfl (lv_room (Nat.le_of_ble_eq_true rfl)) dL_law_387 ⟨Nat.le_of_ble_eq_true rfl, Nat.le_of_ble_eq_true rfl⟩) hS (fun q _ h => hFc q h) hFc (fun r_2 u t H1 locs ht hvm hr_2 hB hz1 hk1 hS => ?_)
  obtain ⟨hP, hD⟩ := va_join (wr := [((g 0), .inl (cB, 4000, (.inl (fun _ => 0)))), ((g 3), .inl (cP, 6, (.inr (.inr (.inr (.inr (fun _ => none))))))), ((g 14), .inr (0, (fs0 tf))), ((g 15), .inr (6, (fs6 tq))), ((g 16), .inr (8, (fs8 tt))), ((g 17), .inl (cI, 300, (.inl (fun _ => 0)))), ((g 18), .inl (cJ, 100, (.inr (.inl (fun _ => 0))))), ((gm 1), .inl (cI, 4000, (.inl (fun _ => 0)))), ((gm 4), .inl (cI, 6, (.inl (fun _ => 0)))), ((gm 5), .inl (cI, 49152, (.inl (fun _ => 0)))), ((gm 6), .inl (cZ, 768, (.inl (fun _ => 0)))), ((gm 168), .inl (cI, 100, (.inl (fun _ => 0)))), ((gm 169), .inl (cI, 100, (.inl (fun _ => 0)))), ((gm 170), .inl (cI, 100, (.inl (fun _ => 0)))), ((gm 171), .inl (cJ, 100, (.inr (.inl (fun _ => 0)))))]) (w1 := []) hP hD [7] [0, 1, 2, 3, 4, 5, 6, 8, 9, 10, 11, 12, 13, 14, 15] rfl rfl (by decide) (by decide) hk1 hFc nw_P0 nw_D0
  generalize H1 = H at hP hS ⊢
  have hP : va_P (dC, dI) vwCl [((g 0), .inl (cB, 4000, (.inl (fun _ => 0)))), ((g 3), .inl (cP, 6, (.inr (.inr (.inr (.inr (fun _ => none))))))), ((g 14), .inr (0, (fs0 tf))), ((g 15), .inr (6, (fs6 tq))), ((g 16), .inr (8, (fs8 tt))), ((g 17), .inl (cI, 300, (.inl (fun _ => 0)))), ((g 18), .inl (cJ, 100, (.inr (.inl (fun _ => 0))))), ((gm 1), .inl (cI, 4000, (.inl (fun _ => 0)))), ((gm 4), .inl (cI, 6, (.inl (fun _ => 0)))), ((gm 5), .inl (cI, 49152, (.inl (fun _ => 0)))), ((gm 6), .inl (cZ, 768, (.inl (fun _ => 0)))), ((gm 168), .inl (cI, 100, (.inl (fun _ => 0)))), ((gm 169), .inl (cI, 100, (.inl (fun _ => 0)))), ((gm 170), .inl (cI, 100, (.inl (fun _ => 0)))), ((gm 171), .inl (cJ, 100, (.inr (.inl (fun _ => 0)))))] H := hP
  have hD : va_D A [((g 0), .inl (cB, 4000, (.inl (fun _ => 0)))), ((g 3), .inl (cP, 6, (.inr (.inr (.inr (.inr (fun _ => none))))))), ((g 14), .inr (0, (fs0 tf))), ((g 15), .inr (6, (fs6 tq))), ((g 16), .inr (8, (fs8 tt))), ((g 17), .inl (cI, 300, (.inl (fun _ => 0)))), ((g 18), .inl (cJ, 100, (.inr (.inl (fun _ => 0))))), ((gm 1), .inl (cI, 4000, (.inl (fun _ => 0)))), ((gm 4), .inl (cI, 6, (.inl (fun _ => 0)))), ((gm 5), .inl (cI, 49152, (.inl (fun _ => 0)))), ((gm 6), .inl (cZ, 768, (.inl (fun _ => 0)))), ((gm 168), .inl (cI, 100, (.inl (fun _ => 0)))), ((gm 169), .inl (cI, 100, (.inl (fun _ => 0)))), ((gm 170), .inl (cI, 100, (.inl (fun _ => 0)))), ((gm 171), .inl (cJ, 100, (.inr (.inl (fun _ => 0)))))] := hD
  obtain rfl : r_2 = (-100) := hr_2
  refine lv_icmp_eq (tgt := 1979) hx hb dL_law_390 (by decide) (fun _ => ?_) (fun c_3 => absurd (by decide) c_3)
  exact law_tail l C0 hA hAl rfl hS (Nat.le_of_ble_eq_true rfl) (Nat.le_of_ble_eq_true rfl) x0 m0 ls (lv_sub hl [0, 1, 2, 3] rfl)
set_option maxHeartbeats 40000000 in
set_option maxRecDepth 100000 in
theorem law_case_5 {p : Program} {e : Env} {s : State} {m : MethodId} {below : List Frame} {meth : Method} {c : Code} (l : Launch) {b L : Nat} {xs : Nat → Int32} (C0 : lw_At p s m meth c b L xs) {A : Nat → Prop} (hA : ∀ q : Nat, s.heap.size ≤ q → A q) (hAl : ∀ q : Nat, A q → s.heap.size ≤ q) (hL : L = 5) (dC : Nat → ClassId) (dI : Nat → Nat → Nat) (cI cB cZ cJ cC cP cV cT cO : ClassId) (x0 m0 : Nat) (g tf tq tt gm : Nat → Nat) (hK : va_K (dC, dI) vwCl [(cI, .int), (cB, .byte), (cZ, .boolean), (cJ, .long), (cC, .char), (cP, .object "DiskEvidence$Picture"), (cV, .object "DiskEvidence$Volume"), (cT, .object "DiskEvidence$Tree"), (cO, .object "DiskEvidence$Opening")] s) {H : Heap} {locs : List Loc} (hP : va_P (dC, dI) vwCl [(x0, .inr (11, (fsX g))), ((g 0), .inl (cB, 4000, (.inl (fun _ => 0)))), ((g 3), .inl (cP, 6, (.inr (.inr (.inr (.inr (fun _ => none))))))), ((g 14), .inr (0, (fs0 tf))), ((g 15), .inr (6, (fs6 tq))), ((g 16), .inr (8, (fs8 tt))), ((g 17), .inl (cI, 300, (.inl (fun _ => 0)))), ((g 18), .inl (cJ, 100, (.inr (.inl (fun _ => 0))))), (m0, .inr (12, (fsM gm))), ((gm 1), .inl (cI, 4000, (.inl (fun _ => 0)))), ((gm 4), .inl (cI, 6, (.inl (fun _ => 0)))), ((gm 5), .inl (cI, 49152, (.inl (fun _ => 0)))), ((gm 6), .inl (cZ, 768, (.inl (fun _ => 0)))), ((gm 168), .inl (cI, 100, (.inl (fun _ => 0)))), ((gm 169), .inl (cI, 100, (.inl (fun _ => 0)))), ((gm 170), .inl (cI, 100, (.inl (fun _ => 0)))), ((gm 171), .inl (cJ, 100, (.inr (.inl (fun _ => 0)))))] H) (hD : va_D A [(x0, .inr (11, (fsX g))), ((g 0), .inl (cB, 4000, (.inl (fun _ => 0)))), ((g 3), .inl (cP, 6, (.inr (.inr (.inr (.inr (fun _ => none))))))), ((g 14), .inr (0, (fs0 tf))), ((g 15), .inr (6, (fs6 tq))), ((g 16), .inr (8, (fs8 tt))), ((g 17), .inl (cI, 300, (.inl (fun _ => 0)))), ((g 18), .inl (cJ, 100, (.inr (.inl (fun _ => 0))))), (m0, .inr (12, (fsM gm))), ((gm 1), .inl (cI, 4000, (.inl (fun _ => 0)))), ((gm 4), .inl (cI, 6, (.inl (fun _ => 0)))), ((gm 5), .inl (cI, 49152, (.inl (fun _ => 0)))), ((gm 6), .inl (cZ, 768, (.inl (fun _ => 0)))), ((gm 168), .inl (cI, 100, (.inl (fun _ => 0)))), ((gm 169), .inl (cI, 100, (.inl (fun _ => 0)))), ((gm 170), .inl (cI, 100, (.inl (fun _ => 0)))), ((gm 171), .inl (cJ, 100, (.inr (.inl (fun _ => 0)))))]) (hS : va_S A s.heap H locs) (ls : Array Slot) (hl : lv_has ls 4 [(3, .int 0), (2, .ref m0), (1, .ref x0), (0, .ref b)]) : W p l e room_1 s m #[Value.ref b] below meth c H locs 147 815844 (lw_Z below #[Value.ref b] s) (F0 m 395 ls []) := by
  subst hL
  obtain ⟨hx, hb, hr, hml, hown, hts, hX, hbl, hlocks, hgv⟩ := id C0
  have hown : s.vm.findClass RL = some m.cls := hown
  have hbA : ¬ A b := fun h => absurd (hAl b h) (Nat.not_le.mpr hbl)
  refine lv_aload_n hx hb dL_law_395 rfl (lv_at hl 2 rfl) ?_
  refine lv_aload_n hx hb dL_law_396 rfl (lv_at hl 3 rfl) ?_
  refine lv_iload_n hx hb dL_law_397 rfl (lv_at hl 0 rfl) ?_
  refine lv_iconst (v := 1) hx hb dL_law_398 (by decide) ?_
  refine lv_iadd hx hb dL_law_399 ?_
  refine lv_topi (fun f_1 ef_1 => ?_)
  obtain rfl : (1 : Int32) = f_1 := (ef_1.trans (by decide)).symm
  refine va_sld hx hb hX hbl hbA hS (vp_in_nI (n := 1) (N := 5) (by decide) (by decide)) dL_law_400 ?_
  have hPc := hP.sub (ws' := [(x0, .inr (11, (fsX g)))]) [0] rfl
  have hDc := hD.sub (ws' := [(x0, .inr (11, (fsX g)))]) [0] (by decide) rfl
  have hKc := hK
  refine vp_callSi (va_Run.run (va_runV (As := [.int (xs (1 : Int32).toNatClampNeg)]) (rest := []) ⟨hx, hb, hml, hown, hts⟩ (c_X11_sectors l dC dI cI cB cZ cJ cC cP cV cT cO H.size x0 g (xs (1 : Int32).toNatClampNeg)) (cwV 1 hts gq_L_law_X11_sectors_38 rfl rfl rfl (by decide +kernel) ⟨Nat.le_of_ble_eq_true rfl, Nat.le_of_ble_eq_true rfl⟩) ⟨fun a U g mk q => by obtain ⟨q0, q1, qP, qK, qD⟩ := q; exact ⟨q0, q1, qP, va_K.moved (u := U) (U := U.calling g mk a) (Vm.Alike.refl U.vm) qK, qD⟩, va_recv hKc hPc (ci := 11) (q0 := 0) rfl rfl, fun U hU hW => ⟨rfl, by rw [hU], by rw [hU]; exact hPc, va_K.moved hW.alike hKc, hDc.weaken (fun _ _ _ _ => trivial)⟩⟩ rfl rfl hl.1 rfl (lv_room (Nat.le_of_ble_eq_true rfl)) dL_law_401 ⟨Nat.le_of_ble_eq_true rfl, Nat.le_of_ble_eq_true rfl⟩)) (fun r_2 hr_2 => ?_)
  obtain rfl : r_2 = (-2) := hr_2
  refine lv_aload_n hx hb dL_law_404 rfl (lv_at hl 1 rfl) ?_
  refine lv_aload_n hx hb dL_law_405 rfl (lv_at hl 3 rfl) ?_
  refine lv_iload_n hx hb dL_law_406 rfl (lv_at hl 0 rfl) ?_
  refine lv_iconst (v := 1) hx hb dL_law_407 (by decide) ?_
  refine lv_iadd hx hb dL_law_408 ?_
  refine lv_topi (fun f_3 ef_3 => ?_)
  obtain rfl : (1 : Int32) = f_3 := (ef_3.trans (by decide)).symm
  refine va_sld hx hb hX hbl hbA hS (vp_in_nI (n := 1) (N := 5) (by decide) (by decide)) dL_law_409 ?_
  have hPc := hP.sub (ws' := [(m0, .inr (12, (fsM gm)))]) [8] rfl
  have hDc := hD.sub (ws' := [(m0, .inr (12, (fsM gm)))]) [8] (by decide) rfl
  have hKc := hK
  refine vp_callSi (va_Run.run (va_runV (As := [.int (xs (1 : Int32).toNatClampNeg)]) (rest := [.int (-2)]) ⟨hx, hb, hml, hown, hts⟩ (c_X12_sectors l dC dI cI cB cZ cJ cC cP cV cT cO H.size m0 gm (xs (1 : Int32).toNatClampNeg)) (cwV 1 hts gq_L_law_X12_sectors_41 rfl rfl rfl (by decide +kernel) ⟨Nat.le_of_ble_eq_true rfl, Nat.le_of_ble_eq_true rfl⟩) ⟨fun a U g mk q => by obtain ⟨q0, q1, qP, qK, qD⟩ := q; exact ⟨q0, q1, qP, va_K.moved (u := U) (U := U.calling g mk a) (Vm.Alike.refl U.vm) qK, qD⟩, va_recv hKc hPc (ci := 12) (q0 := 0) rfl rfl, fun U hU hW => ⟨rfl, by rw [hU], by rw [hU]; exact hPc, va_K.moved hW.alike hKc, hDc.weaken (fun _ _ _ _ => trivial)⟩⟩ rfl rfl hl.1 rfl (lv_room (Nat.le_of_ble_eq_true rfl)) dL_law_410 ⟨Nat.le_of_ble_eq_true rfl, Nat.le_of_ble_eq_true rfl⟩)) (fun r_4 hr_4 => ?_)
  obtain rfl : r_4 = (-2) := hr_4
  refine lv_icmp_eq (tgt := 1979) hx hb dL_law_413 (by decide) (fun _ => ?_) (fun c_5 => absurd (by decide) c_5)
  exact law_tail l C0 hA hAl rfl hS (Nat.le_of_ble_eq_true rfl) (Nat.le_of_ble_eq_true rfl) x0 m0 ls (lv_sub hl [0, 1, 2, 3] rfl)
set_option maxHeartbeats 40000000 in
set_option maxRecDepth 100000 in
theorem law_case_6 {p : Program} {e : Env} {s : State} {m : MethodId} {below : List Frame} {meth : Method} {c : Code} (l : Launch) {b L : Nat} {xs : Nat → Int32} (C0 : lw_At p s m meth c b L xs) {A : Nat → Prop} (hA : ∀ q : Nat, s.heap.size ≤ q → A q) (hAl : ∀ q : Nat, A q → s.heap.size ≤ q) (hL : L = 5) (dC : Nat → ClassId) (dI : Nat → Nat → Nat) (cI cB cZ cJ cC cP cV cT cO : ClassId) (x0 m0 : Nat) (g tf tq tt gm : Nat → Nat) (hK : va_K (dC, dI) vwCl [(cI, .int), (cB, .byte), (cZ, .boolean), (cJ, .long), (cC, .char), (cP, .object "DiskEvidence$Picture"), (cV, .object "DiskEvidence$Volume"), (cT, .object "DiskEvidence$Tree"), (cO, .object "DiskEvidence$Opening")] s) {H : Heap} {locs : List Loc} (hP : va_P (dC, dI) vwCl [(x0, .inr (11, (fsX g))), ((g 0), .inl (cB, 4000, (.inl (fun _ => 0)))), ((g 3), .inl (cP, 6, (.inr (.inr (.inr (.inr (fun _ => none))))))), ((g 14), .inr (0, (fs0 tf))), ((g 15), .inr (6, (fs6 tq))), ((g 16), .inr (8, (fs8 tt))), ((g 17), .inl (cI, 300, (.inl (fun _ => 0)))), ((g 18), .inl (cJ, 100, (.inr (.inl (fun _ => 0))))), (m0, .inr (12, (fsM gm))), ((gm 1), .inl (cI, 4000, (.inl (fun _ => 0)))), ((gm 4), .inl (cI, 6, (.inl (fun _ => 0)))), ((gm 5), .inl (cI, 49152, (.inl (fun _ => 0)))), ((gm 6), .inl (cZ, 768, (.inl (fun _ => 0)))), ((gm 168), .inl (cI, 100, (.inl (fun _ => 0)))), ((gm 169), .inl (cI, 100, (.inl (fun _ => 0)))), ((gm 170), .inl (cI, 100, (.inl (fun _ => 0)))), ((gm 171), .inl (cJ, 100, (.inr (.inl (fun _ => 0)))))] H) (hD : va_D A [(x0, .inr (11, (fsX g))), ((g 0), .inl (cB, 4000, (.inl (fun _ => 0)))), ((g 3), .inl (cP, 6, (.inr (.inr (.inr (.inr (fun _ => none))))))), ((g 14), .inr (0, (fs0 tf))), ((g 15), .inr (6, (fs6 tq))), ((g 16), .inr (8, (fs8 tt))), ((g 17), .inl (cI, 300, (.inl (fun _ => 0)))), ((g 18), .inl (cJ, 100, (.inr (.inl (fun _ => 0))))), (m0, .inr (12, (fsM gm))), ((gm 1), .inl (cI, 4000, (.inl (fun _ => 0)))), ((gm 4), .inl (cI, 6, (.inl (fun _ => 0)))), ((gm 5), .inl (cI, 49152, (.inl (fun _ => 0)))), ((gm 6), .inl (cZ, 768, (.inl (fun _ => 0)))), ((gm 168), .inl (cI, 100, (.inl (fun _ => 0)))), ((gm 169), .inl (cI, 100, (.inl (fun _ => 0)))), ((gm 170), .inl (cI, 100, (.inl (fun _ => 0)))), ((gm 171), .inl (cJ, 100, (.inr (.inl (fun _ => 0)))))]) (hS : va_S A s.heap H locs) (ls : Array Slot) (hl : lv_has ls 4 [(3, .int 0), (2, .ref m0), (1, .ref x0), (0, .ref b)]) : W p l e room_1 s m #[Value.ref b] below meth c H locs 147 815844 (lw_Z below #[Value.ref b] s) (F0 m 418 ls []) := by
  subst hL
  obtain ⟨hx, hb, hr, hml, hown, hts, hX, hbl, hlocks, hgv⟩ := id C0
  have hown : s.vm.findClass RL = some m.cls := hown
  have hbA : ¬ A b := fun h => absurd (hAl b h) (Nat.not_le.mpr hbl)
  refine lv_aload_n hx hb dL_law_418 rfl (lv_at hl 2 rfl) ?_
  refine lv_aload_n hx hb dL_law_419 rfl (lv_at hl 3 rfl) ?_
  refine lv_iload_n hx hb dL_law_420 rfl (lv_at hl 0 rfl) ?_
  refine lv_iconst (v := 1) hx hb dL_law_421 (by decide) ?_
  refine lv_iadd hx hb dL_law_422 ?_
  refine lv_topi (fun f_1 ef_1 => ?_)
  obtain rfl : (1 : Int32) = f_1 := (ef_1.trans (by decide)).symm
  refine va_sld hx hb hX hbl hbA hS (vp_in_nI (n := 1) (N := 5) (by decide) (by decide)) dL_law_423 ?_
  refine lv_aload_n hx hb dL_law_424 rfl (lv_at hl 3 rfl) ?_
  refine lv_iload_n hx hb dL_law_425 rfl (lv_at hl 0 rfl) ?_
  refine lv_iconst (v := 2) hx hb dL_law_426 (by decide) ?_
  refine lv_iadd hx hb dL_law_427 ?_
  refine lv_topi (fun f_2 ef_2 => ?_)
  obtain rfl : (2 : Int32) = f_2 := (ef_2.trans (by decide)).symm
  refine va_sld hx hb hX hbl hbA hS (vp_in_nI (n := 2) (N := 5) (by decide) (by decide)) dL_law_428 ?_
  refine lv_aload_n hx hb dL_law_429 rfl (lv_at hl 3 rfl) ?_
  refine lv_iload_n hx hb dL_law_430 rfl (lv_at hl 0 rfl) ?_
  refine lv_iconst (v := 3) hx hb dL_law_431 (by decide) ?_
  refine lv_iadd hx hb dL_law_432 ?_
  refine lv_topi (fun f_3 ef_3 => ?_)
  obtain rfl : (3 : Int32) = f_3 := (ef_3.trans (by decide)).symm
  refine va_sld hx hb hX hbl hbA hS (vp_in_nI (n := 3) (N := 5) (by decide) (by decide)) dL_law_433 ?_
  refine lv_if_eq (tgt := 441) hx hb dL_law_434 (by decide) (fun c_4 => ?_) (fun c_4 => ?_)
  · refine lv_iconst (v := 0) hx hb dL_law_441 (by decide) ?_
    have hPc := hP.sub (ws' := [(x0, .inr (11, (fsX g)))]) [0] rfl
    have hDc := hD.sub (ws' := [(x0, .inr (11, (fsX g)))]) [0] (by decide) rfl
    have hKc := hK
    refine vp_callSi (va_Run.run (va_runV (As := [.int (xs (1 : Int32).toNatClampNeg), .int (xs (2 : Int32).toNatClampNeg), .int 0]) (rest := []) ⟨hx, hb, hml, hown, hts⟩ (c_X11_spoil l dC dI cI cB cZ cJ cC cP cV cT cO H.size x0 g (xs (1 : Int32).toNatClampNeg) (xs (2 : Int32).toNatClampNeg) 0) (cwV 3 hts gq_L_law_X11_spoil_42 rfl rfl rfl (by decide +kernel) ⟨Nat.le_of_ble_eq_true rfl, Nat.le_of_ble_eq_true rfl⟩) ⟨fun a U g mk q => by obtain ⟨q0, q1, qP, qK, qD⟩ := q; exact ⟨q0, q1, qP, va_K.moved (u := U) (U := U.calling g mk a) (Vm.Alike.refl U.vm) qK, qD⟩, va_recv hKc hPc (ci := 11) (q0 := 0) rfl rfl, fun U hU hW => ⟨rfl, by rw [hU], by rw [hU]; exact hPc, va_K.moved hW.alike hKc, hDc.weaken (fun _ _ _ _ => trivial)⟩⟩ rfl rfl hl.1 rfl (lv_room (Nat.le_of_ble_eq_true rfl)) dL_law_442 ⟨Nat.le_of_ble_eq_true rfl, Nat.le_of_ble_eq_true rfl⟩)) (fun r_5 hr_5 => ?_)
    obtain rfl : r_5 = (-2) := hr_5
    refine lv_aload_n hx hb dL_law_445 rfl (lv_at hl 1 rfl) ?_
    refine lv_aload_n hx hb dL_law_446 rfl (lv_at hl 3 rfl) ?_
    refine lv_iload_n hx hb dL_law_447 rfl (lv_at hl 0 rfl) ?_
    refine lv_iconst (v := 1) hx hb dL_law_448 (by decide) ?_
    refine lv_iadd hx hb dL_law_449 ?_
    refine lv_topi (fun f_6 ef_6 => ?_)
    obtain rfl : (1 : Int32) = f_6 := (ef_6.trans (by decide)).symm
    refine va_sld hx hb hX hbl hbA hS (vp_in_nI (n := 1) (N := 5) (by decide) (by decide)) dL_law_450 ?_
    refine lv_aload_n hx hb dL_law_451 rfl (lv_at hl 3 rfl) ?_
    refine lv_iload_n hx hb dL_law_452 rfl (lv_at hl 0 rfl) ?_
    refine lv_iconst (v := 2) hx hb dL_law_453 (by decide) ?_
    refine lv_iadd hx hb dL_law_454 ?_
    refine lv_topi (fun f_7 ef_7 => ?_)
    obtain rfl : (2 : Int32) = f_7 := (ef_7.trans (by decide)).symm
    refine va_sld hx hb hX hbl hbA hS (vp_in_nI (n := 2) (N := 5) (by decide) (by decide)) dL_law_455 ?_
    refine lv_aload_n hx hb dL_law_456 rfl (lv_at hl 3 rfl) ?_
    refine lv_iload_n hx hb dL_law_457 rfl (lv_at hl 0 rfl) ?_
    refine lv_iconst (v := 3) hx hb dL_law_458 (by decide) ?_
    refine lv_iadd hx hb dL_law_459 ?_
    refine lv_topi (fun f_8 ef_8 => ?_)
    obtain rfl : (3 : Int32) = f_8 := (ef_8.trans (by decide)).symm
    refine va_sld hx hb hX hbl hbA hS (vp_in_nI (n := 3) (N := 5) (by decide) (by decide)) dL_law_460 ?_
    refine lv_if_eq (tgt := 468) hx hb dL_law_461 (by decide) (fun _ => ?_) (fun c_9 => absurd c_4 c_9)
    refine lv_iconst (v := 0) hx hb dL_law_468 (by decide) ?_
    have hPc := hP.sub (ws' := [(m0, .inr (12, (fsM gm)))]) [8] rfl
    have hDc := hD.sub (ws' := [(m0, .inr (12, (fsM gm)))]) [8] (by decide) rfl
    have hKc := hK
    refine vp_callSi (va_Run.run (va_runV (As := [.int (xs (1 : Int32).toNatClampNeg), .int (xs (2 : Int32).toNatClampNeg), .int 0]) (rest := [.int (-2)]) ⟨hx, hb, hml, hown, hts⟩ (c_X12_spoil l dC dI cI cB cZ cJ cC cP cV cT cO H.size m0 gm (xs (1 : Int32).toNatClampNeg) (xs (2 : Int32).toNatClampNeg) 0) (cwV 3 hts gq_L_law_X12_spoil_46 rfl rfl rfl (by decide +kernel) ⟨Nat.le_of_ble_eq_true rfl, Nat.le_of_ble_eq_true rfl⟩) ⟨fun a U g mk q => by obtain ⟨q0, q1, qP, qK, qD⟩ := q; exact ⟨q0, q1, qP, va_K.moved (u := U) (U := U.calling g mk a) (Vm.Alike.refl U.vm) qK, qD⟩, va_recv hKc hPc (ci := 12) (q0 := 0) rfl rfl, fun U hU hW => ⟨rfl, by rw [hU], by rw [hU]; exact hPc, va_K.moved hW.alike hKc, hDc.weaken (fun _ _ _ _ => trivial)⟩⟩ rfl rfl hl.1 rfl (lv_room (Nat.le_of_ble_eq_true rfl)) dL_law_469 ⟨Nat.le_of_ble_eq_true rfl, Nat.le_of_ble_eq_true rfl⟩)) (fun r_10 hr_10 => ?_)
    obtain rfl : r_10 = (-2) := hr_10
    refine lv_icmp_eq (tgt := 1979) hx hb dL_law_472 (by decide) (fun _ => ?_) (fun c_11 => absurd (by decide) c_11)
    exact law_tail l C0 hA hAl rfl hS (Nat.le_of_ble_eq_true rfl) (Nat.le_of_ble_eq_true rfl) x0 m0 ls (lv_sub hl [0, 1, 2, 3] rfl)
  · refine lv_iconst (v := 1) hx hb dL_law_437 (by decide) ?_
    refine lv_goto (tgt := 442) hx hb dL_law_438 (by decide) ?_
    have hPc := hP.sub (ws' := [(x0, .inr (11, (fsX g)))]) [0] rfl
    have hDc := hD.sub (ws' := [(x0, .inr (11, (fsX g)))]) [0] (by decide) rfl
    have hKc := hK
    refine vp_callSi (va_Run.run (va_runV (As := [.int (xs (1 : Int32).toNatClampNeg), .int (xs (2 : Int32).toNatClampNeg), .int 1]) (rest := []) ⟨hx, hb, hml, hown, hts⟩ (c_X11_spoil l dC dI cI cB cZ cJ cC cP cV cT cO H.size x0 g (xs (1 : Int32).toNatClampNeg) (xs (2 : Int32).toNatClampNeg) 1) (cwV 3 hts gq_L_law_X11_spoil_42 rfl rfl rfl (by decide +kernel) ⟨Nat.le_of_ble_eq_true rfl, Nat.le_of_ble_eq_true rfl⟩) ⟨fun a U g mk q => by obtain ⟨q0, q1, qP, qK, qD⟩ := q; exact ⟨q0, q1, qP, va_K.moved (u := U) (U := U.calling g mk a) (Vm.Alike.refl U.vm) qK, qD⟩, va_recv hKc hPc (ci := 11) (q0 := 0) rfl rfl, fun U hU hW => ⟨rfl, by rw [hU], by rw [hU]; exact hPc, va_K.moved hW.alike hKc, hDc.weaken (fun _ _ _ _ => trivial)⟩⟩ rfl rfl hl.1 rfl (lv_room (Nat.le_of_ble_eq_true rfl)) dL_law_442 ⟨Nat.le_of_ble_eq_true rfl, Nat.le_of_ble_eq_true rfl⟩)) (fun r_12 hr_12 => ?_)
    obtain rfl : r_12 = (-2) := hr_12
    refine lv_aload_n hx hb dL_law_445 rfl (lv_at hl 1 rfl) ?_
    refine lv_aload_n hx hb dL_law_446 rfl (lv_at hl 3 rfl) ?_
    refine lv_iload_n hx hb dL_law_447 rfl (lv_at hl 0 rfl) ?_
    refine lv_iconst (v := 1) hx hb dL_law_448 (by decide) ?_
    refine lv_iadd hx hb dL_law_449 ?_
    refine lv_topi (fun f_13 ef_13 => ?_)
    obtain rfl : (1 : Int32) = f_13 := (ef_13.trans (by decide)).symm
    refine va_sld hx hb hX hbl hbA hS (vp_in_nI (n := 1) (N := 5) (by decide) (by decide)) dL_law_450 ?_
    refine lv_aload_n hx hb dL_law_451 rfl (lv_at hl 3 rfl) ?_
    refine lv_iload_n hx hb dL_law_452 rfl (lv_at hl 0 rfl) ?_
    refine lv_iconst (v := 2) hx hb dL_law_453 (by decide) ?_
    refine lv_iadd hx hb dL_law_454 ?_
    refine lv_topi (fun f_14 ef_14 => ?_)
    obtain rfl : (2 : Int32) = f_14 := (ef_14.trans (by decide)).symm
    refine va_sld hx hb hX hbl hbA hS (vp_in_nI (n := 2) (N := 5) (by decide) (by decide)) dL_law_455 ?_
    refine lv_aload_n hx hb dL_law_456 rfl (lv_at hl 3 rfl) ?_
    refine lv_iload_n hx hb dL_law_457 rfl (lv_at hl 0 rfl) ?_
    refine lv_iconst (v := 3) hx hb dL_law_458 (by decide) ?_
    refine lv_iadd hx hb dL_law_459 ?_
    refine lv_topi (fun f_15 ef_15 => ?_)
    obtain rfl : (3 : Int32) = f_15 := (ef_15.trans (by decide)).symm
    refine va_sld hx hb hX hbl hbA hS (vp_in_nI (n := 3) (N := 5) (by decide) (by decide)) dL_law_460 ?_
    refine lv_if_eq (tgt := 468) hx hb dL_law_461 (by decide) (fun c_16 => absurd c_16 c_4) (fun _ => ?_)
    refine lv_iconst (v := 1) hx hb dL_law_464 (by decide) ?_
    refine lv_goto (tgt := 469) hx hb dL_law_465 (by decide) ?_
    have hPc := hP.sub (ws' := [(m0, .inr (12, (fsM gm)))]) [8] rfl
    have hDc := hD.sub (ws' := [(m0, .inr (12, (fsM gm)))]) [8] (by decide) rfl
    have hKc := hK
    refine vp_callSi (va_Run.run (va_runV (As := [.int (xs (1 : Int32).toNatClampNeg), .int (xs (2 : Int32).toNatClampNeg), .int 1]) (rest := [.int (-2)]) ⟨hx, hb, hml, hown, hts⟩ (c_X12_spoil l dC dI cI cB cZ cJ cC cP cV cT cO H.size m0 gm (xs (1 : Int32).toNatClampNeg) (xs (2 : Int32).toNatClampNeg) 1) (cwV 3 hts gq_L_law_X12_spoil_46 rfl rfl rfl (by decide +kernel) ⟨Nat.le_of_ble_eq_true rfl, Nat.le_of_ble_eq_true rfl⟩) ⟨fun a U g mk q => by obtain ⟨q0, q1, qP, qK, qD⟩ := q; exact ⟨q0, q1, qP, va_K.moved (u := U) (U := U.calling g mk a) (Vm.Alike.refl U.vm) qK, qD⟩, va_recv hKc hPc (ci := 12) (q0 := 0) rfl rfl, fun U hU hW => ⟨rfl, by rw [hU], by rw [hU]; exact hPc, va_K.moved hW.alike hKc, hDc.weaken (fun _ _ _ _ => trivial)⟩⟩ rfl rfl hl.1 rfl (lv_room (Nat.le_of_ble_eq_true rfl)) dL_law_469 ⟨Nat.le_of_ble_eq_true rfl, Nat.le_of_ble_eq_true rfl⟩)) (fun r_17 hr_17 => ?_)
    obtain rfl : r_17 = (-2) := hr_17
    refine lv_icmp_eq (tgt := 1979) hx hb dL_law_472 (by decide) (fun _ => ?_) (fun c_18 => absurd (by decide) c_18)
    exact law_tail l C0 hA hAl rfl hS (Nat.le_of_ble_eq_true rfl) (Nat.le_of_ble_eq_true rfl) x0 m0 ls (lv_sub hl [0, 1, 2, 3] rfl)
set_option maxHeartbeats 40000000 in
set_option maxRecDepth 100000 in
theorem law_case_7 {p : Program} {e : Env} {s : State} {m : MethodId} {below : List Frame} {meth : Method} {c : Code} (l : Launch) {b L : Nat} {xs : Nat → Int32} (C0 : lw_At p s m meth c b L xs) {A : Nat → Prop} (hA : ∀ q : Nat, s.heap.size ≤ q → A q) (hAl : ∀ q : Nat, A q → s.heap.size ≤ q) (hL : L = 5) (dC : Nat → ClassId) (dI : Nat → Nat → Nat) (cI cB cZ cJ cC cP cV cT cO : ClassId) (x0 m0 : Nat) (g tf tq tt gm : Nat → Nat) (hK : va_K (dC, dI) vwCl [(cI, .int), (cB, .byte), (cZ, .boolean), (cJ, .long), (cC, .char), (cP, .object "DiskEvidence$Picture"), (cV, .object "DiskEvidence$Volume"), (cT, .object "DiskEvidence$Tree"), (cO, .object "DiskEvidence$Opening")] s) {H : Heap} {locs : List Loc} (hP : va_P (dC, dI) vwCl [(x0, .inr (11, (fsX g))), ((g 0), .inl (cB, 4000, (.inl (fun _ => 0)))), ((g 3), .inl (cP, 6, (.inr (.inr (.inr (.inr (fun _ => none))))))), ((g 14), .inr (0, (fs0 tf))), ((g 15), .inr (6, (fs6 tq))), ((g 16), .inr (8, (fs8 tt))), ((g 17), .inl (cI, 300, (.inl (fun _ => 0)))), ((g 18), .inl (cJ, 100, (.inr (.inl (fun _ => 0))))), (m0, .inr (12, (fsM gm))), ((gm 1), .inl (cI, 4000, (.inl (fun _ => 0)))), ((gm 4), .inl (cI, 6, (.inl (fun _ => 0)))), ((gm 5), .inl (cI, 49152, (.inl (fun _ => 0)))), ((gm 6), .inl (cZ, 768, (.inl (fun _ => 0)))), ((gm 168), .inl (cI, 100, (.inl (fun _ => 0)))), ((gm 169), .inl (cI, 100, (.inl (fun _ => 0)))), ((gm 170), .inl (cI, 100, (.inl (fun _ => 0)))), ((gm 171), .inl (cJ, 100, (.inr (.inl (fun _ => 0)))))] H) (hD : va_D A [(x0, .inr (11, (fsX g))), ((g 0), .inl (cB, 4000, (.inl (fun _ => 0)))), ((g 3), .inl (cP, 6, (.inr (.inr (.inr (.inr (fun _ => none))))))), ((g 14), .inr (0, (fs0 tf))), ((g 15), .inr (6, (fs6 tq))), ((g 16), .inr (8, (fs8 tt))), ((g 17), .inl (cI, 300, (.inl (fun _ => 0)))), ((g 18), .inl (cJ, 100, (.inr (.inl (fun _ => 0))))), (m0, .inr (12, (fsM gm))), ((gm 1), .inl (cI, 4000, (.inl (fun _ => 0)))), ((gm 4), .inl (cI, 6, (.inl (fun _ => 0)))), ((gm 5), .inl (cI, 49152, (.inl (fun _ => 0)))), ((gm 6), .inl (cZ, 768, (.inl (fun _ => 0)))), ((gm 168), .inl (cI, 100, (.inl (fun _ => 0)))), ((gm 169), .inl (cI, 100, (.inl (fun _ => 0)))), ((gm 170), .inl (cI, 100, (.inl (fun _ => 0)))), ((gm 171), .inl (cJ, 100, (.inr (.inl (fun _ => 0)))))]) (hS : va_S A s.heap H locs) (ls : Array Slot) (hl : lv_has ls 4 [(3, .int 0), (2, .ref m0), (1, .ref x0), (0, .ref b)]) : W p l e room_1 s m #[Value.ref b] below meth c H locs 147 815844 (lw_Z below #[Value.ref b] s) (F0 m 477 ls []) := by
  subst hL
  obtain ⟨hx, hb, hr, hml, hown, hts, hX, hbl, hlocks, hgv⟩ := id C0
  have hown : s.vm.findClass RL = some m.cls := hown
  have hbA : ¬ A b := fun h => absurd (hAl b h) (Nat.not_le.mpr hbl)
  refine lv_aload_n hx hb dL_law_477 rfl (lv_at hl 2 rfl) ?_
  refine lv_aload_n hx hb dL_law_478 rfl (lv_at hl 3 rfl) ?_
  refine lv_iload_n hx hb dL_law_479 rfl (lv_at hl 0 rfl) ?_
  refine lv_iconst (v := 1) hx hb dL_law_480 (by decide) ?_
  refine lv_iadd hx hb dL_law_481 ?_
  refine lv_topi (fun f_1 ef_1 => ?_)
  obtain rfl : (1 : Int32) = f_1 := (ef_1.trans (by decide)).symm
  refine va_sld hx hb hX hbl hbA hS (vp_in_nI (n := 1) (N := 5) (by decide) (by decide)) dL_law_482 ?_
  refine lv_aload_n hx hb dL_law_483 rfl (lv_at hl 3 rfl) ?_
  refine lv_iload_n hx hb dL_law_484 rfl (lv_at hl 0 rfl) ?_
  refine lv_iconst (v := 2) hx hb dL_law_485 (by decide) ?_
  refine lv_iadd hx hb dL_law_486 ?_
  refine lv_topi (fun f_2 ef_2 => ?_)
  obtain rfl : (2 : Int32) = f_2 := (ef_2.trans (by decide)).symm
  refine va_sld hx hb hX hbl hbA hS (vp_in_nI (n := 2) (N := 5) (by decide) (by decide)) dL_law_487 ?_
  have hPc := hP.sub (ws' := [(x0, .inr (11, (fsX g)))]) [0] rfl
  have hDc := hD.sub (ws' := [(x0, .inr (11, (fsX g)))]) [0] (by decide) rfl
  have hKc := hK
  refine vp_callSi (va_Run.run (va_runV (As := [.int (xs (1 : Int32).toNatClampNeg), .int (xs (2 : Int32).toNatClampNeg)]) (rest := []) ⟨hx, hb, hml, hown, hts⟩ (c_X11_byteAt l dC dI cI cB cZ cJ cC cP cV cT cO H.size x0 g (xs (1 : Int32).toNatClampNeg) (xs (2 : Int32).toNatClampNeg)) (cwV 2 hts gq_L_law_X11_byteAt_47 rfl rfl rfl (by decide +kernel) ⟨Nat.le_of_ble_eq_true rfl, Nat.le_of_ble_eq_true rfl⟩) ⟨fun a U g mk q => by obtain ⟨q0, q1, qP, qK, qD⟩ := q; exact ⟨q0, q1, qP, va_K.moved (u := U) (U := U.calling g mk a) (Vm.Alike.refl U.vm) qK, qD⟩, va_recv hKc hPc (ci := 11) (q0 := 0) rfl rfl, fun U hU hW => ⟨rfl, by rw [hU], by rw [hU]; exact hPc, va_K.moved hW.alike hKc, hDc.weaken (fun _ _ _ _ => trivial)⟩⟩ rfl rfl hl.1 rfl (lv_room (Nat.le_of_ble_eq_true rfl)) dL_law_488 ⟨Nat.le_of_ble_eq_true rfl, Nat.le_of_ble_eq_true rfl⟩)) (fun r_3 hr_3 => ?_)
  obtain rfl : r_3 = (-2) := hr_3
  refine lv_aload_n hx hb dL_law_491 rfl (lv_at hl 1 rfl) ?_
  refine lv_aload_n hx hb dL_law_492 rfl (lv_at hl 3 rfl) ?_
  refine lv_iload_n hx hb dL_law_493 rfl (lv_at hl 0 rfl) ?_
  refine lv_iconst (v := 1) hx hb dL_law_494 (by decide) ?_
  refine lv_iadd hx hb dL_law_495 ?_
  refine lv_topi (fun f_4 ef_4 => ?_)
  obtain rfl : (1 : Int32) = f_4 := (ef_4.trans (by decide)).symm
  refine va_sld hx hb hX hbl hbA hS (vp_in_nI (n := 1) (N := 5) (by decide) (by decide)) dL_law_496 ?_
  refine lv_aload_n hx hb dL_law_497 rfl (lv_at hl 3 rfl) ?_
  refine lv_iload_n hx hb dL_law_498 rfl (lv_at hl 0 rfl) ?_
  refine lv_iconst (v := 2) hx hb dL_law_499 (by decide) ?_
  refine lv_iadd hx hb dL_law_500 ?_
  refine lv_topi (fun f_5 ef_5 => ?_)
  obtain rfl : (2 : Int32) = f_5 := (ef_5.trans (by decide)).symm
  refine va_sld hx hb hX hbl hbA hS (vp_in_nI (n := 2) (N := 5) (by decide) (by decide)) dL_law_501 ?_
  have hPc := hP.sub (ws' := [(m0, .inr (12, (fsM gm)))]) [8] rfl
  have hDc := hD.sub (ws' := [(m0, .inr (12, (fsM gm)))]) [8] (by decide) rfl
  have hKc := hK
  refine vp_callSi (va_Run.run (va_runV (As := [.int (xs (1 : Int32).toNatClampNeg), .int (xs (2 : Int32).toNatClampNeg)]) (rest := [.int (-2)]) ⟨hx, hb, hml, hown, hts⟩ (c_X12_byteAt l dC dI cI cB cZ cJ cC cP cV cT cO H.size m0 gm (xs (1 : Int32).toNatClampNeg) (xs (2 : Int32).toNatClampNeg)) (cwV 2 hts gq_L_law_X12_byteAt_51 rfl rfl rfl (by decide +kernel) ⟨Nat.le_of_ble_eq_true rfl, Nat.le_of_ble_eq_true rfl⟩) ⟨fun a U g mk q => by obtain ⟨q0, q1, qP, qK, qD⟩ := q; exact ⟨q0, q1, qP, va_K.moved (u := U) (U := U.calling g mk a) (Vm.Alike.refl U.vm) qK, qD⟩, va_recv hKc hPc (ci := 12) (q0 := 0) rfl rfl, fun U hU hW => ⟨rfl, by rw [hU], by rw [hU]; exact hPc, va_K.moved hW.alike hKc, hDc.weaken (fun _ _ _ _ => trivial)⟩⟩ rfl rfl hl.1 rfl (lv_room (Nat.le_of_ble_eq_true rfl)) dL_law_502 ⟨Nat.le_of_ble_eq_true rfl, Nat.le_of_ble_eq_true rfl⟩)) (fun r_6 hr_6 => ?_)
  obtain rfl : r_6 = (-2) := hr_6
  refine lv_icmp_eq (tgt := 1979) hx hb dL_law_505 (by decide) (fun _ => ?_) (fun c_7 => absurd (by decide) c_7)
  exact law_tail l C0 hA hAl rfl hS (Nat.le_of_ble_eq_true rfl) (Nat.le_of_ble_eq_true rfl) x0 m0 ls (lv_sub hl [0, 1, 2, 3] rfl)
set_option maxHeartbeats 40000000 in
set_option maxRecDepth 100000 in
theorem law_case_8 {p : Program} {e : Env} {s : State} {m : MethodId} {below : List Frame} {meth : Method} {c : Code} (l : Launch) {b L : Nat} {xs : Nat → Int32} (C0 : lw_At p s m meth c b L xs) {A : Nat → Prop} (hA : ∀ q : Nat, s.heap.size ≤ q → A q) (hAl : ∀ q : Nat, A q → s.heap.size ≤ q) (hL : L = 5) (dC : Nat → ClassId) (dI : Nat → Nat → Nat) (cI cB cZ cJ cC cP cV cT cO : ClassId) (x0 m0 : Nat) (g tf tq tt gm : Nat → Nat) (hK : va_K (dC, dI) vwCl [(cI, .int), (cB, .byte), (cZ, .boolean), (cJ, .long), (cC, .char), (cP, .object "DiskEvidence$Picture"), (cV, .object "DiskEvidence$Volume"), (cT, .object "DiskEvidence$Tree"), (cO, .object "DiskEvidence$Opening")] s) {H : Heap} {locs : List Loc} (hP : va_P (dC, dI) vwCl [(x0, .inr (11, (fsX g))), ((g 0), .inl (cB, 4000, (.inl (fun _ => 0)))), ((g 3), .inl (cP, 6, (.inr (.inr (.inr (.inr (fun _ => none))))))), ((g 14), .inr (0, (fs0 tf))), ((g 15), .inr (6, (fs6 tq))), ((g 16), .inr (8, (fs8 tt))), ((g 17), .inl (cI, 300, (.inl (fun _ => 0)))), ((g 18), .inl (cJ, 100, (.inr (.inl (fun _ => 0))))), (m0, .inr (12, (fsM gm))), ((gm 1), .inl (cI, 4000, (.inl (fun _ => 0)))), ((gm 4), .inl (cI, 6, (.inl (fun _ => 0)))), ((gm 5), .inl (cI, 49152, (.inl (fun _ => 0)))), ((gm 6), .inl (cZ, 768, (.inl (fun _ => 0)))), ((gm 168), .inl (cI, 100, (.inl (fun _ => 0)))), ((gm 169), .inl (cI, 100, (.inl (fun _ => 0)))), ((gm 170), .inl (cI, 100, (.inl (fun _ => 0)))), ((gm 171), .inl (cJ, 100, (.inr (.inl (fun _ => 0)))))] H) (hD : va_D A [(x0, .inr (11, (fsX g))), ((g 0), .inl (cB, 4000, (.inl (fun _ => 0)))), ((g 3), .inl (cP, 6, (.inr (.inr (.inr (.inr (fun _ => none))))))), ((g 14), .inr (0, (fs0 tf))), ((g 15), .inr (6, (fs6 tq))), ((g 16), .inr (8, (fs8 tt))), ((g 17), .inl (cI, 300, (.inl (fun _ => 0)))), ((g 18), .inl (cJ, 100, (.inr (.inl (fun _ => 0))))), (m0, .inr (12, (fsM gm))), ((gm 1), .inl (cI, 4000, (.inl (fun _ => 0)))), ((gm 4), .inl (cI, 6, (.inl (fun _ => 0)))), ((gm 5), .inl (cI, 49152, (.inl (fun _ => 0)))), ((gm 6), .inl (cZ, 768, (.inl (fun _ => 0)))), ((gm 168), .inl (cI, 100, (.inl (fun _ => 0)))), ((gm 169), .inl (cI, 100, (.inl (fun _ => 0)))), ((gm 170), .inl (cI, 100, (.inl (fun _ => 0)))), ((gm 171), .inl (cJ, 100, (.inr (.inl (fun _ => 0)))))]) (hS : va_S A s.heap H locs) (ls : Array Slot) (hl : lv_has ls 4 [(3, .int 0), (2, .ref m0), (1, .ref x0), (0, .ref b)]) : W p l e room_1 s m #[Value.ref b] below meth c H locs 147 815844 (lw_Z below #[Value.ref b] s) (F0 m 510 ls []) := by
  subst hL
  obtain ⟨hx, hb, hr, hml, hown, hts, hX, hbl, hlocks, hgv⟩ := id C0
  have hown : s.vm.findClass RL = some m.cls := hown
  have hbA : ¬ A b := fun h => absurd (hAl b h) (Nat.not_le.mpr hbl)
  refine lv_aload_n hx hb dL_law_510 rfl (lv_at hl 2 rfl) ?_
  refine lv_aload_n hx hb dL_law_511 rfl (lv_at hl 3 rfl) ?_
  refine lv_iload_n hx hb dL_law_512 rfl (lv_at hl 0 rfl) ?_
  refine lv_iconst (v := 1) hx hb dL_law_513 (by decide) ?_
  refine lv_iadd hx hb dL_law_514 ?_
  refine lv_topi (fun f_1 ef_1 => ?_)
  obtain rfl : (1 : Int32) = f_1 := (ef_1.trans (by decide)).symm
  refine va_sld hx hb hX hbl hbA hS (vp_in_nI (n := 1) (N := 5) (by decide) (by decide)) dL_law_515 ?_
  refine lv_aload_n hx hb dL_law_516 rfl (lv_at hl 3 rfl) ?_
  refine lv_iload_n hx hb dL_law_517 rfl (lv_at hl 0 rfl) ?_
  refine lv_iconst (v := 2) hx hb dL_law_518 (by decide) ?_
  refine lv_iadd hx hb dL_law_519 ?_
  refine lv_topi (fun f_2 ef_2 => ?_)
  obtain rfl : (2 : Int32) = f_2 := (ef_2.trans (by decide)).symm
  refine va_sld hx hb hX hbl hbA hS (vp_in_nI (n := 2) (N := 5) (by decide) (by decide)) dL_law_520 ?_
  refine lv_aload_n hx hb dL_law_521 rfl (lv_at hl 3 rfl) ?_
  refine lv_iload_n hx hb dL_law_522 rfl (lv_at hl 0 rfl) ?_
  refine lv_iconst (v := 3) hx hb dL_law_523 (by decide) ?_
  refine lv_iadd hx hb dL_law_524 ?_
  refine lv_topi (fun f_3 ef_3 => ?_)
  obtain rfl : (3 : Int32) = f_3 := (ef_3.trans (by decide)).symm
  refine va_sld hx hb hX hbl hbA hS (vp_in_nI (n := 3) (N := 5) (by decide) (by decide)) dL_law_525 ?_
  have hPc := hP.sub (ws' := [(x0, .inr (11, (fsX g)))]) [0] rfl
  have hDc := hD.sub (ws' := [(x0, .inr (11, (fsX g)))]) [0] (by decide) rfl
  have hKc := hK
  refine vp_callSi (va_Run.run (va_runV (As := [.int (xs (1 : Int32).toNatClampNeg), .int (xs (2 : Int32).toNatClampNeg), .int (xs (3 : Int32).toNatClampNeg)]) (rest := []) ⟨hx, hb, hml, hown, hts⟩ (c_X11_poke l dC dI cI cB cZ cJ cC cP cV cT cO H.size x0 g (xs (1 : Int32).toNatClampNeg) (xs (2 : Int32).toNatClampNeg) (xs (3 : Int32).toNatClampNeg)) (cwV 3 hts gq_L_law_X11_poke_52 rfl rfl rfl (by decide +kernel) ⟨Nat.le_of_ble_eq_true rfl, Nat.le_of_ble_eq_true rfl⟩) ⟨fun a U g mk q => by obtain ⟨q0, q1, qP, qK, qD⟩ := q; exact ⟨q0, q1, qP, va_K.moved (u := U) (U := U.calling g mk a) (Vm.Alike.refl U.vm) qK, qD⟩, va_recv hKc hPc (ci := 11) (q0 := 0) rfl rfl, fun U hU hW => ⟨rfl, by rw [hU], by rw [hU]; exact hPc, va_K.moved hW.alike hKc, hDc.weaken (fun _ _ _ _ => trivial)⟩⟩ rfl rfl hl.1 rfl (lv_room (Nat.le_of_ble_eq_true rfl)) dL_law_526 ⟨Nat.le_of_ble_eq_true rfl, Nat.le_of_ble_eq_true rfl⟩)) (fun r_4 hr_4 => ?_)
  obtain rfl : r_4 = (-2) := hr_4
  refine lv_aload_n hx hb dL_law_529 rfl (lv_at hl 1 rfl) ?_
  refine lv_aload_n hx hb dL_law_530 rfl (lv_at hl 3 rfl) ?_
  refine lv_iload_n hx hb dL_law_531 rfl (lv_at hl 0 rfl) ?_
  refine lv_iconst (v := 1) hx hb dL_law_532 (by decide) ?_
  refine lv_iadd hx hb dL_law_533 ?_
  refine lv_topi (fun f_5 ef_5 => ?_)
  obtain rfl : (1 : Int32) = f_5 := (ef_5.trans (by decide)).symm
  refine va_sld hx hb hX hbl hbA hS (vp_in_nI (n := 1) (N := 5) (by decide) (by decide)) dL_law_534 ?_
  refine lv_aload_n hx hb dL_law_535 rfl (lv_at hl 3 rfl) ?_
  refine lv_iload_n hx hb dL_law_536 rfl (lv_at hl 0 rfl) ?_
  refine lv_iconst (v := 2) hx hb dL_law_537 (by decide) ?_
  refine lv_iadd hx hb dL_law_538 ?_
  refine lv_topi (fun f_6 ef_6 => ?_)
  obtain rfl : (2 : Int32) = f_6 := (ef_6.trans (by decide)).symm
  refine va_sld hx hb hX hbl hbA hS (vp_in_nI (n := 2) (N := 5) (by decide) (by decide)) dL_law_539 ?_
  refine lv_aload_n hx hb dL_law_540 rfl (lv_at hl 3 rfl) ?_
  refine lv_iload_n hx hb dL_law_541 rfl (lv_at hl 0 rfl) ?_
  refine lv_iconst (v := 3) hx hb dL_law_542 (by decide) ?_
  refine lv_iadd hx hb dL_law_543 ?_
  refine lv_topi (fun f_7 ef_7 => ?_)
  obtain rfl : (3 : Int32) = f_7 := (ef_7.trans (by decide)).symm
  refine va_sld hx hb hX hbl hbA hS (vp_in_nI (n := 3) (N := 5) (by decide) (by decide)) dL_law_544 ?_
  have hPc := hP.sub (ws' := [(m0, .inr (12, (fsM gm)))]) [8] rfl
  have hDc := hD.sub (ws' := [(m0, .inr (12, (fsM gm)))]) [8] (by decide) rfl
  have hKc := hK
  refine vp_callSi (va_Run.run (va_runV (As := [.int (xs (1 : Int32).toNatClampNeg), .int (xs (2 : Int32).toNatClampNeg), .int (xs (3 : Int32).toNatClampNeg)]) (rest := [.int (-2)]) ⟨hx, hb, hml, hown, hts⟩ (c_X12_poke l dC dI cI cB cZ cJ cC cP cV cT cO H.size m0 gm (xs (1 : Int32).toNatClampNeg) (xs (2 : Int32).toNatClampNeg) (xs (3 : Int32).toNatClampNeg)) (cwV 3 hts gq_L_law_X12_poke_56 rfl rfl rfl (by decide +kernel) ⟨Nat.le_of_ble_eq_true rfl, Nat.le_of_ble_eq_true rfl⟩) ⟨fun a U g mk q => by obtain ⟨q0, q1, qP, qK, qD⟩ := q; exact ⟨q0, q1, qP, va_K.moved (u := U) (U := U.calling g mk a) (Vm.Alike.refl U.vm) qK, qD⟩, va_recv hKc hPc (ci := 12) (q0 := 0) rfl rfl, fun U hU hW => ⟨rfl, by rw [hU], by rw [hU]; exact hPc, va_K.moved hW.alike hKc, hDc.weaken (fun _ _ _ _ => trivial)⟩⟩ rfl rfl hl.1 rfl (lv_room (Nat.le_of_ble_eq_true rfl)) dL_law_545 ⟨Nat.le_of_ble_eq_true rfl, Nat.le_of_ble_eq_true rfl⟩)) (fun r_8 hr_8 => ?_)
  obtain rfl : r_8 = (-2) := hr_8
  refine lv_icmp_eq (tgt := 1979) hx hb dL_law_548 (by decide) (fun _ => ?_) (fun c_9 => absurd (by decide) c_9)
  exact law_tail l C0 hA hAl rfl hS (Nat.le_of_ble_eq_true rfl) (Nat.le_of_ble_eq_true rfl) x0 m0 ls (lv_sub hl [0, 1, 2, 3] rfl)
set_option maxHeartbeats 40000000 in
set_option maxRecDepth 100000 in
theorem law_case_9 {p : Program} {e : Env} {s : State} {m : MethodId} {below : List Frame} {meth : Method} {c : Code} (l : Launch) {b L : Nat} {xs : Nat → Int32} (C0 : lw_At p s m meth c b L xs) {A : Nat → Prop} (hA : ∀ q : Nat, s.heap.size ≤ q → A q) (hAl : ∀ q : Nat, A q → s.heap.size ≤ q) (hL : L = 5) (dC : Nat → ClassId) (dI : Nat → Nat → Nat) (cI cB cZ cJ cC cP cV cT cO : ClassId) (x0 m0 : Nat) (g tf tq tt gm : Nat → Nat) (hK : va_K (dC, dI) vwCl [(cI, .int), (cB, .byte), (cZ, .boolean), (cJ, .long), (cC, .char), (cP, .object "DiskEvidence$Picture"), (cV, .object "DiskEvidence$Volume"), (cT, .object "DiskEvidence$Tree"), (cO, .object "DiskEvidence$Opening")] s) {H : Heap} {locs : List Loc} (hP : va_P (dC, dI) vwCl [(x0, .inr (11, (fsX g))), ((g 0), .inl (cB, 4000, (.inl (fun _ => 0)))), ((g 3), .inl (cP, 6, (.inr (.inr (.inr (.inr (fun _ => none))))))), ((g 14), .inr (0, (fs0 tf))), ((g 15), .inr (6, (fs6 tq))), ((g 16), .inr (8, (fs8 tt))), ((g 17), .inl (cI, 300, (.inl (fun _ => 0)))), ((g 18), .inl (cJ, 100, (.inr (.inl (fun _ => 0))))), (m0, .inr (12, (fsM gm))), ((gm 1), .inl (cI, 4000, (.inl (fun _ => 0)))), ((gm 4), .inl (cI, 6, (.inl (fun _ => 0)))), ((gm 5), .inl (cI, 49152, (.inl (fun _ => 0)))), ((gm 6), .inl (cZ, 768, (.inl (fun _ => 0)))), ((gm 168), .inl (cI, 100, (.inl (fun _ => 0)))), ((gm 169), .inl (cI, 100, (.inl (fun _ => 0)))), ((gm 170), .inl (cI, 100, (.inl (fun _ => 0)))), ((gm 171), .inl (cJ, 100, (.inr (.inl (fun _ => 0)))))] H) (hD : va_D A [(x0, .inr (11, (fsX g))), ((g 0), .inl (cB, 4000, (.inl (fun _ => 0)))), ((g 3), .inl (cP, 6, (.inr (.inr (.inr (.inr (fun _ => none))))))), ((g 14), .inr (0, (fs0 tf))), ((g 15), .inr (6, (fs6 tq))), ((g 16), .inr (8, (fs8 tt))), ((g 17), .inl (cI, 300, (.inl (fun _ => 0)))), ((g 18), .inl (cJ, 100, (.inr (.inl (fun _ => 0))))), (m0, .inr (12, (fsM gm))), ((gm 1), .inl (cI, 4000, (.inl (fun _ => 0)))), ((gm 4), .inl (cI, 6, (.inl (fun _ => 0)))), ((gm 5), .inl (cI, 49152, (.inl (fun _ => 0)))), ((gm 6), .inl (cZ, 768, (.inl (fun _ => 0)))), ((gm 168), .inl (cI, 100, (.inl (fun _ => 0)))), ((gm 169), .inl (cI, 100, (.inl (fun _ => 0)))), ((gm 170), .inl (cI, 100, (.inl (fun _ => 0)))), ((gm 171), .inl (cJ, 100, (.inr (.inl (fun _ => 0)))))]) (hS : va_S A s.heap H locs) (ls : Array Slot) (hl : lv_has ls 4 [(3, .int 0), (2, .ref m0), (1, .ref x0), (0, .ref b)]) : W p l e room_1 s m #[Value.ref b] below meth c H locs 147 815844 (lw_Z below #[Value.ref b] s) (F0 m 553 ls []) := by
  subst hL
  obtain ⟨hx, hb, hr, hml, hown, hts, hX, hbl, hlocks, hgv⟩ := id C0
  have hown : s.vm.findClass RL = some m.cls := hown
  have hbA : ¬ A b := fun h => absurd (hAl b h) (Nat.not_le.mpr hbl)
  refine lv_aload_n hx hb dL_law_553 rfl (lv_at hl 2 rfl) ?_
  refine lv_aload_n hx hb dL_law_554 rfl (lv_at hl 3 rfl) ?_
  refine lv_iload_n hx hb dL_law_555 rfl (lv_at hl 0 rfl) ?_
  refine lv_iconst (v := 1) hx hb dL_law_556 (by decide) ?_
  refine lv_iadd hx hb dL_law_557 ?_
  refine lv_topi (fun f_1 ef_1 => ?_)
  obtain rfl : (1 : Int32) = f_1 := (ef_1.trans (by decide)).symm
  refine va_sld hx hb hX hbl hbA hS (vp_in_nI (n := 1) (N := 5) (by decide) (by decide)) dL_law_558 ?_
  refine lv_aload_n hx hb dL_law_559 rfl (lv_at hl 3 rfl) ?_
  refine lv_iload_n hx hb dL_law_560 rfl (lv_at hl 0 rfl) ?_
  refine lv_iconst (v := 2) hx hb dL_law_561 (by decide) ?_
  refine lv_iadd hx hb dL_law_562 ?_
  refine lv_topi (fun f_2 ef_2 => ?_)
  obtain rfl : (2 : Int32) = f_2 := (ef_2.trans (by decide)).symm
  refine va_sld hx hb hX hbl hbA hS (vp_in_nI (n := 2) (N := 5) (by decide) (by decide)) dL_law_563 ?_
  refine lv_aload_n hx hb dL_law_564 rfl (lv_at hl 3 rfl) ?_
  refine lv_iload_n hx hb dL_law_565 rfl (lv_at hl 0 rfl) ?_
  refine lv_iconst (v := 3) hx hb dL_law_566 (by decide) ?_
  refine lv_iadd hx hb dL_law_567 ?_
  refine lv_topi (fun f_3 ef_3 => ?_)
  obtain rfl : (3 : Int32) = f_3 := (ef_3.trans (by decide)).symm
  refine va_sld hx hb hX hbl hbA hS (vp_in_nI (n := 3) (N := 5) (by decide) (by decide)) dL_law_568 ?_
  have hPc := hP.sub (ws' := [(x0, .inr (11, (fsX g)))]) [0] rfl
  have hDc := hD.sub (ws' := [(x0, .inr (11, (fsX g)))]) [0] (by decide) rfl
  have hKc := hK
  refine vp_callSl (va_Run.run (va_runV (As := [.int (xs (1 : Int32).toNatClampNeg), .int (xs (2 : Int32).toNatClampNeg), .int (xs (3 : Int32).toNatClampNeg)]) (rest := []) ⟨hx, hb, hml, hown, hts⟩ (c_X11_crc l dC dI cI cB cZ cJ cC cP cV cT cO H.size x0 g (xs (1 : Int32).toNatClampNeg) (xs (2 : Int32).toNatClampNeg) (xs (3 : Int32).toNatClampNeg)) (cwV 3 hts gq_L_law_X11_crc_57 rfl rfl rfl (by decide +kernel) ⟨Nat.le_of_ble_eq_true rfl, Nat.le_of_ble_eq_true rfl⟩) ⟨fun a U g mk q => by obtain ⟨q0, q1, qP, qK, qD⟩ := q; exact ⟨q0, q1, qP, va_K.moved (u := U) (U := U.calling g mk a) (Vm.Alike.refl U.vm) qK, qD⟩, va_recv hKc hPc (ci := 11) (q0 := 0) rfl rfl, fun U hU hW => ⟨rfl, by rw [hU], by rw [hU]; exact hPc, va_K.moved hW.alike hKc, hDc.weaken (fun _ _ _ _ => trivial)⟩⟩ rfl rfl hl.1 rfl (lv_room (Nat.le_of_ble_eq_true rfl)) dL_law_569 ⟨Nat.le_of_ble_eq_true rfl, Nat.le_of_ble_eq_true rfl⟩)) (fun r_4 hr_4 => ?_)
  obtain rfl : r_4 = (-2) := hr_4
  refine lv_aload_n hx hb dL_law_572 rfl (lv_at hl 1 rfl) ?_
  refine lv_aload_n hx hb dL_law_573 rfl (lv_at hl 3 rfl) ?_
  refine lv_iload_n hx hb dL_law_574 rfl (lv_at hl 0 rfl) ?_
  refine lv_iconst (v := 1) hx hb dL_law_575 (by decide) ?_
  refine lv_iadd hx hb dL_law_576 ?_
  refine lv_topi (fun f_5 ef_5 => ?_)
  obtain rfl : (1 : Int32) = f_5 := (ef_5.trans (by decide)).symm
  refine va_sld hx hb hX hbl hbA hS (vp_in_nI (n := 1) (N := 5) (by decide) (by decide)) dL_law_577 ?_
  refine lv_aload_n hx hb dL_law_578 rfl (lv_at hl 3 rfl) ?_
  refine lv_iload_n hx hb dL_law_579 rfl (lv_at hl 0 rfl) ?_
  refine lv_iconst (v := 2) hx hb dL_law_580 (by decide) ?_
  refine lv_iadd hx hb dL_law_581 ?_
  refine lv_topi (fun f_6 ef_6 => ?_)
  obtain rfl : (2 : Int32) = f_6 := (ef_6.trans (by decide)).symm
  refine va_sld hx hb hX hbl hbA hS (vp_in_nI (n := 2) (N := 5) (by decide) (by decide)) dL_law_582 ?_
  refine lv_aload_n hx hb dL_law_583 rfl (lv_at hl 3 rfl) ?_
  refine lv_iload_n hx hb dL_law_584 rfl (lv_at hl 0 rfl) ?_
  refine lv_iconst (v := 3) hx hb dL_law_585 (by decide) ?_
  refine lv_iadd hx hb dL_law_586 ?_
  refine lv_topi (fun f_7 ef_7 => ?_)
  obtain rfl : (3 : Int32) = f_7 := (ef_7.trans (by decide)).symm
  refine va_sld hx hb hX hbl hbA hS (vp_in_nI (n := 3) (N := 5) (by decide) (by decide)) dL_law_587 ?_
  have hPc := hP.sub (ws' := [(m0, .inr (12, (fsM gm)))]) [8] rfl
  have hDc := hD.sub (ws' := [(m0, .inr (12, (fsM gm)))]) [8] (by decide) rfl
  have hKc := hK
  refine vp_callSl (va_Run.run (va_runV (As := [.int (xs (1 : Int32).toNatClampNeg), .int (xs (2 : Int32).toNatClampNeg), .int (xs (3 : Int32).toNatClampNeg)]) (rest := [.long (-2)]) ⟨hx, hb, hml, hown, hts⟩ (c_X12_crc l dC dI cI cB cZ cJ cC cP cV cT cO H.size m0 gm (xs (1 : Int32).toNatClampNeg) (xs (2 : Int32).toNatClampNeg) (xs (3 : Int32).toNatClampNeg)) (cwV 3 hts gq_L_law_X12_crc_61 rfl rfl rfl (by decide +kernel) ⟨Nat.le_of_ble_eq_true rfl, Nat.le_of_ble_eq_true rfl⟩) ⟨fun a U g mk q => by obtain ⟨q0, q1, qP, qK, qD⟩ := q; exact ⟨q0, q1, qP, va_K.moved (u := U) (U := U.calling g mk a) (Vm.Alike.refl U.vm) qK, qD⟩, va_recv hKc hPc (ci := 12) (q0 := 0) rfl rfl, fun U hU hW => ⟨rfl, by rw [hU], by rw [hU]; exact hPc, va_K.moved hW.alike hKc, hDc.weaken (fun _ _ _ _ => trivial)⟩⟩ rfl rfl hl.1 rfl (lv_room (Nat.le_of_ble_eq_true rfl)) dL_law_588 ⟨Nat.le_of_ble_eq_true rfl, Nat.le_of_ble_eq_true rfl⟩)) (fun r_8 hr_8 => ?_)
  obtain rfl : r_8 = (-2) := hr_8
  refine W.lcmp hx hb dL_law_591 ?_
  refine lv_topi (fun f_10 ef_10 => ?_)
  obtain rfl : (0 : Int32) = f_10 := (ef_10.trans (by decide)).symm
  refine lv_if_eq (tgt := 1979) hx hb dL_law_592 (by decide) (fun _ => ?_) (fun c_11 => absurd (by decide) c_11)
  exact law_tail l C0 hA hAl rfl hS (Nat.le_of_ble_eq_true rfl) (Nat.le_of_ble_eq_true rfl) x0 m0 ls (lv_sub hl [0, 1, 2, 3] rfl)
