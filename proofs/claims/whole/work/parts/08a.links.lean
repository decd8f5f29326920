theorem in_X0 : ∀ w ∈ u_ws RX0 TX0 2, w ∈ mm_ws := by
  show ∀ w ∈ [u_lay RX0 TX0 0, u_lay RX0 TX0 1], w ∈ mm_ws
  exact List.forall_mem_cons.mpr ⟨mw_1_164, List.forall_mem_cons.mpr ⟨mw_1_166, fun _ h => absurd h List.not_mem_nil⟩⟩
theorem in_X1 : ∀ w ∈ u_ws RX1 TX1 3, w ∈ mm_ws := by
  show ∀ w ∈ [u_lay RX1 TX1 0, u_lay RX1 TX1 1, u_lay RX1 TX1 2], w ∈ mm_ws
  exact List.forall_mem_cons.mpr ⟨mw_1_187, List.forall_mem_cons.mpr ⟨mw_1_189, List.forall_mem_cons.mpr ⟨mw_1_191, fun _ h => absurd h List.not_mem_nil⟩⟩⟩
theorem in_X2 : ∀ w ∈ u_ws RX2 TX2 9, w ∈ mm_ws := by
  show ∀ w ∈ [u_lay RX2 TX2 0, u_lay RX2 TX2 1, u_lay RX2 TX2 2, u_lay RX2 TX2 3, u_lay RX2 TX2 4, u_lay RX2 TX2 5, u_lay RX2 TX2 6, u_lay RX2 TX2 7, u_lay RX2 TX2 8], w ∈ mm_ws
  exact List.forall_mem_cons.mpr ⟨mw_1_66, List.forall_mem_cons.mpr ⟨mw_1_68, List.forall_mem_cons.mpr ⟨mw_1_70, List.forall_mem_cons.mpr ⟨mw_1_72, List.forall_mem_cons.mpr ⟨mw_1_74, List.forall_mem_cons.mpr ⟨mw_1_76, List.forall_mem_cons.mpr ⟨mw_1_78, List.forall_mem_cons.mpr ⟨mw_1_80, List.forall_mem_cons.mpr ⟨mw_1_82, fun _ h => absurd h List.not_mem_nil⟩⟩⟩⟩⟩⟩⟩⟩⟩
theorem in_X3 : ∀ w ∈ u_ws RX3 TX3 4, w ∈ mm_ws := by
  show ∀ w ∈ [u_lay RX3 TX3 0, u_lay RX3 TX3 1, u_lay RX3 TX3 2, u_lay RX3 TX3 3], w ∈ mm_ws
  exact List.forall_mem_cons.mpr ⟨mw_1_127, List.forall_mem_cons.mpr ⟨mw_1_129, List.forall_mem_cons.mpr ⟨mw_1_131, List.forall_mem_cons.mpr ⟨mw_1_133, fun _ h => absurd h List.not_mem_nil⟩⟩⟩⟩
theorem in_X4 : ∀ w ∈ u_ws RX4 TX4 3, w ∈ mm_ws := by
  show ∀ w ∈ [u_lay RX4 TX4 0, u_lay RX4 TX4 1, u_lay RX4 TX4 2], w ∈ mm_ws
  exact List.forall_mem_cons.mpr ⟨mw_1_204, List.forall_mem_cons.mpr ⟨mw_1_206, List.forall_mem_cons.mpr ⟨mw_1_208, fun _ h => absurd h List.not_mem_nil⟩⟩⟩
theorem in_X5 : ∀ w ∈ u_ws RX5 TX5 4, w ∈ mm_ws := by
  show ∀ w ∈ [u_lay RX5 TX5 0, u_lay RX5 TX5 1, u_lay RX5 TX5 2, u_lay RX5 TX5 3], w ∈ mm_ws
  exact List.forall_mem_cons.mpr ⟨mw_1_147, List.forall_mem_cons.mpr ⟨mw_1_149, List.forall_mem_cons.mpr ⟨mw_1_151, List.forall_mem_cons.mpr ⟨mw_1_153, fun _ h => absurd h List.not_mem_nil⟩⟩⟩⟩
theorem in_X6 : ∀ w ∈ u_ws RX6 TX6 6, w ∈ mm_ws := by
  show ∀ w ∈ [u_lay RX6 TX6 0, u_lay RX6 TX6 1, u_lay RX6 TX6 2, u_lay RX6 TX6 3, u_lay RX6 TX6 4, u_lay RX6 TX6 5], w ∈ mm_ws
  exact List.forall_mem_cons.mpr ⟨mw_1_103, List.forall_mem_cons.mpr ⟨mw_1_105, List.forall_mem_cons.mpr ⟨mw_1_107, List.forall_mem_cons.mpr ⟨mw_1_109, List.forall_mem_cons.mpr ⟨mw_1_111, List.forall_mem_cons.mpr ⟨mw_1_113, fun _ h => absurd h List.not_mem_nil⟩⟩⟩⟩⟩⟩
theorem in_X7 : ∀ w ∈ u_ws RX7 TX7 11, w ∈ mm_ws := by
  show ∀ w ∈ [u_lay RX7 TX7 0, u_lay RX7 TX7 1, u_lay RX7 TX7 2, u_lay RX7 TX7 3, u_lay RX7 TX7 4, u_lay RX7 TX7 5, u_lay RX7 TX7 6, u_lay RX7 TX7 7, u_lay RX7 TX7 8, u_lay RX7 TX7 9, u_lay RX7 TX7 10], w ∈ mm_ws
  exact List.forall_mem_cons.mpr ⟨mw_1_222, List.forall_mem_cons.mpr ⟨mw_1_224, List.forall_mem_cons.mpr ⟨mw_1_226, List.forall_mem_cons.mpr ⟨mw_1_228, List.forall_mem_cons.mpr ⟨mw_1_230, List.forall_mem_cons.mpr ⟨mw_1_232, List.forall_mem_cons.mpr ⟨mw_1_234, List.forall_mem_cons.mpr ⟨mw_1_236, List.forall_mem_cons.mpr ⟨mw_1_238, List.forall_mem_cons.mpr ⟨mw_2_0, List.forall_mem_cons.mpr ⟨mw_2_2, fun _ h => absurd h List.not_mem_nil⟩⟩⟩⟩⟩⟩⟩⟩⟩⟩⟩
theorem in_X8 : ∀ w ∈ u_ws RX8 TX8 28, w ∈ mm_ws := by
  show ∀ w ∈ [u_lay RX8 TX8 0, u_lay RX8 TX8 1, u_lay RX8 TX8 2, u_lay RX8 TX8 3, u_lay RX8 TX8 4, u_lay RX8 TX8 5, u_lay RX8 TX8 6, u_lay RX8 TX8 7, u_lay RX8 TX8 8, u_lay RX8 TX8 9, u_lay RX8 TX8 10, u_lay RX8 TX8 11, u_lay RX8 TX8 12, u_lay RX8 TX8 13, u_lay RX8 TX8 14, u_lay RX8 TX8 15, u_lay RX8 TX8 16, u_lay RX8 TX8 17, u_lay RX8 TX8 18, u_lay RX8 TX8 19, u_lay RX8 TX8 20, u_lay RX8 TX8 21, u_lay RX8 TX8 22, u_lay RX8 TX8 23, u_lay RX8 TX8 24, u_lay RX8 TX8 25, u_lay RX8 TX8 26, u_lay RX8 TX8 27], w ∈ mm_ws
  exact List.forall_mem_cons.mpr ⟨mw_4_104, List.forall_mem_cons.mpr ⟨mw_4_106, List.forall_mem_cons.mpr ⟨mw_4_108, List.forall_mem_cons.mpr ⟨mw_4_110, List.forall_mem_cons.mpr ⟨mw_4_112, List.forall_mem_cons.mpr ⟨mw_4_114, List.forall_mem_cons.mpr ⟨mw_4_116, List.forall_mem_cons.mpr ⟨mw_4_118, List.forall_mem_cons.mpr ⟨mw_4_120, List.forall_mem_cons.mpr ⟨mw_4_122, List.forall_mem_cons.mpr ⟨mw_4_124, List.forall_mem_cons.mpr ⟨mw_4_126, List.forall_mem_cons.mpr ⟨mw_4_128, List.forall_mem_cons.mpr ⟨mw_4_130, List.forall_mem_cons.mpr ⟨mw_4_132, List.forall_mem_cons.mpr ⟨mw_4_134, List.forall_mem_cons.mpr ⟨mw_4_136, List.forall_mem_cons.mpr ⟨mw_4_138, List.forall_mem_cons.mpr ⟨mw_4_140, List.forall_mem_cons.mpr ⟨mw_4_142, List.forall_mem_cons.mpr ⟨mw_4_144, List.forall_mem_cons.mpr ⟨mw_4_146, List.forall_mem_cons.mpr ⟨mw_4_148, List.forall_mem_cons.mpr ⟨mw_4_150, List.forall_mem_cons.mpr ⟨mw_4_152, List.forall_mem_cons.mpr ⟨mw_4_154, List.forall_mem_cons.mpr ⟨mw_4_156, List.forall_mem_cons.mpr ⟨mw_4_158, fun _ h => absurd h List.not_mem_nil⟩⟩⟩⟩⟩⟩⟩⟩⟩⟩⟩⟩⟩⟩⟩⟩⟩⟩⟩⟩⟩⟩⟩⟩⟩⟩⟩⟩
