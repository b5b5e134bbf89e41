/-! the 48 cases of the law -/
def lq_undoX : List nkIn := [nke_97, nke_98, nke_99, nke_100, nke_101, nke_102, nke_103, nke_104, nke_105, nke_106, nke_107, nke_108, nke_109, nke_110, nke_111, nke_112, nke_113, nke_114, nke_115, nke_116, nke_117, nke_118, nke_119, nke_120, nke_121, nke_122, nke_123, nke_124, nke_125, nke_126, nke_127, nke_128, nke_129, nke_130, nke_131, nke_132, nke_133, nke_134, nke_135, nke_136, nke_137]
theorem lq_undoXI : ∀ en ∈ lq_undoX, nkMetI nkKds en := nk_cons nki_97 (nk_cons nki_98 (nk_cons nki_99 (nk_cons nki_100 (nk_cons nki_101 (nk_cons nki_102 (nk_cons nki_103 (nk_cons nki_104 (nk_cons nki_105 (nk_cons nki_106 (nk_cons nki_107 (nk_cons nki_108 (nk_cons nki_109 (nk_cons nki_110 (nk_cons nki_111 (nk_cons nki_112 (nk_cons nki_113 (nk_cons nki_114 (nk_cons nki_115 (nk_cons nki_116 (nk_cons nki_117 (nk_cons nki_118 (nk_cons nki_119 (nk_cons nki_120 (nk_cons nki_121 (nk_cons nki_122 (nk_cons nki_123 (nk_cons nki_124 (nk_cons nki_125 (nk_cons nki_126 (nk_cons nki_127 (nk_cons nki_128 (nk_cons nki_129 (nk_cons nki_130 (nk_cons nki_131 (nk_cons nki_132 (nk_cons nki_133 (nk_cons nki_134 (nk_cons nki_135 (nk_cons nki_136 (nk_cons nki_137 (nk_nil _)))))))))))))))))))))))))))))))))))))))))
def lq_undoR : List nkIn := [nqe_97, nqe_98, nqe_99, nqe_100, nqe_101, nqe_102, nqe_103, nqe_104, nqe_105, nqe_106, nqe_107, nqe_108, nqe_109, nqe_110, nqe_111, nqe_112, nqe_113, nqe_114, nqe_115, nqe_116, nqe_117, nqe_118, nqe_119, nqe_120, nqe_121, nqe_122, nqe_123, nqe_124, nqe_125, nqe_126, nqe_127, nqe_128, nqe_129, nqe_130, nqe_131, nqe_132, nqe_133, nqe_134, nqe_135, nqe_136, nqe_137]
theorem lq_undoRI : ∀ en ∈ lq_undoR, nkMetI nkKdL en := nk_cons nqi_97 (nk_cons nqi_98 (nk_cons nqi_99 (nk_cons nqi_100 (nk_cons nqi_101 (nk_cons nqi_102 (nk_cons nqi_103 (nk_cons nqi_104 (nk_cons nqi_105 (nk_cons nqi_106 (nk_cons nqi_107 (nk_cons nqi_108 (nk_cons nqi_109 (nk_cons nqi_110 (nk_cons nqi_111 (nk_cons nqi_112 (nk_cons nqi_113 (nk_cons nqi_114 (nk_cons nqi_115 (nk_cons nqi_116 (nk_cons nqi_117 (nk_cons nqi_118 (nk_cons nqi_119 (nk_cons nqi_120 (nk_cons nqi_121 (nk_cons nqi_122 (nk_cons nqi_123 (nk_cons nqi_124 (nk_cons nqi_125 (nk_cons nqi_126 (nk_cons nqi_127 (nk_cons nqi_128 (nk_cons nqi_129 (nk_cons nqi_130 (nk_cons nqi_131 (nk_cons nqi_132 (nk_cons nqi_133 (nk_cons nqi_134 (nk_cons nqi_135 (nk_cons nqi_136 (nk_cons nqi_137 (nk_nil _)))))))))))))))))))))))))))))))))))))))))
def lq_undoM0 : List nkIn := [nme_26, nme_27, nme_28, nme_29, nme_30, nme_31, nme_32, nme_33, nme_34, nme_35, nme_36, nme_37, nme_38, nme_39, nme_40, nme_41, nme_42, nme_43, nme_44, nme_45, nme_46, nme_47, nme_48, nme_49, nme_50, nme_51, nme_52, nme_53, nme_54, nme_55, nme_56, nme_57, nme_58, nme_59, nme_60, nme_61, nme_62, nme_63, nme_64, nme_65, nme_66]
theorem lq_undoM0I : ∀ en ∈ lq_undoM0, nkMetI nkKds en := nk_cons nmi_26 (nk_cons nmi_27 (nk_cons nmi_28 (nk_cons nmi_29 (nk_cons nmi_30 (nk_cons nmi_31 (nk_cons nmi_32 (nk_cons nmi_33 (nk_cons nmi_34 (nk_cons nmi_35 (nk_cons nmi_36 (nk_cons nmi_37 (nk_cons nmi_38 (nk_cons nmi_39 (nk_cons nmi_40 (nk_cons nmi_41 (nk_cons nmi_42 (nk_cons nmi_43 (nk_cons nmi_44 (nk_cons nmi_45 (nk_cons nmi_46 (nk_cons nmi_47 (nk_cons nmi_48 (nk_cons nmi_49 (nk_cons nmi_50 (nk_cons nmi_51 (nk_cons nmi_52 (nk_cons nmi_53 (nk_cons nmi_54 (nk_cons nmi_55 (nk_cons nmi_56 (nk_cons nmi_57 (nk_cons nmi_58 (nk_cons nmi_59 (nk_cons nmi_60 (nk_cons nmi_61 (nk_cons nmi_62 (nk_cons nmi_63 (nk_cons nmi_64 (nk_cons nmi_65 (nk_cons nmi_66 (nk_nil _)))))))))))))))))))))))))))))))))))))))))
def lq_undoM1 : List nkIn := [nme_214, nme_215, nme_216, nme_217, nme_218, nme_219, nme_220, nme_221, nme_222, nme_223, nme_224, nme_225, nme_226, nme_227, nme_228, nme_229, nme_230, nme_231, nme_232, nme_233, nme_234, nme_235, nme_236, nme_237, nme_238, nme_239, nme_240, nme_241, nme_242, nme_243, nme_244, nme_245, nme_246, nme_247, nme_248, nme_249, nme_250, nme_251, nme_252, nme_253, nme_254]
theorem lq_undoM1I : ∀ en ∈ lq_undoM1, nkMetI nkKds en := nk_cons nmi_214 (nk_cons nmi_215 (nk_cons nmi_216 (nk_cons nmi_217 (nk_cons nmi_218 (nk_cons nmi_219 (nk_cons nmi_220 (nk_cons nmi_221 (nk_cons nmi_222 (nk_cons nmi_223 (nk_cons nmi_224 (nk_cons nmi_225 (nk_cons nmi_226 (nk_cons nmi_227 (nk_cons nmi_228 (nk_cons nmi_229 (nk_cons nmi_230 (nk_cons nmi_231 (nk_cons nmi_232 (nk_cons nmi_233 (nk_cons nmi_234 (nk_cons nmi_235 (nk_cons nmi_236 (nk_cons nmi_237 (nk_cons nmi_238 (nk_cons nmi_239 (nk_cons nmi_240 (nk_cons nmi_241 (nk_cons nmi_242 (nk_cons nmi_243 (nk_cons nmi_244 (nk_cons nmi_245 (nk_cons nmi_246 (nk_cons nmi_247 (nk_cons nmi_248 (nk_cons nmi_249 (nk_cons nmi_250 (nk_cons nmi_251 (nk_cons nmi_252 (nk_cons nmi_253 (nk_cons nmi_254 (nk_nil _)))))))))))))))))))))))))))))))))))))))))
def lq_redoX : List nkIn := [nke_138, nke_139, nke_140, nke_141, nke_142, nke_143, nke_144, nke_145, nke_146, nke_147, nke_148, nke_149, nke_150, nke_151, nke_152, nke_153, nke_154, nke_155, nke_156, nke_157, nke_158, nke_159, nke_160, nke_161, nke_162, nke_163, nke_164, nke_165, nke_166, nke_167, nke_168, nke_169, nke_170, nke_171, nke_172, nke_173, nke_174, nke_175, nke_176, nke_177, nke_178]
theorem lq_redoXI : ∀ en ∈ lq_redoX, nkMetI nkKds en := nk_cons nki_138 (nk_cons nki_139 (nk_cons nki_140 (nk_cons nki_141 (nk_cons nki_142 (nk_cons nki_143 (nk_cons nki_144 (nk_cons nki_145 (nk_cons nki_146 (nk_cons nki_147 (nk_cons nki_148 (nk_cons nki_149 (nk_cons nki_150 (nk_cons nki_151 (nk_cons nki_152 (nk_cons nki_153 (nk_cons nki_154 (nk_cons nki_155 (nk_cons nki_156 (nk_cons nki_157 (nk_cons nki_158 (nk_cons nki_159 (nk_cons nki_160 (nk_cons nki_161 (nk_cons nki_162 (nk_cons nki_163 (nk_cons nki_164 (nk_cons nki_165 (nk_cons nki_166 (nk_cons nki_167 (nk_cons nki_168 (nk_cons nki_169 (nk_cons nki_170 (nk_cons nki_171 (nk_cons nki_172 (nk_cons nki_173 (nk_cons nki_174 (nk_cons nki_175 (nk_cons nki_176 (nk_cons nki_177 (nk_cons nki_178 (nk_nil _)))))))))))))))))))))))))))))))))))))))))
def lq_redoR : List nkIn := [nqe_138, nqe_139, nqe_140, nqe_141, nqe_142, nqe_143, nqe_144, nqe_145, nqe_146, nqe_147, nqe_148, nqe_149, nqe_150, nqe_151, nqe_152, nqe_153, nqe_154, nqe_155, nqe_156, nqe_157, nqe_158, nqe_159, nqe_160, nqe_161, nqe_162, nqe_163, nqe_164, nqe_165, nqe_166, nqe_167, nqe_168, nqe_169, nqe_170, nqe_171, nqe_172, nqe_173, nqe_174, nqe_175, nqe_176, nqe_177, nqe_178]
theorem lq_redoRI : ∀ en ∈ lq_redoR, nkMetI nkKdL en := nk_cons nqi_138 (nk_cons nqi_139 (nk_cons nqi_140 (nk_cons nqi_141 (nk_cons nqi_142 (nk_cons nqi_143 (nk_cons nqi_144 (nk_cons nqi_145 (nk_cons nqi_146 (nk_cons nqi_147 (nk_cons nqi_148 (nk_cons nqi_149 (nk_cons nqi_150 (nk_cons nqi_151 (nk_cons nqi_152 (nk_cons nqi_153 (nk_cons nqi_154 (nk_cons nqi_155 (nk_cons nqi_156 (nk_cons nqi_157 (nk_cons nqi_158 (nk_cons nqi_159 (nk_cons nqi_160 (nk_cons nqi_161 (nk_cons nqi_162 (nk_cons nqi_163 (nk_cons nqi_164 (nk_cons nqi_165 (nk_cons nqi_166 (nk_cons nqi_167 (nk_cons nqi_168 (nk_cons nqi_169 (nk_cons nqi_170 (nk_cons nqi_171 (nk_cons nqi_172 (nk_cons nqi_173 (nk_cons nqi_174 (nk_cons nqi_175 (nk_cons nqi_176 (nk_cons nqi_177 (nk_cons nqi_178 (nk_nil _)))))))))))))))))))))))))))))))))))))))))
def lq_redoM0 : List nkIn := [nme_67, nme_68, nme_69, nme_70, nme_71, nme_72, nme_73, nme_74, nme_75, nme_76, nme_77, nme_78, nme_79, nme_80, nme_81, nme_82, nme_83, nme_84, nme_85, nme_86, nme_87, nme_88, nme_89, nme_90, nme_91, nme_92, nme_93, nme_94, nme_95, nme_96, nme_97, nme_98, nme_99, nme_100, nme_101, nme_102, nme_103, nme_104, nme_105, nme_106, nme_107]
theorem lq_redoM0I : ∀ en ∈ lq_redoM0, nkMetI nkKds en := nk_cons nmi_67 (nk_cons nmi_68 (nk_cons nmi_69 (nk_cons nmi_70 (nk_cons nmi_71 (nk_cons nmi_72 (nk_cons nmi_73 (nk_cons nmi_74 (nk_cons nmi_75 (nk_cons nmi_76 (nk_cons nmi_77 (nk_cons nmi_78 (nk_cons nmi_79 (nk_cons nmi_80 (nk_cons nmi_81 (nk_cons nmi_82 (nk_cons nmi_83 (nk_cons nmi_84 (nk_cons nmi_85 (nk_cons nmi_86 (nk_cons nmi_87 (nk_cons nmi_88 (nk_cons nmi_89 (nk_cons nmi_90 (nk_cons nmi_91 (nk_cons nmi_92 (nk_cons nmi_93 (nk_cons nmi_94 (nk_cons nmi_95 (nk_cons nmi_96 (nk_cons nmi_97 (nk_cons nmi_98 (nk_cons nmi_99 (nk_cons nmi_100 (nk_cons nmi_101 (nk_cons nmi_102 (nk_cons nmi_103 (nk_cons nmi_104 (nk_cons nmi_105 (nk_cons nmi_106 (nk_cons nmi_107 (nk_nil _)))))))))))))))))))))))))))))))))))))))))
def lq_redoM1 : List nkIn := [nme_255, nme_256, nme_257, nme_258, nme_259, nme_260, nme_261, nme_262, nme_263, nme_264, nme_265, nme_266, nme_267, nme_268, nme_269, nme_270, nme_271, nme_272, nme_273, nme_274, nme_275, nme_276, nme_277, nme_278, nme_279, nme_280, nme_281, nme_282, nme_283, nme_284, nme_285, nme_286, nme_287, nme_288, nme_289, nme_290, nme_291, nme_292, nme_293, nme_294, nme_295]
theorem lq_redoM1I : ∀ en ∈ lq_redoM1, nkMetI nkKds en := nk_cons nmi_255 (nk_cons nmi_256 (nk_cons nmi_257 (nk_cons nmi_258 (nk_cons nmi_259 (nk_cons nmi_260 (nk_cons nmi_261 (nk_cons nmi_262 (nk_cons nmi_263 (nk_cons nmi_264 (nk_cons nmi_265 (nk_cons nmi_266 (nk_cons nmi_267 (nk_cons nmi_268 (nk_cons nmi_269 (nk_cons nmi_270 (nk_cons nmi_271 (nk_cons nmi_272 (nk_cons nmi_273 (nk_cons nmi_274 (nk_cons nmi_275 (nk_cons nmi_276 (nk_cons nmi_277 (nk_cons nmi_278 (nk_cons nmi_279 (nk_cons nmi_280 (nk_cons nmi_281 (nk_cons nmi_282 (nk_cons nmi_283 (nk_cons nmi_284 (nk_cons nmi_285 (nk_cons nmi_286 (nk_cons nmi_287 (nk_cons nmi_288 (nk_cons nmi_289 (nk_cons nmi_290 (nk_cons nmi_291 (nk_cons nmi_292 (nk_cons nmi_293 (nk_cons nmi_294 (nk_cons nmi_295 (nk_nil _)))))))))))))))))))))))))))))))))))))))))
theorem lqc_k0 : lq_caseB 240 13 17 [false, false, false, false, false] = true := by decide +kernel
theorem lqc_x0 : lq_sX nke_1 [false, false, false, false, false] = true ∧ lq_mB 13 nke_1 5 11 = true := by decide +kernel
theorem lqc_r0 : lq_sX nqe_1 [false, false, false, false, false] = true ∧ lq_mB 13 nqe_1 5 11 = true := by decide +kernel
theorem lqc_y0 : lq_sM nme_6 40 [false, false, false, false, false] = true ∧ lq_mB 17 nme_6 5 12 = true := by decide +kernel
theorem lqc_z0 : lq_sM nme_195 41 [false, false, false, false, false] = true ∧ lq_mB 17 nme_195 5 12 = true := by decide +kernel
theorem lqc_k1 : lq_caseB 303 18 22 [false] = true := by decide +kernel
theorem lqc_x1 : lq_sX nke_2 [false] = true ∧ lq_mB 18 nke_2 1 11 = true := by decide +kernel
theorem lqc_r1 : lq_sX nqe_2 [false] = true ∧ lq_mB 18 nqe_2 1 11 = true := by decide +kernel
theorem lqc_y1 : lq_sM nme_7 40 [false] = true ∧ lq_mB 22 nme_7 1 12 = true := by decide +kernel
theorem lqc_z1 : lq_sM nme_196 41 [false] = true ∧ lq_mB 22 nme_196 1 12 = true := by decide +kernel
theorem lqc_k2 : lq_caseB 326 23 27 [] = true := by decide +kernel
theorem lqc_x2 : lq_acXB nke_80 [] 18446744073709551616 18446744073709551656 18446744073709551616 18446744073709551656 = true ∧ lq_mB 23 nke_80 0 11 = true := by decide +kernel
theorem lqc_r2 : lq_mB 23 nqL_en 0 11 = true := by decide +kernel
theorem lqc_y2 : lq_mB 27 nkl0_en 0 12 = true := by decide +kernel
theorem lqc_z2 : lq_mB 27 nkl1_en 0 12 = true := by decide +kernel
theorem lqc_k3 : lq_caseB 339 28 31 [false] = true := by decide +kernel
theorem lqc_x3 : lq_sX nke_81 [false] = true ∧ lq_mB 28 nke_81 1 11 = true := by decide +kernel
theorem lqc_r3 : lq_sX nqe_81 [false] = true ∧ lq_mB 28 nqe_81 1 11 = true := by decide +kernel
theorem lqc_y3 : lq_sM nme_8 40 [false] = true ∧ lq_mB 31 nme_8 1 12 = true := by decide +kernel
theorem lqc_z3 : lq_sM nme_197 41 [false] = true ∧ lq_mB 31 nme_197 1 12 = true := by decide +kernel
theorem lqc_k4 : lq_caseB 362 32 36 [false, false] = true := by decide +kernel
theorem lqc_x4 : lq_sX nke_84 [false, false] = true ∧ lq_mB 32 nke_84 2 11 = true := by decide +kernel
theorem lqc_r4 : lq_sX nqe_84 [false, false] = true ∧ lq_mB 32 nqe_84 2 11 = true := by decide +kernel
theorem lqc_y4 : lq_sM nme_11 40 [false, false] = true ∧ lq_mB 36 nme_11 2 12 = true := by decide +kernel
theorem lqc_z4 : lq_sM nme_200 41 [false, false] = true ∧ lq_mB 36 nme_200 2 12 = true := by decide +kernel
theorem lqc_k5 : lq_caseB 395 37 40 [false, false] = true := by decide +kernel
theorem lqc_x5 : lq_sX nke_86 [false, false] = true ∧ lq_mB 37 nke_86 2 11 = true := by decide +kernel
theorem lqc_r5 : lq_sX nqe_86 [false, false] = true ∧ lq_mB 37 nqe_86 2 11 = true := by decide +kernel
theorem lqc_y5 : lq_sM nme_13 40 [false, false] = true ∧ lq_mB 40 nme_13 2 12 = true := by decide +kernel
theorem lqc_z5 : lq_sM nme_202 41 [false, false] = true ∧ lq_mB 40 nme_202 2 12 = true := by decide +kernel
theorem lqc_k6 : lq_caseB 428 41 45 [true] = true := by decide +kernel
theorem lqc_x6 : lq_acXB nke_91 [true] 18446744073709551616 18446744073709551656 18446744073709551616 18446744073709551656 = true ∧ lq_mB 41 nke_91 1 11 = true := by decide +kernel
theorem lqc_r6 : lq_acXB nqe_91 [true] 18446744073709551616 18446744073709551656 18446744073709551616 18446744073709551656 = true ∧ lq_mB 41 nqe_91 1 11 = true := by decide +kernel
theorem lqc_y6 : lq_acMB nme_19 40 [true] 18446744073709551616 18446744073709551656 18446744073709551616 18446744073709551656 = true ∧ lq_mB 45 nme_19 1 12 = true := by decide +kernel
theorem lqc_z6 : lq_acMB nme_207 41 [true] 18446744073709551616 18446744073709551656 18446744073709551616 18446744073709551656 = true ∧ lq_mB 45 nme_207 1 12 = true := by decide +kernel
theorem lqc_k7 : lq_caseB 467 46 49 [false] = true := by decide +kernel
theorem lqc_x7 : lq_acXB nke_92 [false] 18446744073709551616 18446744073709551656 18446744073709551616 18446744073709551656 = true ∧ lq_mB 46 nke_92 1 11 = true := by decide +kernel
theorem lqc_r7 : lq_acXB nqe_92 [false] 18446744073709551616 18446744073709551656 18446744073709551616 18446744073709551656 = true ∧ lq_mB 46 nqe_92 1 11 = true := by decide +kernel
theorem lqc_y7 : lq_acMB nme_20 40 [false] 18446744073709551616 18446744073709551656 18446744073709551616 18446744073709551656 = true ∧ lq_mB 49 nme_20 1 12 = true := by decide +kernel
theorem lqc_z7 : lq_acMB nme_208 41 [false] 18446744073709551616 18446744073709551656 18446744073709551616 18446744073709551656 = true ∧ lq_mB 49 nme_208 1 12 = true := by decide +kernel
theorem lqc_k8 : lq_caseB 490 50 53 [] = true := by decide +kernel
theorem lqc_x8 : lq_acXB nke_94 [] 18446744073709551616 18446744073709551656 18446744073709551616 18446744073709551656 = true ∧ lq_mB 50 nke_94 0 11 = true := by decide +kernel
theorem lqc_r8 : lq_acXB nqe_94 [] 18446744073709551616 18446744073709551656 18446744073709551616 18446744073709551656 = true ∧ lq_mB 50 nqe_94 0 11 = true := by decide +kernel
theorem lqc_y8 : lq_acMB nme_22 40 [] 18446744073709551616 18446744073709551656 18446744073709551616 18446744073709551656 = true ∧ lq_mB 53 nme_22 0 12 = true := by decide +kernel
theorem lqc_z8 : lq_acMB nme_210 41 [] 18446744073709551616 18446744073709551656 18446744073709551616 18446744073709551656 = true ∧ lq_mB 53 nme_210 0 12 = true := by decide +kernel
theorem lqc_k9 : lq_caseB 503 54 57 [false] = true := by decide +kernel
theorem lqc_x9 : lq_acXB nke_95 [false] 18446744073709551616 18446744073709551656 18446744073709551616 18446744073709551656 = true ∧ lq_mB 54 nke_95 1 11 = true := by decide +kernel
theorem lqc_r9 : lq_acXB nqe_95 [false] 18446744073709551616 18446744073709551656 18446744073709551616 18446744073709551656 = true ∧ lq_mB 54 nqe_95 1 11 = true := by decide +kernel
theorem lqc_y9 : lq_acMB nme_24 40 [false] 18446744073709551616 18446744073709551656 18446744073709551616 18446744073709551656 = true ∧ lq_mB 57 nme_24 1 12 = true := by decide +kernel
theorem lqc_z9 : lq_acMB nme_212 41 [false] 18446744073709551616 18446744073709551656 18446744073709551616 18446744073709551656 = true ∧ lq_mB 57 nme_212 1 12 = true := by decide +kernel
theorem lqc_k10 : lq_caseB 526 58 61 [false] = true := by decide +kernel
theorem lqc_x10 : lq_acXB nke_96 [false] 18446744073709551616 18446744073709551656 18446744073709551616 18446744073709551656 = true ∧ lq_mB 58 nke_96 1 11 = true := by decide +kernel
theorem lqc_r10 : lq_acXB nqe_96 [false] 18446744073709551616 18446744073709551656 18446744073709551616 18446744073709551656 = true ∧ lq_mB 58 nqe_96 1 11 = true := by decide +kernel
theorem lqc_y10 : lq_acMB nme_25 40 [false] 18446744073709551616 18446744073709551656 18446744073709551616 18446744073709551656 = true ∧ lq_mB 61 nme_25 1 12 = true := by decide +kernel
theorem lqc_z10 : lq_acMB nme_213 41 [false] 18446744073709551616 18446744073709551656 18446744073709551616 18446744073709551656 = true ∧ lq_mB 61 nme_213 1 12 = true := by decide +kernel
theorem lqc_k11 : lq_caseB 549 62 66 [] = true := by decide +kernel
theorem lqc_x11 : (List.range 41).all (fun u => lq_selB lq_undoX 62 u) = true := by decide +kernel
theorem lqc_r11 : (List.range 41).all (fun u => lq_selB lq_undoR 62 u) = true := by decide +kernel
theorem lqc_y11 : (List.range 41).all (fun u => lq_semB lq_undoM0 40 66 u) = true := by decide +kernel
theorem lqc_z11 : (List.range 41).all (fun u => lq_semB lq_undoM1 41 66 u) = true := by decide +kernel
theorem lqc_k12 : lq_caseB 562 67 70 [] = true := by decide +kernel
theorem lqc_x12 : (List.range 41).all (fun u => lq_selB lq_redoX 67 u) = true := by decide +kernel
theorem lqc_r12 : (List.range 41).all (fun u => lq_selB lq_redoR 67 u) = true := by decide +kernel
theorem lqc_y12 : (List.range 41).all (fun u => lq_semB lq_redoM0 40 70 u) = true := by decide +kernel
theorem lqc_z12 : (List.range 41).all (fun u => lq_semB lq_redoM1 41 70 u) = true := by decide +kernel
theorem lqc_k13 : lq_caseB 575 71 75 [false, false, false] = true := by decide +kernel
theorem lqc_x13 : lq_sX nke_180 [false, false, false] = true ∧ lq_mB 71 nke_180 3 11 = true := by decide +kernel
theorem lqc_r13 : lq_sX nqe_180 [false, false, false] = true ∧ lq_mB 71 nqe_180 3 11 = true := by decide +kernel
theorem lqc_y13 : lq_sM nme_111 40 [false, false, false] = true ∧ lq_mB 75 nme_111 3 12 = true := by decide +kernel
theorem lqc_z13 : lq_sM nme_299 41 [false, false, false] = true ∧ lq_mB 75 nme_299 3 12 = true := by decide +kernel
theorem lqc_k14 : lq_caseB 618 76 79 [false] = true := by decide +kernel
theorem lqc_x14 : lq_sX nke_181 [false] = true ∧ lq_mB 76 nke_181 1 11 = true := by decide +kernel
theorem lqc_r14 : lq_sX nqe_181 [false] = true ∧ lq_mB 76 nqe_181 1 11 = true := by decide +kernel
theorem lqc_y14 : lq_sM nme_112 40 [false] = true ∧ lq_mB 79 nme_112 1 12 = true := by decide +kernel
theorem lqc_z14 : lq_sM nme_300 41 [false] = true ∧ lq_mB 79 nme_300 1 12 = true := by decide +kernel
theorem lqc_k15 : lq_caseB 641 80 83 [false, false] = true := by decide +kernel
theorem lqc_x15 : lq_sX nke_182 [false, false] = true ∧ lq_mB 80 nke_182 2 11 = true := by decide +kernel
theorem lqc_r15 : lq_sX nqe_182 [false, false] = true ∧ lq_mB 80 nqe_182 2 11 = true := by decide +kernel
theorem lqc_y15 : lq_sM nme_113 40 [false, false] = true ∧ lq_mB 83 nme_113 2 12 = true := by decide +kernel
theorem lqc_z15 : lq_sM nme_301 41 [false, false] = true ∧ lq_mB 83 nme_301 2 12 = true := by decide +kernel
theorem lqc_k16 : lq_caseB 674 84 87 [false, false] = true := by decide +kernel
theorem lqc_x16 : lq_sX nke_205 [false, false] = true ∧ lq_mB 84 nke_205 2 11 = true := by decide +kernel
theorem lqc_r16 : lq_sX nqe_205 [false, false] = true ∧ lq_mB 84 nqe_205 2 11 = true := by decide +kernel
theorem lqc_y16 : lq_sM nme_116 40 [false, false] = true ∧ lq_mB 87 nme_116 2 12 = true := by decide +kernel
theorem lqc_z16 : lq_sM nme_302 41 [false, false] = true ∧ lq_mB 87 nme_302 2 12 = true := by decide +kernel
theorem lqc_k17 : lq_caseB 707 88 91 [false, false, false] = true := by decide +kernel
theorem lqc_x17 : lq_sX nke_210 [false, false, false] = true ∧ lq_mB 88 nke_210 3 11 = true := by decide +kernel
theorem lqc_r17 : lq_sX nqe_210 [false, false, false] = true ∧ lq_mB 88 nqe_210 3 11 = true := by decide +kernel
theorem lqc_y17 : lq_sM nme_118 40 [false, false, false] = true ∧ lq_mB 91 nme_118 3 12 = true := by decide +kernel
theorem lqc_z17 : lq_sM nme_304 41 [false, false, false] = true ∧ lq_mB 91 nme_304 3 12 = true := by decide +kernel
theorem lqc_k18 : lq_caseB 750 92 95 [false, false] = true := by decide +kernel
theorem lqc_x18 : lq_sX nke_211 [false, false] = true ∧ lq_mB 92 nke_211 2 11 = true := by decide +kernel
theorem lqc_r18 : lq_sX nqe_211 [false, false] = true ∧ lq_mB 92 nqe_211 2 11 = true := by decide +kernel
theorem lqc_y18 : lq_sM nme_120 40 [false, false] = true ∧ lq_mB 95 nme_120 2 12 = true := by decide +kernel
theorem lqc_z18 : lq_sM nme_306 41 [false, false] = true ∧ lq_mB 95 nme_306 2 12 = true := by decide +kernel
theorem lqc_k19 : lq_caseB 783 96 99 [false] = true := by decide +kernel
theorem lqc_x19 : lq_sX nke_214 [false] = true ∧ lq_mB 96 nke_214 1 11 = true := by decide +kernel
theorem lqc_r19 : lq_sX nqe_214 [false] = true ∧ lq_mB 96 nqe_214 1 11 = true := by decide +kernel
theorem lqc_y19 : lq_sM nme_122 40 [false] = true ∧ lq_mB 99 nme_122 1 12 = true := by decide +kernel
theorem lqc_z19 : lq_sM nme_308 41 [false] = true ∧ lq_mB 99 nme_308 1 12 = true := by decide +kernel
theorem lqc_k20 : lq_caseB 806 100 103 [false, false, false] = true := by decide +kernel
theorem lqc_x20 : lq_sX nke_221 [false, false, false] = true ∧ lq_mB 100 nke_221 3 11 = true := by decide +kernel
theorem lqc_r20 : lq_sX nqe_221 [false, false, false] = true ∧ lq_mB 100 nqe_221 3 11 = true := by decide +kernel
theorem lqc_y20 : lq_sM nme_126 40 [false, false, false] = true ∧ lq_mB 103 nme_126 3 12 = true := by decide +kernel
theorem lqc_z20 : lq_sM nme_312 41 [false, false, false] = true ∧ lq_mB 103 nme_312 3 12 = true := by decide +kernel
theorem lqc_k21 : lq_caseB 849 104 107 [] = true := by decide +kernel
theorem lqc_x21 : lq_sX nke_222 [] = true ∧ lq_mB 104 nke_222 0 11 = true := by decide +kernel
theorem lqc_r21 : lq_sX nqe_222 [] = true ∧ lq_mB 104 nqe_222 0 11 = true := by decide +kernel
theorem lqc_y21 : lq_sM nme_127 40 [] = true ∧ lq_mB 107 nme_127 0 12 = true := by decide +kernel
theorem lqc_z21 : lq_sM nme_313 41 [] = true ∧ lq_mB 107 nme_313 0 12 = true := by decide +kernel
theorem lqc_k22 : lq_caseB 862 108 111 [false] = true := by decide +kernel
theorem lqc_x22 : lq_sX nke_226 [false] = true ∧ lq_mB 108 nke_226 1 11 = true := by decide +kernel
theorem lqc_r22 : lq_sX nqe_226 [false] = true ∧ lq_mB 108 nqe_226 1 11 = true := by decide +kernel
theorem lqc_y22 : lq_sM nme_130 40 [false] = true ∧ lq_mB 111 nme_130 1 12 = true := by decide +kernel
theorem lqc_z22 : lq_sM nme_316 41 [false] = true ∧ lq_mB 111 nme_316 1 12 = true := by decide +kernel
theorem lqc_k23 : lq_caseB 885 112 115 [false, false] = true := by decide +kernel
theorem lqc_x23 : lq_sX nke_227 [false, false] = true ∧ lq_mB 112 nke_227 2 11 = true := by decide +kernel
theorem lqc_r23 : lq_sX nqe_227 [false, false] = true ∧ lq_mB 112 nqe_227 2 11 = true := by decide +kernel
theorem lqc_y23 : lq_sM nme_131 40 [false, false] = true ∧ lq_mB 115 nme_131 2 12 = true := by decide +kernel
theorem lqc_z23 : lq_sM nme_317 41 [false, false] = true ∧ lq_mB 115 nme_317 2 12 = true := by decide +kernel
theorem lqc_k24 : lq_caseB 918 116 119 [false] = true := by decide +kernel
theorem lqc_x24 : lq_sX nke_228 [false] = true ∧ lq_mB 116 nke_228 1 11 = true := by decide +kernel
theorem lqc_r24 : lq_sX nqe_228 [false] = true ∧ lq_mB 116 nqe_228 1 11 = true := by decide +kernel
theorem lqc_y24 : lq_sM nme_132 40 [false] = true ∧ lq_mB 119 nme_132 1 12 = true := by decide +kernel
theorem lqc_z24 : lq_sM nme_318 41 [false] = true ∧ lq_mB 119 nme_318 1 12 = true := by decide +kernel
theorem lqc_k25 : lq_caseB 941 120 123 [false] = true := by decide +kernel
theorem lqc_x25 : lq_sX nke_229 [false] = true ∧ lq_mB 120 nke_229 1 11 = true := by decide +kernel
theorem lqc_r25 : lq_sX nqe_229 [false] = true ∧ lq_mB 120 nqe_229 1 11 = true := by decide +kernel
theorem lqc_y25 : lq_sM nme_133 40 [false] = true ∧ lq_mB 123 nme_133 1 12 = true := by decide +kernel
theorem lqc_z25 : lq_sM nme_319 41 [false] = true ∧ lq_mB 123 nme_319 1 12 = true := by decide +kernel
theorem lqc_k26 : lq_caseB 964 124 127 [] = true := by decide +kernel
theorem lqc_x26 : lq_sX nke_230 [] = true ∧ lq_mB 124 nke_230 0 11 = true := by decide +kernel
theorem lqc_r26 : lq_sX nqe_230 [] = true ∧ lq_mB 124 nqe_230 0 11 = true := by decide +kernel
theorem lqc_y26 : lq_sM nme_134 40 [] = true ∧ lq_mB 127 nme_134 0 12 = true := by decide +kernel
theorem lqc_z26 : lq_sM nme_320 41 [] = true ∧ lq_mB 127 nme_320 0 12 = true := by decide +kernel
theorem lqc_k27 : lq_caseB 977 128 131 [false] = true := by decide +kernel
theorem lqc_x27 : lq_sX nke_237 [false] = true ∧ lq_mB 128 nke_237 1 11 = true := by decide +kernel
theorem lqc_r27 : lq_sX nqe_237 [false] = true ∧ lq_mB 128 nqe_237 1 11 = true := by decide +kernel
theorem lqc_y27 : lq_sM nme_135 40 [false] = true ∧ lq_mB 131 nme_135 1 12 = true := by decide +kernel
theorem lqc_z27 : lq_sM nme_321 41 [false] = true ∧ lq_mB 131 nme_321 1 12 = true := by decide +kernel
theorem lqc_k28 : lq_caseB 1000 132 135 [false, false] = true := by decide +kernel
theorem lqc_x28 : lq_sX nke_238 [false, false] = true ∧ lq_mB 132 nke_238 2 11 = true := by decide +kernel
theorem lqc_r28 : lq_sX nqe_238 [false, false] = true ∧ lq_mB 132 nqe_238 2 11 = true := by decide +kernel
theorem lqc_y28 : lq_sM nme_136 40 [false, false] = true ∧ lq_mB 135 nme_136 2 12 = true := by decide +kernel
theorem lqc_z28 : lq_sM nme_322 41 [false, false] = true ∧ lq_mB 135 nme_322 2 12 = true := by decide +kernel
theorem lqc_k29 : lq_caseB 1033 136 139 [] = true := by decide +kernel
theorem lqc_x29 : lq_sX nke_239 [] = true ∧ lq_mB 136 nke_239 0 11 = true := by decide +kernel
theorem lqc_r29 : lq_sX nqe_239 [] = true ∧ lq_mB 136 nqe_239 0 11 = true := by decide +kernel
theorem lqc_y29 : lq_sM nme_137 40 [] = true ∧ lq_mB 139 nme_137 0 12 = true := by decide +kernel
theorem lqc_z29 : lq_sM nme_323 41 [] = true ∧ lq_mB 139 nme_323 0 12 = true := by decide +kernel
theorem lqc_k30 : lq_caseB 1046 140 143 [] = true := by decide +kernel
theorem lqc_x30 : lq_sX nke_240 [] = true ∧ lq_mB 140 nke_240 0 11 = true := by decide +kernel
theorem lqc_r30 : lq_sX nqe_240 [] = true ∧ lq_mB 140 nqe_240 0 11 = true := by decide +kernel
theorem lqc_y30 : lq_sM nme_138 40 [] = true ∧ lq_mB 143 nme_138 0 12 = true := by decide +kernel
theorem lqc_z30 : lq_sM nme_324 41 [] = true ∧ lq_mB 143 nme_324 0 12 = true := by decide +kernel
theorem lqc_k31 : lq_caseB 1059 144 148 [false, true] = true := by decide +kernel
theorem lqc_x31 : lq_sX nke_241 [false, true] = true ∧ lq_mB 144 nke_241 2 11 = true := by decide +kernel
theorem lqc_r31 : lq_sX nqe_241 [false, true] = true ∧ lq_mB 144 nqe_241 2 11 = true := by decide +kernel
theorem lqc_y31 : lq_sM nme_139 40 [false, true] = true ∧ lq_mB 148 nme_139 2 12 = true := by decide +kernel
theorem lqc_z31 : lq_sM nme_325 41 [false, true] = true ∧ lq_mB 148 nme_325 2 12 = true := by decide +kernel
theorem lqc_k32 : lq_caseB 1108 149 152 [] = true := by decide +kernel
theorem lqc_x32 : lq_sX nke_242 [] = true ∧ lq_mB 149 nke_242 0 11 = true := by decide +kernel
theorem lqc_r32 : lq_sX nqe_242 [] = true ∧ lq_mB 149 nqe_242 0 11 = true := by decide +kernel
theorem lqc_y32 : lq_sM nme_140 40 [] = true ∧ lq_mB 152 nme_140 0 12 = true := by decide +kernel
theorem lqc_z32 : lq_sM nme_326 41 [] = true ∧ lq_mB 152 nme_326 0 12 = true := by decide +kernel
theorem lqc_k33 : lq_caseB 1121 153 156 [false] = true := by decide +kernel
theorem lqc_x33 : lq_sX nke_243 [false] = true ∧ lq_mB 153 nke_243 1 11 = true := by decide +kernel
theorem lqc_r33 : lq_sX nqe_243 [false] = true ∧ lq_mB 153 nqe_243 1 11 = true := by decide +kernel
theorem lqc_y33 : lq_sM nme_142 40 [false] = true ∧ lq_mB 156 nme_142 1 12 = true := by decide +kernel
theorem lqc_z33 : lq_sM nme_328 41 [false] = true ∧ lq_mB 156 nme_328 1 12 = true := by decide +kernel
theorem lqc_k34 : lq_caseB 1144 157 160 [false] = true := by decide +kernel
theorem lqc_x34 : lq_sX nke_244 [false] = true ∧ lq_mB 157 nke_244 1 11 = true := by decide +kernel
theorem lqc_r34 : lq_sX nqe_244 [false] = true ∧ lq_mB 157 nqe_244 1 11 = true := by decide +kernel
theorem lqc_y34 : lq_sM nme_143 40 [false] = true ∧ lq_mB 160 nme_143 1 12 = true := by decide +kernel
theorem lqc_z34 : lq_sM nme_329 41 [false] = true ∧ lq_mB 160 nme_329 1 12 = true := by decide +kernel
theorem lqc_k35 : lq_caseB 1167 161 164 [false] = true := by decide +kernel
theorem lqc_x35 : lq_sX nke_245 [false] = true ∧ lq_mB 161 nke_245 1 11 = true := by decide +kernel
theorem lqc_r35 : lq_sX nqe_245 [false] = true ∧ lq_mB 161 nqe_245 1 11 = true := by decide +kernel
theorem lqc_y35 : lq_sM nme_144 40 [false] = true ∧ lq_mB 164 nme_144 1 12 = true := by decide +kernel
theorem lqc_z35 : lq_sM nme_330 41 [false] = true ∧ lq_mB 164 nme_330 1 12 = true := by decide +kernel
theorem lqc_k36 : lq_caseB 1190 165 168 [] = true := by decide +kernel
theorem lqc_x36 : lq_sX nke_246 [] = true ∧ lq_mB 165 nke_246 0 11 = true := by decide +kernel
theorem lqc_r36 : lq_sX nqe_246 [] = true ∧ lq_mB 165 nqe_246 0 11 = true := by decide +kernel
theorem lqc_y36 : lq_sM nme_145 40 [] = true ∧ lq_mB 168 nme_145 0 12 = true := by decide +kernel
theorem lqc_z36 : lq_sM nme_331 41 [] = true ∧ lq_mB 168 nme_331 0 12 = true := by decide +kernel
theorem lqc_k37 : lq_caseB 1203 169 172 [false, false] = true := by decide +kernel
theorem lqc_x37 : lq_sX nke_248 [false, false] = true ∧ lq_mB 169 nke_248 2 11 = true := by decide +kernel
theorem lqc_r37 : lq_sX nqe_248 [false, false] = true ∧ lq_mB 169 nqe_248 2 11 = true := by decide +kernel
theorem lqc_y37 : lq_sM nme_151 40 [false, false] = true ∧ lq_mB 172 nme_151 2 12 = true := by decide +kernel
theorem lqc_z37 : lq_sM nme_332 41 [false, false] = true ∧ lq_mB 172 nme_332 2 12 = true := by decide +kernel
theorem lqc_k38 : lq_caseB 1236 173 176 [false] = true := by decide +kernel
theorem lqc_x38 : lq_sX nke_249 [false] = true ∧ lq_mB 173 nke_249 1 11 = true := by decide +kernel
theorem lqc_r38 : lq_sX nqe_249 [false] = true ∧ lq_mB 173 nqe_249 1 11 = true := by decide +kernel
theorem lqc_y38 : lq_sM nme_152 40 [false] = true ∧ lq_mB 176 nme_152 1 12 = true := by decide +kernel
theorem lqc_z38 : lq_sM nme_333 41 [false] = true ∧ lq_mB 176 nme_333 1 12 = true := by decide +kernel
theorem lqc_k39 : lq_caseB 1259 177 181 [false, false, true] = true := by decide +kernel
theorem lqc_x39 : lq_sX nke_250 [false, false, true] = true ∧ lq_mB 177 nke_250 3 11 = true := by decide +kernel
theorem lqc_r39 : lq_sX nqe_250 [false, false, true] = true ∧ lq_mB 177 nqe_250 3 11 = true := by decide +kernel
theorem lqc_y39 : lq_sM nme_153 40 [false, false, true] = true ∧ lq_mB 181 nme_153 3 12 = true := by decide +kernel
theorem lqc_z39 : lq_sM nme_334 41 [false, false, true] = true ∧ lq_mB 181 nme_334 3 12 = true := by decide +kernel
theorem lqc_k40 : lq_caseB 1318 182 186 [false] = true := by decide +kernel
theorem lqc_x40 : lq_sX nke_251 [false] = true ∧ lq_mB 182 nke_251 1 11 = true := by decide +kernel
theorem lqc_r40 : lq_sX nqe_251 [false] = true ∧ lq_mB 182 nqe_251 1 11 = true := by decide +kernel
theorem lqc_y40 : lq_sM nme_154 40 [false] = true ∧ lq_mB 186 nme_154 1 12 = true := by decide +kernel
theorem lqc_z40 : lq_sM nme_335 41 [false] = true ∧ lq_mB 186 nme_335 1 12 = true := by decide +kernel
theorem lqc_k41 : lq_caseLB 1341 187 190 [false] = true := by decide +kernel
theorem lqc_l41 : lq_mB 187 nlX_en 1 11 = true ∧ lq_mB 187 nlR_en 1 11 = true ∧ lq_mB 190 nlM0_en 1 12 = true ∧ lq_mB 190 nlM1_en 1 12 = true := by decide +kernel
theorem lqc_k42 : lq_caseB 1364 191 194 [false] = true := by decide +kernel
theorem lqc_x42 : lq_sX nke_263 [false] = true ∧ lq_mB 191 nke_263 1 11 = true := by decide +kernel
theorem lqc_r42 : lq_sX nqe_263 [false] = true ∧ lq_mB 191 nqe_263 1 11 = true := by decide +kernel
theorem lqc_y42 : lq_sM nme_168 40 [false] = true ∧ lq_mB 194 nme_168 1 12 = true := by decide +kernel
theorem lqc_z42 : lq_sM nme_349 41 [false] = true ∧ lq_mB 194 nme_349 1 12 = true := by decide +kernel
theorem lqc_k43 : lq_caseB 1387 195 198 [false, false] = true := by decide +kernel
theorem lqc_x43 : lq_sX nke_264 [false, false] = true ∧ lq_mB 195 nke_264 2 11 = true := by decide +kernel
theorem lqc_r43 : lq_sX nqe_264 [false, false] = true ∧ lq_mB 195 nqe_264 2 11 = true := by decide +kernel
theorem lqc_y43 : lq_sM nks0_en 40 [false, false] = true ∧ lq_mB 198 nks0_en 2 12 = true := by decide +kernel
theorem lqc_z43 : lq_sM nks1_en 41 [false, false] = true ∧ lq_mB 198 nks1_en 2 12 = true := by decide +kernel
theorem lqc_k44 : lq_caseB 1420 199 202 [false, false] = true := by decide +kernel
theorem lqc_x44 : lq_sX nke_267 [false, false] = true ∧ lq_mB 199 nke_267 2 11 = true := by decide +kernel
theorem lqc_r44 : lq_sX nqe_267 [false, false] = true ∧ lq_mB 199 nqe_267 2 11 = true := by decide +kernel
theorem lqc_y44 : lq_sM nme_185 40 [false, false] = true ∧ lq_mB 202 nme_185 2 12 = true := by decide +kernel
theorem lqc_z44 : lq_sM nme_366 41 [false, false] = true ∧ lq_mB 202 nme_366 2 12 = true := by decide +kernel
theorem lqc_k45 : lq_caseB 1453 203 206 [false] = true := by decide +kernel
theorem lqc_x45 : lq_sX nke_268 [false] = true ∧ lq_mB 203 nke_268 1 11 = true := by decide +kernel
theorem lqc_r45 : lq_sX nqe_268 [false] = true ∧ lq_mB 203 nqe_268 1 11 = true := by decide +kernel
theorem lqc_y45 : lq_sM nme_186 40 [false] = true ∧ lq_mB 206 nme_186 1 12 = true := by decide +kernel
theorem lqc_z45 : lq_sM nme_367 41 [false] = true ∧ lq_mB 206 nme_367 1 12 = true := by decide +kernel
theorem lqc_k46 : lq_caseB 1476 207 210 [false] = true := by decide +kernel
theorem lqc_x46 : lq_acXB nke_269 [false] 18446744073709551616 18446744073709551656 18446744073709551616 18446744073709551656 = true ∧ lq_mB 207 nke_269 1 11 = true := by decide +kernel
theorem lqc_r46 : lq_acXB nqe_269 [false] 18446744073709551616 18446744073709551656 18446744073709551616 18446744073709551656 = true ∧ lq_mB 207 nqe_269 1 11 = true := by decide +kernel
theorem lqc_y46 : lq_acMB nme_187 40 [false] 18446744073709551616 18446744073709551656 18446744073709551616 18446744073709551656 = true ∧ lq_mB 210 nme_187 1 12 = true := by decide +kernel
theorem lqc_z46 : lq_acMB nme_368 41 [false] 18446744073709551616 18446744073709551656 18446744073709551616 18446744073709551656 = true ∧ lq_mB 210 nme_368 1 12 = true := by decide +kernel
theorem lqc_k47 : lq_caseB 1499 211 214 [false] = true := by decide +kernel
theorem lqc_x47 : lq_sX nke_270 [false] = true ∧ lq_mB 211 nke_270 1 11 = true := by decide +kernel
theorem lqc_r47 : lq_sX nqe_270 [false] = true ∧ lq_mB 211 nqe_270 1 11 = true := by decide +kernel
theorem lqc_y47 : lq_sM nme_188 40 [false] = true ∧ lq_mB 214 nme_188 1 12 = true := by decide +kernel
theorem lqc_z47 : lq_sM nme_369 41 [false] = true ∧ lq_mB 214 nme_369 1 12 = true := by decide +kernel
theorem lq_cases {p : Program} {l : Launch} {e : Env} {s : State} {m : MethodId} {below : List Frame} {meth : Method} {c : Code} {b L X M h i : Nat} {xs : Nat → Int32} {D : nhD} {H : Heap} {locs : List Loc} {ls : Array Slot} {Q : State → Prop} (hC : lx_In p s m meth c b L xs D X M i ls) (hW : lqW s D X M h H locs) (n : Nat) (hn : n < 48)
    (k : ∀ (H1 : Heap) (locs1 : List Loc), lqW s D X M h H1 locs1 → W p l e room_1 s m #[Value.ref b] below meth c H1 locs1 600000 7302250 Q (F0 m 1522 ls [])) :
    W p l e room_1 s m #[Value.ref b] below meth c H locs 600000 7302250 Q (F0 m (lx_tg.getD n 0) ls []) := by
  have hF := lx_nhFx hC
  have hls : ls.size = 4 := hC.2.2.2.2.1
  match n, hn with
  | 0, _ => exact lq_case hC (ds := [false, false, false, false, false]) (by decide) lqc_k0 hW (fun hJ hd k => lq_doX hF hls (ds := [false, false, false, false, false]) (rest := []) nki_1 nqi_1 lqc_x0 lqc_r0 hd (Nat.le_of_ble_eq_true rfl) hJ _ 1 k) (fun hJ hd k => lq_doM hF hls (ds := [false, false, false, false, false]) (rest := []) nmi_6 nmi_195 lqc_y0 lqc_z0 hd (Nat.le_of_ble_eq_true rfl) hJ _ 1 k) k
  | 1, _ => exact lq_case hC (ds := [false]) (by decide) lqc_k1 hW (fun hJ hd k => lq_doX hF hls (ds := [false]) (rest := []) nki_2 nqi_2 lqc_x1 lqc_r1 hd (Nat.le_of_ble_eq_true rfl) hJ _ 1 k) (fun hJ hd k => lq_doM hF hls (ds := [false]) (rest := []) nmi_7 nmi_196 lqc_y1 lqc_z1 hd (Nat.le_of_ble_eq_true rfl) hJ _ 1 k) k
  | 2, _ => exact lq_case hC (ds := []) (by decide) lqc_k2 hW (fun hJ hd k => lq_landX hF hls (fun p a hpa => ⟨nke_80, _, _, _, _, nki_80, lqc_x2, ⟨by omega, by omega⟩, ⟨by omega, by omega⟩⟩) lqc_r2 hd hJ k) (fun hJ hd k => lq_landM hF hls lqc_y2 lqc_z2 hd hJ k) k
  | 3, _ => exact lq_case hC (ds := [false]) (by decide) lqc_k3 hW (fun hJ hd k => lq_doX hF hls (ds := [false]) (rest := []) nki_81 nqi_81 lqc_x3 lqc_r3 hd (Nat.le_of_ble_eq_true rfl) hJ _ 1 k) (fun hJ hd k => lq_doM hF hls (ds := [false]) (rest := []) nmi_8 nmi_197 lqc_y3 lqc_z3 hd (Nat.le_of_ble_eq_true rfl) hJ _ 1 k) k
  | 4, _ => exact lq_case hC (ds := [false, false]) (by decide) lqc_k4 hW (fun hJ hd k => lq_doX hF hls (ds := [false, false]) (rest := []) nki_84 nqi_84 lqc_x4 lqc_r4 hd (Nat.le_of_ble_eq_true rfl) hJ _ 1 k) (fun hJ hd k => lq_doM hF hls (ds := [false, false]) (rest := []) nmi_11 nmi_200 lqc_y4 lqc_z4 hd (Nat.le_of_ble_eq_true rfl) hJ _ 1 k) k
  | 5, _ => exact lq_case hC (ds := [false, false]) (by decide) lqc_k5 hW (fun hJ hd k => lq_doX hF hls (ds := [false, false]) (rest := []) nki_86 nqi_86 lqc_x5 lqc_r5 hd (Nat.le_of_ble_eq_true rfl) hJ _ 1 k) (fun hJ hd k => lq_doM hF hls (ds := [false, false]) (rest := []) nmi_13 nmi_202 lqc_y5 lqc_z5 hd (Nat.le_of_ble_eq_true rfl) hJ _ 1 k) k
  | 6, _ => exact lq_case hC (ds := [true]) (by decide) lqc_k6 hW (fun hJ hd k => lq_actX hF hls (ds := [true]) (rest := []) (fun p a hpa => ⟨nke_91, _, _, _, _, nki_91, lqc_x6, ⟨by omega, by omega⟩, ⟨by omega, by omega⟩⟩) (fun p a hpa => ⟨nqe_91, _, _, _, _, nqi_91, lqc_r6, ⟨by omega, by omega⟩, ⟨by omega, by omega⟩⟩) hd (Nat.le_of_ble_eq_true rfl) hJ _ 1 k) (fun hJ hd k => lq_actM hF hls (ds := [true]) (rest := []) (fun km hkm p a hpa => by
      rcases hkm with rfl | rfl
      · exact ⟨nme_19, _, _, _, _, nmi_19, lqc_y6, ⟨by omega, by omega⟩, ⟨by omega, by omega⟩⟩
      · exact ⟨nme_207, _, _, _, _, nmi_207, lqc_z6, ⟨by omega, by omega⟩, ⟨by omega, by omega⟩⟩) hd (Nat.le_of_ble_eq_true rfl) hJ _ 1 k) k
  | 7, _ => exact lq_case hC (ds := [false]) (by decide) lqc_k7 hW (fun hJ hd k => lq_actX hF hls (ds := [false]) (rest := []) (fun p a hpa => ⟨nke_92, _, _, _, _, nki_92, lqc_x7, ⟨by omega, by omega⟩, ⟨by omega, by omega⟩⟩) (fun p a hpa => ⟨nqe_92, _, _, _, _, nqi_92, lqc_r7, ⟨by omega, by omega⟩, ⟨by omega, by omega⟩⟩) hd (Nat.le_of_ble_eq_true rfl) hJ _ 1 k) (fun hJ hd k => lq_actM hF hls (ds := [false]) (rest := []) (fun km hkm p a hpa => by
      rcases hkm with rfl | rfl
      · exact ⟨nme_20, _, _, _, _, nmi_20, lqc_y7, ⟨by omega, by omega⟩, ⟨by omega, by omega⟩⟩
      · exact ⟨nme_208, _, _, _, _, nmi_208, lqc_z7, ⟨by omega, by omega⟩, ⟨by omega, by omega⟩⟩) hd (Nat.le_of_ble_eq_true rfl) hJ _ 1 k) k
  | 8, _ => exact lq_case hC (ds := []) (by decide) lqc_k8 hW (fun hJ hd k => lq_actX hF hls (ds := []) (rest := []) (fun p a hpa => ⟨nke_94, _, _, _, _, nki_94, lqc_x8, ⟨by omega, by omega⟩, ⟨by omega, by omega⟩⟩) (fun p a hpa => ⟨nqe_94, _, _, _, _, nqi_94, lqc_r8, ⟨by omega, by omega⟩, ⟨by omega, by omega⟩⟩) hd (Nat.le_of_ble_eq_true rfl) hJ _ 1 k) (fun hJ hd k => lq_actM hF hls (ds := []) (rest := []) (fun km hkm p a hpa => by
      rcases hkm with rfl | rfl
      · exact ⟨nme_22, _, _, _, _, nmi_22, lqc_y8, ⟨by omega, by omega⟩, ⟨by omega, by omega⟩⟩
      · exact ⟨nme_210, _, _, _, _, nmi_210, lqc_z8, ⟨by omega, by omega⟩, ⟨by omega, by omega⟩⟩) hd (Nat.le_of_ble_eq_true rfl) hJ _ 1 k) k
  | 9, _ => exact lq_case hC (ds := [false]) (by decide) lqc_k9 hW (fun hJ hd k => lq_actX hF hls (ds := [false]) (rest := []) (fun p a hpa => ⟨nke_95, _, _, _, _, nki_95, lqc_x9, ⟨by omega, by omega⟩, ⟨by omega, by omega⟩⟩) (fun p a hpa => ⟨nqe_95, _, _, _, _, nqi_95, lqc_r9, ⟨by omega, by omega⟩, ⟨by omega, by omega⟩⟩) hd (Nat.le_of_ble_eq_true rfl) hJ _ 1 k) (fun hJ hd k => lq_actM hF hls (ds := [false]) (rest := []) (fun km hkm p a hpa => by
      rcases hkm with rfl | rfl
      · exact ⟨nme_24, _, _, _, _, nmi_24, lqc_y9, ⟨by omega, by omega⟩, ⟨by omega, by omega⟩⟩
      · exact ⟨nme_212, _, _, _, _, nmi_212, lqc_z9, ⟨by omega, by omega⟩, ⟨by omega, by omega⟩⟩) hd (Nat.le_of_ble_eq_true rfl) hJ _ 1 k) k
  | 10, _ => exact lq_case hC (ds := [false]) (by decide) lqc_k10 hW (fun hJ hd k => lq_actX hF hls (ds := [false]) (rest := []) (fun p a hpa => ⟨nke_96, _, _, _, _, nki_96, lqc_x10, ⟨by omega, by omega⟩, ⟨by omega, by omega⟩⟩) (fun p a hpa => ⟨nqe_96, _, _, _, _, nqi_96, lqc_r10, ⟨by omega, by omega⟩, ⟨by omega, by omega⟩⟩) hd (Nat.le_of_ble_eq_true rfl) hJ _ 1 k) (fun hJ hd k => lq_actM hF hls (ds := [false]) (rest := []) (fun km hkm p a hpa => by
      rcases hkm with rfl | rfl
      · exact ⟨nme_25, _, _, _, _, nmi_25, lqc_y10, ⟨by omega, by omega⟩, ⟨by omega, by omega⟩⟩
      · exact ⟨nme_213, _, _, _, _, nmi_213, lqc_z10, ⟨by omega, by omega⟩, ⟨by omega, by omega⟩⟩) hd (Nat.le_of_ble_eq_true rfl) hJ _ 1 k) k
  | 11, _ => exact lq_case hC (ds := []) (by decide) lqc_k11 hW (fun hJ hd k => lq_actX hF hls (ds := []) (rest := []) (lq_selX lq_undoXI lqc_x11) (lq_selX lq_undoRI lqc_r11) hd (Nat.le_of_ble_eq_true rfl) hJ _ 1 k) (fun hJ hd k => lq_actM hF hls (ds := []) (rest := []) (lq_selM lq_undoM0I lq_undoM1I lqc_y11 lqc_z11) hd (Nat.le_of_ble_eq_true rfl) hJ _ 1 k) k
  | 12, _ => exact lq_case hC (ds := []) (by decide) lqc_k12 hW (fun hJ hd k => lq_actX hF hls (ds := []) (rest := []) (lq_selX lq_redoXI lqc_x12) (lq_selX lq_redoRI lqc_r12) hd (Nat.le_of_ble_eq_true rfl) hJ _ 1 k) (fun hJ hd k => lq_actM hF hls (ds := []) (rest := []) (lq_selM lq_redoM0I lq_redoM1I lqc_y12 lqc_z12) hd (Nat.le_of_ble_eq_true rfl) hJ _ 1 k) k
  | 13, _ => exact lq_case hC (ds := [false, false, false]) (by decide) lqc_k13 hW (fun hJ hd k => lq_doX hF hls (ds := [false, false, false]) (rest := []) nki_180 nqi_180 lqc_x13 lqc_r13 hd (Nat.le_of_ble_eq_true rfl) hJ _ 1 k) (fun hJ hd k => lq_doM hF hls (ds := [false, false, false]) (rest := []) nmi_111 nmi_299 lqc_y13 lqc_z13 hd (Nat.le_of_ble_eq_true rfl) hJ _ 1 k) k
  | 14, _ => exact lq_case hC (ds := [false]) (by decide) lqc_k14 hW (fun hJ hd k => lq_doX hF hls (ds := [false]) (rest := []) nki_181 nqi_181 lqc_x14 lqc_r14 hd (Nat.le_of_ble_eq_true rfl) hJ _ 1 k) (fun hJ hd k => lq_doM hF hls (ds := [false]) (rest := []) nmi_112 nmi_300 lqc_y14 lqc_z14 hd (Nat.le_of_ble_eq_true rfl) hJ _ 1 k) k
  | 15, _ => exact lq_case hC (ds := [false, false]) (by decide) lqc_k15 hW (fun hJ hd k => lq_doX hF hls (ds := [false, false]) (rest := []) nki_182 nqi_182 lqc_x15 lqc_r15 hd (Nat.le_of_ble_eq_true rfl) hJ _ 1 k) (fun hJ hd k => lq_doM hF hls (ds := [false, false]) (rest := []) nmi_113 nmi_301 lqc_y15 lqc_z15 hd (Nat.le_of_ble_eq_true rfl) hJ _ 1 k) k
  | 16, _ => exact lq_case hC (ds := [false, false]) (by decide) lqc_k16 hW (fun hJ hd k => lq_doX hF hls (ds := [false, false]) (rest := []) nki_205 nqi_205 lqc_x16 lqc_r16 hd (Nat.le_of_ble_eq_true rfl) hJ _ 1 k) (fun hJ hd k => lq_doM hF hls (ds := [false, false]) (rest := []) nmi_116 nmi_302 lqc_y16 lqc_z16 hd (Nat.le_of_ble_eq_true rfl) hJ _ 1 k) k
  | 17, _ => exact lq_case hC (ds := [false, false, false]) (by decide) lqc_k17 hW (fun hJ hd k => lq_doX hF hls (ds := [false, false, false]) (rest := []) nki_210 nqi_210 lqc_x17 lqc_r17 hd (Nat.le_of_ble_eq_true rfl) hJ _ 1 k) (fun hJ hd k => lq_doM hF hls (ds := [false, false, false]) (rest := []) nmi_118 nmi_304 lqc_y17 lqc_z17 hd (Nat.le_of_ble_eq_true rfl) hJ _ 1 k) k
  | 18, _ => exact lq_case hC (ds := [false, false]) (by decide) lqc_k18 hW (fun hJ hd k => lq_doX hF hls (ds := [false, false]) (rest := []) nki_211 nqi_211 lqc_x18 lqc_r18 hd (Nat.le_of_ble_eq_true rfl) hJ _ 1 k) (fun hJ hd k => lq_doM hF hls (ds := [false, false]) (rest := []) nmi_120 nmi_306 lqc_y18 lqc_z18 hd (Nat.le_of_ble_eq_true rfl) hJ _ 1 k) k
  | 19, _ => exact lq_case hC (ds := [false]) (by decide) lqc_k19 hW (fun hJ hd k => lq_doX hF hls (ds := [false]) (rest := []) nki_214 nqi_214 lqc_x19 lqc_r19 hd (Nat.le_of_ble_eq_true rfl) hJ _ 1 k) (fun hJ hd k => lq_doM hF hls (ds := [false]) (rest := []) nmi_122 nmi_308 lqc_y19 lqc_z19 hd (Nat.le_of_ble_eq_true rfl) hJ _ 1 k) k
  | 20, _ => exact lq_case hC (ds := [false, false, false]) (by decide) lqc_k20 hW (fun hJ hd k => lq_doX hF hls (ds := [false, false, false]) (rest := []) nki_221 nqi_221 lqc_x20 lqc_r20 hd (Nat.le_of_ble_eq_true rfl) hJ _ 1 k) (fun hJ hd k => lq_doM hF hls (ds := [false, false, false]) (rest := []) nmi_126 nmi_312 lqc_y20 lqc_z20 hd (Nat.le_of_ble_eq_true rfl) hJ _ 1 k) k
  | 21, _ => exact lq_case hC (ds := []) (by decide) lqc_k21 hW (fun hJ hd k => lq_doX hF hls (ds := []) (rest := []) nki_222 nqi_222 lqc_x21 lqc_r21 hd (Nat.le_of_ble_eq_true rfl) hJ _ 1 k) (fun hJ hd k => lq_doM hF hls (ds := []) (rest := []) nmi_127 nmi_313 lqc_y21 lqc_z21 hd (Nat.le_of_ble_eq_true rfl) hJ _ 1 k) k
  | 22, _ => exact lq_case hC (ds := [false]) (by decide) lqc_k22 hW (fun hJ hd k => lq_doX hF hls (ds := [false]) (rest := []) nki_226 nqi_226 lqc_x22 lqc_r22 hd (Nat.le_of_ble_eq_true rfl) hJ _ 1 k) (fun hJ hd k => lq_doM hF hls (ds := [false]) (rest := []) nmi_130 nmi_316 lqc_y22 lqc_z22 hd (Nat.le_of_ble_eq_true rfl) hJ _ 1 k) k
  | 23, _ => exact lq_case hC (ds := [false, false]) (by decide) lqc_k23 hW (fun hJ hd k => lq_doX hF hls (ds := [false, false]) (rest := []) nki_227 nqi_227 lqc_x23 lqc_r23 hd (Nat.le_of_ble_eq_true rfl) hJ _ 1 k) (fun hJ hd k => lq_doM hF hls (ds := [false, false]) (rest := []) nmi_131 nmi_317 lqc_y23 lqc_z23 hd (Nat.le_of_ble_eq_true rfl) hJ _ 1 k) k
  | 24, _ => exact lq_case hC (ds := [false]) (by decide) lqc_k24 hW (fun hJ hd k => lq_doX hF hls (ds := [false]) (rest := []) nki_228 nqi_228 lqc_x24 lqc_r24 hd (Nat.le_of_ble_eq_true rfl) hJ _ 1 k) (fun hJ hd k => lq_doM hF hls (ds := [false]) (rest := []) nmi_132 nmi_318 lqc_y24 lqc_z24 hd (Nat.le_of_ble_eq_true rfl) hJ _ 1 k) k
  | 25, _ => exact lq_case hC (ds := [false]) (by decide) lqc_k25 hW (fun hJ hd k => lq_doX hF hls (ds := [false]) (rest := []) nki_229 nqi_229 lqc_x25 lqc_r25 hd (Nat.le_of_ble_eq_true rfl) hJ _ 1 k) (fun hJ hd k => lq_doM hF hls (ds := [false]) (rest := []) nmi_133 nmi_319 lqc_y25 lqc_z25 hd (Nat.le_of_ble_eq_true rfl) hJ _ 1 k) k
  | 26, _ => exact lq_case hC (ds := []) (by decide) lqc_k26 hW (fun hJ hd k => lq_doX hF hls (ds := []) (rest := []) nki_230 nqi_230 lqc_x26 lqc_r26 hd (Nat.le_of_ble_eq_true rfl) hJ _ 1 k) (fun hJ hd k => lq_doM hF hls (ds := []) (rest := []) nmi_134 nmi_320 lqc_y26 lqc_z26 hd (Nat.le_of_ble_eq_true rfl) hJ _ 1 k) k
  | 27, _ => exact lq_case hC (ds := [false]) (by decide) lqc_k27 hW (fun hJ hd k => lq_doX hF hls (ds := [false]) (rest := []) nki_237 nqi_237 lqc_x27 lqc_r27 hd (Nat.le_of_ble_eq_true rfl) hJ _ 1 k) (fun hJ hd k => lq_doM hF hls (ds := [false]) (rest := []) nmi_135 nmi_321 lqc_y27 lqc_z27 hd (Nat.le_of_ble_eq_true rfl) hJ _ 1 k) k
  | 28, _ => exact lq_case hC (ds := [false, false]) (by decide) lqc_k28 hW (fun hJ hd k => lq_doX hF hls (ds := [false, false]) (rest := []) nki_238 nqi_238 lqc_x28 lqc_r28 hd (Nat.le_of_ble_eq_true rfl) hJ _ 1 k) (fun hJ hd k => lq_doM hF hls (ds := [false, false]) (rest := []) nmi_136 nmi_322 lqc_y28 lqc_z28 hd (Nat.le_of_ble_eq_true rfl) hJ _ 1 k) k
  | 29, _ => exact lq_case hC (ds := []) (by decide) lqc_k29 hW (fun hJ hd k => lq_doX hF hls (ds := []) (rest := []) nki_239 nqi_239 lqc_x29 lqc_r29 hd (Nat.le_of_ble_eq_true rfl) hJ _ 1 k) (fun hJ hd k => lq_doM hF hls (ds := []) (rest := []) nmi_137 nmi_323 lqc_y29 lqc_z29 hd (Nat.le_of_ble_eq_true rfl) hJ _ 1 k) k
  | 30, _ => exact lq_case hC (ds := []) (by decide) lqc_k30 hW (fun hJ hd k => lq_doX hF hls (ds := []) (rest := []) nki_240 nqi_240 lqc_x30 lqc_r30 hd (Nat.le_of_ble_eq_true rfl) hJ _ 1 k) (fun hJ hd k => lq_doM hF hls (ds := []) (rest := []) nmi_138 nmi_324 lqc_y30 lqc_z30 hd (Nat.le_of_ble_eq_true rfl) hJ _ 1 k) k
  | 31, _ => exact lq_case hC (ds := [false, true]) (by decide) lqc_k31 hW (fun hJ hd k => lq_doX hF hls (ds := [false, true]) (rest := []) nki_241 nqi_241 lqc_x31 lqc_r31 hd (Nat.le_of_ble_eq_true rfl) hJ _ 1 k) (fun hJ hd k => lq_doM hF hls (ds := [false, true]) (rest := []) nmi_139 nmi_325 lqc_y31 lqc_z31 hd (Nat.le_of_ble_eq_true rfl) hJ _ 1 k) k
  | 32, _ => exact lq_case hC (ds := []) (by decide) lqc_k32 hW (fun hJ hd k => lq_doX hF hls (ds := []) (rest := []) nki_242 nqi_242 lqc_x32 lqc_r32 hd (Nat.le_of_ble_eq_true rfl) hJ _ 1 k) (fun hJ hd k => lq_doM hF hls (ds := []) (rest := []) nmi_140 nmi_326 lqc_y32 lqc_z32 hd (Nat.le_of_ble_eq_true rfl) hJ _ 1 k) k
  | 33, _ => exact lq_case hC (ds := [false]) (by decide) lqc_k33 hW (fun hJ hd k => lq_doX hF hls (ds := [false]) (rest := []) nki_243 nqi_243 lqc_x33 lqc_r33 hd (Nat.le_of_ble_eq_true rfl) hJ _ 1 k) (fun hJ hd k => lq_doM hF hls (ds := [false]) (rest := []) nmi_142 nmi_328 lqc_y33 lqc_z33 hd (Nat.le_of_ble_eq_true rfl) hJ _ 1 k) k
  | 34, _ => exact lq_case hC (ds := [false]) (by decide) lqc_k34 hW (fun hJ hd k => lq_doX hF hls (ds := [false]) (rest := []) nki_244 nqi_244 lqc_x34 lqc_r34 hd (Nat.le_of_ble_eq_true rfl) hJ _ 1 k) (fun hJ hd k => lq_doM hF hls (ds := [false]) (rest := []) nmi_143 nmi_329 lqc_y34 lqc_z34 hd (Nat.le_of_ble_eq_true rfl) hJ _ 1 k) k
  | 35, _ => exact lq_case hC (ds := [false]) (by decide) lqc_k35 hW (fun hJ hd k => lq_doX hF hls (ds := [false]) (rest := []) nki_245 nqi_245 lqc_x35 lqc_r35 hd (Nat.le_of_ble_eq_true rfl) hJ _ 1 k) (fun hJ hd k => lq_doM hF hls (ds := [false]) (rest := []) nmi_144 nmi_330 lqc_y35 lqc_z35 hd (Nat.le_of_ble_eq_true rfl) hJ _ 1 k) k
  | 36, _ => exact lq_case hC (ds := []) (by decide) lqc_k36 hW (fun hJ hd k => lq_doX hF hls (ds := []) (rest := []) nki_246 nqi_246 lqc_x36 lqc_r36 hd (Nat.le_of_ble_eq_true rfl) hJ _ 1 k) (fun hJ hd k => lq_doM hF hls (ds := []) (rest := []) nmi_145 nmi_331 lqc_y36 lqc_z36 hd (Nat.le_of_ble_eq_true rfl) hJ _ 1 k) k
  | 37, _ => exact lq_case hC (ds := [false, false]) (by decide) lqc_k37 hW (fun hJ hd k => lq_doX hF hls (ds := [false, false]) (rest := []) nki_248 nqi_248 lqc_x37 lqc_r37 hd (Nat.le_of_ble_eq_true rfl) hJ _ 1 k) (fun hJ hd k => lq_doM hF hls (ds := [false, false]) (rest := []) nmi_151 nmi_332 lqc_y37 lqc_z37 hd (Nat.le_of_ble_eq_true rfl) hJ _ 1 k) k
  | 38, _ => exact lq_case hC (ds := [false]) (by decide) lqc_k38 hW (fun hJ hd k => lq_doX hF hls (ds := [false]) (rest := []) nki_249 nqi_249 lqc_x38 lqc_r38 hd (Nat.le_of_ble_eq_true rfl) hJ _ 1 k) (fun hJ hd k => lq_doM hF hls (ds := [false]) (rest := []) nmi_152 nmi_333 lqc_y38 lqc_z38 hd (Nat.le_of_ble_eq_true rfl) hJ _ 1 k) k
  | 39, _ => exact lq_case hC (ds := [false, false, true]) (by decide) lqc_k39 hW (fun hJ hd k => lq_doX hF hls (ds := [false, false, true]) (rest := []) nki_250 nqi_250 lqc_x39 lqc_r39 hd (Nat.le_of_ble_eq_true rfl) hJ _ 1 k) (fun hJ hd k => lq_doM hF hls (ds := [false, false, true]) (rest := []) nmi_153 nmi_334 lqc_y39 lqc_z39 hd (Nat.le_of_ble_eq_true rfl) hJ _ 1 k) k
  | 40, _ => exact lq_case hC (ds := [false]) (by decide) lqc_k40 hW (fun hJ hd k => lq_doX hF hls (ds := [false]) (rest := []) nki_251 nqi_251 lqc_x40 lqc_r40 hd (Nat.le_of_ble_eq_true rfl) hJ _ 1 k) (fun hJ hd k => lq_doM hF hls (ds := [false]) (rest := []) nmi_154 nmi_335 lqc_y40 lqc_z40 hd (Nat.le_of_ble_eq_true rfl) hJ _ 1 k) k
  | 41, _ => exact lq_later hC hW lqc_k41 lqc_l41.1 lqc_l41.2.1 lqc_l41.2.2.1 lqc_l41.2.2.2 k
  | 42, _ => exact lq_case hC (ds := [false]) (by decide) lqc_k42 hW (fun hJ hd k => lq_doX hF hls (ds := [false]) (rest := []) nki_263 nqi_263 lqc_x42 lqc_r42 hd (Nat.le_of_ble_eq_true rfl) hJ _ 1 k) (fun hJ hd k => lq_doM hF hls (ds := [false]) (rest := []) nmi_168 nmi_349 lqc_y42 lqc_z42 hd (Nat.le_of_ble_eq_true rfl) hJ _ 1 k) k
  | 43, _ => exact lq_case hC (ds := [false, false]) (by decide) lqc_k43 hW (fun hJ hd k => lq_doX hF hls (ds := [false, false]) (rest := []) nki_264 nqi_264 lqc_x43 lqc_r43 hd (Nat.le_of_ble_eq_true rfl) hJ _ 1 k) (fun hJ hd k => lq_doM hF hls (ds := [false, false]) (rest := []) nks0_sure nks1_sure lqc_y43 lqc_z43 hd (Nat.le_of_ble_eq_true rfl) hJ _ 1 k) k
  | 44, _ => exact lq_case hC (ds := [false, false]) (by decide) lqc_k44 hW (fun hJ hd k => lq_doX hF hls (ds := [false, false]) (rest := []) nki_267 nqi_267 lqc_x44 lqc_r44 hd (Nat.le_of_ble_eq_true rfl) hJ _ 1 k) (fun hJ hd k => lq_doM hF hls (ds := [false, false]) (rest := []) nmi_185 nmi_366 lqc_y44 lqc_z44 hd (Nat.le_of_ble_eq_true rfl) hJ _ 1 k) k
  | 45, _ => exact lq_case hC (ds := [false]) (by decide) lqc_k45 hW (fun hJ hd k => lq_doX hF hls (ds := [false]) (rest := []) nki_268 nqi_268 lqc_x45 lqc_r45 hd (Nat.le_of_ble_eq_true rfl) hJ _ 1 k) (fun hJ hd k => lq_doM hF hls (ds := [false]) (rest := []) nmi_186 nmi_367 lqc_y45 lqc_z45 hd (Nat.le_of_ble_eq_true rfl) hJ _ 1 k) k
  | 46, _ => exact lq_case hC (ds := [false]) (by decide) lqc_k46 hW (fun hJ hd k => lq_actX hF hls (ds := [false]) (rest := []) (fun p a hpa => ⟨nke_269, _, _, _, _, nki_269, lqc_x46, ⟨by omega, by omega⟩, ⟨by omega, by omega⟩⟩) (fun p a hpa => ⟨nqe_269, _, _, _, _, nqi_269, lqc_r46, ⟨by omega, by omega⟩, ⟨by omega, by omega⟩⟩) hd (Nat.le_of_ble_eq_true rfl) hJ _ 1 k) (fun hJ hd k => lq_actM hF hls (ds := [false]) (rest := []) (fun km hkm p a hpa => by
      rcases hkm with rfl | rfl
      · exact ⟨nme_187, _, _, _, _, nmi_187, lqc_y46, ⟨by omega, by omega⟩, ⟨by omega, by omega⟩⟩
      · exact ⟨nme_368, _, _, _, _, nmi_368, lqc_z46, ⟨by omega, by omega⟩, ⟨by omega, by omega⟩⟩) hd (Nat.le_of_ble_eq_true rfl) hJ _ 1 k) k
  | 47, _ => exact lq_case hC (ds := [false]) (by decide) lqc_k47 hW (fun hJ hd k => lq_doX hF hls (ds := [false]) (rest := []) nki_270 nqi_270 lqc_x47 lqc_r47 hd (Nat.le_of_ble_eq_true rfl) hJ _ 1 k) (fun hJ hd k => lq_doM hF hls (ds := [false]) (rest := []) nmi_188 nmi_369 lqc_y47 lqc_z47 hd (Nat.le_of_ble_eq_true rfl) hJ _ 1 k) k
  | n + 48, h => exact absurd h (by omega)
