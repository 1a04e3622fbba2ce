theorem bX9_findOrder_0_1 : okB cX9_findOrder RX9 0 [(5, 0, 0, 0, 0)] := And.intro ⟨_, dX9_findOrder_0, rfl⟩ trivial
theorem bX9_findOrder_4_8 : okB cX9_findOrder RX9 4 [(5, 0, 0, 0, 0), (23, 110, 9, 14, 0)] := And.intro ⟨_, dX9_findOrder_4, rfl⟩ (And.intro ⟨dX9_findOrder_5, fl_X9_110⟩ trivial)
theorem bX9_findOrder_12_13 : okB cX9_findOrder RX9 12 [(5, 0, 0, 0, 0)] := And.intro ⟨_, dX9_findOrder_12, rfl⟩ trivial
theorem bX9_findOrder_16_33 : okB cX9_findOrder RX9 16 [(5, 0, 0, 0, 0), (0, 0, 0, 0, 0), (24, 140, 9, 27, 0), (5, 0, 0, 0, 0), (0, 0, 0, 0, 1), (24, 143, 9, 28, 0), (5, 0, 0, 0, 0), (23, 90, 9, 12, 0), (0, 0, 0, 0, 1), (13, 0, 0, 0, 0), (7, 1, 0, 0, 0)] := And.intro ⟨_, dX9_findOrder_16, rfl⟩ (And.intro ⟨_, dX9_findOrder_17, by decide⟩ (And.intro ⟨dX9_findOrder_18, fl_X9_140, rfl, rfl⟩ (And.intro ⟨_, dX9_findOrder_21, rfl⟩ (And.intro ⟨_, dX9_findOrder_22, by decide⟩ (And.intro ⟨dX9_findOrder_23, fl_X9_143, rfl, rfl⟩ (And.intro ⟨_, dX9_findOrder_26, rfl⟩ (And.intro ⟨dX9_findOrder_27, fl_X9_90⟩ (And.intro ⟨_, dX9_findOrder_30, by decide⟩ (And.intro dX9_findOrder_31 (And.intro ⟨_, dX9_findOrder_32, rfl⟩ trivial))))))))))
theorem bX9_findOrder_33_34 : okB cX9_findOrder RX9 33 [(3, 1, 0, 0, 0)] := And.intro ⟨_, dX9_findOrder_33, rfl⟩ trivial
theorem bX9_findOrder_234_238 : okB cX9_findOrder RX9 234 [(5, 0, 0, 0, 0), (23, 90, 9, 12, 0)] := And.intro ⟨_, dX9_findOrder_234, rfl⟩ (And.intro ⟨dX9_findOrder_235, fl_X9_90⟩ trivial)
theorem bX9_findOrder_242_250 : okB cX9_findOrder RX9 242 [(5, 0, 0, 0, 0), (26, 82, 0, 0, 1000000000), (24, 140, 9, 27, 0), (0, 0, 0, 0, 0), (7, 1, 0, 0, 0)] := And.intro ⟨_, dX9_findOrder_242, rfl⟩ (And.intro ⟨dX9_findOrder_243, wk_X9_82⟩ (And.intro ⟨dX9_findOrder_245, fl_X9_140, rfl, rfl⟩ (And.intro ⟨_, dX9_findOrder_248, by decide⟩ (And.intro ⟨_, dX9_findOrder_249, rfl⟩ trivial))))
theorem bX9_findOrder_250_257 : okB cX9_findOrder RX9 250 [(3, 1, 0, 0, 0), (5, 0, 0, 0, 0), (5, 0, 0, 0, 0), (23, 35, 9, 15, 0), (0, 0, 0, 0, 0)] := And.intro ⟨_, dX9_findOrder_250, rfl⟩ (And.intro ⟨_, dX9_findOrder_251, rfl⟩ (And.intro ⟨_, dX9_findOrder_252, rfl⟩ (And.intro ⟨dX9_findOrder_253, fl_X9_35⟩ (And.intro ⟨_, dX9_findOrder_256, by decide⟩ trivial))))
theorem bX9_findOrder_326_333 : okB cX9_findOrder RX9 326 [(5, 0, 0, 0, 0), (23, 140, 9, 27, 0), (7, 1, 0, 0, 0), (0, 0, 0, 0, 0), (7, 2, 0, 0, 0)] := And.intro ⟨_, dX9_findOrder_326, rfl⟩ (And.intro ⟨dX9_findOrder_327, fl_X9_140⟩ (And.intro ⟨_, dX9_findOrder_330, rfl⟩ (And.intro ⟨_, dX9_findOrder_331, by decide⟩ (And.intro ⟨_, dX9_findOrder_332, rfl⟩ trivial))))
theorem bX9_findOrder_333_338 : okB cX9_findOrder RX9 333 [(3, 2, 0, 0, 0), (5, 0, 0, 0, 0), (23, 90, 9, 12, 0)] := And.intro ⟨_, dX9_findOrder_333, rfl⟩ (And.intro ⟨_, dX9_findOrder_334, rfl⟩ (And.intro ⟨dX9_findOrder_335, fl_X9_90⟩ trivial))
theorem bX9_findOrder_341_343 : okB cX9_findOrder RX9 341 [(0, 0, 0, 0, 0), (7, 3, 0, 0, 0)] := And.intro ⟨_, dX9_findOrder_341, by decide⟩ (And.intro ⟨_, dX9_findOrder_342, rfl⟩ trivial)
theorem bX9_findOrder_343_344 : okB cX9_findOrder RX9 343 [(3, 2, 0, 0, 0)] := And.intro ⟨_, dX9_findOrder_343, rfl⟩ trivial
theorem bX9_findOrder_351_362 : okB cX9_findOrder RX9 351 [(5, 0, 0, 0, 0), (3, 2, 0, 0, 0), (0, 0, 0, 0, 1), (13, 0, 0, 0, 0), (5, 0, 0, 0, 0), (23, 62, 9, 26, 0), (3, 2, 0, 0, 0), (0, 0, 0, 0, 1), (13, 0, 0, 0, 0)] := And.intro ⟨_, dX9_findOrder_351, rfl⟩ (And.intro ⟨_, dX9_findOrder_352, rfl⟩ (And.intro ⟨_, dX9_findOrder_353, by decide⟩ (And.intro dX9_findOrder_354 (And.intro ⟨_, dX9_findOrder_355, rfl⟩ (And.intro ⟨dX9_findOrder_356, fl_X9_62⟩ (And.intro ⟨_, dX9_findOrder_359, rfl⟩ (And.intro ⟨_, dX9_findOrder_360, by decide⟩ (And.intro dX9_findOrder_361 trivial))))))))
theorem bX9_findOrder_363_364 : okB cX9_findOrder RX9 363 [(3, 3, 0, 0, 0)] := And.intro ⟨_, dX9_findOrder_363, rfl⟩ trivial
theorem bX9_findOrder_367_377 : okB cX9_findOrder RX9 367 [(5, 0, 0, 0, 0), (23, 56, 9, 24, 0), (1, 0, 0, 0, 120), (3, 2, 0, 0, 0), (14, 0, 0, 0, 0), (3, 3, 0, 0, 0), (12, 0, 0, 0, 0)] := And.intro ⟨_, dX9_findOrder_367, rfl⟩ (And.intro ⟨dX9_findOrder_368, fl_X9_56⟩ (And.intro ⟨_, dX9_findOrder_371, by decide⟩ (And.intro ⟨_, dX9_findOrder_373, rfl⟩ (And.intro dX9_findOrder_374 (And.intro ⟨_, dX9_findOrder_375, rfl⟩ (And.intro dX9_findOrder_376 trivial))))))
theorem bX9_findOrder_378_380 : okB cX9_findOrder RX9 378 [(12, 0, 0, 0, 0), (3, 1, 0, 0, 0)] := And.intro dX9_findOrder_378 (And.intro ⟨_, dX9_findOrder_379, rfl⟩ trivial)
theorem bX9_findOrder_390_396 : okB cX9_findOrder RX9 390 [(5, 0, 0, 0, 0), (23, 62, 9, 26, 0), (3, 2, 0, 0, 0), (3, 3, 0, 0, 0)] := And.intro ⟨_, dX9_findOrder_390, rfl⟩ (And.intro ⟨dX9_findOrder_391, fl_X9_62⟩ (And.intro ⟨_, dX9_findOrder_394, rfl⟩ (And.intro ⟨_, dX9_findOrder_395, rfl⟩ trivial)))
theorem bX9_findOrder_397_407 : okB cX9_findOrder RX9 397 [(5, 0, 0, 0, 0), (23, 56, 9, 24, 0), (1, 0, 0, 0, 120), (3, 2, 0, 0, 0), (14, 0, 0, 0, 0), (3, 3, 0, 0, 0), (12, 0, 0, 0, 0)] := And.intro ⟨_, dX9_findOrder_397, rfl⟩ (And.intro ⟨dX9_findOrder_398, fl_X9_56⟩ (And.intro ⟨_, dX9_findOrder_401, by decide⟩ (And.intro ⟨_, dX9_findOrder_403, rfl⟩ (And.intro dX9_findOrder_404 (And.intro ⟨_, dX9_findOrder_405, rfl⟩ (And.intro dX9_findOrder_406 trivial))))))
theorem bX9_findOrder_408_415 : okB cX9_findOrder RX9 408 [(5, 0, 0, 0, 0), (23, 76, 9, 3, 0), (5, 0, 0, 0, 0), (3, 2, 0, 0, 0), (3, 3, 0, 0, 0)] := And.intro ⟨_, dX9_findOrder_408, rfl⟩ (And.intro ⟨dX9_findOrder_409, fl_X9_76⟩ (And.intro ⟨_, dX9_findOrder_412, rfl⟩ (And.intro ⟨_, dX9_findOrder_413, rfl⟩ (And.intro ⟨_, dX9_findOrder_414, rfl⟩ trivial))))
theorem bX9_findOrder_418_424 : okB cX9_findOrder RX9 418 [(14, 0, 0, 0, 0), (13, 0, 0, 0, 0), (7, 1, 0, 0, 0), (11, 2, 0, 0, 1)] := And.intro dX9_findOrder_418 (And.intro dX9_findOrder_419 (And.intro ⟨_, dX9_findOrder_420, rfl⟩ (And.intro ⟨_, dX9_findOrder_421, by decide⟩ trivial)))
theorem bX9_findOrder_383_387 : okB cX9_findOrder RX9 383 [(3, 3, 0, 0, 0), (0, 0, 0, 0, 1), (12, 0, 0, 0, 0), (7, 3, 0, 0, 0)] := And.intro ⟨_, dX9_findOrder_383, rfl⟩ (And.intro ⟨_, dX9_findOrder_384, by decide⟩ (And.intro dX9_findOrder_385 (And.intro ⟨_, dX9_findOrder_386, rfl⟩ trivial)))
theorem bX9_findOrder_347_348 : okB cX9_findOrder RX9 347 [(0, 0, 0, 0, 0)] := And.intro ⟨_, dX9_findOrder_347, by decide⟩ trivial
theorem bX9_findOrder_264_269 : okB cX9_findOrder RX9 264 [(5, 0, 0, 0, 0), (23, 56, 9, 24, 0), (3, 1, 0, 0, 0)] := And.intro ⟨_, dX9_findOrder_264, rfl⟩ (And.intro ⟨dX9_findOrder_265, fl_X9_56⟩ (And.intro ⟨_, dX9_findOrder_268, rfl⟩ trivial))
theorem bX9_findOrder_270_274 : okB cX9_findOrder RX9 270 [(5, 0, 0, 0, 0), (23, 140, 9, 27, 0)] := And.intro ⟨_, dX9_findOrder_270, rfl⟩ (And.intro ⟨dX9_findOrder_271, fl_X9_140⟩ trivial)
theorem bX9_findOrder_292_297 : okB cX9_findOrder RX9 292 [(5, 0, 0, 0, 0), (23, 56, 9, 24, 0), (3, 1, 0, 0, 0)] := And.intro ⟨_, dX9_findOrder_292, rfl⟩ (And.intro ⟨dX9_findOrder_293, fl_X9_56⟩ (And.intro ⟨_, dX9_findOrder_296, rfl⟩ trivial))
theorem bX9_findOrder_298_302 : okB cX9_findOrder RX9 298 [(5, 0, 0, 0, 0), (23, 140, 9, 27, 0)] := And.intro ⟨_, dX9_findOrder_298, rfl⟩ (And.intro ⟨dX9_findOrder_299, fl_X9_140⟩ trivial)
theorem bX9_findOrder_320_323 : okB cX9_findOrder RX9 320 [(11, 1, 0, 0, 1)] := And.intro ⟨_, dX9_findOrder_320, by decide⟩ trivial
theorem bX9_findOrder_305_315 : okB cX9_findOrder RX9 305 [(5, 0, 0, 0, 0), (5, 0, 0, 0, 0), (23, 143, 9, 28, 0), (5, 0, 0, 0, 0), (23, 59, 9, 25, 0), (3, 1, 0, 0, 0)] := And.intro ⟨_, dX9_findOrder_305, rfl⟩ (And.intro ⟨_, dX9_findOrder_306, rfl⟩ (And.intro ⟨dX9_findOrder_307, fl_X9_143⟩ (And.intro ⟨_, dX9_findOrder_310, rfl⟩ (And.intro ⟨dX9_findOrder_311, fl_X9_59⟩ (And.intro ⟨_, dX9_findOrder_314, rfl⟩ trivial)))))
theorem bX9_findOrder_316_323 : okB cX9_findOrder RX9 316 [(12, 0, 0, 0, 0), (24, 143, 9, 28, 0), (11, 1, 0, 0, 1)] := And.intro dX9_findOrder_316 (And.intro ⟨dX9_findOrder_317, fl_X9_143, rfl, rfl⟩ (And.intro ⟨_, dX9_findOrder_320, by decide⟩ trivial))
theorem bX9_findOrder_277_283 : okB cX9_findOrder RX9 277 [(5, 0, 0, 0, 0), (5, 0, 0, 0, 0), (23, 56, 9, 24, 0), (3, 1, 0, 0, 0)] := And.intro ⟨_, dX9_findOrder_277, rfl⟩ (And.intro ⟨_, dX9_findOrder_278, rfl⟩ (And.intro ⟨dX9_findOrder_279, fl_X9_56⟩ (And.intro ⟨_, dX9_findOrder_282, rfl⟩ trivial)))
theorem bX9_findOrder_284_297 : okB cX9_findOrder RX9 284 [(24, 140, 9, 27, 0), (5, 0, 0, 0, 0), (0, 0, 0, 0, 0), (24, 143, 9, 28, 0), (5, 0, 0, 0, 0), (23, 56, 9, 24, 0), (3, 1, 0, 0, 0)] := And.intro ⟨dX9_findOrder_284, fl_X9_140, rfl, rfl⟩ (And.intro ⟨_, dX9_findOrder_287, rfl⟩ (And.intro ⟨_, dX9_findOrder_288, by decide⟩ (And.intro ⟨dX9_findOrder_289, fl_X9_143, rfl, rfl⟩ (And.intro ⟨_, dX9_findOrder_292, rfl⟩ (And.intro ⟨dX9_findOrder_293, fl_X9_56⟩ (And.intro ⟨_, dX9_findOrder_296, rfl⟩ trivial))))))
theorem bX9_findOrder_37_39 : okB cX9_findOrder RX9 37 [(0, 0, 0, 0, 0), (7, 2, 0, 0, 0)] := And.intro ⟨_, dX9_findOrder_37, by decide⟩ (And.intro ⟨_, dX9_findOrder_38, rfl⟩ trivial)
theorem bX9_findOrder_39_46 : okB cX9_findOrder RX9 39 [(3, 2, 0, 0, 0), (5, 0, 0, 0, 0), (5, 0, 0, 0, 0), (23, 35, 9, 15, 0), (3, 1, 0, 0, 0)] := And.intro ⟨_, dX9_findOrder_39, rfl⟩ (And.intro ⟨_, dX9_findOrder_40, rfl⟩ (And.intro ⟨_, dX9_findOrder_41, rfl⟩ (And.intro ⟨dX9_findOrder_42, fl_X9_35⟩ (And.intro ⟨_, dX9_findOrder_45, rfl⟩ trivial))))
theorem bX9_findOrder_228_231 : okB cX9_findOrder RX9 228 [(11, 1, 0, 0, (-1))] := And.intro ⟨_, dX9_findOrder_228, by decide⟩ trivial
theorem bX9_findOrder_87_90 : okB cX9_findOrder RX9 87 [(0, 0, 0, 0, 0), (8, 5, 0, 0, 0)] := And.intro ⟨_, dX9_findOrder_87, by decide⟩ (And.intro dX9_findOrder_88 trivial)
theorem bX9_findOrder_90_97 : okB cX9_findOrder RX9 90 [(3, 1, 0, 0, 0), (0, 0, 0, 0, 1), (12, 0, 0, 0, 0), (5, 0, 0, 0, 0), (23, 90, 9, 12, 0)] := And.intro ⟨_, dX9_findOrder_90, rfl⟩ (And.intro ⟨_, dX9_findOrder_91, by decide⟩ (And.intro dX9_findOrder_92 (And.intro ⟨_, dX9_findOrder_93, rfl⟩ (And.intro ⟨dX9_findOrder_94, fl_X9_90⟩ trivial))))
theorem bX9_findOrder_185_203 : okB cX9_findOrder RX9 185 [(5, 0, 0, 0, 0), (23, 56, 9, 24, 0), (1, 0, 0, 0, 120), (3, 1, 0, 0, 0), (14, 0, 0, 0, 0), (3, 2, 0, 0, 0), (12, 0, 0, 0, 0), (3, 3, 0, 0, 0), (5, 0, 0, 0, 0), (23, 76, 9, 3, 0), (5, 0, 0, 0, 0), (3, 1, 0, 0, 0), (3, 2, 0, 0, 0)] := And.intro ⟨_, dX9_findOrder_185, rfl⟩ (And.intro ⟨dX9_findOrder_186, fl_X9_56⟩ (And.intro ⟨_, dX9_findOrder_189, by decide⟩ (And.intro ⟨_, dX9_findOrder_191, rfl⟩ (And.intro dX9_findOrder_192 (And.intro ⟨_, dX9_findOrder_193, rfl⟩ (And.intro dX9_findOrder_194 (And.intro ⟨_, dX9_findOrder_195, rfl⟩ (And.intro ⟨_, dX9_findOrder_196, rfl⟩ (And.intro ⟨dX9_findOrder_197, fl_X9_76⟩ (And.intro ⟨_, dX9_findOrder_200, rfl⟩ (And.intro ⟨_, dX9_findOrder_201, rfl⟩ (And.intro ⟨_, dX9_findOrder_202, rfl⟩ trivial))))))))))))
theorem bX9_findOrder_206_208 : okB cX9_findOrder RX9 206 [(14, 0, 0, 0, 0), (12, 0, 0, 0, 0)] := And.intro dX9_findOrder_206 (And.intro dX9_findOrder_207 trivial)
theorem bX9_findOrder_209_221 : okB cX9_findOrder RX9 209 [(5, 0, 0, 0, 0), (23, 59, 9, 25, 0), (1, 0, 0, 0, 120), (3, 1, 0, 0, 0), (14, 0, 0, 0, 0), (3, 2, 0, 0, 0), (12, 0, 0, 0, 0), (4, 4, 0, 0, 0)] := And.intro ⟨_, dX9_findOrder_209, rfl⟩ (And.intro ⟨dX9_findOrder_210, fl_X9_59⟩ (And.intro ⟨_, dX9_findOrder_213, by decide⟩ (And.intro ⟨_, dX9_findOrder_215, rfl⟩ (And.intro dX9_findOrder_216 (And.intro ⟨_, dX9_findOrder_217, rfl⟩ (And.intro dX9_findOrder_218 (And.intro dX9_findOrder_219 trivial)))))))
theorem bX9_findOrder_222_225 : okB cX9_findOrder RX9 222 [(11, 2, 0, 0, 1)] := And.intro ⟨_, dX9_findOrder_222, by decide⟩ trivial
theorem bX9_findOrder_100_110 : okB cX9_findOrder RX9 100 [(4, 5, 0, 0, 0), (5, 0, 0, 0, 0), (5, 0, 0, 0, 0), (23, 35, 9, 15, 0), (3, 1, 0, 0, 0), (0, 0, 0, 0, 1), (12, 0, 0, 0, 0)] := And.intro dX9_findOrder_100 (And.intro ⟨_, dX9_findOrder_102, rfl⟩ (And.intro ⟨_, dX9_findOrder_103, rfl⟩ (And.intro ⟨dX9_findOrder_104, fl_X9_35⟩ (And.intro ⟨_, dX9_findOrder_107, rfl⟩ (And.intro ⟨_, dX9_findOrder_108, by decide⟩ (And.intro dX9_findOrder_109 trivial))))))
theorem bX9_findOrder_117_122 : okB cX9_findOrder RX9 117 [(5, 0, 0, 0, 0), (3, 1, 0, 0, 0), (3, 2, 0, 0, 0), (4, 5, 0, 0, 0)] := And.intro ⟨_, dX9_findOrder_117, rfl⟩ (And.intro ⟨_, dX9_findOrder_118, rfl⟩ (And.intro ⟨_, dX9_findOrder_119, rfl⟩ (And.intro dX9_findOrder_120 trivial)))
theorem bX9_findOrder_125_138 : okB cX9_findOrder RX9 125 [(5, 0, 0, 0, 0), (23, 56, 9, 24, 0), (1, 0, 0, 0, 120), (3, 1, 0, 0, 0), (0, 0, 0, 0, 1), (12, 0, 0, 0, 0), (14, 0, 0, 0, 0), (4, 5, 0, 0, 0), (12, 0, 0, 0, 0)] := And.intro ⟨_, dX9_findOrder_125, rfl⟩ (And.intro ⟨dX9_findOrder_126, fl_X9_56⟩ (And.intro ⟨_, dX9_findOrder_129, by decide⟩ (And.intro ⟨_, dX9_findOrder_131, rfl⟩ (And.intro ⟨_, dX9_findOrder_132, by decide⟩ (And.intro dX9_findOrder_133 (And.intro dX9_findOrder_134 (And.intro dX9_findOrder_135 (And.intro dX9_findOrder_137 trivial))))))))
theorem bX9_findOrder_139_145 : okB cX9_findOrder RX9 139 [(12, 0, 0, 0, 0), (8, 6, 0, 0, 0), (4, 6, 0, 0, 0), (3, 3, 0, 0, 0)] := And.intro dX9_findOrder_139 (And.intro dX9_findOrder_140 (And.intro dX9_findOrder_142 (And.intro ⟨_, dX9_findOrder_144, rfl⟩ trivial)))
theorem bX9_findOrder_154_157 : okB cX9_findOrder RX9 154 [(4, 6, 0, 0, 0), (3, 3, 0, 0, 0)] := And.intro dX9_findOrder_154 (And.intro ⟨_, dX9_findOrder_156, rfl⟩ trivial)
theorem bX9_findOrder_179_182 : okB cX9_findOrder RX9 179 [(11, 5, 0, 0, 1)] := And.intro ⟨_, dX9_findOrder_179, by decide⟩ trivial
theorem bX9_findOrder_160_175 : okB cX9_findOrder RX9 160 [(4, 4, 0, 0, 0), (5, 0, 0, 0, 0), (23, 59, 9, 25, 0), (1, 0, 0, 0, 120), (3, 1, 0, 0, 0), (0, 0, 0, 0, 1), (12, 0, 0, 0, 0), (14, 0, 0, 0, 0), (4, 5, 0, 0, 0), (12, 0, 0, 0, 0)] := And.intro dX9_findOrder_160 (And.intro ⟨_, dX9_findOrder_162, rfl⟩ (And.intro ⟨dX9_findOrder_163, fl_X9_59⟩ (And.intro ⟨_, dX9_findOrder_166, by decide⟩ (And.intro ⟨_, dX9_findOrder_168, rfl⟩ (And.intro ⟨_, dX9_findOrder_169, by decide⟩ (And.intro dX9_findOrder_170 (And.intro dX9_findOrder_171 (And.intro dX9_findOrder_172 (And.intro dX9_findOrder_174 trivial)))))))))
theorem bX9_findOrder_176_182 : okB cX9_findOrder RX9 176 [(12, 0, 0, 0, 0), (8, 4, 0, 0, 0), (11, 5, 0, 0, 1)] := And.intro dX9_findOrder_176 (And.intro dX9_findOrder_177 (And.intro ⟨_, dX9_findOrder_179, by decide⟩ trivial))
theorem bX9_findOrder_148_157 : okB cX9_findOrder RX9 148 [(4, 6, 0, 0, 0), (7, 3, 0, 0, 0), (0, 0, 0, 0, 0), (8, 4, 0, 0, 0), (4, 6, 0, 0, 0), (3, 3, 0, 0, 0)] := And.intro dX9_findOrder_148 (And.intro ⟨_, dX9_findOrder_150, rfl⟩ (And.intro ⟨_, dX9_findOrder_151, by decide⟩ (And.intro dX9_findOrder_152 (And.intro dX9_findOrder_154 (And.intro ⟨_, dX9_findOrder_156, rfl⟩ trivial)))))
theorem bX9_findOrder_53_60 : okB cX9_findOrder RX9 53 [(3, 1, 0, 0, 0), (5, 0, 0, 0, 0), (23, 90, 9, 12, 0), (0, 0, 0, 0, 1), (13, 0, 0, 0, 0)] := And.intro ⟨_, dX9_findOrder_53, rfl⟩ (And.intro ⟨_, dX9_findOrder_54, rfl⟩ (And.intro ⟨dX9_findOrder_55, fl_X9_90⟩ (And.intro ⟨_, dX9_findOrder_58, by decide⟩ (And.intro dX9_findOrder_59 trivial))))
theorem bX9_findOrder_67_77 : okB cX9_findOrder RX9 67 [(26, 82, 0, 0, 1000000000), (7, 3, 0, 0, 0), (3, 1, 0, 0, 0), (5, 0, 0, 0, 0), (23, 90, 9, 12, 0), (0, 0, 0, 0, 1), (13, 0, 0, 0, 0)] := And.intro ⟨dX9_findOrder_67, wk_X9_82⟩ (And.intro ⟨_, dX9_findOrder_69, rfl⟩ (And.intro ⟨_, dX9_findOrder_70, rfl⟩ (And.intro ⟨_, dX9_findOrder_71, rfl⟩ (And.intro ⟨dX9_findOrder_72, fl_X9_90⟩ (And.intro ⟨_, dX9_findOrder_75, by decide⟩ (And.intro dX9_findOrder_76 trivial))))))
theorem bX9_findOrder_84_87 : okB cX9_findOrder RX9 84 [(0, 0, 0, 0, 0), (8, 4, 0, 0, 0)] := And.intro ⟨_, dX9_findOrder_84, by decide⟩ (And.intro dX9_findOrder_85 trivial)
theorem bX9_findOrder_80_81 : okB cX9_findOrder RX9 80 [(0, 0, 0, 0, 1)] := And.intro ⟨_, dX9_findOrder_80, by decide⟩ trivial
theorem bX9_findOrder_85_87 : okB cX9_findOrder RX9 85 [(8, 4, 0, 0, 0)] := And.intro dX9_findOrder_85 trivial
theorem bX9_findOrder_63_64 : okB cX9_findOrder RX9 63 [(0, 0, 0, 0, 0)] := And.intro ⟨_, dX9_findOrder_63, by decide⟩ trivial
theorem bX9_findOrder_69_77 : okB cX9_findOrder RX9 69 [(7, 3, 0, 0, 0), (3, 1, 0, 0, 0), (5, 0, 0, 0, 0), (23, 90, 9, 12, 0), (0, 0, 0, 0, 1), (13, 0, 0, 0, 0)] := And.intro ⟨_, dX9_findOrder_69, rfl⟩ (And.intro ⟨_, dX9_findOrder_70, rfl⟩ (And.intro ⟨_, dX9_findOrder_71, rfl⟩ (And.intro ⟨dX9_findOrder_72, fl_X9_90⟩ (And.intro ⟨_, dX9_findOrder_75, by decide⟩ (And.intro dX9_findOrder_76 trivial)))))
set_option maxHeartbeats 4000000 in
set_option maxRecDepth 100000 in
theorem k_X9_findOrder (l : Launch) (D : va_G) (ads : AD) (I A : HI) (po : Option AV → HI → HI → Prop) {pp_X9_findItems : HI → HI → Prop} {qq_X9_findItems : HI → HI → HI → HI → Prop} (hh_X9_findItems : ∀ (I A : HI), pp_X9_findItems I A → Ct l yX9_findItems cX9_findItems 5 none 2 48 D ads shp [.inr (some 96)] I A (qV (qq_X9_findItems I A))) {pp_X9_makeRows : HI → HI → Prop} {qq_X9_makeRows : HI → HI → HI → HI → Prop} (hh_X9_makeRows : ∀ (I A : HI), pp_X9_makeRows I A → Ct l yX9_makeRows cX9_makeRows 9 none 1 23 D ads shp [.inr (some 96)] I A (qV (qq_X9_makeRows I A))) {pp_X9_factorial : HI → HI → Int32 → Prop} {ff_X9_factorial : HI → HI → Int32 → Int32} (hh_X9_factorial : ∀ (I A : HI) (a1 : Int32), pp_X9_factorial I A a1 → Ct l yX9_factorial cX9_factorial 4 (some .int) 0 0 D ads shp [.inr (some 96), .inl a1] I A (qI (ff_X9_factorial I A a1) I A)) {pp_X9_crosses : HI → HI → Int32 → Int32 → Int32 → Prop} {qq_X9_crosses : HI → HI → Int32 → Int32 → Int32 → Int32 → HI → HI → Prop} (hh_X9_crosses : ∀ (I A : HI) (a1 : Int32) (a2 : Int32) (a3 : Int32), pp_X9_crosses I A a1 a2 a3 → Ct l yX9_crosses cX9_crosses 8 (some .int) 1 23 D ads shp [.inr (some 96), .inl a1, .inl a2, .inl a3] I A (qJ (qq_X9_crosses I A a1 a2 a3))) {pp_X9_moves : HI → HI → Int32 → Int32 → Prop} {ff_X9_moves : HI → HI → Int32 → Int32 → Int32} (hh_X9_moves : ∀ (I A : HI) (a1 : Int32) (a2 : Int32), pp_X9_moves I A a1 a2 → Ct l yX9_moves cX9_moves 8 (some .int) 1 23 D ads shp [.inr (some 96), .inl a1, .inl a2] I A (qI (ff_X9_moves I A a1 a2) I A)) (Iv33 : HI → HI → HI → HI → Int32 → HI → HI → Prop) (mu33 : HI → HI → HI → HI → Int32 → HI → HI → Nat) (Iv250 : HI → HI → HI → HI → Int32 → HI → HI → Int32 → HI → Prop) (mu250 : HI → HI → HI → HI → Int32 → HI → HI → Int32 → HI → Nat) (Iv333 : HI → HI → HI → HI → Int32 → HI → HI → Int32 → HI → Int32 → Int32 → HI → HI → Prop) (mu333 : HI → HI → HI → HI → Int32 → HI → HI → Int32 → HI → Int32 → Int32 → HI → HI → Nat) (Iv343 : HI → HI → HI → HI → Int32 → HI → HI → Int32 → HI → Int32 → Int32 → HI → HI → Int32 → HI → HI → Prop) (mu343 : HI → HI → HI → HI → Int32 → HI → HI → Int32 → HI → Int32 → Int32 → HI → HI → Int32 → HI → HI → Nat) (Iv39 : HI → HI → HI → HI → Int32 → HI → HI → Int32 → HI → HI → Prop) (mu39 : HI → HI → HI → HI → Int32 → HI → HI → Int32 → HI → HI → Nat) (Jn87 : HI → HI → HI → HI → Int32 → HI → HI → Int32 → HI → HI → Int32 → Int32 → Prop) (Iv90 : HI → HI → HI → HI → Int32 → HI → HI → Int32 → HI → HI → Int32 → Int32 → Int32 → Int32 → Int32 → HI → HI → Prop) (mu90 : HI → HI → HI → HI → Int32 → HI → HI → Int32 → HI → HI → Int32 → Int32 → Int32 → Int32 → Int32 → HI → HI → Nat)
    (hv : ((pp_X9_findItems I A) ∧ (∀ (I2 A2 : HI), qq_X9_findItems I A I2 A2 → ((¬ (I2 96 14) = 0 → ((pp_X9_makeRows I2 A2) ∧ (∀ (I4 A4 : HI), qq_X9_makeRows I2 A2 I4 A4 → (Iv33 I2 A2 I4 A4 (((up2 (up2 I4 96 27 0) 96 28 1) 96 12) - 1) (up2 (up2 I4 96 27 0) 96 28 1) A4 ∧ ∀ (x1_33 : Int32) (I_33 : HI) (A_33 : HI), Iv33 I2 A2 I4 A4 x1_33 I_33 A_33 → ((x1_33 < 0 → ((¬ (I_33 96 12) = 0 → (Iv250 I2 A2 I4 A4 x1_33 I_33 A_33 0 (up2 I_33 96 27 1000000000) ∧ ∀ (x1_250 : Int32) (I_250 : HI), Iv250 I2 A2 I4 A4 x1_33 I_33 A_33 x1_250 I_250 → (vp_in (0 : Int32) 10 ∧ ((pp_X9_factorial I_250 A_33 (A_33 104 (0 : Int32).toNatClampNeg)) ∧ (((ff_X9_factorial I_250 A_33 (A_33 104 (0 : Int32).toNatClampNeg)) ≤ x1_250 → (Iv333 I2 A2 I4 A4 x1_33 I_33 A_33 x1_250 I_250 (I_250 96 27) 0 I_250 A_33 ∧ ∀ (x1_333 : Int32) (x2_333 : Int32) (I_333 : HI) (A_333 : HI), Iv333 I2 A2 I4 A4 x1_33 I_33 A_33 x1_250 I_250 x1_333 x2_333 I_333 A_333 → (((I_333 96 12) ≤ x2_333 → po none I_333 A_333) ∧ (¬ (I_333 96 12) ≤ x2_333 → (Iv343 I2 A2 I4 A4 x1_33 I_33 A_33 x1_250 I_250 x1_333 x2_333 I_333 A_333 0 I_333 A_333 ∧ ∀ (x3_343 : Int32) (I_343 : HI) (A_343 : HI), Iv343 I2 A2 I4 A4 x1_33 I_33 A_33 x1_250 I_250 x1_333 x2_333 I_333 A_333 x3_343 I_343 A_343 → ((¬ x2_333 = 0 → (vp_in (x2_333 - 1) 10 ∧ ((pp_X9_crosses I_343 A_343 (x2_333 - 1) (A_343 113 (x2_333 - 1).toNatClampNeg) x3_343) ∧ (∀ (r7 : Int32) (I7 A7 : HI), qq_X9_crosses I_343 A_343 (x2_333 - 1) (A_343 113 (x2_333 - 1).toNatClampNeg) x3_343 r7 I7 A7 → (vp_in ((120 * x2_333) + x3_343) 1200 ∧ (((r7 + (A7 111 ((120 * x2_333) + x3_343).toNatClampNeg)) = x1_333 → (vp_in x2_333 10 ∧ (vp_in ((120 * x2_333) + x3_343) 1200 ∧ ((pp_X9_moves I7 (up2 A7 113 x2_333.toNatClampNeg x3_343) x2_333 x3_343) ∧ (Iv333 I2 A2 I4 A4 x1_33 I_33 A_33 x1_250 I_250 (((up2 A7 113 x2_333.toNatClampNeg x3_343) 111 ((120 * x2_333) + x3_343).toNatClampNeg) - ((I7 96 3) * (ff_X9_moves I7 (up2 A7 113 x2_333.toNatClampNeg x3_343) x2_333 x3_343))) (x2_333 + 1) I7 (up2 A7 113 x2_333.toNatClampNeg x3_343) ∧ mu333 I2 A2 I4 A4 x1_33 I_33 A_33 x1_250 I_250 (((up2 A7 113 x2_333.toNatClampNeg x3_343) 111 ((120 * x2_333) + x3_343).toNatClampNeg) - ((I7 96 3) * (ff_X9_moves I7 (up2 A7 113 x2_333.toNatClampNeg x3_343) x2_333 x3_343))) (x2_333 + 1) I7 (up2 A7 113 x2_333.toNatClampNeg x3_343) < mu333 I2 A2 I4 A4 x1_33 I_33 A_33 x1_250 I_250 x1_333 x2_333 I_333 A_333))))) ∧ (¬ (r7 + (A7 111 ((120 * x2_333) + x3_343).toNatClampNeg)) = x1_333 → (Iv343 I2 A2 I4 A4 x1_33 I_33 A_33 x1_250 I_250 x1_333 x2_333 I_333 A_333 (x3_343 + 1) I7 A7 ∧ mu343 I2 A2 I4 A4 x1_33 I_33 A_33 x1_250 I_250 x1_333 x2_333 I_333 A_333 (x3_343 + 1) I7 A7 < mu343 I2 A2 I4 A4 x1_33 I_33 A_33 x1_250 I_250 x1_333 x2_333 I_333 A_333 x3_343 I_343 A_343)))))))) ∧ (x2_333 = 0 → (vp_in ((120 * x2_333) + x3_343) 1200 ∧ (((0 + (A_343 111 ((120 * x2_333) + x3_343).toNatClampNeg)) = x1_333 → (vp_in x2_333 10 ∧ (vp_in ((120 * x2_333) + x3_343) 1200 ∧ ((pp_X9_moves I_343 (up2 A_343 113 x2_333.toNatClampNeg x3_343) x2_333 x3_343) ∧ (Iv333 I2 A2 I4 A4 x1_33 I_33 A_33 x1_250 I_250 (((up2 A_343 113 x2_333.toNatClampNeg x3_343) 111 ((120 * x2_333) + x3_343).toNatClampNeg) - ((I_343 96 3) * (ff_X9_moves I_343 (up2 A_343 113 x2_333.toNatClampNeg x3_343) x2_333 x3_343))) (x2_333 + 1) I_343 (up2 A_343 113 x2_333.toNatClampNeg x3_343) ∧ mu333 I2 A2 I4 A4 x1_33 I_33 A_33 x1_250 I_250 (((up2 A_343 113 x2_333.toNatClampNeg x3_343) 111 ((120 * x2_333) + x3_343).toNatClampNeg) - ((I_343 96 3) * (ff_X9_moves I_343 (up2 A_343 113 x2_333.toNatClampNeg x3_343) x2_333 x3_343))) (x2_333 + 1) I_343 (up2 A_343 113 x2_333.toNatClampNeg x3_343) < mu333 I2 A2 I4 A4 x1_33 I_33 A_33 x1_250 I_250 x1_333 x2_333 I_333 A_333))))) ∧ (¬ (0 + (A_343 111 ((120 * x2_333) + x3_343).toNatClampNeg)) = x1_333 → (Iv343 I2 A2 I4 A4 x1_33 I_33 A_33 x1_250 I_250 x1_333 x2_333 I_333 A_333 (x3_343 + 1) I_343 A_343 ∧ mu343 I2 A2 I4 A4 x1_33 I_33 A_33 x1_250 I_250 x1_333 x2_333 I_333 A_333 (x3_343 + 1) I_343 A_343 < mu343 I2 A2 I4 A4 x1_33 I_33 A_33 x1_250 I_250 x1_333 x2_333 I_333 A_333 x3_343 I_343 A_343))))))))))) ∧ (¬ (ff_X9_factorial I_250 A_33 (A_33 104 (0 : Int32).toNatClampNeg)) ≤ x1_250 → (vp_in x1_250 1200 ∧ (((I_250 96 27) ≤ (A_33 111 x1_250.toNatClampNeg) → (vp_in x1_250 1200 ∧ ((¬ (A_33 111 x1_250.toNatClampNeg) = (I_250 96 27) → (Iv250 I2 A2 I4 A4 x1_33 I_33 A_33 (x1_250 + 1) I_250 ∧ mu250 I2 A2 I4 A4 x1_33 I_33 A_33 (x1_250 + 1) I_250 < mu250 I2 A2 I4 A4 x1_33 I_33 A_33 x1_250 I_250)) ∧ ((A_33 111 x1_250.toNatClampNeg) = (I_250 96 27) → (vp_in x1_250 1200 ∧ (Iv250 I2 A2 I4 A4 x1_33 I_33 A_33 (x1_250 + 1) (up2 I_250 96 28 ((I_250 96 28) + (A_33 112 x1_250.toNatClampNeg))) ∧ mu250 I2 A2 I4 A4 x1_33 I_33 A_33 (x1_250 + 1) (up2 I_250 96 28 ((I_250 96 28) + (A_33 112 x1_250.toNatClampNeg))) < mu250 I2 A2 I4 A4 x1_33 I_33 A_33 x1_250 I_250)))))) ∧ (¬ (I_250 96 27) ≤ (A_33 111 x1_250.toNatClampNeg) → (vp_in x1_250 1200 ∧ (vp_in x1_250 1200 ∧ ((¬ (A_33 111 x1_250.toNatClampNeg) = ((up2 (up2 I_250 96 27 (A_33 111 x1_250.toNatClampNeg)) 96 28 0) 96 27) → (Iv250 I2 A2 I4 A4 x1_33 I_33 A_33 (x1_250 + 1) (up2 (up2 I_250 96 27 (A_33 111 x1_250.toNatClampNeg)) 96 28 0) ∧ mu250 I2 A2 I4 A4 x1_33 I_33 A_33 (x1_250 + 1) (up2 (up2 I_250 96 27 (A_33 111 x1_250.toNatClampNeg)) 96 28 0) < mu250 I2 A2 I4 A4 x1_33 I_33 A_33 x1_250 I_250)) ∧ ((A_33 111 x1_250.toNatClampNeg) = ((up2 (up2 I_250 96 27 (A_33 111 x1_250.toNatClampNeg)) 96 28 0) 96 27) → (vp_in x1_250 1200 ∧ (Iv250 I2 A2 I4 A4 x1_33 I_33 A_33 (x1_250 + 1) (up2 (up2 (up2 I_250 96 27 (A_33 111 x1_250.toNatClampNeg)) 96 28 0) 96 28 (((up2 (up2 I_250 96 27 (A_33 111 x1_250.toNatClampNeg)) 96 28 0) 96 28) + (A_33 112 x1_250.toNatClampNeg))) ∧ mu250 I2 A2 I4 A4 x1_33 I_33 A_33 (x1_250 + 1) (up2 (up2 (up2 I_250 96 27 (A_33 111 x1_250.toNatClampNeg)) 96 28 0) 96 28 (((up2 (up2 I_250 96 27 (A_33 111 x1_250.toNatClampNeg)) 96 28 0) 96 28) + (A_33 112 x1_250.toNatClampNeg))) < mu250 I2 A2 I4 A4 x1_33 I_33 A_33 x1_250 I_250))))))))))))))) ∧ ((I_33 96 12) = 0 → po none I_33 A_33))) ∧ (¬ x1_33 < 0 → (Iv39 I2 A2 I4 A4 x1_33 I_33 A_33 0 I_33 A_33 ∧ ∀ (x2_39 : Int32) (I_39 : HI) (A_39 : HI), Iv39 I2 A2 I4 A4 x1_33 I_33 A_33 x2_39 I_39 A_39 → (vp_in x1_33 10 ∧ ((pp_X9_factorial I_39 A_39 (A_39 104 x1_33.toNatClampNeg)) ∧ (((ff_X9_factorial I_39 A_39 (A_39 104 x1_33.toNatClampNeg)) ≤ x2_39 → (Iv33 I2 A2 I4 A4 (x1_33 + (-1)) I_39 A_39 ∧ mu33 I2 A2 I4 A4 (x1_33 + (-1)) I_39 A_39 < mu33 I2 A2 I4 A4 x1_33 I_33 A_33)) ∧ (¬ (ff_X9_factorial I_39 A_39 (A_39 104 x1_33.toNatClampNeg)) ≤ x2_39 → ((∀ (x3_87 : Int32) (x4_87 : Int32), Jn87 I2 A2 I4 A4 x1_33 I_33 A_33 x2_39 I_39 A_39 x3_87 x4_87 → (Iv90 I2 A2 I4 A4 x1_33 I_33 A_33 x2_39 I_39 A_39 x3_87 x4_87 x3_87 x4_87 0 I_39 A_39 ∧ ∀ (x3_90 : Int32) (x4_90 : Int32) (x5_90 : Int32) (I_90 : HI) (A_90 : HI), Iv90 I2 A2 I4 A4 x1_33 I_33 A_33 x2_39 I_39 A_39 x3_87 x4_87 x3_90 x4_90 x5_90 I_90 A_90 → (((I_90 96 12) ≤ (x1_33 + 1) → ((pp_X9_moves I_90 A_90 x1_33 x2_39) ∧ (vp_in ((120 * x1_33) + x2_39) 1200 ∧ (vp_in ((120 * x1_33) + x2_39) 1200 ∧ (Iv39 I2 A2 I4 A4 x1_33 I_33 A_33 (x2_39 + 1) I_90 (up2 (up2 A_90 111 ((120 * x1_33) + x2_39).toNatClampNeg (x3_90 + ((I_90 96 3) * (ff_X9_moves I_90 A_90 x1_33 x2_39)))) 112 ((120 * x1_33) + x2_39).toNatClampNeg x4_90) ∧ mu39 I2 A2 I4 A4 x1_33 I_33 A_33 (x2_39 + 1) I_90 (up2 (up2 A_90 111 ((120 * x1_33) + x2_39).toNatClampNeg (x3_90 + ((I_90 96 3) * (ff_X9_moves I_90 A_90 x1_33 x2_39)))) 112 ((120 * x1_33) + x2_39).toNatClampNeg x4_90) < mu39 I2 A2 I4 A4 x1_33 I_33 A_33 x2_39 I_39 A_39))))) ∧ (¬ (I_90 96 12) ≤ (x1_33 + 1) → (vp_in (x1_33 + 1) 10 ∧ ((pp_X9_factorial I_90 A_90 (A_90 104 (x1_33 + 1).toNatClampNeg)) ∧ (((ff_X9_factorial I_90 A_90 (A_90 104 (x1_33 + 1).toNatClampNeg)) ≤ x5_90 → ((pp_X9_moves I_90 A_90 x1_33 x2_39) ∧ (vp_in ((120 * x1_33) + x2_39) 1200 ∧ (vp_in ((120 * x1_33) + x2_39) 1200 ∧ (Iv39 I2 A2 I4 A4 x1_33 I_33 A_33 (x2_39 + 1) I_90 (up2 (up2 A_90 111 ((120 * x1_33) + x2_39).toNatClampNeg (x3_90 + ((I_90 96 3) * (ff_X9_moves I_90 A_90 x1_33 x2_39)))) 112 ((120 * x1_33) + x2_39).toNatClampNeg x4_90) ∧ mu39 I2 A2 I4 A4 x1_33 I_33 A_33 (x2_39 + 1) I_90 (up2 (up2 A_90 111 ((120 * x1_33) + x2_39).toNatClampNeg (x3_90 + ((I_90 96 3) * (ff_X9_moves I_90 A_90 x1_33 x2_39)))) 112 ((120 * x1_33) + x2_39).toNatClampNeg x4_90) < mu39 I2 A2 I4 A4 x1_33 I_33 A_33 x2_39 I_39 A_39))))) ∧ (¬ (ff_X9_factorial I_90 A_90 (A_90 104 (x1_33 + 1).toNatClampNeg)) ≤ x5_90 → ((pp_X9_crosses I_90 A_90 x1_33 x2_39 x5_90) ∧ (∀ (r15 : Int32) (I15 A15 : HI), qq_X9_crosses I_90 A_90 x1_33 x2_39 x5_90 r15 I15 A15 → (vp_in ((120 * (x1_33 + 1)) + x5_90) 1200 ∧ ((x3_90 ≤ (r15 + (A15 111 ((120 * (x1_33 + 1)) + x5_90).toNatClampNeg)) → ((¬ (r15 + (A15 111 ((120 * (x1_33 + 1)) + x5_90).toNatClampNeg)) = x3_90 → (Iv90 I2 A2 I4 A4 x1_33 I_33 A_33 x2_39 I_39 A_39 x3_87 x4_87 x3_90 x4_90 (x5_90 + 1) I15 A15 ∧ mu90 I2 A2 I4 A4 x1_33 I_33 A_33 x2_39 I_39 A_39 x3_87 x4_87 x3_90 x4_90 (x5_90 + 1) I15 A15 < mu90 I2 A2 I4 A4 x1_33 I_33 A_33 x2_39 I_39 A_39 x3_87 x4_87 x3_90 x4_90 x5_90 I_90 A_90)) ∧ ((r15 + (A15 111 ((120 * (x1_33 + 1)) + x5_90).toNatClampNeg)) = x3_90 → (vp_in ((120 * (x1_33 + 1)) + x5_90) 1200 ∧ (Iv90 I2 A2 I4 A4 x1_33 I_33 A_33 x2_39 I_39 A_39 x3_87 x4_87 x3_90 (x4_90 + (A15 112 ((120 * (x1_33 + 1)) + x5_90).toNatClampNeg)) (x5_90 + 1) I15 A15 ∧ mu90 I2 A2 I4 A4 x1_33 I_33 A_33 x2_39 I_39 A_39 x3_87 x4_87 x3_90 (x4_90 + (A15 112 ((120 * (x1_33 + 1)) + x5_90).toNatClampNeg)) (x5_90 + 1) I15 A15 < mu90 I2 A2 I4 A4 x1_33 I_33 A_33 x2_39 I_39 A_39 x3_87 x4_87 x3_90 x4_90 x5_90 I_90 A_90))))) ∧ (¬ x3_90 ≤ (r15 + (A15 111 ((120 * (x1_33 + 1)) + x5_90).toNatClampNeg)) → ((¬ (r15 + (A15 111 ((120 * (x1_33 + 1)) + x5_90).toNatClampNeg)) = (r15 + (A15 111 ((120 * (x1_33 + 1)) + x5_90).toNatClampNeg)) → (Iv90 I2 A2 I4 A4 x1_33 I_33 A_33 x2_39 I_39 A_39 x3_87 x4_87 (r15 + (A15 111 ((120 * (x1_33 + 1)) + x5_90).toNatClampNeg)) 0 (x5_90 + 1) I15 A15 ∧ mu90 I2 A2 I4 A4 x1_33 I_33 A_33 x2_39 I_39 A_39 x3_87 x4_87 (r15 + (A15 111 ((120 * (x1_33 + 1)) + x5_90).toNatClampNeg)) 0 (x5_90 + 1) I15 A15 < mu90 I2 A2 I4 A4 x1_33 I_33 A_33 x2_39 I_39 A_39 x3_87 x4_87 x3_90 x4_90 x5_90 I_90 A_90)) ∧ ((r15 + (A15 111 ((120 * (x1_33 + 1)) + x5_90).toNatClampNeg)) = (r15 + (A15 111 ((120 * (x1_33 + 1)) + x5_90).toNatClampNeg)) → (vp_in ((120 * (x1_33 + 1)) + x5_90) 1200 ∧ (Iv90 I2 A2 I4 A4 x1_33 I_33 A_33 x2_39 I_39 A_39 x3_87 x4_87 (r15 + (A15 111 ((120 * (x1_33 + 1)) + x5_90).toNatClampNeg)) (0 + (A15 112 ((120 * (x1_33 + 1)) + x5_90).toNatClampNeg)) (x5_90 + 1) I15 A15 ∧ mu90 I2 A2 I4 A4 x1_33 I_33 A_33 x2_39 I_39 A_39 x3_87 x4_87 (r15 + (A15 111 ((120 * (x1_33 + 1)) + x5_90).toNatClampNeg)) (0 + (A15 112 ((120 * (x1_33 + 1)) + x5_90).toNatClampNeg)) (x5_90 + 1) I15 A15 < mu90 I2 A2 I4 A4 x1_33 I_33 A_33 x2_39 I_39 A_39 x3_87 x4_87 x3_90 x4_90 x5_90 I_90 A_90))))))))))))))))) ∧ ((¬ x1_33 = ((I_39 96 12) - 1) → ((¬ x1_33 = ((I_39 96 12) - 1) → (Jn87 I2 A2 I4 A4 x1_33 I_33 A_33 x2_39 I_39 A_39 1000000000 0)) ∧ (x1_33 = ((I_39 96 12) - 1) → (Jn87 I2 A2 I4 A4 x1_33 I_33 A_33 x2_39 I_39 A_39 1000000000 1)))) ∧ (x1_33 = ((I_39 96 12) - 1) → ((¬ x1_33 = ((I_39 96 12) - 1) → (Jn87 I2 A2 I4 A4 x1_33 I_33 A_33 x2_39 I_39 A_39 0 0)) ∧ (x1_33 = ((I_39 96 12) - 1) → (Jn87 I2 A2 I4 A4 x1_33 I_33 A_33 x2_39 I_39 A_39 0 1))))))))))))))))) ∧ ((I2 96 14) = 0 → po none I2 A2))))) : Ct l yX9_findOrder cX9_findOrder 7 none 3 72 D ads shp [.inr (some 96)] I A po := by
  refine Ct_of (by decide) (Nat.le_of_ble_eq_true rfl) ?_
  intro p e s m args below meth c hC hr
  replace hC : CX p s m args meth c cX9_findOrder 7 RX9 (AdS ads s.heap.size) := hC
  show Gm p l e s m args below meth c D ads 3 72 7 po I A 0 [some (.inr (some 96)), none, none, none, none, none, none] []
  refine g_blk hC _ bX9_findOrder_0_1 (pc' := 1) (ls' := [some (.inr (some 96)), none, none, none, none, none, none]) (st' := [.inr (some 96)]) (I' := I) rfl rfl ?_
  obtain ⟨hp1, hv⟩ := hv
  refine g_callV hC (hh_X9_findItems I A  hp1) dX9_findOrder_1 nm_X9_findItems rfl rfl wl_X9_134 wi_X9_findItems ws_X9_findItems wn_X9 wc_X9_findItems ⟨by decide, by decide⟩ (as := []) (rest := []) rfl (Nat.le_of_ble_eq_true rfl) ⟨Nat.le_refl _, Nat.le_refl _⟩ (k_qV ?_)
  intro I2 A2 hq2
  replace hv := hv I2 A2 hq2
  refine g_blk hC _ bX9_findOrder_4_8 (pc' := 8) (ls' := [some (.inr (some 96)), none, none, none, none, none, none]) (st' := [.inl (I2 96 14)]) (I' := I2) rfl rfl ?_
  obtain ⟨hv1, hv2⟩ := hv
  refine g_ifne hC dX9_findOrder_8 (tgt := 12) (by decide) (fun hc => ?_) (fun hc => ?_)
  · have hv := hv1 hc
    clear hv1 hv2 hc
    refine g_blk hC _ bX9_findOrder_12_13 (pc' := 13) (ls' := [some (.inr (some 96)), none, none, none, none, none, none]) (st' := [.inr (some 96)]) (I' := I2) rfl rfl ?_
    obtain ⟨hp3, hv⟩ := hv
    refine g_callV hC (hh_X9_makeRows I2 A2  hp3) dX9_findOrder_13 nm_X9_makeRows rfl rfl wl_X9_137 wi_X9_makeRows ws_X9_makeRows wn_X9 wc_X9_makeRows ⟨by decide, by decide⟩ (as := []) (rest := []) rfl (Nat.le_of_ble_eq_true rfl) ⟨Nat.le_refl _, Nat.le_refl _⟩ (k_qV ?_)
    intro I4 A4 hq4
    replace hv := hv I4 A4 hq4
    refine g_blk hC _ bX9_findOrder_16_33 (pc' := 33) (ls' := [some (.inr (some 96)), some (.inl (((up2 (up2 I4 96 27 0) 96 28 1) 96 12) - 1)), none, none, none, none, none]) (st' := []) (I' := up2 (up2 I4 96 27 0) 96 28 1) rfl rfl ?_
    obtain ⟨hi33, hb33⟩ := hv
    have L33 : ∀ (n : Nat) (x1_33 : Int32) (I_33 : HI) (A_33 : HI), Iv33 I2 A2 I4 A4 x1_33 I_33 A_33 → mu33 I2 A2 I4 A4 x1_33 I_33 A_33 < n → Gm p l e s m args below meth c D ads 3 72 7 po I_33 A_33 33 [some (.inr (some 96)), some (.inl x1_33), none, none, none, none, none] [] := by
      intro n
      induction n with
      | zero => intro x1_33 I_33 A_33 _ hn; exact absurd hn (Nat.not_lt_zero _)
      | succ n ih33 =>
        intro x1_33 I_33 A_33 hv hn33
        replace hv := hb33 x1_33 I_33 A_33 hv
        skip
        refine g_blk hC _ bX9_findOrder_33_34 (pc' := 34) (ls' := [some (.inr (some 96)), some (.inl x1_33), none, none, none, none, none]) (st' := [.inl x1_33]) (I' := I_33) rfl rfl ?_
        obtain ⟨hv1, hv2⟩ := hv
        refine g_iflt hC dX9_findOrder_34 (tgt := 234) (by decide) (fun hc => ?_) (fun hc => ?_)
        · have hv := hv1 hc
          clear hv1 hv2 hc
          refine g_blk hC _ bX9_findOrder_234_238 (pc' := 238) (ls' := [some (.inr (some 96)), some (.inl x1_33), none, none, none, none, none]) (st' := [.inl (I_33 96 12)]) (I' := I_33) rfl rfl ?_
          obtain ⟨hv1, hv2⟩ := hv
          refine g_ifne hC dX9_findOrder_238 (tgt := 242) (by decide) (fun hc => ?_) (fun hc => ?_)
          · have hv := hv1 hc
            clear hv1 hv2 hc
            refine g_blk hC _ bX9_findOrder_242_250 (pc' := 250) (ls' := [some (.inr (some 96)), some (.inl 0), none, none, none, none, none]) (st' := []) (I' := up2 I_33 96 27 1000000000) rfl rfl ?_
            obtain ⟨hi250, hb250⟩ := hv
            have L250 : ∀ (n : Nat) (x1_250 : Int32) (I_250 : HI), Iv250 I2 A2 I4 A4 x1_33 I_33 A_33 x1_250 I_250 → mu250 I2 A2 I4 A4 x1_33 I_33 A_33 x1_250 I_250 < n → Gm p l e s m args below meth c D ads 3 72 7 po I_250 A_33 250 [some (.inr (some 96)), some (.inl x1_250), none, none, none, none, none] [] := by
              intro n
              induction n with
              | zero => intro x1_250 I_250 _ hn; exact absurd hn (Nat.not_lt_zero _)
              | succ n ih250 =>
                intro x1_250 I_250 hv hn250
                replace hv := hb250 x1_250 I_250 hv
                skip
                refine g_blk hC _ bX9_findOrder_250_257 (pc' := 257) (ls' := [some (.inr (some 96)), some (.inl x1_250), none, none, none, none, none]) (st' := [.inl 0, .inr (some 104), .inr (some 96), .inl x1_250]) (I' := I_250) rfl rfl ?_
                obtain ⟨hi, hv⟩ := hv
                refine g_iald hC dX9_findOrder_257 (rfl) hi ?_
                clear hi
                obtain ⟨hp5, hv⟩ := hv
                refine g_callV hC (hh_X9_factorial I_250 A_33 (A_33 104 (0 : Int32).toNatClampNeg) hp5) dX9_findOrder_258 nm_X9_factorial rfl rfl wl_X9_124 wi_X9_factorial ws_X9_factorial wn_X9 wc_X9_factorial ⟨by decide, by decide⟩ (as := [.inl (A_33 104 (0 : Int32).toNatClampNeg)]) (rest := [.inl x1_250]) rfl (Nat.le_of_ble_eq_true rfl) ⟨Nat.le_refl _, Nat.le_refl _⟩ (k_qI ?_)
                obtain ⟨hv1, hv2⟩ := hv
                refine g_cge hC dX9_findOrder_261 (tgt := 326) (by decide) (fun hc => ?_) (fun hc => ?_)
                · have hv := hv1 hc
                  clear hv1 hv2 hc
                  refine g_blk hC _ bX9_findOrder_326_333 (pc' := 333) (ls' := [some (.inr (some 96)), some (.inl (I_250 96 27)), some (.inl 0), none, none, none, none]) (st' := []) (I' := I_250) rfl rfl ?_
                  obtain ⟨hi333, hb333⟩ := hv
                  have L333 : ∀ (n : Nat) (x1_333 : Int32) (x2_333 : Int32) (I_333 : HI) (A_333 : HI), Iv333 I2 A2 I4 A4 x1_33 I_33 A_33 x1_250 I_250 x1_333 x2_333 I_333 A_333 → mu333 I2 A2 I4 A4 x1_33 I_33 A_33 x1_250 I_250 x1_333 x2_333 I_333 A_333 < n → Gm p l e s m args below meth c D ads 3 72 7 po I_333 A_333 333 [some (.inr (some 96)), some (.inl x1_333), some (.inl x2_333), none, none, none, none] [] := by
                    intro n
                    induction n with
                    | zero => intro x1_333 x2_333 I_333 A_333 _ hn; exact absurd hn (Nat.not_lt_zero _)
                    | succ n ih333 =>
                      intro x1_333 x2_333 I_333 A_333 hv hn333
                      replace hv := hb333 x1_333 x2_333 I_333 A_333 hv
                      skip
                      refine g_blk hC _ bX9_findOrder_333_338 (pc' := 338) (ls' := [some (.inr (some 96)), some (.inl x1_333), some (.inl x2_333), none, none, none, none]) (st' := [.inl (I_333 96 12), .inl x2_333]) (I' := I_333) rfl rfl ?_
                      obtain ⟨hv1, hv2⟩ := hv
                      refine g_cge hC dX9_findOrder_338 (tgt := 427) (by decide) (fun hc => ?_) (fun hc => ?_)
                      · have hv := hv1 hc
                        clear hv1 hv2 hc
                        exact g_retv hC hr dX9_findOrder_427 hv
                      · have hv := hv2 hc
                        clear hv1 hv2 hc
                        refine g_blk hC _ bX9_findOrder_341_343 (pc' := 343) (ls' := [some (.inr (some 96)), some (.inl x1_333), some (.inl x2_333), some (.inl 0), none, none, none]) (st' := []) (I' := I_333) rfl rfl ?_
                        obtain ⟨hi343, hb343⟩ := hv
                        have L343 : ∀ (n : Nat) (x3_343 : Int32) (I_343 : HI) (A_343 : HI), Iv343 I2 A2 I4 A4 x1_33 I_33 A_33 x1_250 I_250 x1_333 x2_333 I_333 A_333 x3_343 I_343 A_343 → mu343 I2 A2 I4 A4 x1_33 I_33 A_33 x1_250 I_250 x1_333 x2_333 I_333 A_333 x3_343 I_343 A_343 < n → Gm p l e s m args below meth c D ads 3 72 7 po I_343 A_343 343 [some (.inr (some 96)), some (.inl x1_333), some (.inl x2_333), some (.inl x3_343), none, none, none] [] := by
                          intro n
                          induction n with
                          | zero => intro x3_343 I_343 A_343 _ hn; exact absurd hn (Nat.not_lt_zero _)
                          | succ n ih343 =>
                            intro x3_343 I_343 A_343 hv hn343
                            replace hv := hb343 x3_343 I_343 A_343 hv
                            skip
                            refine g_blk hC _ bX9_findOrder_343_344 (pc' := 344) (ls' := [some (.inr (some 96)), some (.inl x1_333), some (.inl x2_333), some (.inl x3_343), none, none, none]) (st' := [.inl x2_333]) (I' := I_343) rfl rfl ?_
                            obtain ⟨hv1, hv2⟩ := hv
                            refine g_ifne hC dX9_findOrder_344 (tgt := 351) (by decide) (fun hc => ?_) (fun hc => ?_)
                            · have hv := hv1 hc
                              clear hv1 hv2 hc
                              refine g_blk hC _ bX9_findOrder_351_362 (pc' := 362) (ls' := [some (.inr (some 96)), some (.inl x1_333), some (.inl x2_333), some (.inl x3_343), none, none, none]) (st' := [.inl (x2_333 - 1), .inr (some 113), .inl (x2_333 - 1), .inr (some 96)]) (I' := I_343) rfl rfl ?_
                              obtain ⟨hi, hv⟩ := hv
                              refine g_iald hC dX9_findOrder_362 (rfl) hi ?_
                              clear hi
                              refine g_blk hC _ bX9_findOrder_363_364 (pc' := 364) (ls' := [some (.inr (some 96)), some (.inl x1_333), some (.inl x2_333), some (.inl x3_343), none, none, none]) (st' := [.inl x3_343, .inl (A_343 113 (x2_333 - 1).toNatClampNeg), .inl (x2_333 - 1), .inr (some 96)]) (I' := I_343) rfl rfl ?_
                              obtain ⟨hp6, hv⟩ := hv
                              refine g_callV hC (hh_X9_crosses I_343 A_343 (x2_333 - 1) (A_343 113 (x2_333 - 1).toNatClampNeg) x3_343 hp6) dX9_findOrder_364 nm_X9_crosses rfl rfl wl_X9_146 wi_X9_crosses ws_X9_crosses wn_X9 wc_X9_crosses ⟨by decide, by decide⟩ (as := [.inl (x2_333 - 1), .inl (A_343 113 (x2_333 - 1).toNatClampNeg), .inl x3_343]) (rest := []) rfl (Nat.le_of_ble_eq_true rfl) ⟨Nat.le_refl _, Nat.le_refl _⟩ (k_qJ ?_)
                              intro r7 I7 A7 hq7
                              replace hv := hv r7 I7 A7 hq7
                              refine g_blk hC _ bX9_findOrder_367_377 (pc' := 377) (ls' := [some (.inr (some 96)), some (.inl x1_333), some (.inl x2_333), some (.inl x3_343), none, none, none]) (st' := [.inl ((120 * x2_333) + x3_343), .inr (some 111), .inl r7]) (I' := I7) rfl rfl ?_
                              obtain ⟨hi, hv⟩ := hv
                              refine g_iald hC dX9_findOrder_377 (rfl) hi ?_
                              clear hi
                              refine g_blk hC _ bX9_findOrder_378_380 (pc' := 380) (ls' := [some (.inr (some 96)), some (.inl x1_333), some (.inl x2_333), some (.inl x3_343), none, none, none]) (st' := [.inl x1_333, .inl (r7 + (A7 111 ((120 * x2_333) + x3_343).toNatClampNeg))]) (I' := I7) rfl rfl ?_
                              obtain ⟨hv1, hv2⟩ := hv
                              refine g_ceq hC dX9_findOrder_380 (tgt := 390) (by decide) (fun hc => ?_) (fun hc => ?_)
                              · have hv := hv1 hc
                                clear hv1 hv2 hc
                                refine g_blk hC _ bX9_findOrder_390_396 (pc' := 396) (ls' := [some (.inr (some 96)), some (.inl x1_333), some (.inl x2_333), some (.inl x3_343), none, none, none]) (st' := [.inl x3_343, .inl x2_333, .inr (some 113)]) (I' := I7) rfl rfl ?_
                                obtain ⟨hi, hv⟩ := hv
                                refine g_iast hC dX9_findOrder_396 (rfl) hi ?_
                                clear hi
                                refine g_blk hC _ bX9_findOrder_397_407 (pc' := 407) (ls' := [some (.inr (some 96)), some (.inl x1_333), some (.inl x2_333), some (.inl x3_343), none, none, none]) (st' := [.inl ((120 * x2_333) + x3_343), .inr (some 111)]) (I' := I7) rfl rfl ?_
                                obtain ⟨hi, hv⟩ := hv
                                refine g_iald hC dX9_findOrder_407 (rfl) hi ?_
                                clear hi
                                refine g_blk hC _ bX9_findOrder_408_415 (pc' := 415) (ls' := [some (.inr (some 96)), some (.inl x1_333), some (.inl x2_333), some (.inl x3_343), none, none, none]) (st' := [.inl x3_343, .inl x2_333, .inr (some 96), .inl (I7 96 3), .inl ((up2 A7 113 x2_333.toNatClampNeg x3_343) 111 ((120 * x2_333) + x3_343).toNatClampNeg)]) (I' := I7) rfl rfl ?_
                                obtain ⟨hp8, hv⟩ := hv
                                refine g_callV hC (hh_X9_moves I7 (up2 A7 113 x2_333.toNatClampNeg x3_343) x2_333 x3_343 hp8) dX9_findOrder_415 nm_X9_moves rfl rfl wl_X9_149 wi_X9_moves ws_X9_moves wn_X9 wc_X9_moves ⟨by decide, by decide⟩ (as := [.inl x2_333, .inl x3_343]) (rest := [.inl (I7 96 3), .inl ((up2 A7 113 x2_333.toNatClampNeg x3_343) 111 ((120 * x2_333) + x3_343).toNatClampNeg)]) rfl (Nat.le_of_ble_eq_true rfl) ⟨Nat.le_refl _, Nat.le_refl _⟩ (k_qI ?_)
                                refine g_blk hC _ bX9_findOrder_418_424 (pc' := 424) (ls' := [some (.inr (some 96)), some (.inl (((up2 A7 113 x2_333.toNatClampNeg x3_343) 111 ((120 * x2_333) + x3_343).toNatClampNeg) - ((I7 96 3) * (ff_X9_moves I7 (up2 A7 113 x2_333.toNatClampNeg x3_343) x2_333 x3_343)))), some (.inl (x2_333 + 1)), some (.inl x3_343), none, none, none]) (st' := []) (I' := I7) rfl rfl ?_
                                refine g_goto hC dX9_findOrder_424 (tgt := 333) (by decide) ?_
                                exact g_weak (ls1 := [some (.inr (some 96)), some (.inl (((up2 A7 113 x2_333.toNatClampNeg x3_343) 111 ((120 * x2_333) + x3_343).toNatClampNeg) - ((I7 96 3) * (ff_X9_moves I7 (up2 A7 113 x2_333.toNatClampNeg x3_343) x2_333 x3_343)))), some (.inl (x2_333 + 1)), none, none, none, none]) rfl (And.intro rfl (And.intro rfl (And.intro rfl trivial))) (ih333 (((up2 A7 113 x2_333.toNatClampNeg x3_343) 111 ((120 * x2_333) + x3_343).toNatClampNeg) - ((I7 96 3) * (ff_X9_moves I7 (up2 A7 113 x2_333.toNatClampNeg x3_343) x2_333 x3_343))) (x2_333 + 1) I7 (up2 A7 113 x2_333.toNatClampNeg x3_343) hv.1 (Nat.lt_of_lt_of_le hv.2 (Nat.le_of_lt_succ hn333)))
                              · have hv := hv2 hc
                                clear hv1 hv2 hc
                                refine g_blk hC _ bX9_findOrder_383_387 (pc' := 387) (ls' := [some (.inr (some 96)), some (.inl x1_333), some (.inl x2_333), some (.inl (x3_343 + 1)), none, none, none]) (st' := []) (I' := I7) rfl rfl ?_
                                refine g_goto hC dX9_findOrder_387 (tgt := 343) (by decide) ?_
                                exact g_weak (ls1 := [some (.inr (some 96)), some (.inl x1_333), some (.inl x2_333), some (.inl (x3_343 + 1)), none, none, none]) rfl (And.intro rfl (And.intro rfl (And.intro rfl (And.intro rfl trivial)))) (ih343 (x3_343 + 1) I7 A7 hv.1 (Nat.lt_of_lt_of_le hv.2 (Nat.le_of_lt_succ hn343)))
                            · have hv := hv2 hc
                              clear hv1 hv2 hc
                              refine g_blk hC _ bX9_findOrder_347_348 (pc' := 348) (ls' := [some (.inr (some 96)), some (.inl x1_333), some (.inl x2_333), some (.inl x3_343), none, none, none]) (st' := [.inl 0]) (I' := I_343) rfl rfl ?_
                              refine g_goto hC dX9_findOrder_348 (tgt := 367) (by decide) ?_
                              refine g_blk hC _ bX9_findOrder_367_377 (pc' := 377) (ls' := [some (.inr (some 96)), some (.inl x1_333), some (.inl x2_333), some (.inl x3_343), none, none, none]) (st' := [.inl ((120 * x2_333) + x3_343), .inr (some 111), .inl 0]) (I' := I_343) rfl rfl ?_
                              obtain ⟨hi, hv⟩ := hv
                              refine g_iald hC dX9_findOrder_377 (rfl) hi ?_
                              clear hi
                              refine g_blk hC _ bX9_findOrder_378_380 (pc' := 380) (ls' := [some (.inr (some 96)), some (.inl x1_333), some (.inl x2_333), some (.inl x3_343), none, none, none]) (st' := [.inl x1_333, .inl (0 + (A_343 111 ((120 * x2_333) + x3_343).toNatClampNeg))]) (I' := I_343) rfl rfl ?_
                              obtain ⟨hv1, hv2⟩ := hv
                              refine g_ceq hC dX9_findOrder_380 (tgt := 390) (by decide) (fun hc => ?_) (fun hc => ?_)
                              · have hv := hv1 hc
                                clear hv1 hv2 hc
                                refine g_blk hC _ bX9_findOrder_390_396 (pc' := 396) (ls' := [some (.inr (some 96)), some (.inl x1_333), some (.inl x2_333), some (.inl x3_343), none, none, none]) (st' := [.inl x3_343, .inl x2_333, .inr (some 113)]) (I' := I_343) rfl rfl ?_
                                obtain ⟨hi, hv⟩ := hv
                                refine g_iast hC dX9_findOrder_396 (rfl) hi ?_
                                clear hi
                                refine g_blk hC _ bX9_findOrder_397_407 (pc' := 407) (ls' := [some (.inr (some 96)), some (.inl x1_333), some (.inl x2_333), some (.inl x3_343), none, none, none]) (st' := [.inl ((120 * x2_333) + x3_343), .inr (some 111)]) (I' := I_343) rfl rfl ?_
                                obtain ⟨hi, hv⟩ := hv
                                refine g_iald hC dX9_findOrder_407 (rfl) hi ?_
                                clear hi
                                refine g_blk hC _ bX9_findOrder_408_415 (pc' := 415) (ls' := [some (.inr (some 96)), some (.inl x1_333), some (.inl x2_333), some (.inl x3_343), none, none, none]) (st' := [.inl x3_343, .inl x2_333, .inr (some 96), .inl (I_343 96 3), .inl ((up2 A_343 113 x2_333.toNatClampNeg x3_343) 111 ((120 * x2_333) + x3_343).toNatClampNeg)]) (I' := I_343) rfl rfl ?_
                                obtain ⟨hp9, hv⟩ := hv
                                refine g_callV hC (hh_X9_moves I_343 (up2 A_343 113 x2_333.toNatClampNeg x3_343) x2_333 x3_343 hp9) dX9_findOrder_415 nm_X9_moves rfl rfl wl_X9_149 wi_X9_moves ws_X9_moves wn_X9 wc_X9_moves ⟨by decide, by decide⟩ (as := [.inl x2_333, .inl x3_343]) (rest := [.inl (I_343 96 3), .inl ((up2 A_343 113 x2_333.toNatClampNeg x3_343) 111 ((120 * x2_333) + x3_343).toNatClampNeg)]) rfl (Nat.le_of_ble_eq_true rfl) ⟨Nat.le_refl _, Nat.le_refl _⟩ (k_qI ?_)
                                refine g_blk hC _ bX9_findOrder_418_424 (pc' := 424) (ls' := [some (.inr (some 96)), some (.inl (((up2 A_343 113 x2_333.toNatClampNeg x3_343) 111 ((120 * x2_333) + x3_343).toNatClampNeg) - ((I_343 96 3) * (ff_X9_moves I_343 (up2 A_343 113 x2_333.toNatClampNeg x3_343) x2_333 x3_343)))), some (.inl (x2_333 + 1)), some (.inl x3_343), none, none, none]) (st' := []) (I' := I_343) rfl rfl ?_
                                refine g_goto hC dX9_findOrder_424 (tgt := 333) (by decide) ?_
                                exact g_weak (ls1 := [some (.inr (some 96)), some (.inl (((up2 A_343 113 x2_333.toNatClampNeg x3_343) 111 ((120 * x2_333) + x3_343).toNatClampNeg) - ((I_343 96 3) * (ff_X9_moves I_343 (up2 A_343 113 x2_333.toNatClampNeg x3_343) x2_333 x3_343)))), some (.inl (x2_333 + 1)), none, none, none, none]) rfl (And.intro rfl (And.intro rfl (And.intro rfl trivial))) (ih333 (((up2 A_343 113 x2_333.toNatClampNeg x3_343) 111 ((120 * x2_333) + x3_343).toNatClampNeg) - ((I_343 96 3) * (ff_X9_moves I_343 (up2 A_343 113 x2_333.toNatClampNeg x3_343) x2_333 x3_343))) (x2_333 + 1) I_343 (up2 A_343 113 x2_333.toNatClampNeg x3_343) hv.1 (Nat.lt_of_lt_of_le hv.2 (Nat.le_of_lt_succ hn333)))
                              · have hv := hv2 hc
                                clear hv1 hv2 hc
                                refine g_blk hC _ bX9_findOrder_383_387 (pc' := 387) (ls' := [some (.inr (some 96)), some (.inl x1_333), some (.inl x2_333), some (.inl (x3_343 + 1)), none, none, none]) (st' := []) (I' := I_343) rfl rfl ?_
                                refine g_goto hC dX9_findOrder_387 (tgt := 343) (by decide) ?_
                                exact g_weak (ls1 := [some (.inr (some 96)), some (.inl x1_333), some (.inl x2_333), some (.inl (x3_343 + 1)), none, none, none]) rfl (And.intro rfl (And.intro rfl (And.intro rfl (And.intro rfl trivial)))) (ih343 (x3_343 + 1) I_343 A_343 hv.1 (Nat.lt_of_lt_of_le hv.2 (Nat.le_of_lt_succ hn343)))
                        exact g_weak (ls1 := [some (.inr (some 96)), some (.inl x1_333), some (.inl x2_333), some (.inl 0), none, none, none]) rfl (And.intro rfl (And.intro rfl (And.intro rfl (And.intro rfl trivial)))) (L343 _ 0 I_333 A_333 hi343 (Nat.lt_succ_self _))
                  exact g_weak (ls1 := [some (.inr (some 96)), some (.inl (I_250 96 27)), some (.inl 0), none, none, none, none]) rfl (And.intro rfl (And.intro rfl (And.intro rfl trivial))) (L333 _ (I_250 96 27) 0 I_250 A_33 hi333 (Nat.lt_succ_self _))
                · have hv := hv2 hc
                  clear hv1 hv2 hc
                  refine g_blk hC _ bX9_findOrder_264_269 (pc' := 269) (ls' := [some (.inr (some 96)), some (.inl x1_250), none, none, none, none, none]) (st' := [.inl x1_250, .inr (some 111)]) (I' := I_250) rfl rfl ?_
                  obtain ⟨hi, hv⟩ := hv
                  refine g_iald hC dX9_findOrder_269 (rfl) hi ?_
                  clear hi
                  refine g_blk hC _ bX9_findOrder_270_274 (pc' := 274) (ls' := [some (.inr (some 96)), some (.inl x1_250), none, none, none, none, none]) (st' := [.inl (I_250 96 27), .inl (A_33 111 x1_250.toNatClampNeg)]) (I' := I_250) rfl rfl ?_
                  obtain ⟨hv1, hv2⟩ := hv
                  refine g_cge hC dX9_findOrder_274 (tgt := 292) (by decide) (fun hc => ?_) (fun hc => ?_)
                  · have hv := hv1 hc
                    clear hv1 hv2 hc
                    refine g_blk hC _ bX9_findOrder_292_297 (pc' := 297) (ls' := [some (.inr (some 96)), some (.inl x1_250), none, none, none, none, none]) (st' := [.inl x1_250, .inr (some 111)]) (I' := I_250) rfl rfl ?_
                    obtain ⟨hi, hv⟩ := hv
                    refine g_iald hC dX9_findOrder_297 (rfl) hi ?_
                    clear hi
                    refine g_blk hC _ bX9_findOrder_298_302 (pc' := 302) (ls' := [some (.inr (some 96)), some (.inl x1_250), none, none, none, none, none]) (st' := [.inl (I_250 96 27), .inl (A_33 111 x1_250.toNatClampNeg)]) (I' := I_250) rfl rfl ?_
                    obtain ⟨hv1, hv2⟩ := hv
                    refine g_cne hC dX9_findOrder_302 (tgt := 320) (by decide) (fun hc => ?_) (fun hc => ?_)
                    · have hv := hv1 hc
                      clear hv1 hv2 hc
                      refine g_blk hC _ bX9_findOrder_320_323 (pc' := 323) (ls' := [some (.inr (some 96)), some (.inl (x1_250 + 1)), none, none, none, none, none]) (st' := []) (I' := I_250) rfl rfl ?_
                      refine g_goto hC dX9_findOrder_323 (tgt := 250) (by decide) ?_
                      exact g_weak (ls1 := [some (.inr (some 96)), some (.inl (x1_250 + 1)), none, none, none, none, none]) rfl (And.intro rfl (And.intro rfl trivial)) (ih250 (x1_250 + 1) I_250 hv.1 (Nat.lt_of_lt_of_le hv.2 (Nat.le_of_lt_succ hn250)))
                    · have hv := hv2 hc
                      clear hv1 hv2 hc
                      refine g_blk hC _ bX9_findOrder_305_315 (pc' := 315) (ls' := [some (.inr (some 96)), some (.inl x1_250), none, none, none, none, none]) (st' := [.inl x1_250, .inr (some 112), .inl (I_250 96 28), .inr (some 96)]) (I' := I_250) rfl rfl ?_
                      obtain ⟨hi, hv⟩ := hv
                      refine g_iald hC dX9_findOrder_315 (rfl) hi ?_
                      clear hi
                      refine g_blk hC _ bX9_findOrder_316_323 (pc' := 323) (ls' := [some (.inr (some 96)), some (.inl (x1_250 + 1)), none, none, none, none, none]) (st' := []) (I' := up2 I_250 96 28 ((I_250 96 28) + (A_33 112 x1_250.toNatClampNeg))) rfl rfl ?_
                      refine g_goto hC dX9_findOrder_323 (tgt := 250) (by decide) ?_
                      exact g_weak (ls1 := [some (.inr (some 96)), some (.inl (x1_250 + 1)), none, none, none, none, none]) rfl (And.intro rfl (And.intro rfl trivial)) (ih250 (x1_250 + 1) (up2 I_250 96 28 ((I_250 96 28) + (A_33 112 x1_250.toNatClampNeg))) hv.1 (Nat.lt_of_lt_of_le hv.2 (Nat.le_of_lt_succ hn250)))
                  · have hv := hv2 hc
                    clear hv1 hv2 hc
                    refine g_blk hC _ bX9_findOrder_277_283 (pc' := 283) (ls' := [some (.inr (some 96)), some (.inl x1_250), none, none, none, none, none]) (st' := [.inl x1_250, .inr (some 111), .inr (some 96)]) (I' := I_250) rfl rfl ?_
                    obtain ⟨hi, hv⟩ := hv
                    refine g_iald hC dX9_findOrder_283 (rfl) hi ?_
                    clear hi
                    refine g_blk hC _ bX9_findOrder_284_297 (pc' := 297) (ls' := [some (.inr (some 96)), some (.inl x1_250), none, none, none, none, none]) (st' := [.inl x1_250, .inr (some 111)]) (I' := up2 (up2 I_250 96 27 (A_33 111 x1_250.toNatClampNeg)) 96 28 0) rfl rfl ?_
                    obtain ⟨hi, hv⟩ := hv
                    refine g_iald hC dX9_findOrder_297 (rfl) hi ?_
                    clear hi
                    refine g_blk hC _ bX9_findOrder_298_302 (pc' := 302) (ls' := [some (.inr (some 96)), some (.inl x1_250), none, none, none, none, none]) (st' := [.inl ((up2 (up2 I_250 96 27 (A_33 111 x1_250.toNatClampNeg)) 96 28 0) 96 27), .inl (A_33 111 x1_250.toNatClampNeg)]) (I' := up2 (up2 I_250 96 27 (A_33 111 x1_250.toNatClampNeg)) 96 28 0) rfl rfl ?_
                    obtain ⟨hv1, hv2⟩ := hv
                    refine g_cne hC dX9_findOrder_302 (tgt := 320) (by decide) (fun hc => ?_) (fun hc => ?_)
                    · have hv := hv1 hc
                      clear hv1 hv2 hc
                      refine g_blk hC _ bX9_findOrder_320_323 (pc' := 323) (ls' := [some (.inr (some 96)), some (.inl (x1_250 + 1)), none, none, none, none, none]) (st' := []) (I' := up2 (up2 I_250 96 27 (A_33 111 x1_250.toNatClampNeg)) 96 28 0) rfl rfl ?_
                      refine g_goto hC dX9_findOrder_323 (tgt := 250) (by decide) ?_
                      exact g_weak (ls1 := [some (.inr (some 96)), some (.inl (x1_250 + 1)), none, none, none, none, none]) rfl (And.intro rfl (And.intro rfl trivial)) (ih250 (x1_250 + 1) (up2 (up2 I_250 96 27 (A_33 111 x1_250.toNatClampNeg)) 96 28 0) hv.1 (Nat.lt_of_lt_of_le hv.2 (Nat.le_of_lt_succ hn250)))
                    · have hv := hv2 hc
                      clear hv1 hv2 hc
                      refine g_blk hC _ bX9_findOrder_305_315 (pc' := 315) (ls' := [some (.inr (some 96)), some (.inl x1_250), none, none, none, none, none]) (st' := [.inl x1_250, .inr (some 112), .inl ((up2 (up2 I_250 96 27 (A_33 111 x1_250.toNatClampNeg)) 96 28 0) 96 28), .inr (some 96)]) (I' := up2 (up2 I_250 96 27 (A_33 111 x1_250.toNatClampNeg)) 96 28 0) rfl rfl ?_
                      obtain ⟨hi, hv⟩ := hv
                      refine g_iald hC dX9_findOrder_315 (rfl) hi ?_
                      clear hi
                      refine g_blk hC _ bX9_findOrder_316_323 (pc' := 323) (ls' := [some (.inr (some 96)), some (.inl (x1_250 + 1)), none, none, none, none, none]) (st' := []) (I' := up2 (up2 (up2 I_250 96 27 (A_33 111 x1_250.toNatClampNeg)) 96 28 0) 96 28 (((up2 (up2 I_250 96 27 (A_33 111 x1_250.toNatClampNeg)) 96 28 0) 96 28) + (A_33 112 x1_250.toNatClampNeg))) rfl rfl ?_
                      refine g_goto hC dX9_findOrder_323 (tgt := 250) (by decide) ?_
                      exact g_weak (ls1 := [some (.inr (some 96)), some (.inl (x1_250 + 1)), none, none, none, none, none]) rfl (And.intro rfl (And.intro rfl trivial)) (ih250 (x1_250 + 1) (up2 (up2 (up2 I_250 96 27 (A_33 111 x1_250.toNatClampNeg)) 96 28 0) 96 28 (((up2 (up2 I_250 96 27 (A_33 111 x1_250.toNatClampNeg)) 96 28 0) 96 28) + (A_33 112 x1_250.toNatClampNeg))) hv.1 (Nat.lt_of_lt_of_le hv.2 (Nat.le_of_lt_succ hn250)))
            exact g_weak (ls1 := [some (.inr (some 96)), some (.inl 0), none, none, none, none, none]) rfl (And.intro rfl (And.intro rfl trivial)) (L250 _ 0 (up2 I_33 96 27 1000000000) hi250 (Nat.lt_succ_self _))
          · have hv := hv2 hc
            clear hv1 hv2 hc
            exact g_retv hC hr dX9_findOrder_241 hv
        · have hv := hv2 hc
          clear hv1 hv2 hc
          refine g_blk hC _ bX9_findOrder_37_39 (pc' := 39) (ls' := [some (.inr (some 96)), some (.inl x1_33), some (.inl 0), none, none, none, none]) (st' := []) (I' := I_33) rfl rfl ?_
          obtain ⟨hi39, hb39⟩ := hv
          have L39 : ∀ (n : Nat) (x2_39 : Int32) (I_39 : HI) (A_39 : HI), Iv39 I2 A2 I4 A4 x1_33 I_33 A_33 x2_39 I_39 A_39 → mu39 I2 A2 I4 A4 x1_33 I_33 A_33 x2_39 I_39 A_39 < n → Gm p l e s m args below meth c D ads 3 72 7 po I_39 A_39 39 [some (.inr (some 96)), some (.inl x1_33), some (.inl x2_39), none, none, none, none] [] := by
            intro n
            induction n with
            | zero => intro x2_39 I_39 A_39 _ hn; exact absurd hn (Nat.not_lt_zero _)
            | succ n ih39 =>
              intro x2_39 I_39 A_39 hv hn39
              replace hv := hb39 x2_39 I_39 A_39 hv
              skip
              refine g_blk hC _ bX9_findOrder_39_46 (pc' := 46) (ls' := [some (.inr (some 96)), some (.inl x1_33), some (.inl x2_39), none, none, none, none]) (st' := [.inl x1_33, .inr (some 104), .inr (some 96), .inl x2_39]) (I' := I_39) rfl rfl ?_
              obtain ⟨hi, hv⟩ := hv
              refine g_iald hC dX9_findOrder_46 (rfl) hi ?_
              clear hi
              obtain ⟨hp10, hv⟩ := hv
              refine g_callV hC (hh_X9_factorial I_39 A_39 (A_39 104 x1_33.toNatClampNeg) hp10) dX9_findOrder_47 nm_X9_factorial rfl rfl wl_X9_124 wi_X9_factorial ws_X9_factorial wn_X9 wc_X9_factorial ⟨by decide, by decide⟩ (as := [.inl (A_39 104 x1_33.toNatClampNeg)]) (rest := [.inl x2_39]) rfl (Nat.le_of_ble_eq_true rfl) ⟨Nat.le_refl _, Nat.le_refl _⟩ (k_qI ?_)
              obtain ⟨hv1, hv2⟩ := hv
              refine g_cge hC dX9_findOrder_50 (tgt := 228) (by decide) (fun hc => ?_) (fun hc => ?_)
              · have hv := hv1 hc
                clear hv1 hv2 hc
                refine g_blk hC _ bX9_findOrder_228_231 (pc' := 231) (ls' := [some (.inr (some 96)), some (.inl (x1_33 + (-1))), some (.inl x2_39), none, none, none, none]) (st' := []) (I' := I_39) rfl rfl ?_
                refine g_goto hC dX9_findOrder_231 (tgt := 33) (by decide) ?_
                exact g_weak (ls1 := [some (.inr (some 96)), some (.inl (x1_33 + (-1))), none, none, none, none, none]) rfl (And.intro rfl (And.intro rfl trivial)) (ih33 (x1_33 + (-1)) I_39 A_39 hv.1 (Nat.lt_of_lt_of_le hv.2 (Nat.le_of_lt_succ hn33)))
              · have hv := hv2 hc
                clear hv1 hv2 hc
                obtain ⟨hj87, hv⟩ := hv
                have J87 : ∀ (x3_87 : Int32) (x4_87 : Int32), Jn87 I2 A2 I4 A4 x1_33 I_33 A_33 x2_39 I_39 A_39 x3_87 x4_87 → Gm p l e s m args below meth c D ads 3 72 7 po I_39 A_39 87 [some (.inr (some 96)), some (.inl x1_33), some (.inl x2_39), some (.inl x3_87), some (.inl x4_87), none, none] [] := by
                  intro x3_87 x4_87 hv
                  replace hv := hj87 x3_87 x4_87 hv
                  refine g_blk hC _ bX9_findOrder_87_90 (pc' := 90) (ls' := [some (.inr (some 96)), some (.inl x1_33), some (.inl x2_39), some (.inl x3_87), some (.inl x4_87), some (.inl 0), none]) (st' := []) (I' := I_39) rfl rfl ?_
                  obtain ⟨hi90, hb90⟩ := hv
                  have L90 : ∀ (n : Nat) (x3_90 : Int32) (x4_90 : Int32) (x5_90 : Int32) (I_90 : HI) (A_90 : HI), Iv90 I2 A2 I4 A4 x1_33 I_33 A_33 x2_39 I_39 A_39 x3_87 x4_87 x3_90 x4_90 x5_90 I_90 A_90 → mu90 I2 A2 I4 A4 x1_33 I_33 A_33 x2_39 I_39 A_39 x3_87 x4_87 x3_90 x4_90 x5_90 I_90 A_90 < n → Gm p l e s m args below meth c D ads 3 72 7 po I_90 A_90 90 [some (.inr (some 96)), some (.inl x1_33), some (.inl x2_39), some (.inl x3_90), some (.inl x4_90), some (.inl x5_90), none] [] := by
                    intro n
                    induction n with
                    | zero => intro x3_90 x4_90 x5_90 I_90 A_90 _ hn; exact absurd hn (Nat.not_lt_zero _)
                    | succ n ih90 =>
                      intro x3_90 x4_90 x5_90 I_90 A_90 hv hn90
                      replace hv := hb90 x3_90 x4_90 x5_90 I_90 A_90 hv
                      skip
                      refine g_blk hC _ bX9_findOrder_90_97 (pc' := 97) (ls' := [some (.inr (some 96)), some (.inl x1_33), some (.inl x2_39), some (.inl x3_90), some (.inl x4_90), some (.inl x5_90), none]) (st' := [.inl (I_90 96 12), .inl (x1_33 + 1)]) (I' := I_90) rfl rfl ?_
                      obtain ⟨hv1, hv2⟩ := hv
                      refine g_cge hC dX9_findOrder_97 (tgt := 185) (by decide) (fun hc => ?_) (fun hc => ?_)
                      · have hv := hv1 hc
                        clear hv1 hv2 hc
                        refine g_blk hC _ bX9_findOrder_185_203 (pc' := 203) (ls' := [some (.inr (some 96)), some (.inl x1_33), some (.inl x2_39), some (.inl x3_90), some (.inl x4_90), some (.inl x5_90), none]) (st' := [.inl x2_39, .inl x1_33, .inr (some 96), .inl (I_90 96 3), .inl x3_90, .inl ((120 * x1_33) + x2_39), .inr (some 111)]) (I' := I_90) rfl rfl ?_
                        obtain ⟨hp11, hv⟩ := hv
                        refine g_callV hC (hh_X9_moves I_90 A_90 x1_33 x2_39 hp11) dX9_findOrder_203 nm_X9_moves rfl rfl wl_X9_149 wi_X9_moves ws_X9_moves wn_X9 wc_X9_moves ⟨by decide, by decide⟩ (as := [.inl x1_33, .inl x2_39]) (rest := [.inl (I_90 96 3), .inl x3_90, .inl ((120 * x1_33) + x2_39), .inr (some 111)]) rfl (Nat.le_of_ble_eq_true rfl) ⟨Nat.le_refl _, Nat.le_refl _⟩ (k_qI ?_)
                        refine g_blk hC _ bX9_findOrder_206_208 (pc' := 208) (ls' := [some (.inr (some 96)), some (.inl x1_33), some (.inl x2_39), some (.inl x3_90), some (.inl x4_90), some (.inl x5_90), none]) (st' := [.inl (x3_90 + ((I_90 96 3) * (ff_X9_moves I_90 A_90 x1_33 x2_39))), .inl ((120 * x1_33) + x2_39), .inr (some 111)]) (I' := I_90) rfl rfl ?_
                        obtain ⟨hi, hv⟩ := hv
                        refine g_iast hC dX9_findOrder_208 (rfl) hi ?_
                        clear hi
                        refine g_blk hC _ bX9_findOrder_209_221 (pc' := 221) (ls' := [some (.inr (some 96)), some (.inl x1_33), some (.inl x2_39), some (.inl x3_90), some (.inl x4_90), some (.inl x5_90), none]) (st' := [.inl x4_90, .inl ((120 * x1_33) + x2_39), .inr (some 112)]) (I' := I_90) rfl rfl ?_
                        obtain ⟨hi, hv⟩ := hv
                        refine g_iast hC dX9_findOrder_221 (rfl) hi ?_
                        clear hi
                        refine g_blk hC _ bX9_findOrder_222_225 (pc' := 225) (ls' := [some (.inr (some 96)), some (.inl x1_33), some (.inl (x2_39 + 1)), some (.inl x3_90), some (.inl x4_90), some (.inl x5_90), none]) (st' := []) (I' := I_90) rfl rfl ?_
                        refine g_goto hC dX9_findOrder_225 (tgt := 39) (by decide) ?_
                        exact g_weak (ls1 := [some (.inr (some 96)), some (.inl x1_33), some (.inl (x2_39 + 1)), none, none, none, none]) rfl (And.intro rfl (And.intro rfl (And.intro rfl trivial))) (ih39 (x2_39 + 1) I_90 (up2 (up2 A_90 111 ((120 * x1_33) + x2_39).toNatClampNeg (x3_90 + ((I_90 96 3) * (ff_X9_moves I_90 A_90 x1_33 x2_39)))) 112 ((120 * x1_33) + x2_39).toNatClampNeg x4_90) hv.1 (Nat.lt_of_lt_of_le hv.2 (Nat.le_of_lt_succ hn39)))
                      · have hv := hv2 hc
                        clear hv1 hv2 hc
                        refine g_blk hC _ bX9_findOrder_100_110 (pc' := 110) (ls' := [some (.inr (some 96)), some (.inl x1_33), some (.inl x2_39), some (.inl x3_90), some (.inl x4_90), some (.inl x5_90), none]) (st' := [.inl (x1_33 + 1), .inr (some 104), .inr (some 96), .inl x5_90]) (I' := I_90) rfl rfl ?_
                        obtain ⟨hi, hv⟩ := hv
                        refine g_iald hC dX9_findOrder_110 (rfl) hi ?_
                        clear hi
                        obtain ⟨hp12, hv⟩ := hv
                        refine g_callV hC (hh_X9_factorial I_90 A_90 (A_90 104 (x1_33 + 1).toNatClampNeg) hp12) dX9_findOrder_111 nm_X9_factorial rfl rfl wl_X9_124 wi_X9_factorial ws_X9_factorial wn_X9 wc_X9_factorial ⟨by decide, by decide⟩ (as := [.inl (A_90 104 (x1_33 + 1).toNatClampNeg)]) (rest := [.inl x5_90]) rfl (Nat.le_of_ble_eq_true rfl) ⟨Nat.le_refl _, Nat.le_refl _⟩ (k_qI ?_)
                        obtain ⟨hv1, hv2⟩ := hv
                        refine g_cge hC dX9_findOrder_114 (tgt := 185) (by decide) (fun hc => ?_) (fun hc => ?_)
                        · have hv := hv1 hc
                          clear hv1 hv2 hc
                          refine g_blk hC _ bX9_findOrder_185_203 (pc' := 203) (ls' := [some (.inr (some 96)), some (.inl x1_33), some (.inl x2_39), some (.inl x3_90), some (.inl x4_90), some (.inl x5_90), none]) (st' := [.inl x2_39, .inl x1_33, .inr (some 96), .inl (I_90 96 3), .inl x3_90, .inl ((120 * x1_33) + x2_39), .inr (some 111)]) (I' := I_90) rfl rfl ?_
                          obtain ⟨hp13, hv⟩ := hv
                          refine g_callV hC (hh_X9_moves I_90 A_90 x1_33 x2_39 hp13) dX9_findOrder_203 nm_X9_moves rfl rfl wl_X9_149 wi_X9_moves ws_X9_moves wn_X9 wc_X9_moves ⟨by decide, by decide⟩ (as := [.inl x1_33, .inl x2_39]) (rest := [.inl (I_90 96 3), .inl x3_90, .inl ((120 * x1_33) + x2_39), .inr (some 111)]) rfl (Nat.le_of_ble_eq_true rfl) ⟨Nat.le_refl _, Nat.le_refl _⟩ (k_qI ?_)
                          refine g_blk hC _ bX9_findOrder_206_208 (pc' := 208) (ls' := [some (.inr (some 96)), some (.inl x1_33), some (.inl x2_39), some (.inl x3_90), some (.inl x4_90), some (.inl x5_90), none]) (st' := [.inl (x3_90 + ((I_90 96 3) * (ff_X9_moves I_90 A_90 x1_33 x2_39))), .inl ((120 * x1_33) + x2_39), .inr (some 111)]) (I' := I_90) rfl rfl ?_
                          obtain ⟨hi, hv⟩ := hv
                          refine g_iast hC dX9_findOrder_208 (rfl) hi ?_
                          clear hi
                          refine g_blk hC _ bX9_findOrder_209_221 (pc' := 221) (ls' := [some (.inr (some 96)), some (.inl x1_33), some (.inl x2_39), some (.inl x3_90), some (.inl x4_90), some (.inl x5_90), none]) (st' := [.inl x4_90, .inl ((120 * x1_33) + x2_39), .inr (some 112)]) (I' := I_90) rfl rfl ?_
                          obtain ⟨hi, hv⟩ := hv
                          refine g_iast hC dX9_findOrder_221 (rfl) hi ?_
                          clear hi
                          refine g_blk hC _ bX9_findOrder_222_225 (pc' := 225) (ls' := [some (.inr (some 96)), some (.inl x1_33), some (.inl (x2_39 + 1)), some (.inl x3_90), some (.inl x4_90), some (.inl x5_90), none]) (st' := []) (I' := I_90) rfl rfl ?_
                          refine g_goto hC dX9_findOrder_225 (tgt := 39) (by decide) ?_
                          exact g_weak (ls1 := [some (.inr (some 96)), some (.inl x1_33), some (.inl (x2_39 + 1)), none, none, none, none]) rfl (And.intro rfl (And.intro rfl (And.intro rfl trivial))) (ih39 (x2_39 + 1) I_90 (up2 (up2 A_90 111 ((120 * x1_33) + x2_39).toNatClampNeg (x3_90 + ((I_90 96 3) * (ff_X9_moves I_90 A_90 x1_33 x2_39)))) 112 ((120 * x1_33) + x2_39).toNatClampNeg x4_90) hv.1 (Nat.lt_of_lt_of_le hv.2 (Nat.le_of_lt_succ hn39)))
                        · have hv := hv2 hc
                          clear hv1 hv2 hc
                          refine g_blk hC _ bX9_findOrder_117_122 (pc' := 122) (ls' := [some (.inr (some 96)), some (.inl x1_33), some (.inl x2_39), some (.inl x3_90), some (.inl x4_90), some (.inl x5_90), none]) (st' := [.inl x5_90, .inl x2_39, .inl x1_33, .inr (some 96)]) (I' := I_90) rfl rfl ?_
                          obtain ⟨hp14, hv⟩ := hv
                          refine g_callV hC (hh_X9_crosses I_90 A_90 x1_33 x2_39 x5_90 hp14) dX9_findOrder_122 nm_X9_crosses rfl rfl wl_X9_146 wi_X9_crosses ws_X9_crosses wn_X9 wc_X9_crosses ⟨by decide, by decide⟩ (as := [.inl x1_33, .inl x2_39, .inl x5_90]) (rest := []) rfl (Nat.le_of_ble_eq_true rfl) ⟨Nat.le_refl _, Nat.le_refl _⟩ (k_qJ ?_)
                          intro r15 I15 A15 hq15
                          replace hv := hv r15 I15 A15 hq15
                          refine g_blk hC _ bX9_findOrder_125_138 (pc' := 138) (ls' := [some (.inr (some 96)), some (.inl x1_33), some (.inl x2_39), some (.inl x3_90), some (.inl x4_90), some (.inl x5_90), none]) (st' := [.inl ((120 * (x1_33 + 1)) + x5_90), .inr (some 111), .inl r15]) (I' := I15) rfl rfl ?_
                          obtain ⟨hi, hv⟩ := hv
                          refine g_iald hC dX9_findOrder_138 (rfl) hi ?_
                          clear hi
                          refine g_blk hC _ bX9_findOrder_139_145 (pc' := 145) (ls' := [some (.inr (some 96)), some (.inl x1_33), some (.inl x2_39), some (.inl x3_90), some (.inl x4_90), some (.inl x5_90), some (.inl (r15 + (A15 111 ((120 * (x1_33 + 1)) + x5_90).toNatClampNeg)))]) (st' := [.inl x3_90, .inl (r15 + (A15 111 ((120 * (x1_33 + 1)) + x5_90).toNatClampNeg))]) (I' := I15) rfl rfl ?_
                          obtain ⟨hv1, hv2⟩ := hv
                          refine g_cge hC dX9_findOrder_145 (tgt := 154) (by decide) (fun hc => ?_) (fun hc => ?_)
                          · have hv := hv1 hc
                            clear hv1 hv2 hc
                            refine g_blk hC _ bX9_findOrder_154_157 (pc' := 157) (ls' := [some (.inr (some 96)), some (.inl x1_33), some (.inl x2_39), some (.inl x3_90), some (.inl x4_90), some (.inl x5_90), some (.inl (r15 + (A15 111 ((120 * (x1_33 + 1)) + x5_90).toNatClampNeg)))]) (st' := [.inl x3_90, .inl (r15 + (A15 111 ((120 * (x1_33 + 1)) + x5_90).toNatClampNeg))]) (I' := I15) rfl rfl ?_
                            obtain ⟨hv1, hv2⟩ := hv
                            refine g_cne hC dX9_findOrder_157 (tgt := 179) (by decide) (fun hc => ?_) (fun hc => ?_)
                            · have hv := hv1 hc
                              clear hv1 hv2 hc
                              refine g_blk hC _ bX9_findOrder_179_182 (pc' := 182) (ls' := [some (.inr (some 96)), some (.inl x1_33), some (.inl x2_39), some (.inl x3_90), some (.inl x4_90), some (.inl (x5_90 + 1)), some (.inl (r15 + (A15 111 ((120 * (x1_33 + 1)) + x5_90).toNatClampNeg)))]) (st' := []) (I' := I15) rfl rfl ?_
                              refine g_goto hC dX9_findOrder_182 (tgt := 90) (by decide) ?_
                              exact g_weak (ls1 := [some (.inr (some 96)), some (.inl x1_33), some (.inl x2_39), some (.inl x3_90), some (.inl x4_90), some (.inl (x5_90 + 1)), none]) rfl (And.intro rfl (And.intro rfl (And.intro rfl (And.intro rfl (And.intro rfl (And.intro rfl trivial)))))) (ih90 x3_90 x4_90 (x5_90 + 1) I15 A15 hv.1 (Nat.lt_of_lt_of_le hv.2 (Nat.le_of_lt_succ hn90)))
                            · have hv := hv2 hc
                              clear hv1 hv2 hc
                              refine g_blk hC _ bX9_findOrder_160_175 (pc' := 175) (ls' := [some (.inr (some 96)), some (.inl x1_33), some (.inl x2_39), some (.inl x3_90), some (.inl x4_90), some (.inl x5_90), some (.inl (r15 + (A15 111 ((120 * (x1_33 + 1)) + x5_90).toNatClampNeg)))]) (st' := [.inl ((120 * (x1_33 + 1)) + x5_90), .inr (some 112), .inl x4_90]) (I' := I15) rfl rfl ?_
                              obtain ⟨hi, hv⟩ := hv
                              refine g_iald hC dX9_findOrder_175 (rfl) hi ?_
                              clear hi
                              refine g_blk hC _ bX9_findOrder_176_182 (pc' := 182) (ls' := [some (.inr (some 96)), some (.inl x1_33), some (.inl x2_39), some (.inl x3_90), some (.inl (x4_90 + (A15 112 ((120 * (x1_33 + 1)) + x5_90).toNatClampNeg))), some (.inl (x5_90 + 1)), some (.inl (r15 + (A15 111 ((120 * (x1_33 + 1)) + x5_90).toNatClampNeg)))]) (st' := []) (I' := I15) rfl rfl ?_
                              refine g_goto hC dX9_findOrder_182 (tgt := 90) (by decide) ?_
                              exact g_weak (ls1 := [some (.inr (some 96)), some (.inl x1_33), some (.inl x2_39), some (.inl x3_90), some (.inl (x4_90 + (A15 112 ((120 * (x1_33 + 1)) + x5_90).toNatClampNeg))), some (.inl (x5_90 + 1)), none]) rfl (And.intro rfl (And.intro rfl (And.intro rfl (And.intro rfl (And.intro rfl (And.intro rfl trivial)))))) (ih90 x3_90 (x4_90 + (A15 112 ((120 * (x1_33 + 1)) + x5_90).toNatClampNeg)) (x5_90 + 1) I15 A15 hv.1 (Nat.lt_of_lt_of_le hv.2 (Nat.le_of_lt_succ hn90)))
                          · have hv := hv2 hc
                            clear hv1 hv2 hc
                            refine g_blk hC _ bX9_findOrder_148_157 (pc' := 157) (ls' := [some (.inr (some 96)), some (.inl x1_33), some (.inl x2_39), some (.inl (r15 + (A15 111 ((120 * (x1_33 + 1)) + x5_90).toNatClampNeg))), some (.inl 0), some (.inl x5_90), some (.inl (r15 + (A15 111 ((120 * (x1_33 + 1)) + x5_90).toNatClampNeg)))]) (st' := [.inl (r15 + (A15 111 ((120 * (x1_33 + 1)) + x5_90).toNatClampNeg)), .inl (r15 + (A15 111 ((120 * (x1_33 + 1)) + x5_90).toNatClampNeg))]) (I' := I15) rfl rfl ?_
                            obtain ⟨hv1, hv2⟩ := hv
                            refine g_cne hC dX9_findOrder_157 (tgt := 179) (by decide) (fun hc => ?_) (fun hc => ?_)
                            · have hv := hv1 hc
                              clear hv1 hv2 hc
                              refine g_blk hC _ bX9_findOrder_179_182 (pc' := 182) (ls' := [some (.inr (some 96)), some (.inl x1_33), some (.inl x2_39), some (.inl (r15 + (A15 111 ((120 * (x1_33 + 1)) + x5_90).toNatClampNeg))), some (.inl 0), some (.inl (x5_90 + 1)), some (.inl (r15 + (A15 111 ((120 * (x1_33 + 1)) + x5_90).toNatClampNeg)))]) (st' := []) (I' := I15) rfl rfl ?_
                              refine g_goto hC dX9_findOrder_182 (tgt := 90) (by decide) ?_
                              exact g_weak (ls1 := [some (.inr (some 96)), some (.inl x1_33), some (.inl x2_39), some (.inl (r15 + (A15 111 ((120 * (x1_33 + 1)) + x5_90).toNatClampNeg))), some (.inl 0), some (.inl (x5_90 + 1)), none]) rfl (And.intro rfl (And.intro rfl (And.intro rfl (And.intro rfl (And.intro rfl (And.intro rfl trivial)))))) (ih90 (r15 + (A15 111 ((120 * (x1_33 + 1)) + x5_90).toNatClampNeg)) 0 (x5_90 + 1) I15 A15 hv.1 (Nat.lt_of_lt_of_le hv.2 (Nat.le_of_lt_succ hn90)))
                            · have hv := hv2 hc
                              clear hv1 hv2 hc
                              refine g_blk hC _ bX9_findOrder_160_175 (pc' := 175) (ls' := [some (.inr (some 96)), some (.inl x1_33), some (.inl x2_39), some (.inl (r15 + (A15 111 ((120 * (x1_33 + 1)) + x5_90).toNatClampNeg))), some (.inl 0), some (.inl x5_90), some (.inl (r15 + (A15 111 ((120 * (x1_33 + 1)) + x5_90).toNatClampNeg)))]) (st' := [.inl ((120 * (x1_33 + 1)) + x5_90), .inr (some 112), .inl 0]) (I' := I15) rfl rfl ?_
                              obtain ⟨hi, hv⟩ := hv
                              refine g_iald hC dX9_findOrder_175 (rfl) hi ?_
                              clear hi
                              refine g_blk hC _ bX9_findOrder_176_182 (pc' := 182) (ls' := [some (.inr (some 96)), some (.inl x1_33), some (.inl x2_39), some (.inl (r15 + (A15 111 ((120 * (x1_33 + 1)) + x5_90).toNatClampNeg))), some (.inl (0 + (A15 112 ((120 * (x1_33 + 1)) + x5_90).toNatClampNeg))), some (.inl (x5_90 + 1)), some (.inl (r15 + (A15 111 ((120 * (x1_33 + 1)) + x5_90).toNatClampNeg)))]) (st' := []) (I' := I15) rfl rfl ?_
                              refine g_goto hC dX9_findOrder_182 (tgt := 90) (by decide) ?_
                              exact g_weak (ls1 := [some (.inr (some 96)), some (.inl x1_33), some (.inl x2_39), some (.inl (r15 + (A15 111 ((120 * (x1_33 + 1)) + x5_90).toNatClampNeg))), some (.inl (0 + (A15 112 ((120 * (x1_33 + 1)) + x5_90).toNatClampNeg))), some (.inl (x5_90 + 1)), none]) rfl (And.intro rfl (And.intro rfl (And.intro rfl (And.intro rfl (And.intro rfl (And.intro rfl trivial)))))) (ih90 (r15 + (A15 111 ((120 * (x1_33 + 1)) + x5_90).toNatClampNeg)) (0 + (A15 112 ((120 * (x1_33 + 1)) + x5_90).toNatClampNeg)) (x5_90 + 1) I15 A15 hv.1 (Nat.lt_of_lt_of_le hv.2 (Nat.le_of_lt_succ hn90)))
                  exact g_weak (ls1 := [some (.inr (some 96)), some (.inl x1_33), some (.inl x2_39), some (.inl x3_87), some (.inl x4_87), some (.inl 0), none]) rfl (And.intro rfl (And.intro rfl (And.intro rfl (And.intro rfl (And.intro rfl (And.intro rfl trivial)))))) (L90 _ x3_87 x4_87 0 I_39 A_39 hi90 (Nat.lt_succ_self _))
                refine g_blk hC _ bX9_findOrder_53_60 (pc' := 60) (ls' := [some (.inr (some 96)), some (.inl x1_33), some (.inl x2_39), none, none, none, none]) (st' := [.inl ((I_39 96 12) - 1), .inl x1_33]) (I' := I_39) rfl rfl ?_
                obtain ⟨hv1, hv2⟩ := hv
                refine g_cne hC dX9_findOrder_60 (tgt := 67) (by decide) (fun hc => ?_) (fun hc => ?_)
                · have hv := hv1 hc
                  clear hv1 hv2 hc
                  refine g_blk hC _ bX9_findOrder_67_77 (pc' := 77) (ls' := [some (.inr (some 96)), some (.inl x1_33), some (.inl x2_39), some (.inl 1000000000), none, none, none]) (st' := [.inl ((I_39 96 12) - 1), .inl x1_33]) (I' := I_39) rfl rfl ?_
                  obtain ⟨hv1, hv2⟩ := hv
                  refine g_cne hC dX9_findOrder_77 (tgt := 84) (by decide) (fun hc => ?_) (fun hc => ?_)
                  · have hv := hv1 hc
                    clear hv1 hv2 hc
                    refine g_blk hC _ bX9_findOrder_84_87 (pc' := 87) (ls' := [some (.inr (some 96)), some (.inl x1_33), some (.inl x2_39), some (.inl 1000000000), some (.inl 0), none, none]) (st' := []) (I' := I_39) rfl rfl ?_
                    exact g_weak (ls1 := [some (.inr (some 96)), some (.inl x1_33), some (.inl x2_39), some (.inl 1000000000), some (.inl 0), none, none]) rfl (And.intro rfl (And.intro rfl (And.intro rfl (And.intro rfl (And.intro rfl trivial))))) (J87 1000000000 0 hv)
                  · have hv := hv2 hc
                    clear hv1 hv2 hc
                    refine g_blk hC _ bX9_findOrder_80_81 (pc' := 81) (ls' := [some (.inr (some 96)), some (.inl x1_33), some (.inl x2_39), some (.inl 1000000000), none, none, none]) (st' := [.inl 1]) (I' := I_39) rfl rfl ?_
                    refine g_goto hC dX9_findOrder_81 (tgt := 85) (by decide) ?_
                    refine g_blk hC _ bX9_findOrder_85_87 (pc' := 87) (ls' := [some (.inr (some 96)), some (.inl x1_33), some (.inl x2_39), some (.inl 1000000000), some (.inl 1), none, none]) (st' := []) (I' := I_39) rfl rfl ?_
                    exact g_weak (ls1 := [some (.inr (some 96)), some (.inl x1_33), some (.inl x2_39), some (.inl 1000000000), some (.inl 1), none, none]) rfl (And.intro rfl (And.intro rfl (And.intro rfl (And.intro rfl (And.intro rfl trivial))))) (J87 1000000000 1 hv)
                · have hv := hv2 hc
                  clear hv1 hv2 hc
                  refine g_blk hC _ bX9_findOrder_63_64 (pc' := 64) (ls' := [some (.inr (some 96)), some (.inl x1_33), some (.inl x2_39), none, none, none, none]) (st' := [.inl 0]) (I' := I_39) rfl rfl ?_
                  refine g_goto hC dX9_findOrder_64 (tgt := 69) (by decide) ?_
                  refine g_blk hC _ bX9_findOrder_69_77 (pc' := 77) (ls' := [some (.inr (some 96)), some (.inl x1_33), some (.inl x2_39), some (.inl 0), none, none, none]) (st' := [.inl ((I_39 96 12) - 1), .inl x1_33]) (I' := I_39) rfl rfl ?_
                  obtain ⟨hv1, hv2⟩ := hv
                  refine g_cne hC dX9_findOrder_77 (tgt := 84) (by decide) (fun hc => ?_) (fun hc => ?_)
                  · have hv := hv1 hc
                    clear hv1 hv2 hc
                    refine g_blk hC _ bX9_findOrder_84_87 (pc' := 87) (ls' := [some (.inr (some 96)), some (.inl x1_33), some (.inl x2_39), some (.inl 0), some (.inl 0), none, none]) (st' := []) (I' := I_39) rfl rfl ?_
                    exact g_weak (ls1 := [some (.inr (some 96)), some (.inl x1_33), some (.inl x2_39), some (.inl 0), some (.inl 0), none, none]) rfl (And.intro rfl (And.intro rfl (And.intro rfl (And.intro rfl (And.intro rfl trivial))))) (J87 0 0 hv)
                  · have hv := hv2 hc
                    clear hv1 hv2 hc
                    refine g_blk hC _ bX9_findOrder_80_81 (pc' := 81) (ls' := [some (.inr (some 96)), some (.inl x1_33), some (.inl x2_39), some (.inl 0), none, none, none]) (st' := [.inl 1]) (I' := I_39) rfl rfl ?_
                    refine g_goto hC dX9_findOrder_81 (tgt := 85) (by decide) ?_
                    refine g_blk hC _ bX9_findOrder_85_87 (pc' := 87) (ls' := [some (.inr (some 96)), some (.inl x1_33), some (.inl x2_39), some (.inl 0), some (.inl 1), none, none]) (st' := []) (I' := I_39) rfl rfl ?_
                    exact g_weak (ls1 := [some (.inr (some 96)), some (.inl x1_33), some (.inl x2_39), some (.inl 0), some (.inl 1), none, none]) rfl (And.intro rfl (And.intro rfl (And.intro rfl (And.intro rfl (And.intro rfl trivial))))) (J87 0 1 hv)
          exact g_weak (ls1 := [some (.inr (some 96)), some (.inl x1_33), some (.inl 0), none, none, none, none]) rfl (And.intro rfl (And.intro rfl (And.intro rfl trivial))) (L39 _ 0 I_33 A_33 hi39 (Nat.lt_succ_self _))
    exact g_weak (ls1 := [some (.inr (some 96)), some (.inl (((up2 (up2 I4 96 27 0) 96 28 1) 96 12) - 1)), none, none, none, none, none]) rfl (And.intro rfl (And.intro rfl trivial)) (L33 _ (((up2 (up2 I4 96 27 0) 96 28 1) 96 12) - 1) (up2 (up2 I4 96 27 0) 96 28 1) A4 hi33 (Nat.lt_succ_self _))
  · have hv := hv2 hc
    clear hv1 hv2 hc
    exact g_retv hC hr dX9_findOrder_11 hv
theorem bX9_itemAt_0_2 : okB cX9_itemAt RX9 0 [(0, 0, 0, 0, 0), (7, 3, 0, 0, 0)] := And.intro ⟨_, dX9_itemAt_0, by decide⟩ (And.intro ⟨_, dX9_itemAt_1, rfl⟩ trivial)
theorem bX9_itemAt_2_9 : okB cX9_itemAt RX9 2 [(5, 0, 0, 0, 0), (3, 1, 0, 0, 0), (5, 0, 0, 0, 0), (23, 62, 9, 26, 0), (3, 1, 0, 0, 0)] := And.intro ⟨_, dX9_itemAt_2, rfl⟩ (And.intro ⟨_, dX9_itemAt_3, rfl⟩ (And.intro ⟨_, dX9_itemAt_4, rfl⟩ (And.intro ⟨dX9_itemAt_5, fl_X9_62⟩ (And.intro ⟨_, dX9_itemAt_8, rfl⟩ trivial))))
theorem bX9_itemAt_10_11 : okB cX9_itemAt RX9 10 [(3, 3, 0, 0, 0)] := And.intro ⟨_, dX9_itemAt_10, rfl⟩ trivial
theorem bX9_itemAt_14_15 : okB cX9_itemAt RX9 14 [(3, 2, 0, 0, 0)] := And.intro ⟨_, dX9_itemAt_14, rfl⟩ trivial
theorem bX9_itemAt_25_26 : okB cX9_itemAt RX9 25 [(3, 3, 0, 0, 0)] := And.intro ⟨_, dX9_itemAt_25, rfl⟩ trivial
theorem bX9_itemAt_18_22 : okB cX9_itemAt RX9 18 [(3, 3, 0, 0, 0), (0, 0, 0, 0, 1), (12, 0, 0, 0, 0), (7, 3, 0, 0, 0)] := And.intro ⟨_, dX9_itemAt_18, rfl⟩ (And.intro ⟨_, dX9_itemAt_19, by decide⟩ (And.intro dX9_itemAt_20 (And.intro ⟨_, dX9_itemAt_21, rfl⟩ trivial)))
set_option maxHeartbeats 4000000 in
set_option maxRecDepth 100000 in
theorem k_X9_itemAt (l : Launch) (D : va_G) (ads : AD) (I A : HI) (a1 : Int32) (a2 : Int32) (po : Option AV → HI → HI → Prop) (Iv2 : Int32 → Prop) (mu2 : Int32 → Nat)
    (hv : (Iv2 0 ∧ ∀ (x3_2 : Int32), Iv2 x3_2 → (vp_in a1 10 ∧ ((stO0 (A 104) a1 (A 113 a1.toNatClampNeg) x3_2) ∧ (((stO (A 104) (A 110) a1 (A 113 a1.toNatClampNeg) x3_2) = a2 → po (some (.inl x3_2)) I A) ∧ (¬ (stO (A 104) (A 110) a1 (A 113 a1.toNatClampNeg) x3_2) = a2 → (Iv2 (x3_2 + 1) ∧ mu2 (x3_2 + 1) < mu2 x3_2))))))) : Ct l yX9_itemAt cX9_itemAt 4 (some .int) 1 23 D ads shp [.inr (some 96), .inl a1, .inl a2] I A po := by
  refine Ct_of (by decide) (Nat.le_of_ble_eq_true rfl) ?_
  intro p e s m args below meth c hC hr
  replace hC : CX p s m args meth c cX9_itemAt 4 RX9 (AdS ads s.heap.size) := hC
  show Gm p l e s m args below meth c D ads 1 23 4 po I A 0 [some (.inr (some 96)), some (.inl a1), some (.inl a2), none] []
  refine g_blk hC _ bX9_itemAt_0_2 (pc' := 2) (ls' := [some (.inr (some 96)), some (.inl a1), some (.inl a2), some (.inl 0)]) (st' := []) (I' := I) rfl rfl ?_
  obtain ⟨hi2, hb2⟩ := hv
  have L2 : ∀ (n : Nat) (x3_2 : Int32), Iv2 x3_2 → mu2 x3_2 < n → Gm p l e s m args below meth c D ads 1 23 4 po I A 2 [some (.inr (some 96)), some (.inl a1), some (.inl a2), some (.inl x3_2)] [] := by
    intro n
    induction n with
    | zero => intro x3_2 _ hn; exact absurd hn (Nat.not_lt_zero _)
    | succ n ih2 =>
      intro x3_2 hv hn2
      replace hv := hb2 x3_2 hv
      skip
      refine g_blk hC _ bX9_itemAt_2_9 (pc' := 9) (ls' := [some (.inr (some 96)), some (.inl a1), some (.inl a2), some (.inl x3_2)]) (st' := [.inl a1, .inr (some 113), .inl a1, .inr (some 96)]) (I' := I) rfl rfl ?_
      obtain ⟨hi, hv⟩ := hv
      refine g_iald hC dX9_itemAt_9 (rfl) hi ?_
      clear hi
      refine g_blk hC _ bX9_itemAt_10_11 (pc' := 11) (ls' := [some (.inr (some 96)), some (.inl a1), some (.inl a2), some (.inl x3_2)]) (st' := [.inl x3_2, .inl (A 113 a1.toNatClampNeg), .inl a1, .inr (some 96)]) (I' := I) rfl rfl ?_
      obtain ⟨hp1, hv⟩ := hv
      refine g_callV hC (c_X9_standOf l D ads I A a1 (A 113 a1.toNatClampNeg) x3_2 hp1) dX9_itemAt_11 nm_X9_standOf rfl rfl wl_X9_131 wi_X9_standOf ws_X9_standOf wn_X9 wc_X9_standOf ⟨by decide, by decide⟩ (as := [.inl a1, .inl (A 113 a1.toNatClampNeg), .inl x3_2]) (rest := []) rfl (Nat.le_of_ble_eq_true rfl) ⟨Nat.le_refl _, Nat.le_refl _⟩ (k_qI ?_)
      refine g_blk hC _ bX9_itemAt_14_15 (pc' := 15) (ls' := [some (.inr (some 96)), some (.inl a1), some (.inl a2), some (.inl x3_2)]) (st' := [.inl a2, .inl (stO (A 104) (A 110) a1 (A 113 a1.toNatClampNeg) x3_2)]) (I' := I) rfl rfl ?_
      obtain ⟨hv1, hv2⟩ := hv
      refine g_ceq hC dX9_itemAt_15 (tgt := 25) (by decide) (fun hc => ?_) (fun hc => ?_)
      · have hv := hv1 hc
        clear hv1 hv2 hc
        refine g_blk hC _ bX9_itemAt_25_26 (pc' := 26) (ls' := [some (.inr (some 96)), some (.inl a1), some (.inl a2), some (.inl x3_2)]) (st' := [.inl x3_2]) (I' := I) rfl rfl ?_
        exact g_reti hC hr rfl dX9_itemAt_26 hv
      · have hv := hv2 hc
        clear hv1 hv2 hc
        refine g_blk hC _ bX9_itemAt_18_22 (pc' := 22) (ls' := [some (.inr (some 96)), some (.inl a1), some (.inl a2), some (.inl (x3_2 + 1))]) (st' := []) (I' := I) rfl rfl ?_
        refine g_goto hC dX9_itemAt_22 (tgt := 2) (by decide) ?_
        exact g_weak (ls1 := [some (.inr (some 96)), some (.inl a1), some (.inl a2), some (.inl (x3_2 + 1))]) rfl (And.intro rfl (And.intro rfl (And.intro rfl (And.intro rfl trivial)))) (ih2 (x3_2 + 1) hv.1 (Nat.lt_of_lt_of_le hv.2 (Nat.le_of_lt_succ hn2)))
  exact g_weak (ls1 := [some (.inr (some 96)), some (.inl a1), some (.inl a2), some (.inl 0)]) rfl (And.intro rfl (And.intro rfl (And.intro rfl (And.intro rfl trivial)))) (L2 _ 0 hi2 (Nat.lt_succ_self _))
theorem bX9_sizeOf_0_3 : okB cX9_sizeOf RX9 0 [(3, 1, 0, 0, 0), (1, 0, 0, 0, 100)] := And.intro ⟨_, dX9_sizeOf_0, rfl⟩ (And.intro ⟨_, dX9_sizeOf_1, by decide⟩ trivial)
theorem bX9_sizeOf_16_23 : okB cX9_sizeOf RX9 16 [(0, 0, 0, 0, 0), (7, 2, 0, 0, 0), (0, 0, 0, 0, 0), (7, 3, 0, 0, 0), (0, 0, 0, 0, 0), (8, 4, 0, 0, 0)] := And.intro ⟨_, dX9_sizeOf_16, by decide⟩ (And.intro ⟨_, dX9_sizeOf_17, rfl⟩ (And.intro ⟨_, dX9_sizeOf_18, by decide⟩ (And.intro ⟨_, dX9_sizeOf_19, rfl⟩ (And.intro ⟨_, dX9_sizeOf_20, by decide⟩ (And.intro dX9_sizeOf_21 trivial)))))
theorem bX9_sizeOf_23_27 : okB cX9_sizeOf RX9 23 [(4, 4, 0, 0, 0), (1, 0, 0, 0, 10)] := And.intro dX9_sizeOf_23 (And.intro ⟨_, dX9_sizeOf_25, by decide⟩ trivial)
theorem bX9_sizeOf_86_88 : okB cX9_sizeOf RX9 86 [(3, 2, 0, 0, 0), (3, 3, 0, 0, 0)] := And.intro ⟨_, dX9_sizeOf_86, rfl⟩ (And.intro ⟨_, dX9_sizeOf_87, rfl⟩ trivial)
theorem bX9_sizeOf_95_100 : okB cX9_sizeOf RX9 95 [(3, 3, 0, 0, 0), (8, 4, 0, 0, 0), (4, 4, 0, 0, 0)] := And.intro ⟨_, dX9_sizeOf_95, rfl⟩ (And.intro dX9_sizeOf_96 (And.intro dX9_sizeOf_98 trivial))
theorem bX9_sizeOf_107_109 : okB cX9_sizeOf RX9 107 [(4, 4, 0, 0, 0)] := And.intro dX9_sizeOf_107 trivial
theorem bX9_sizeOf_103_104 : okB cX9_sizeOf RX9 103 [(0, 0, 0, 0, 1)] := And.intro ⟨_, dX9_sizeOf_103, by decide⟩ trivial
theorem bX9_sizeOf_91_92 : okB cX9_sizeOf RX9 91 [(3, 2, 0, 0, 0)] := And.intro ⟨_, dX9_sizeOf_91, rfl⟩ trivial
theorem bX9_sizeOf_96_100 : okB cX9_sizeOf RX9 96 [(8, 4, 0, 0, 0), (4, 4, 0, 0, 0)] := And.intro dX9_sizeOf_96 (And.intro dX9_sizeOf_98 trivial)
theorem bX9_sizeOf_30_34 : okB cX9_sizeOf RX9 30 [(5, 0, 0, 0, 0), (4, 4, 0, 0, 0), (3, 1, 0, 0, 0)] := And.intro ⟨_, dX9_sizeOf_30, rfl⟩ (And.intro dX9_sizeOf_31 (And.intro ⟨_, dX9_sizeOf_33, rfl⟩ trivial))
theorem bX9_sizeOf_55_59 : okB cX9_sizeOf RX9 55 [(5, 0, 0, 0, 0), (3, 1, 0, 0, 0), (4, 4, 0, 0, 0)] := And.intro ⟨_, dX9_sizeOf_55, rfl⟩ (And.intro ⟨_, dX9_sizeOf_56, rfl⟩ (And.intro dX9_sizeOf_57 trivial))
theorem bX9_sizeOf_80_83 : okB cX9_sizeOf RX9 80 [(11, 4, 0, 0, 1)] := And.intro ⟨_, dX9_sizeOf_80, by decide⟩ trivial
theorem bX9_sizeOf_65_77 : okB cX9_sizeOf RX9 65 [(3, 3, 0, 0, 0), (5, 0, 0, 0, 0), (23, 7, 9, 1, 0), (1, 0, 0, 0, 10), (3, 1, 0, 0, 0), (14, 0, 0, 0, 0), (4, 4, 0, 0, 0), (12, 0, 0, 0, 0)] := And.intro ⟨_, dX9_sizeOf_65, rfl⟩ (And.intro ⟨_, dX9_sizeOf_66, rfl⟩ (And.intro ⟨dX9_sizeOf_67, fl_X9_7⟩ (And.intro ⟨_, dX9_sizeOf_70, by decide⟩ (And.intro ⟨_, dX9_sizeOf_72, rfl⟩ (And.intro dX9_sizeOf_73 (And.intro dX9_sizeOf_74 (And.intro dX9_sizeOf_76 trivial)))))))
theorem bX9_sizeOf_78_83 : okB cX9_sizeOf RX9 78 [(12, 0, 0, 0, 0), (7, 3, 0, 0, 0), (11, 4, 0, 0, 1)] := And.intro dX9_sizeOf_78 (And.intro ⟨_, dX9_sizeOf_79, rfl⟩ (And.intro ⟨_, dX9_sizeOf_80, by decide⟩ trivial))
theorem bX9_sizeOf_40_52 : okB cX9_sizeOf RX9 40 [(3, 2, 0, 0, 0), (5, 0, 0, 0, 0), (23, 7, 9, 1, 0), (1, 0, 0, 0, 10), (4, 4, 0, 0, 0), (14, 0, 0, 0, 0), (3, 1, 0, 0, 0), (12, 0, 0, 0, 0)] := And.intro ⟨_, dX9_sizeOf_40, rfl⟩ (And.intro ⟨_, dX9_sizeOf_41, rfl⟩ (And.intro ⟨dX9_sizeOf_42, fl_X9_7⟩ (And.intro ⟨_, dX9_sizeOf_45, by decide⟩ (And.intro dX9_sizeOf_47 (And.intro dX9_sizeOf_49 (And.intro ⟨_, dX9_sizeOf_50, rfl⟩ (And.intro dX9_sizeOf_51 trivial)))))))
theorem bX9_sizeOf_53_59 : okB cX9_sizeOf RX9 53 [(12, 0, 0, 0, 0), (7, 2, 0, 0, 0), (5, 0, 0, 0, 0), (3, 1, 0, 0, 0), (4, 4, 0, 0, 0)] := And.intro dX9_sizeOf_53 (And.intro ⟨_, dX9_sizeOf_54, rfl⟩ (And.intro ⟨_, dX9_sizeOf_55, rfl⟩ (And.intro ⟨_, dX9_sizeOf_56, rfl⟩ (And.intro dX9_sizeOf_57 trivial))))
theorem bX9_sizeOf_6_14 : okB cX9_sizeOf RX9 6 [(5, 0, 0, 0, 0), (23, 7, 9, 1, 0), (3, 1, 0, 0, 0), (1, 0, 0, 0, 100), (13, 0, 0, 0, 0)] := And.intro ⟨_, dX9_sizeOf_6, rfl⟩ (And.intro ⟨dX9_sizeOf_7, fl_X9_7⟩ (And.intro ⟨_, dX9_sizeOf_10, rfl⟩ (And.intro ⟨_, dX9_sizeOf_11, by decide⟩ (And.intro dX9_sizeOf_13 trivial))))
set_option maxHeartbeats 4000000 in
set_option maxRecDepth 100000 in
theorem k_X9_sizeOf (l : Launch) (D : va_G) (ads : AD) (I A : HI) (a1 : Int32) (po : Option AV → HI → HI → Prop) (Iv23 : Int32 → Int32 → Int32 → Prop) (mu23 : Int32 → Int32 → Int32 → Nat)
    (hv : ((a1 < 100 → (Iv23 0 0 0 ∧ ∀ (x2_23 : Int32) (x3_23 : Int32) (x4_23 : Int32), Iv23 x2_23 x3_23 x4_23 → ((10 ≤ x4_23 → ((x2_23 ≤ x3_23 → ((¬ x3_23 = 0 → po (some (.inl x3_23)) I A) ∧ (x3_23 = 0 → po (some (.inl 1)) I A))) ∧ (¬ x2_23 ≤ x3_23 → ((¬ x2_23 = 0 → po (some (.inl x2_23)) I A) ∧ (x2_23 = 0 → po (some (.inl 1)) I A))))) ∧ (¬ 10 ≤ x4_23 → ((vp_in x4_23 10 ∧ vp_in a1 10) ∧ (((isS (A 97) (A 101) x4_23 a1) = 0 → ((vp_in a1 10 ∧ vp_in x4_23 10) ∧ (((isS (A 97) (A 101) a1 x4_23) = 0 → (Iv23 x2_23 x3_23 (x4_23 + 1) ∧ mu23 x2_23 x3_23 (x4_23 + 1) < mu23 x2_23 x3_23 x4_23)) ∧ (¬ (isS (A 97) (A 101) a1 x4_23) = 0 → (vp_in ((10 * a1) + x4_23) 100 ∧ (Iv23 x2_23 (x3_23 + (A 97 ((10 * a1) + x4_23).toNatClampNeg)) (x4_23 + 1) ∧ mu23 x2_23 (x3_23 + (A 97 ((10 * a1) + x4_23).toNatClampNeg)) (x4_23 + 1) < mu23 x2_23 x3_23 x4_23)))))) ∧ (¬ (isS (A 97) (A 101) x4_23 a1) = 0 → (vp_in ((10 * x4_23) + a1) 100 ∧ ((vp_in a1 10 ∧ vp_in x4_23 10) ∧ (((isS (A 97) (A 101) a1 x4_23) = 0 → (Iv23 (x2_23 + (A 97 ((10 * x4_23) + a1).toNatClampNeg)) x3_23 (x4_23 + 1) ∧ mu23 (x2_23 + (A 97 ((10 * x4_23) + a1).toNatClampNeg)) x3_23 (x4_23 + 1) < mu23 x2_23 x3_23 x4_23)) ∧ (¬ (isS (A 97) (A 101) a1 x4_23) = 0 → (vp_in ((10 * a1) + x4_23) 100 ∧ (Iv23 (x2_23 + (A 97 ((10 * x4_23) + a1).toNatClampNeg)) (x3_23 + (A 97 ((10 * a1) + x4_23).toNatClampNeg)) (x4_23 + 1) ∧ mu23 (x2_23 + (A 97 ((10 * x4_23) + a1).toNatClampNeg)) (x3_23 + (A 97 ((10 * a1) + x4_23).toNatClampNeg)) (x4_23 + 1) < mu23 x2_23 x3_23 x4_23))))))))))))) ∧ (¬ a1 < 100 → (vp_in (a1 - 100) 100 ∧ po (some (.inl (A 97 (a1 - 100).toNatClampNeg))) I A)))) : Ct l yX9_sizeOf cX9_sizeOf 5 (some .int) 2 44 D ads shp [.inr (some 96), .inl a1] I A po := by
  refine Ct_of (by decide) (Nat.le_of_ble_eq_true rfl) ?_
  intro p e s m args below meth c hC hr
  replace hC : CX p s m args meth c cX9_sizeOf 5 RX9 (AdS ads s.heap.size) := hC
  show Gm p l e s m args below meth c D ads 2 44 5 po I A 0 [some (.inr (some 96)), some (.inl a1), none, none, none] []
  refine g_blk hC _ bX9_sizeOf_0_3 (pc' := 3) (ls' := [some (.inr (some 96)), some (.inl a1), none, none, none]) (st' := [.inl 100, .inl a1]) (I' := I) rfl rfl ?_
  obtain ⟨hv1, hv2⟩ := hv
  refine g_clt hC dX9_sizeOf_3 (tgt := 16) (by decide) (fun hc => ?_) (fun hc => ?_)
  · have hv := hv1 hc
    clear hv1 hv2 hc
    refine g_blk hC _ bX9_sizeOf_16_23 (pc' := 23) (ls' := [some (.inr (some 96)), some (.inl a1), some (.inl 0), some (.inl 0), some (.inl 0)]) (st' := []) (I' := I) rfl rfl ?_
    obtain ⟨hi23, hb23⟩ := hv
    have L23 : ∀ (n : Nat) (x2_23 : Int32) (x3_23 : Int32) (x4_23 : Int32), Iv23 x2_23 x3_23 x4_23 → mu23 x2_23 x3_23 x4_23 < n → Gm p l e s m args below meth c D ads 2 44 5 po I A 23 [some (.inr (some 96)), some (.inl a1), some (.inl x2_23), some (.inl x3_23), some (.inl x4_23)] [] := by
      intro n
      induction n with
      | zero => intro x2_23 x3_23 x4_23 _ hn; exact absurd hn (Nat.not_lt_zero _)
      | succ n ih23 =>
        intro x2_23 x3_23 x4_23 hv hn23
        replace hv := hb23 x2_23 x3_23 x4_23 hv
        skip
        refine g_blk hC _ bX9_sizeOf_23_27 (pc' := 27) (ls' := [some (.inr (some 96)), some (.inl a1), some (.inl x2_23), some (.inl x3_23), some (.inl x4_23)]) (st' := [.inl 10, .inl x4_23]) (I' := I) rfl rfl ?_
        obtain ⟨hv1, hv2⟩ := hv
        refine g_cge hC dX9_sizeOf_27 (tgt := 86) (by decide) (fun hc => ?_) (fun hc => ?_)
        · have hv := hv1 hc
          clear hv1 hv2 hc
          refine g_blk hC _ bX9_sizeOf_86_88 (pc' := 88) (ls' := [some (.inr (some 96)), some (.inl a1), some (.inl x2_23), some (.inl x3_23), some (.inl x4_23)]) (st' := [.inl x3_23, .inl x2_23]) (I' := I) rfl rfl ?_
          obtain ⟨hv1, hv2⟩ := hv
          refine g_cle hC dX9_sizeOf_88 (tgt := 95) (by decide) (fun hc => ?_) (fun hc => ?_)
          · have hv := hv1 hc
            clear hv1 hv2 hc
            refine g_blk hC _ bX9_sizeOf_95_100 (pc' := 100) (ls' := [some (.inr (some 96)), some (.inl a1), some (.inl x2_23), some (.inl x3_23), some (.inl x3_23)]) (st' := [.inl x3_23]) (I' := I) rfl rfl ?_
            obtain ⟨hv1, hv2⟩ := hv
            refine g_ifne hC dX9_sizeOf_100 (tgt := 107) (by decide) (fun hc => ?_) (fun hc => ?_)
            · have hv := hv1 hc
              clear hv1 hv2 hc
              refine g_blk hC _ bX9_sizeOf_107_109 (pc' := 109) (ls' := [some (.inr (some 96)), some (.inl a1), some (.inl x2_23), some (.inl x3_23), some (.inl x3_23)]) (st' := [.inl x3_23]) (I' := I) rfl rfl ?_
              exact g_reti hC hr rfl dX9_sizeOf_109 hv
            · have hv := hv2 hc
              clear hv1 hv2 hc
              refine g_blk hC _ bX9_sizeOf_103_104 (pc' := 104) (ls' := [some (.inr (some 96)), some (.inl a1), some (.inl x2_23), some (.inl x3_23), some (.inl x3_23)]) (st' := [.inl 1]) (I' := I) rfl rfl ?_
              refine g_goto hC dX9_sizeOf_104 (tgt := 109) (by decide) ?_
              exact g_reti hC hr rfl dX9_sizeOf_109 hv
          · have hv := hv2 hc
            clear hv1 hv2 hc
            refine g_blk hC _ bX9_sizeOf_91_92 (pc' := 92) (ls' := [some (.inr (some 96)), some (.inl a1), some (.inl x2_23), some (.inl x3_23), some (.inl x4_23)]) (st' := [.inl x2_23]) (I' := I) rfl rfl ?_
            refine g_goto hC dX9_sizeOf_92 (tgt := 96) (by decide) ?_
            refine g_blk hC _ bX9_sizeOf_96_100 (pc' := 100) (ls' := [some (.inr (some 96)), some (.inl a1), some (.inl x2_23), some (.inl x3_23), some (.inl x2_23)]) (st' := [.inl x2_23]) (I' := I) rfl rfl ?_
            obtain ⟨hv1, hv2⟩ := hv
            refine g_ifne hC dX9_sizeOf_100 (tgt := 107) (by decide) (fun hc => ?_) (fun hc => ?_)
            · have hv := hv1 hc
              clear hv1 hv2 hc
              refine g_blk hC _ bX9_sizeOf_107_109 (pc' := 109) (ls' := [some (.inr (some 96)), some (.inl a1), some (.inl x2_23), some (.inl x3_23), some (.inl x2_23)]) (st' := [.inl x2_23]) (I' := I) rfl rfl ?_
              exact g_reti hC hr rfl dX9_sizeOf_109 hv
            · have hv := hv2 hc
              clear hv1 hv2 hc
              refine g_blk hC _ bX9_sizeOf_103_104 (pc' := 104) (ls' := [some (.inr (some 96)), some (.inl a1), some (.inl x2_23), some (.inl x3_23), some (.inl x2_23)]) (st' := [.inl 1]) (I' := I) rfl rfl ?_
              refine g_goto hC dX9_sizeOf_104 (tgt := 109) (by decide) ?_
              exact g_reti hC hr rfl dX9_sizeOf_109 hv
        · have hv := hv2 hc
          clear hv1 hv2 hc
          refine g_blk hC _ bX9_sizeOf_30_34 (pc' := 34) (ls' := [some (.inr (some 96)), some (.inl a1), some (.inl x2_23), some (.inl x3_23), some (.inl x4_23)]) (st' := [.inl a1, .inl x4_23, .inr (some 96)]) (I' := I) rfl rfl ?_
          obtain ⟨hp1, hv⟩ := hv
          refine g_callV hC (c_X9_isStraight l D ads I A x4_23 a1 hp1) dX9_sizeOf_34 nm_X9_isStraight rfl rfl wl_X9_107 wi_X9_isStraight ws_X9_isStraight wn_X9 wc_X9_isStraight ⟨by decide, by decide⟩ (as := [.inl x4_23, .inl a1]) (rest := []) rfl (Nat.le_of_ble_eq_true rfl) ⟨Nat.le_refl _, Nat.le_refl _⟩ (k_qI ?_)
          obtain ⟨hv1, hv2⟩ := hv
          refine g_ifeq hC dX9_sizeOf_37 (tgt := 55) (by decide) (fun hc => ?_) (fun hc => ?_)
          · have hv := hv1 hc
            clear hv1 hv2 hc
            refine g_blk hC _ bX9_sizeOf_55_59 (pc' := 59) (ls' := [some (.inr (some 96)), some (.inl a1), some (.inl x2_23), some (.inl x3_23), some (.inl x4_23)]) (st' := [.inl x4_23, .inl a1, .inr (some 96)]) (I' := I) rfl rfl ?_
            obtain ⟨hp2, hv⟩ := hv
            refine g_callV hC (c_X9_isStraight l D ads I A a1 x4_23 hp2) dX9_sizeOf_59 nm_X9_isStraight rfl rfl wl_X9_107 wi_X9_isStraight ws_X9_isStraight wn_X9 wc_X9_isStraight ⟨by decide, by decide⟩ (as := [.inl a1, .inl x4_23]) (rest := []) rfl (Nat.le_of_ble_eq_true rfl) ⟨Nat.le_refl _, Nat.le_refl _⟩ (k_qI ?_)
            obtain ⟨hv1, hv2⟩ := hv
            refine g_ifeq hC dX9_sizeOf_62 (tgt := 80) (by decide) (fun hc => ?_) (fun hc => ?_)
            · have hv := hv1 hc
              clear hv1 hv2 hc
              refine g_blk hC _ bX9_sizeOf_80_83 (pc' := 83) (ls' := [some (.inr (some 96)), some (.inl a1), some (.inl x2_23), some (.inl x3_23), some (.inl (x4_23 + 1))]) (st' := []) (I' := I) rfl rfl ?_
              refine g_goto hC dX9_sizeOf_83 (tgt := 23) (by decide) ?_
              exact g_weak (ls1 := [some (.inr (some 96)), some (.inl a1), some (.inl x2_23), some (.inl x3_23), some (.inl (x4_23 + 1))]) rfl (And.intro rfl (And.intro rfl (And.intro rfl (And.intro rfl (And.intro rfl trivial))))) (ih23 x2_23 x3_23 (x4_23 + 1) hv.1 (Nat.lt_of_lt_of_le hv.2 (Nat.le_of_lt_succ hn23)))
            · have hv := hv2 hc
              clear hv1 hv2 hc
              refine g_blk hC _ bX9_sizeOf_65_77 (pc' := 77) (ls' := [some (.inr (some 96)), some (.inl a1), some (.inl x2_23), some (.inl x3_23), some (.inl x4_23)]) (st' := [.inl ((10 * a1) + x4_23), .inr (some 97), .inl x3_23]) (I' := I) rfl rfl ?_
              obtain ⟨hi, hv⟩ := hv
              refine g_iald hC dX9_sizeOf_77 (rfl) hi ?_
              clear hi
              refine g_blk hC _ bX9_sizeOf_78_83 (pc' := 83) (ls' := [some (.inr (some 96)), some (.inl a1), some (.inl x2_23), some (.inl (x3_23 + (A 97 ((10 * a1) + x4_23).toNatClampNeg))), some (.inl (x4_23 + 1))]) (st' := []) (I' := I) rfl rfl ?_
              refine g_goto hC dX9_sizeOf_83 (tgt := 23) (by decide) ?_
              exact g_weak (ls1 := [some (.inr (some 96)), some (.inl a1), some (.inl x2_23), some (.inl (x3_23 + (A 97 ((10 * a1) + x4_23).toNatClampNeg))), some (.inl (x4_23 + 1))]) rfl (And.intro rfl (And.intro rfl (And.intro rfl (And.intro rfl (And.intro rfl trivial))))) (ih23 x2_23 (x3_23 + (A 97 ((10 * a1) + x4_23).toNatClampNeg)) (x4_23 + 1) hv.1 (Nat.lt_of_lt_of_le hv.2 (Nat.le_of_lt_succ hn23)))
          · have hv := hv2 hc
            clear hv1 hv2 hc
            refine g_blk hC _ bX9_sizeOf_40_52 (pc' := 52) (ls' := [some (.inr (some 96)), some (.inl a1), some (.inl x2_23), some (.inl x3_23), some (.inl x4_23)]) (st' := [.inl ((10 * x4_23) + a1), .inr (some 97), .inl x2_23]) (I' := I) rfl rfl ?_
            obtain ⟨hi, hv⟩ := hv
            refine g_iald hC dX9_sizeOf_52 (rfl) hi ?_
            clear hi
            refine g_blk hC _ bX9_sizeOf_53_59 (pc' := 59) (ls' := [some (.inr (some 96)), some (.inl a1), some (.inl (x2_23 + (A 97 ((10 * x4_23) + a1).toNatClampNeg))), some (.inl x3_23), some (.inl x4_23)]) (st' := [.inl x4_23, .inl a1, .inr (some 96)]) (I' := I) rfl rfl ?_
            obtain ⟨hp3, hv⟩ := hv
            refine g_callV hC (c_X9_isStraight l D ads I A a1 x4_23 hp3) dX9_sizeOf_59 nm_X9_isStraight rfl rfl wl_X9_107 wi_X9_isStraight ws_X9_isStraight wn_X9 wc_X9_isStraight ⟨by decide, by decide⟩ (as := [.inl a1, .inl x4_23]) (rest := []) rfl (Nat.le_of_ble_eq_true rfl) ⟨Nat.le_refl _, Nat.le_refl _⟩ (k_qI ?_)
            obtain ⟨hv1, hv2⟩ := hv
            refine g_ifeq hC dX9_sizeOf_62 (tgt := 80) (by decide) (fun hc => ?_) (fun hc => ?_)
            · have hv := hv1 hc
              clear hv1 hv2 hc
              refine g_blk hC _ bX9_sizeOf_80_83 (pc' := 83) (ls' := [some (.inr (some 96)), some (.inl a1), some (.inl (x2_23 + (A 97 ((10 * x4_23) + a1).toNatClampNeg))), some (.inl x3_23), some (.inl (x4_23 + 1))]) (st' := []) (I' := I) rfl rfl ?_
              refine g_goto hC dX9_sizeOf_83 (tgt := 23) (by decide) ?_
              exact g_weak (ls1 := [some (.inr (some 96)), some (.inl a1), some (.inl (x2_23 + (A 97 ((10 * x4_23) + a1).toNatClampNeg))), some (.inl x3_23), some (.inl (x4_23 + 1))]) rfl (And.intro rfl (And.intro rfl (And.intro rfl (And.intro rfl (And.intro rfl trivial))))) (ih23 (x2_23 + (A 97 ((10 * x4_23) + a1).toNatClampNeg)) x3_23 (x4_23 + 1) hv.1 (Nat.lt_of_lt_of_le hv.2 (Nat.le_of_lt_succ hn23)))
            · have hv := hv2 hc
              clear hv1 hv2 hc
              refine g_blk hC _ bX9_sizeOf_65_77 (pc' := 77) (ls' := [some (.inr (some 96)), some (.inl a1), some (.inl (x2_23 + (A 97 ((10 * x4_23) + a1).toNatClampNeg))), some (.inl x3_23), some (.inl x4_23)]) (st' := [.inl ((10 * a1) + x4_23), .inr (some 97), .inl x3_23]) (I' := I) rfl rfl ?_
              obtain ⟨hi, hv⟩ := hv
              refine g_iald hC dX9_sizeOf_77 (rfl) hi ?_
              clear hi
              refine g_blk hC _ bX9_sizeOf_78_83 (pc' := 83) (ls' := [some (.inr (some 96)), some (.inl a1), some (.inl (x2_23 + (A 97 ((10 * x4_23) + a1).toNatClampNeg))), some (.inl (x3_23 + (A 97 ((10 * a1) + x4_23).toNatClampNeg))), some (.inl (x4_23 + 1))]) (st' := []) (I' := I) rfl rfl ?_
              refine g_goto hC dX9_sizeOf_83 (tgt := 23) (by decide) ?_
              exact g_weak (ls1 := [some (.inr (some 96)), some (.inl a1), some (.inl (x2_23 + (A 97 ((10 * x4_23) + a1).toNatClampNeg))), some (.inl (x3_23 + (A 97 ((10 * a1) + x4_23).toNatClampNeg))), some (.inl (x4_23 + 1))]) rfl (And.intro rfl (And.intro rfl (And.intro rfl (And.intro rfl (And.intro rfl trivial))))) (ih23 (x2_23 + (A 97 ((10 * x4_23) + a1).toNatClampNeg)) (x3_23 + (A 97 ((10 * a1) + x4_23).toNatClampNeg)) (x4_23 + 1) hv.1 (Nat.lt_of_lt_of_le hv.2 (Nat.le_of_lt_succ hn23)))
    exact g_weak (ls1 := [some (.inr (some 96)), some (.inl a1), some (.inl 0), some (.inl 0), some (.inl 0)]) rfl (And.intro rfl (And.intro rfl (And.intro rfl (And.intro rfl (And.intro rfl trivial))))) (L23 _ 0 0 0 hi23 (Nat.lt_succ_self _))
  · have hv := hv2 hc
    clear hv1 hv2 hc
    refine g_blk hC _ bX9_sizeOf_6_14 (pc' := 14) (ls' := [some (.inr (some 96)), some (.inl a1), none, none, none]) (st' := [.inl (a1 - 100), .inr (some 97)]) (I' := I) rfl rfl ?_
    obtain ⟨hi, hv⟩ := hv
    refine g_iald hC dX9_sizeOf_14 (rfl) hi ?_
    clear hi
    exact g_reti hC hr rfl dX9_sizeOf_15 hv
theorem bX9_topOf_0_5 : okB cX9_topOf RX9 0 [(0, 0, 0, 0, 0), (7, 3, 0, 0, 0), (0, 0, 0, 0, 0), (8, 4, 0, 0, 0)] := And.intro ⟨_, dX9_topOf_0, by decide⟩ (And.intro ⟨_, dX9_topOf_1, rfl⟩ (And.intro ⟨_, dX9_topOf_2, by decide⟩ (And.intro dX9_topOf_3 trivial)))
theorem bX9_topOf_5_14 : okB cX9_topOf RX9 5 [(4, 4, 0, 0, 0), (5, 0, 0, 0, 0), (3, 1, 0, 0, 0), (5, 0, 0, 0, 0), (23, 62, 9, 26, 0), (3, 1, 0, 0, 0)] := And.intro dX9_topOf_5 (And.intro ⟨_, dX9_topOf_7, rfl⟩ (And.intro ⟨_, dX9_topOf_8, rfl⟩ (And.intro ⟨_, dX9_topOf_9, rfl⟩ (And.intro ⟨dX9_topOf_10, fl_X9_62⟩ (And.intro ⟨_, dX9_topOf_13, rfl⟩ trivial)))))
theorem bX9_topOf_15_16 : okB cX9_topOf RX9 15 [(3, 2, 0, 0, 0)] := And.intro ⟨_, dX9_topOf_15, rfl⟩ trivial
theorem bX9_topOf_57_58 : okB cX9_topOf RX9 57 [(3, 3, 0, 0, 0)] := And.intro ⟨_, dX9_topOf_57, rfl⟩ trivial
theorem bX9_topOf_22_36 : okB cX9_topOf RX9 22 [(3, 3, 0, 0, 0), (5, 0, 0, 0, 0), (5, 0, 0, 0, 0), (23, 38, 9, 16, 0), (1, 0, 0, 0, 30), (3, 1, 0, 0, 0), (14, 0, 0, 0, 0), (5, 0, 0, 0, 0), (3, 1, 0, 0, 0), (4, 4, 0, 0, 0)] := And.intro ⟨_, dX9_topOf_22, rfl⟩ (And.intro ⟨_, dX9_topOf_23, rfl⟩ (And.intro ⟨_, dX9_topOf_24, rfl⟩ (And.intro ⟨dX9_topOf_25, fl_X9_38⟩ (And.intro ⟨_, dX9_topOf_28, by decide⟩ (And.intro ⟨_, dX9_topOf_30, rfl⟩ (And.intro dX9_topOf_31 (And.intro ⟨_, dX9_topOf_32, rfl⟩ (And.intro ⟨_, dX9_topOf_33, rfl⟩ (And.intro dX9_topOf_34 trivial)))))))))
theorem bX9_topOf_39_40 : okB cX9_topOf RX9 39 [(12, 0, 0, 0, 0)] := And.intro dX9_topOf_39 trivial
theorem bX9_topOf_44_54 : okB cX9_topOf RX9 44 [(12, 0, 0, 0, 0), (5, 0, 0, 0, 0), (23, 13, 9, 2, 0), (12, 0, 0, 0, 0), (7, 3, 0, 0, 0), (11, 4, 0, 0, 1)] := And.intro dX9_topOf_44 (And.intro ⟨_, dX9_topOf_45, rfl⟩ (And.intro ⟨dX9_topOf_46, fl_X9_13⟩ (And.intro dX9_topOf_49 (And.intro ⟨_, dX9_topOf_50, rfl⟩ (And.intro ⟨_, dX9_topOf_51, by decide⟩ trivial)))))
set_option maxHeartbeats 4000000 in
set_option maxRecDepth 100000 in
theorem k_X9_topOf (l : Launch) (D : va_G) (ads : AD) (I A : HI) (a1 : Int32) (a2 : Int32) (po : Option AV → HI → HI → Prop) {pp_X9_itemAt : HI → HI → Int32 → Int32 → Prop} {ff_X9_itemAt : HI → HI → Int32 → Int32 → Int32} (hh_X9_itemAt : ∀ (I A : HI) (a1 : Int32) (a2 : Int32), pp_X9_itemAt I A a1 a2 → Ct l yX9_itemAt cX9_itemAt 4 (some .int) 1 23 D ads shp [.inr (some 96), .inl a1, .inl a2] I A (qI (ff_X9_itemAt I A a1 a2) I A)) {pp_X9_sizeOf : HI → HI → Int32 → Prop} {ff_X9_sizeOf : HI → HI → Int32 → Int32} (hh_X9_sizeOf : ∀ (I A : HI) (a1 : Int32), pp_X9_sizeOf I A a1 → Ct l yX9_sizeOf cX9_sizeOf 5 (some .int) 2 44 D ads shp [.inr (some 96), .inl a1] I A (qI (ff_X9_sizeOf I A a1) I A)) (Iv5 : Int32 → Int32 → Prop) (mu5 : Int32 → Int32 → Nat)
    (hv : (Iv5 0 0 ∧ ∀ (x3_5 : Int32) (x4_5 : Int32), Iv5 x3_5 x4_5 → (vp_in a1 10 ∧ ((stO0 (A 104) a1 (A 113 a1.toNatClampNeg) a2) ∧ (((stO (A 104) (A 110) a1 (A 113 a1.toNatClampNeg) a2) ≤ x4_5 → po (some (.inl x3_5)) I A) ∧ (¬ (stO (A 104) (A 110) a1 (A 113 a1.toNatClampNeg) a2) ≤ x4_5 → ((pp_X9_itemAt I A a1 x4_5) ∧ (vp_in ((30 * a1) + (ff_X9_itemAt I A a1 x4_5)) 300 ∧ ((pp_X9_sizeOf I A (A 105 ((30 * a1) + (ff_X9_itemAt I A a1 x4_5)).toNatClampNeg)) ∧ (Iv5 ((x3_5 + (ff_X9_sizeOf I A (A 105 ((30 * a1) + (ff_X9_itemAt I A a1 x4_5)).toNatClampNeg))) + (I 96 2)) (x4_5 + 1) ∧ mu5 ((x3_5 + (ff_X9_sizeOf I A (A 105 ((30 * a1) + (ff_X9_itemAt I A a1 x4_5)).toNatClampNeg))) + (I 96 2)) (x4_5 + 1) < mu5 x3_5 x4_5)))))))))) : Ct l yX9_topOf cX9_topOf 5 (some .int) 3 68 D ads shp [.inr (some 96), .inl a1, .inl a2] I A po := by
  refine Ct_of (by decide) (Nat.le_of_ble_eq_true rfl) ?_
  intro p e s m args below meth c hC hr
  replace hC : CX p s m args meth c cX9_topOf 5 RX9 (AdS ads s.heap.size) := hC
  show Gm p l e s m args below meth c D ads 3 68 5 po I A 0 [some (.inr (some 96)), some (.inl a1), some (.inl a2), none, none] []
  refine g_blk hC _ bX9_topOf_0_5 (pc' := 5) (ls' := [some (.inr (some 96)), some (.inl a1), some (.inl a2), some (.inl 0), some (.inl 0)]) (st' := []) (I' := I) rfl rfl ?_
  obtain ⟨hi5, hb5⟩ := hv
  have L5 : ∀ (n : Nat) (x3_5 : Int32) (x4_5 : Int32), Iv5 x3_5 x4_5 → mu5 x3_5 x4_5 < n → Gm p l e s m args below meth c D ads 3 68 5 po I A 5 [some (.inr (some 96)), some (.inl a1), some (.inl a2), some (.inl x3_5), some (.inl x4_5)] [] := by
    intro n
    induction n with
    | zero => intro x3_5 x4_5 _ hn; exact absurd hn (Nat.not_lt_zero _)
    | succ n ih5 =>
      intro x3_5 x4_5 hv hn5
      replace hv := hb5 x3_5 x4_5 hv
      skip
      refine g_blk hC _ bX9_topOf_5_14 (pc' := 14) (ls' := [some (.inr (some 96)), some (.inl a1), some (.inl a2), some (.inl x3_5), some (.inl x4_5)]) (st' := [.inl a1, .inr (some 113), .inl a1, .inr (some 96), .inl x4_5]) (I' := I) rfl rfl ?_
      obtain ⟨hi, hv⟩ := hv
      refine g_iald hC dX9_topOf_14 (rfl) hi ?_
      clear hi
      refine g_blk hC _ bX9_topOf_15_16 (pc' := 16) (ls' := [some (.inr (some 96)), some (.inl a1), some (.inl a2), some (.inl x3_5), some (.inl x4_5)]) (st' := [.inl a2, .inl (A 113 a1.toNatClampNeg), .inl a1, .inr (some 96), .inl x4_5]) (I' := I) rfl rfl ?_
      obtain ⟨hp1, hv⟩ := hv
      refine g_callV hC (c_X9_standOf l D ads I A a1 (A 113 a1.toNatClampNeg) a2 hp1) dX9_topOf_16 nm_X9_standOf rfl rfl wl_X9_131 wi_X9_standOf ws_X9_standOf wn_X9 wc_X9_standOf ⟨by decide, by decide⟩ (as := [.inl a1, .inl (A 113 a1.toNatClampNeg), .inl a2]) (rest := [.inl x4_5]) rfl (Nat.le_of_ble_eq_true rfl) ⟨Nat.le_refl _, Nat.le_refl _⟩ (k_qI ?_)
      obtain ⟨hv1, hv2⟩ := hv
      refine g_cge hC dX9_topOf_19 (tgt := 57) (by decide) (fun hc => ?_) (fun hc => ?_)
      · have hv := hv1 hc
        clear hv1 hv2 hc
        refine g_blk hC _ bX9_topOf_57_58 (pc' := 58) (ls' := [some (.inr (some 96)), some (.inl a1), some (.inl a2), some (.inl x3_5), some (.inl x4_5)]) (st' := [.inl x3_5]) (I' := I) rfl rfl ?_
        exact g_reti hC hr rfl dX9_topOf_58 hv
      · have hv := hv2 hc
        clear hv1 hv2 hc
        refine g_blk hC _ bX9_topOf_22_36 (pc' := 36) (ls' := [some (.inr (some 96)), some (.inl a1), some (.inl a2), some (.inl x3_5), some (.inl x4_5)]) (st' := [.inl x4_5, .inl a1, .inr (some 96), .inl (30 * a1), .inr (some 105), .inr (some 96), .inl x3_5]) (I' := I) rfl rfl ?_
        obtain ⟨hp2, hv⟩ := hv
        refine g_callV hC (hh_X9_itemAt I A a1 x4_5 hp2) dX9_topOf_36 nm_X9_itemAt rfl rfl wl_X9_161 wi_X9_itemAt ws_X9_itemAt wn_X9 wc_X9_itemAt ⟨by decide, by decide⟩ (as := [.inl a1, .inl x4_5]) (rest := [.inl (30 * a1), .inr (some 105), .inr (some 96), .inl x3_5]) rfl (Nat.le_of_ble_eq_true rfl) ⟨Nat.le_refl _, Nat.le_refl _⟩ (k_qI ?_)
        refine g_blk hC _ bX9_topOf_39_40 (pc' := 40) (ls' := [some (.inr (some 96)), some (.inl a1), some (.inl a2), some (.inl x3_5), some (.inl x4_5)]) (st' := [.inl ((30 * a1) + (ff_X9_itemAt I A a1 x4_5)), .inr (some 105), .inr (some 96), .inl x3_5]) (I' := I) rfl rfl ?_
        obtain ⟨hi, hv⟩ := hv
        refine g_iald hC dX9_topOf_40 (rfl) hi ?_
        clear hi
        obtain ⟨hp3, hv⟩ := hv
        refine g_callV hC (hh_X9_sizeOf I A (A 105 ((30 * a1) + (ff_X9_itemAt I A a1 x4_5)).toNatClampNeg) hp3) dX9_topOf_41 nm_X9_sizeOf rfl rfl wl_X9_164 wi_X9_sizeOf ws_X9_sizeOf wn_X9 wc_X9_sizeOf ⟨by decide, by decide⟩ (as := [.inl (A 105 ((30 * a1) + (ff_X9_itemAt I A a1 x4_5)).toNatClampNeg)]) (rest := [.inl x3_5]) rfl (Nat.le_of_ble_eq_true rfl) ⟨Nat.le_refl _, Nat.le_refl _⟩ (k_qI ?_)
        refine g_blk hC _ bX9_topOf_44_54 (pc' := 54) (ls' := [some (.inr (some 96)), some (.inl a1), some (.inl a2), some (.inl ((x3_5 + (ff_X9_sizeOf I A (A 105 ((30 * a1) + (ff_X9_itemAt I A a1 x4_5)).toNatClampNeg))) + (I 96 2))), some (.inl (x4_5 + 1))]) (st' := []) (I' := I) rfl rfl ?_
        refine g_goto hC dX9_topOf_54 (tgt := 5) (by decide) ?_
        exact g_weak (ls1 := [some (.inr (some 96)), some (.inl a1), some (.inl a2), some (.inl ((x3_5 + (ff_X9_sizeOf I A (A 105 ((30 * a1) + (ff_X9_itemAt I A a1 x4_5)).toNatClampNeg))) + (I 96 2))), some (.inl (x4_5 + 1))]) rfl (And.intro rfl (And.intro rfl (And.intro rfl (And.intro rfl (And.intro rfl trivial))))) (ih5 ((x3_5 + (ff_X9_sizeOf I A (A 105 ((30 * a1) + (ff_X9_itemAt I A a1 x4_5)).toNatClampNeg))) + (I 96 2)) (x4_5 + 1) hv.1 (Nat.lt_of_lt_of_le hv.2 (Nat.le_of_lt_succ hn5)))
  exact g_weak (ls1 := [some (.inr (some 96)), some (.inl a1), some (.inl a2), some (.inl 0), some (.inl 0)]) rfl (And.intro rfl (And.intro rfl (And.intro rfl (And.intro rfl (And.intro rfl trivial))))) (L5 _ 0 0 hi5 (Nat.lt_succ_self _))
theorem bX9_flow_0_7 : okB cX9_flow RX9 0 [(5, 0, 0, 0, 0), (0, 0, 0, 0, 0), (24, 65, 9, 0, 0), (5, 0, 0, 0, 0), (3, 1, 0, 0, 0)] := And.intro ⟨_, dX9_flow_0, rfl⟩ (And.intro ⟨_, dX9_flow_1, by decide⟩ (And.intro ⟨dX9_flow_2, fl_X9_65, rfl, rfl⟩ (And.intro ⟨_, dX9_flow_5, rfl⟩ (And.intro ⟨_, dX9_flow_6, rfl⟩ trivial))))
theorem bX9_flow_36_37 : okB cX9_flow RX9 36 [(0, 0, 0, 0, 0)] := And.intro ⟨_, dX9_flow_36, by decide⟩ trivial
theorem bX9_flow_13_15 : okB cX9_flow RX9 13 [(5, 0, 0, 0, 0), (3, 2, 0, 0, 0)] := And.intro ⟨_, dX9_flow_13, rfl⟩ (And.intro ⟨_, dX9_flow_14, rfl⟩ trivial)
theorem bX9_flow_21_23 : okB cX9_flow RX9 21 [(3, 1, 0, 0, 0), (3, 2, 0, 0, 0)] := And.intro ⟨_, dX9_flow_21, rfl⟩ (And.intro ⟨_, dX9_flow_22, rfl⟩ trivial)
theorem bX9_flow_26_27 : okB cX9_flow RX9 26 [(3, 3, 0, 0, 0)] := And.intro ⟨_, dX9_flow_26, rfl⟩ trivial
theorem bX9_flow_30_33 : okB cX9_flow RX9 30 [(3, 3, 0, 0, 0), (1, 0, 0, 0, 99)] := And.intro ⟨_, dX9_flow_30, rfl⟩ (And.intro ⟨_, dX9_flow_31, by decide⟩ trivial)
theorem bX9_flow_38_39 : okB cX9_flow RX9 38 [(3, 3, 0, 0, 0)] := And.intro ⟨_, dX9_flow_38, rfl⟩ trivial
theorem bX9_flow_67_78 : okB cX9_flow RX9 67 [(5, 0, 0, 0, 0), (23, 7, 9, 1, 0), (1, 0, 0, 0, 10), (3, 1, 0, 0, 0), (14, 0, 0, 0, 0), (3, 2, 0, 0, 0), (12, 0, 0, 0, 0), (3, 3, 0, 0, 0)] := And.intro ⟨_, dX9_flow_67, rfl⟩ (And.intro ⟨dX9_flow_68, fl_X9_7⟩ (And.intro ⟨_, dX9_flow_71, by decide⟩ (And.intro ⟨_, dX9_flow_73, rfl⟩ (And.intro dX9_flow_74 (And.intro ⟨_, dX9_flow_75, rfl⟩ (And.intro dX9_flow_76 (And.intro ⟨_, dX9_flow_77, rfl⟩ trivial)))))))
theorem bX9_flow_79_80 : okB cX9_flow RX9 79 [(0, 0, 0, 0, 1)] := And.intro ⟨_, dX9_flow_79, by decide⟩ trivial
theorem bX9_flow_42_52 : okB cX9_flow RX9 42 [(5, 0, 0, 0, 0), (23, 7, 9, 1, 0), (1, 0, 0, 0, 10), (3, 1, 0, 0, 0), (14, 0, 0, 0, 0), (3, 2, 0, 0, 0), (12, 0, 0, 0, 0)] := And.intro ⟨_, dX9_flow_42, rfl⟩ (And.intro ⟨dX9_flow_43, fl_X9_7⟩ (And.intro ⟨_, dX9_flow_46, by decide⟩ (And.intro ⟨_, dX9_flow_48, rfl⟩ (And.intro dX9_flow_49 (And.intro ⟨_, dX9_flow_50, rfl⟩ (And.intro dX9_flow_51 trivial))))))
theorem bX9_flow_56_57 : okB cX9_flow RX9 56 [(5, 0, 0, 0, 0)] := And.intro ⟨_, dX9_flow_56, rfl⟩ trivial
theorem bX9_flow_60_62 : okB cX9_flow RX9 60 [(1, 0, 0, 0, 16)] := And.intro ⟨_, dX9_flow_60, by decide⟩ trivial
theorem bX9_flow_65_66 : okB cX9_flow RX9 65 [(0, 0, 0, 0, 0)] := And.intro ⟨_, dX9_flow_65, by decide⟩ trivial
set_option maxHeartbeats 4000000 in
set_option maxRecDepth 100000 in
theorem k_X9_flow (l : Launch) (D : va_G) (ads : AD) (I A : HI) (a1 : Int32) (a2 : Int32) (a3 : Int32) (po : Option AV → HI → HI → Prop)
    (hv : (((zP a1) = 0 → po (some (.inl 0)) (up2 I 96 0 0) A) ∧ (¬ (zP a1) = 0 → (((zP a2) = 0 → po (some (.inl 0)) (up2 I 96 0 0) A) ∧ (¬ (zP a2) = 0 → ((a1 = a2 → po (some (.inl 0)) (up2 I 96 0 0) A) ∧ (¬ a1 = a2 → ((a3 < 0 → po (some (.inl 0)) (up2 I 96 0 0) A) ∧ (¬ a3 < 0 → ((a3 ≤ 99 → ((a3 ≤ 0 → (vp_in ((10 * a1) + a2) 100 ∧ po (some (.inl 1)) (up2 I 96 0 0) (up2 A 97 ((10 * a1) + a2).toNatClampNeg a3))) ∧ (¬ a3 ≤ 0 → (vp_in ((10 * a1) + a2) 100 ∧ ((¬ (A 97 ((10 * a1) + a2).toNatClampNeg) = 0 → (vp_in ((10 * a1) + a2) 100 ∧ po (some (.inl 1)) (up2 I 96 0 0) (up2 A 97 ((10 * a1) + a2).toNatClampNeg a3))) ∧ ((A 97 ((10 * a1) + a2).toNatClampNeg) = 0 → ((¬ (cnI (A 97) 100) = 16 → (vp_in ((10 * a1) + a2) 100 ∧ po (some (.inl 1)) (up2 I 96 0 0) (up2 A 97 ((10 * a1) + a2).toNatClampNeg a3))) ∧ ((cnI (A 97) 100) = 16 → po (some (.inl 0)) (up2 I 96 0 0) A)))))))) ∧ (¬ a3 ≤ 99 → po (some (.inl 0)) (up2 I 96 0 0) A))))))))))) : Ct l yX9_flow cX9_flow 4 (some .boolean) 1 22 D ads shp [.inr (some 96), .inl a1, .inl a2, .inl a3] I A po := by
  refine Ct_of (by decide) (Nat.le_of_ble_eq_true rfl) ?_
  intro p e s m args below meth c hC hr
  replace hC : CX p s m args meth c cX9_flow 4 RX9 (AdS ads s.heap.size) := hC
  show Gm p l e s m args below meth c D ads 1 22 4 po I A 0 [some (.inr (some 96)), some (.inl a1), some (.inl a2), some (.inl a3)] []
  refine g_blk hC _ bX9_flow_0_7 (pc' := 7) (ls' := [some (.inr (some 96)), some (.inl a1), some (.inl a2), some (.inl a3)]) (st' := [.inl a1, .inr (some 96)]) (I' := up2 I 96 0 0) rfl rfl ?_
  refine g_callV hC (c_X9_isPlace l D ads (up2 I 96 0 0) A a1) dX9_flow_7 nm_X9_isPlace rfl rfl wl_X9_68 wi_X9_isPlace ws_X9_isPlace wn_X9 wc_X9_isPlace ⟨by decide, by decide⟩ (as := [.inl a1]) (rest := []) rfl (Nat.le_of_ble_eq_true rfl) ⟨Nat.le_refl _, Nat.le_refl _⟩ (k_qI ?_)
  obtain ⟨hv1, hv2⟩ := hv
  refine g_ifeq hC dX9_flow_10 (tgt := 36) (by decide) (fun hc => ?_) (fun hc => ?_)
  · have hv := hv1 hc
    clear hv1 hv2 hc
    refine g_blk hC _ bX9_flow_36_37 (pc' := 37) (ls' := [some (.inr (some 96)), some (.inl a1), some (.inl a2), some (.inl a3)]) (st' := [.inl 0]) (I' := up2 I 96 0 0) rfl rfl ?_
    exact g_reti hC hr (by decide) dX9_flow_37 hv
  · have hv := hv2 hc
    clear hv1 hv2 hc
    refine g_blk hC _ bX9_flow_13_15 (pc' := 15) (ls' := [some (.inr (some 96)), some (.inl a1), some (.inl a2), some (.inl a3)]) (st' := [.inl a2, .inr (some 96)]) (I' := up2 I 96 0 0) rfl rfl ?_
    refine g_callV hC (c_X9_isPlace l D ads (up2 I 96 0 0) A a2) dX9_flow_15 nm_X9_isPlace rfl rfl wl_X9_68 wi_X9_isPlace ws_X9_isPlace wn_X9 wc_X9_isPlace ⟨by decide, by decide⟩ (as := [.inl a2]) (rest := []) rfl (Nat.le_of_ble_eq_true rfl) ⟨Nat.le_refl _, Nat.le_refl _⟩ (k_qI ?_)
    obtain ⟨hv1, hv2⟩ := hv
    refine g_ifeq hC dX9_flow_18 (tgt := 36) (by decide) (fun hc => ?_) (fun hc => ?_)
    · have hv := hv1 hc
      clear hv1 hv2 hc
      refine g_blk hC _ bX9_flow_36_37 (pc' := 37) (ls' := [some (.inr (some 96)), some (.inl a1), some (.inl a2), some (.inl a3)]) (st' := [.inl 0]) (I' := up2 I 96 0 0) rfl rfl ?_
      exact g_reti hC hr (by decide) dX9_flow_37 hv
    · have hv := hv2 hc
      clear hv1 hv2 hc
      refine g_blk hC _ bX9_flow_21_23 (pc' := 23) (ls' := [some (.inr (some 96)), some (.inl a1), some (.inl a2), some (.inl a3)]) (st' := [.inl a2, .inl a1]) (I' := up2 I 96 0 0) rfl rfl ?_
      obtain ⟨hv1, hv2⟩ := hv
      refine g_ceq hC dX9_flow_23 (tgt := 36) (by decide) (fun hc => ?_) (fun hc => ?_)
      · have hv := hv1 hc
        clear hv1 hv2 hc
        refine g_blk hC _ bX9_flow_36_37 (pc' := 37) (ls' := [some (.inr (some 96)), some (.inl a1), some (.inl a2), some (.inl a3)]) (st' := [.inl 0]) (I' := up2 I 96 0 0) rfl rfl ?_
        exact g_reti hC hr (by decide) dX9_flow_37 hv
      · have hv := hv2 hc
        clear hv1 hv2 hc
        refine g_blk hC _ bX9_flow_26_27 (pc' := 27) (ls' := [some (.inr (some 96)), some (.inl a1), some (.inl a2), some (.inl a3)]) (st' := [.inl a3]) (I' := up2 I 96 0 0) rfl rfl ?_
        obtain ⟨hv1, hv2⟩ := hv
        refine g_iflt hC dX9_flow_27 (tgt := 36) (by decide) (fun hc => ?_) (fun hc => ?_)
        · have hv := hv1 hc
          clear hv1 hv2 hc
          refine g_blk hC _ bX9_flow_36_37 (pc' := 37) (ls' := [some (.inr (some 96)), some (.inl a1), some (.inl a2), some (.inl a3)]) (st' := [.inl 0]) (I' := up2 I 96 0 0) rfl rfl ?_
          exact g_reti hC hr (by decide) dX9_flow_37 hv
        · have hv := hv2 hc
          clear hv1 hv2 hc
          refine g_blk hC _ bX9_flow_30_33 (pc' := 33) (ls' := [some (.inr (some 96)), some (.inl a1), some (.inl a2), some (.inl a3)]) (st' := [.inl 99, .inl a3]) (I' := up2 I 96 0 0) rfl rfl ?_
          obtain ⟨hv1, hv2⟩ := hv
          refine g_cle hC dX9_flow_33 (tgt := 38) (by decide) (fun hc => ?_) (fun hc => ?_)
          · have hv := hv1 hc
            clear hv1 hv2 hc
            refine g_blk hC _ bX9_flow_38_39 (pc' := 39) (ls' := [some (.inr (some 96)), some (.inl a1), some (.inl a2), some (.inl a3)]) (st' := [.inl a3]) (I' := up2 I 96 0 0) rfl rfl ?_
            obtain ⟨hv1, hv2⟩ := hv
            refine g_ifle hC dX9_flow_39 (tgt := 67) (by decide) (fun hc => ?_) (fun hc => ?_)
            · have hv := hv1 hc
              clear hv1 hv2 hc
              refine g_blk hC _ bX9_flow_67_78 (pc' := 78) (ls' := [some (.inr (some 96)), some (.inl a1), some (.inl a2), some (.inl a3)]) (st' := [.inl a3, .inl ((10 * a1) + a2), .inr (some 97)]) (I' := up2 I 96 0 0) rfl rfl ?_
              obtain ⟨hi, hv⟩ := hv
              refine g_iast hC dX9_flow_78 (rfl) hi ?_
              clear hi
              refine g_blk hC _ bX9_flow_79_80 (pc' := 80) (ls' := [some (.inr (some 96)), some (.inl a1), some (.inl a2), some (.inl a3)]) (st' := [.inl 1]) (I' := up2 I 96 0 0) rfl rfl ?_
              exact g_reti hC hr (by decide) dX9_flow_80 hv
            · have hv := hv2 hc
              clear hv1 hv2 hc
              refine g_blk hC _ bX9_flow_42_52 (pc' := 52) (ls' := [some (.inr (some 96)), some (.inl a1), some (.inl a2), some (.inl a3)]) (st' := [.inl ((10 * a1) + a2), .inr (some 97)]) (I' := up2 I 96 0 0) rfl rfl ?_
              obtain ⟨hi, hv⟩ := hv
              refine g_iald hC dX9_flow_52 (rfl) hi ?_
              clear hi
              obtain ⟨hv1, hv2⟩ := hv
              refine g_ifne hC dX9_flow_53 (tgt := 67) (by decide) (fun hc => ?_) (fun hc => ?_)
              · have hv := hv1 hc
                clear hv1 hv2 hc
                refine g_blk hC _ bX9_flow_67_78 (pc' := 78) (ls' := [some (.inr (some 96)), some (.inl a1), some (.inl a2), some (.inl a3)]) (st' := [.inl a3, .inl ((10 * a1) + a2), .inr (some 97)]) (I' := up2 I 96 0 0) rfl rfl ?_
                obtain ⟨hi, hv⟩ := hv
                refine g_iast hC dX9_flow_78 (rfl) hi ?_
                clear hi
                refine g_blk hC _ bX9_flow_79_80 (pc' := 80) (ls' := [some (.inr (some 96)), some (.inl a1), some (.inl a2), some (.inl a3)]) (st' := [.inl 1]) (I' := up2 I 96 0 0) rfl rfl ?_
                exact g_reti hC hr (by decide) dX9_flow_80 hv
              · have hv := hv2 hc
                clear hv1 hv2 hc
                refine g_blk hC _ bX9_flow_56_57 (pc' := 57) (ls' := [some (.inr (some 96)), some (.inl a1), some (.inl a2), some (.inl a3)]) (st' := [.inr (some 96)]) (I' := up2 I 96 0 0) rfl rfl ?_
                refine g_callV hC (c_X9_flows l D ads (up2 I 96 0 0) A ) dX9_flow_57 nm_X9_flows rfl rfl wl_X9_72 wi_X9_flows ws_X9_flows wn_X9 wc_X9_flows ⟨by decide, by decide⟩ (as := []) (rest := []) rfl (Nat.le_of_ble_eq_true rfl) ⟨Nat.le_refl _, Nat.le_refl _⟩ (k_qI ?_)
                refine g_blk hC _ bX9_flow_60_62 (pc' := 62) (ls' := [some (.inr (some 96)), some (.inl a1), some (.inl a2), some (.inl a3)]) (st' := [.inl 16, .inl (cnI (A 97) 100)]) (I' := up2 I 96 0 0) rfl rfl ?_
                obtain ⟨hv1, hv2⟩ := hv
                refine g_cne hC dX9_flow_62 (tgt := 67) (by decide) (fun hc => ?_) (fun hc => ?_)
                · have hv := hv1 hc
                  clear hv1 hv2 hc
                  refine g_blk hC _ bX9_flow_67_78 (pc' := 78) (ls' := [some (.inr (some 96)), some (.inl a1), some (.inl a2), some (.inl a3)]) (st' := [.inl a3, .inl ((10 * a1) + a2), .inr (some 97)]) (I' := up2 I 96 0 0) rfl rfl ?_
                  obtain ⟨hi, hv⟩ := hv
                  refine g_iast hC dX9_flow_78 (rfl) hi ?_
                  clear hi
                  refine g_blk hC _ bX9_flow_79_80 (pc' := 80) (ls' := [some (.inr (some 96)), some (.inl a1), some (.inl a2), some (.inl a3)]) (st' := [.inl 1]) (I' := up2 I 96 0 0) rfl rfl ?_
                  exact g_reti hC hr (by decide) dX9_flow_80 hv
                · have hv := hv2 hc
                  clear hv1 hv2 hc
                  refine g_blk hC _ bX9_flow_65_66 (pc' := 66) (ls' := [some (.inr (some 96)), some (.inl a1), some (.inl a2), some (.inl a3)]) (st' := [.inl 0]) (I' := up2 I 96 0 0) rfl rfl ?_
                  exact g_reti hC hr (by decide) dX9_flow_66 hv
          · have hv := hv2 hc
            clear hv1 hv2 hc
            refine g_blk hC _ bX9_flow_36_37 (pc' := 37) (ls' := [some (.inr (some 96)), some (.inl a1), some (.inl a2), some (.inl a3)]) (st' := [.inl 0]) (I' := up2 I 96 0 0) rfl rfl ?_
            exact g_reti hC hr (by decide) dX9_flow_37 hv
theorem bX9_clear_0_7 : okB cX9_clear RX9 0 [(5, 0, 0, 0, 0), (0, 0, 0, 0, 0), (24, 65, 9, 0, 0), (0, 0, 0, 0, 0), (7, 1, 0, 0, 0)] := And.intro ⟨_, dX9_clear_0, rfl⟩ (And.intro ⟨_, dX9_clear_1, by decide⟩ (And.intro ⟨dX9_clear_2, fl_X9_65, rfl, rfl⟩ (And.intro ⟨_, dX9_clear_5, by decide⟩ (And.intro ⟨_, dX9_clear_6, rfl⟩ trivial))))
theorem bX9_clear_7_10 : okB cX9_clear RX9 7 [(3, 1, 0, 0, 0), (1, 0, 0, 0, 100)] := And.intro ⟨_, dX9_clear_7, rfl⟩ (And.intro ⟨_, dX9_clear_8, by decide⟩ trivial)
theorem bX9_clear_13_19 : okB cX9_clear RX9 13 [(5, 0, 0, 0, 0), (23, 7, 9, 1, 0), (3, 1, 0, 0, 0), (0, 0, 0, 0, 0)] := And.intro ⟨_, dX9_clear_13, rfl⟩ (And.intro ⟨dX9_clear_14, fl_X9_7⟩ (And.intro ⟨_, dX9_clear_17, rfl⟩ (And.intro ⟨_, dX9_clear_18, by decide⟩ trivial)))
theorem bX9_clear_20_23 : okB cX9_clear RX9 20 [(11, 1, 0, 0, 1)] := And.intro ⟨_, dX9_clear_20, by decide⟩ trivial
set_option maxHeartbeats 4000000 in
set_option maxRecDepth 100000 in
theorem k_X9_clear (l : Launch) (D : va_G) (ads : AD) (I A : HI) (po : Option AV → HI → HI → Prop) (Iv7 : Int32 → HI → Prop) (mu7 : Int32 → HI → Nat)
    (hv : (Iv7 0 A ∧ ∀ (x1_7 : Int32) (A_7 : HI), Iv7 x1_7 A_7 → ((100 ≤ x1_7 → po none (up2 I 96 0 0) A_7) ∧ (¬ 100 ≤ x1_7 → (vp_in x1_7 100 ∧ (Iv7 (x1_7 + 1) (up2 A_7 97 x1_7.toNatClampNeg 0) ∧ mu7 (x1_7 + 1) (up2 A_7 97 x1_7.toNatClampNeg 0) < mu7 x1_7 A_7)))))) : Ct l yX9_clear cX9_clear 2 none 0 0 D ads shp [.inr (some 96)] I A po := by
  refine Ct_of (by decide) (Nat.le_of_ble_eq_true rfl) ?_
  intro p e s m args below meth c hC hr
  replace hC : CX p s m args meth c cX9_clear 2 RX9 (AdS ads s.heap.size) := hC
  show Gm p l e s m args below meth c D ads 0 0 2 po I A 0 [some (.inr (some 96)), none] []
  refine g_blk hC _ bX9_clear_0_7 (pc' := 7) (ls' := [some (.inr (some 96)), some (.inl 0)]) (st' := []) (I' := up2 I 96 0 0) rfl rfl ?_
  obtain ⟨hi7, hb7⟩ := hv
  have L7 : ∀ (n : Nat) (x1_7 : Int32) (A_7 : HI), Iv7 x1_7 A_7 → mu7 x1_7 A_7 < n → Gm p l e s m args below meth c D ads 0 0 2 po (up2 I 96 0 0) A_7 7 [some (.inr (some 96)), some (.inl x1_7)] [] := by
    intro n
    induction n with
    | zero => intro x1_7 A_7 _ hn; exact absurd hn (Nat.not_lt_zero _)
    | succ n ih7 =>
      intro x1_7 A_7 hv hn7
      replace hv := hb7 x1_7 A_7 hv
      skip
      refine g_blk hC _ bX9_clear_7_10 (pc' := 10) (ls' := [some (.inr (some 96)), some (.inl x1_7)]) (st' := [.inl 100, .inl x1_7]) (I' := up2 I 96 0 0) rfl rfl ?_
      obtain ⟨hv1, hv2⟩ := hv
      refine g_cge hC dX9_clear_10 (tgt := 26) (by decide) (fun hc => ?_) (fun hc => ?_)
      · have hv := hv1 hc
        clear hv1 hv2 hc
        exact g_retv hC hr dX9_clear_26 hv
      · have hv := hv2 hc
        clear hv1 hv2 hc
        refine g_blk hC _ bX9_clear_13_19 (pc' := 19) (ls' := [some (.inr (some 96)), some (.inl x1_7)]) (st' := [.inl 0, .inl x1_7, .inr (some 97)]) (I' := up2 I 96 0 0) rfl rfl ?_
        obtain ⟨hi, hv⟩ := hv
        refine g_iast hC dX9_clear_19 (rfl) hi ?_
        clear hi
        refine g_blk hC _ bX9_clear_20_23 (pc' := 23) (ls' := [some (.inr (some 96)), some (.inl (x1_7 + 1))]) (st' := []) (I' := up2 I 96 0 0) rfl rfl ?_
        refine g_goto hC dX9_clear_23 (tgt := 7) (by decide) ?_
        exact g_weak (ls1 := [some (.inr (some 96)), some (.inl (x1_7 + 1))]) rfl (And.intro rfl (And.intro rfl trivial)) (ih7 (x1_7 + 1) (up2 A_7 97 x1_7.toNatClampNeg 0) hv.1 (Nat.lt_of_lt_of_le hv.2 (Nat.le_of_lt_succ hn7)))
  exact g_weak (ls1 := [some (.inr (some 96)), some (.inl 0)]) rfl (And.intro rfl (And.intro rfl trivial)) (L7 _ 0 A hi7 (Nat.lt_succ_self _))
theorem bX9_set_0_6 : okB cX9_set RX9 0 [(5, 0, 0, 0, 0), (0, 0, 0, 0, 0), (24, 65, 9, 0, 0), (3, 1, 0, 0, 0)] := And.intro ⟨_, dX9_set_0, rfl⟩ (And.intro ⟨_, dX9_set_1, by decide⟩ (And.intro ⟨dX9_set_2, fl_X9_65, rfl, rfl⟩ (And.intro ⟨_, dX9_set_5, rfl⟩ trivial)))
theorem bX9_set_26_27 : okB cX9_set RX9 26 [(0, 0, 0, 0, 0)] := And.intro ⟨_, dX9_set_26, by decide⟩ trivial
theorem bX9_set_9_12 : okB cX9_set RX9 9 [(3, 1, 0, 0, 0), (1, 0, 0, 0, 50)] := And.intro ⟨_, dX9_set_9, rfl⟩ (And.intro ⟨_, dX9_set_10, by decide⟩ trivial)
theorem bX9_set_15_16 : okB cX9_set RX9 15 [(3, 2, 0, 0, 0)] := And.intro ⟨_, dX9_set_15, rfl⟩ trivial
theorem bX9_set_19_23 : okB cX9_set RX9 19 [(3, 2, 0, 0, 0), (2, 0, 0, 0, 9999)] := And.intro ⟨_, dX9_set_19, rfl⟩ (And.intro ⟨_, dX9_set_20, by decide⟩ trivial)
theorem bX9_set_28_39 : okB cX9_set RX9 28 [(5, 0, 0, 0, 0), (3, 1, 0, 0, 0), (24, 13, 9, 2, 0), (5, 0, 0, 0, 0), (3, 2, 0, 0, 0), (24, 76, 9, 3, 0), (0, 0, 0, 0, 1)] := And.intro ⟨_, dX9_set_28, rfl⟩ (And.intro ⟨_, dX9_set_29, rfl⟩ (And.intro ⟨dX9_set_30, fl_X9_13, rfl, rfl⟩ (And.intro ⟨_, dX9_set_33, rfl⟩ (And.intro ⟨_, dX9_set_34, rfl⟩ (And.intro ⟨dX9_set_35, fl_X9_76, rfl, rfl⟩ (And.intro ⟨_, dX9_set_38, by decide⟩ trivial))))))
set_option maxHeartbeats 4000000 in
set_option maxRecDepth 100000 in
theorem k_X9_set (l : Launch) (D : va_G) (ads : AD) (I A : HI) (a1 : Int32) (a2 : Int32) (po : Option AV → HI → HI → Prop)
    (hv : ((a1 < 0 → po (some (.inl 0)) (up2 I 96 0 0) A) ∧ (¬ a1 < 0 → ((50 < a1 → po (some (.inl 0)) (up2 I 96 0 0) A) ∧ (¬ 50 < a1 → ((a2 < 0 → po (some (.inl 0)) (up2 I 96 0 0) A) ∧ (¬ a2 < 0 → ((a2 ≤ 9999 → po (some (.inl 1)) (up2 (up2 (up2 I 96 0 0) 96 2 a1) 96 3 a2) A) ∧ (¬ a2 ≤ 9999 → po (some (.inl 0)) (up2 I 96 0 0) A))))))))) : Ct l yX9_set cX9_set 3 (some .boolean) 0 0 D ads shp [.inr (some 96), .inl a1, .inl a2] I A po := by
  refine Ct_of (by decide) (Nat.le_of_ble_eq_true rfl) ?_
  intro p e s m args below meth c hC hr
  replace hC : CX p s m args meth c cX9_set 3 RX9 (AdS ads s.heap.size) := hC
  show Gm p l e s m args below meth c D ads 0 0 3 po I A 0 [some (.inr (some 96)), some (.inl a1), some (.inl a2)] []
  refine g_blk hC _ bX9_set_0_6 (pc' := 6) (ls' := [some (.inr (some 96)), some (.inl a1), some (.inl a2)]) (st' := [.inl a1]) (I' := up2 I 96 0 0) rfl rfl ?_
  obtain ⟨hv1, hv2⟩ := hv
  refine g_iflt hC dX9_set_6 (tgt := 26) (by decide) (fun hc => ?_) (fun hc => ?_)
  · have hv := hv1 hc
    clear hv1 hv2 hc
    refine g_blk hC _ bX9_set_26_27 (pc' := 27) (ls' := [some (.inr (some 96)), some (.inl a1), some (.inl a2)]) (st' := [.inl 0]) (I' := up2 I 96 0 0) rfl rfl ?_
    exact g_reti hC hr (by decide) dX9_set_27 hv
  · have hv := hv2 hc
    clear hv1 hv2 hc
    refine g_blk hC _ bX9_set_9_12 (pc' := 12) (ls' := [some (.inr (some 96)), some (.inl a1), some (.inl a2)]) (st' := [.inl 50, .inl a1]) (I' := up2 I 96 0 0) rfl rfl ?_
    obtain ⟨hv1, hv2⟩ := hv
    refine g_cgt hC dX9_set_12 (tgt := 26) (by decide) (fun hc => ?_) (fun hc => ?_)
    · have hv := hv1 hc
      clear hv1 hv2 hc
      refine g_blk hC _ bX9_set_26_27 (pc' := 27) (ls' := [some (.inr (some 96)), some (.inl a1), some (.inl a2)]) (st' := [.inl 0]) (I' := up2 I 96 0 0) rfl rfl ?_
      exact g_reti hC hr (by decide) dX9_set_27 hv
    · have hv := hv2 hc
      clear hv1 hv2 hc
      refine g_blk hC _ bX9_set_15_16 (pc' := 16) (ls' := [some (.inr (some 96)), some (.inl a1), some (.inl a2)]) (st' := [.inl a2]) (I' := up2 I 96 0 0) rfl rfl ?_
      obtain ⟨hv1, hv2⟩ := hv
      refine g_iflt hC dX9_set_16 (tgt := 26) (by decide) (fun hc => ?_) (fun hc => ?_)
      · have hv := hv1 hc
        clear hv1 hv2 hc
        refine g_blk hC _ bX9_set_26_27 (pc' := 27) (ls' := [some (.inr (some 96)), some (.inl a1), some (.inl a2)]) (st' := [.inl 0]) (I' := up2 I 96 0 0) rfl rfl ?_
        exact g_reti hC hr (by decide) dX9_set_27 hv
      · have hv := hv2 hc
        clear hv1 hv2 hc
        refine g_blk hC _ bX9_set_19_23 (pc' := 23) (ls' := [some (.inr (some 96)), some (.inl a1), some (.inl a2)]) (st' := [.inl 9999, .inl a2]) (I' := up2 I 96 0 0) rfl rfl ?_
        obtain ⟨hv1, hv2⟩ := hv
        refine g_cle hC dX9_set_23 (tgt := 28) (by decide) (fun hc => ?_) (fun hc => ?_)
        · have hv := hv1 hc
          clear hv1 hv2 hc
          refine g_blk hC _ bX9_set_28_39 (pc' := 39) (ls' := [some (.inr (some 96)), some (.inl a1), some (.inl a2)]) (st' := [.inl 1]) (I' := up2 (up2 (up2 I 96 0 0) 96 2 a1) 96 3 a2) rfl rfl ?_
          exact g_reti hC hr (by decide) dX9_set_39 hv
        · have hv := hv2 hc
          clear hv1 hv2 hc
          refine g_blk hC _ bX9_set_26_27 (pc' := 27) (ls' := [some (.inr (some 96)), some (.inl a1), some (.inl a2)]) (st' := [.inl 0]) (I' := up2 I 96 0 0) rfl rfl ?_
          exact g_reti hC hr (by decide) dX9_set_27 hv
theorem bX9_about_0_6 : okB cX9_about RX9 0 [(5, 0, 0, 0, 0), (0, 0, 0, 0, 0), (24, 65, 9, 0, 0), (5, 0, 0, 0, 0)] := And.intro ⟨_, dX9_about_0, rfl⟩ (And.intro ⟨_, dX9_about_1, by decide⟩ (And.intro ⟨dX9_about_2, fl_X9_65, rfl, rfl⟩ (And.intro ⟨_, dX9_about_5, rfl⟩ trivial)))
theorem bX9_about_9_22 : okB cX9_about RX9 9 [(0, 0, 0, 0, 0), (7, 2, 0, 0, 0), (0, 0, 0, 0, 0), (7, 3, 0, 0, 0), (0, 0, 0, 0, 0), (8, 4, 0, 0, 0), (0, 0, 0, 0, 0), (8, 5, 0, 0, 0), (0, 0, 0, 0, 0), (8, 6, 0, 0, 0)] := And.intro ⟨_, dX9_about_9, by decide⟩ (And.intro ⟨_, dX9_about_10, rfl⟩ (And.intro ⟨_, dX9_about_11, by decide⟩ (And.intro ⟨_, dX9_about_12, rfl⟩ (And.intro ⟨_, dX9_about_13, by decide⟩ (And.intro dX9_about_14 (And.intro ⟨_, dX9_about_16, by decide⟩ (And.intro dX9_about_17 (And.intro ⟨_, dX9_about_19, by decide⟩ (And.intro dX9_about_20 trivial)))))))))
theorem bX9_about_22_26 : okB cX9_about RX9 22 [(4, 6, 0, 0, 0), (1, 0, 0, 0, 10)] := And.intro dX9_about_22 (And.intro ⟨_, dX9_about_24, by decide⟩ trivial)
theorem bX9_about_110_111 : okB cX9_about RX9 110 [(3, 1, 0, 0, 0)] := And.intro ⟨_, dX9_about_110, rfl⟩ trivial
theorem bX9_about_116_118 : okB cX9_about RX9 116 [(3, 1, 0, 0, 0), (0, 0, 0, 0, 1)] := And.intro ⟨_, dX9_about_116, rfl⟩ (And.intro ⟨_, dX9_about_117, by decide⟩ trivial)
theorem bX9_about_123_125 : okB cX9_about RX9 123 [(3, 1, 0, 0, 0), (0, 0, 0, 0, 2)] := And.intro ⟨_, dX9_about_123, rfl⟩ (And.intro ⟨_, dX9_about_124, by decide⟩ trivial)
theorem bX9_about_131_133 : okB cX9_about RX9 131 [(3, 1, 0, 0, 0), (0, 0, 0, 0, 3)] := And.intro ⟨_, dX9_about_131, rfl⟩ (And.intro ⟨_, dX9_about_132, by decide⟩ trivial)
theorem bX9_about_139_141 : okB cX9_about RX9 139 [(3, 1, 0, 0, 0), (0, 0, 0, 0, 4)] := And.intro ⟨_, dX9_about_139, rfl⟩ (And.intro ⟨_, dX9_about_140, by decide⟩ trivial)
theorem bX9_about_149_151 : okB cX9_about RX9 149 [(3, 1, 0, 0, 0), (0, 0, 0, 0, 5)] := And.intro ⟨_, dX9_about_149, rfl⟩ (And.intro ⟨_, dX9_about_150, by decide⟩ trivial)
theorem bX9_about_159_162 : okB cX9_about RX9 159 [(3, 1, 0, 0, 0), (1, 0, 0, 0, 6)] := And.intro ⟨_, dX9_about_159, rfl⟩ (And.intro ⟨_, dX9_about_160, by decide⟩ trivial)
theorem bX9_about_170_173 : okB cX9_about RX9 170 [(3, 1, 0, 0, 0), (1, 0, 0, 0, 7)] := And.intro ⟨_, dX9_about_170, rfl⟩ (And.intro ⟨_, dX9_about_171, by decide⟩ trivial)
theorem bX9_about_191_192 : okB cX9_about RX9 191 [(0, 0, 0, 0, (-1))] := And.intro ⟨_, dX9_about_191, by decide⟩ trivial
theorem bX9_about_176_180 : okB cX9_about RX9 176 [(5, 0, 0, 0, 0), (23, 152, 9, 4, 0)] := And.intro ⟨_, dX9_about_176, rfl⟩ (And.intro ⟨dX9_about_177, fl_X9_152⟩ trivial)
theorem bX9_about_187_188 : okB cX9_about RX9 187 [(0, 0, 0, 0, 0)] := And.intro ⟨_, dX9_about_187, by decide⟩ trivial
theorem bX9_about_183_184 : okB cX9_about RX9 183 [(0, 0, 0, 0, 1)] := And.intro ⟨_, dX9_about_183, by decide⟩ trivial
theorem bX9_about_165_169 : okB cX9_about RX9 165 [(5, 0, 0, 0, 0), (23, 76, 9, 3, 0)] := And.intro ⟨_, dX9_about_165, rfl⟩ (And.intro ⟨dX9_about_166, fl_X9_76⟩ trivial)
theorem bX9_about_154_158 : okB cX9_about RX9 154 [(5, 0, 0, 0, 0), (23, 13, 9, 2, 0)] := And.intro ⟨_, dX9_about_154, rfl⟩ (And.intro ⟨dX9_about_155, fl_X9_13⟩ trivial)
theorem bX9_about_144_148 : okB cX9_about RX9 144 [(5, 0, 0, 0, 0), (23, 90, 9, 12, 0)] := And.intro ⟨_, dX9_about_144, rfl⟩ (And.intro ⟨dX9_about_145, fl_X9_90⟩ trivial)
theorem bX9_about_136_138 : okB cX9_about RX9 136 [(4, 5, 0, 0, 0)] := And.intro dX9_about_136 trivial
theorem bX9_about_128_130 : okB cX9_about RX9 128 [(4, 4, 0, 0, 0)] := And.intro dX9_about_128 trivial
theorem bX9_about_121_122 : okB cX9_about RX9 121 [(3, 3, 0, 0, 0)] := And.intro ⟨_, dX9_about_121, rfl⟩ trivial
theorem bX9_about_114_115 : okB cX9_about RX9 114 [(3, 2, 0, 0, 0)] := And.intro ⟨_, dX9_about_114, rfl⟩ trivial
theorem bX9_about_29_32 : okB cX9_about RX9 29 [(0, 0, 0, 0, 0), (8, 7, 0, 0, 0)] := And.intro ⟨_, dX9_about_29, by decide⟩ (And.intro dX9_about_30 trivial)
theorem bX9_about_32_36 : okB cX9_about RX9 32 [(4, 7, 0, 0, 0), (1, 0, 0, 0, 10)] := And.intro dX9_about_32 (And.intro ⟨_, dX9_about_34, by decide⟩ trivial)
theorem bX9_about_104_107 : okB cX9_about RX9 104 [(11, 6, 0, 0, 1)] := And.intro ⟨_, dX9_about_104, by decide⟩ trivial
theorem bX9_about_39_51 : okB cX9_about RX9 39 [(5, 0, 0, 0, 0), (23, 7, 9, 1, 0), (1, 0, 0, 0, 10), (4, 6, 0, 0, 0), (14, 0, 0, 0, 0), (4, 7, 0, 0, 0), (12, 0, 0, 0, 0)] := And.intro ⟨_, dX9_about_39, rfl⟩ (And.intro ⟨dX9_about_40, fl_X9_7⟩ (And.intro ⟨_, dX9_about_43, by decide⟩ (And.intro dX9_about_45 (And.intro dX9_about_47 (And.intro dX9_about_48 (And.intro dX9_about_50 trivial))))))
theorem bX9_about_52_56 : okB cX9_about RX9 52 [(8, 8, 0, 0, 0), (4, 8, 0, 0, 0)] := And.intro dX9_about_52 (And.intro dX9_about_54 trivial)
theorem bX9_about_62_76 : okB cX9_about RX9 62 [(3, 2, 0, 0, 0), (0, 0, 0, 0, 1), (12, 0, 0, 0, 0), (7, 2, 0, 0, 0), (3, 3, 0, 0, 0), (4, 8, 0, 0, 0), (12, 0, 0, 0, 0), (7, 3, 0, 0, 0), (5, 0, 0, 0, 0), (4, 6, 0, 0, 0), (4, 7, 0, 0, 0)] := And.intro ⟨_, dX9_about_62, rfl⟩ (And.intro ⟨_, dX9_about_63, by decide⟩ (And.intro dX9_about_64 (And.intro ⟨_, dX9_about_65, rfl⟩ (And.intro ⟨_, dX9_about_66, rfl⟩ (And.intro dX9_about_67 (And.intro dX9_about_69 (And.intro ⟨_, dX9_about_70, rfl⟩ (And.intro ⟨_, dX9_about_71, rfl⟩ (And.intro dX9_about_72 (And.intro dX9_about_74 trivial))))))))))
theorem bX9_about_85_101 : okB cX9_about RX9 85 [(4, 4, 0, 0, 0), (0, 0, 0, 0, 1), (12, 0, 0, 0, 0), (8, 4, 0, 0, 0), (4, 5, 0, 0, 0), (4, 8, 0, 0, 0), (12, 0, 0, 0, 0), (8, 5, 0, 0, 0), (11, 7, 0, 0, 1)] := And.intro dX9_about_85 (And.intro ⟨_, dX9_about_87, by decide⟩ (And.intro dX9_about_88 (And.intro dX9_about_89 (And.intro dX9_about_91 (And.intro dX9_about_93 (And.intro dX9_about_95 (And.intro dX9_about_96 (And.intro ⟨_, dX9_about_98, by decide⟩ trivial))))))))
theorem bX9_about_98_101 : okB cX9_about RX9 98 [(11, 7, 0, 0, 1)] := And.intro ⟨_, dX9_about_98, by decide⟩ trivial
set_option maxHeartbeats 4000000 in
set_option maxRecDepth 100000 in
theorem k_X9_about (l : Launch) (D : va_G) (ads : AD) (I A : HI) (a1 : Int32) (po : Option AV → HI → HI → Prop) {pp_X9_findRow : HI → HI → Prop} {qq_X9_findRow : HI → HI → HI → HI → Prop} (hh_X9_findRow : ∀ (I A : HI), pp_X9_findRow I A → Ct l yX9_findRow cX9_findRow 5 none 1 24 D ads shp [.inr (some 96)] I A (qV (qq_X9_findRow I A))) (Iv22 : HI → HI → Int32 → Int32 → Int32 → Int32 → Int32 → Prop) (mu22 : HI → HI → Int32 → Int32 → Int32 → Int32 → Int32 → Nat) (Iv32 : HI → HI → Int32 → Int32 → Int32 → Int32 → Int32 → Int32 → Int32 → Int32 → Int32 → Int32 → Prop) (mu32 : HI → HI → Int32 → Int32 → Int32 → Int32 → Int32 → Int32 → Int32 → Int32 → Int32 → Int32 → Nat)
    (hv : ((pp_X9_findRow (up2 I 96 0 0) A) ∧ (∀ (I2 A2 : HI), qq_X9_findRow (up2 I 96 0 0) A I2 A2 → (Iv22 I2 A2 0 0 0 0 0 ∧ ∀ (x2_22 : Int32) (x3_22 : Int32) (x4_22 : Int32) (x5_22 : Int32) (x6_22 : Int32), Iv22 I2 A2 x2_22 x3_22 x4_22 x5_22 x6_22 → ((10 ≤ x6_22 → ((¬ a1 = 0 → ((¬ a1 = 1 → ((¬ a1 = 2 → ((¬ a1 = 3 → ((¬ a1 = 4 → ((¬ a1 = 5 → ((¬ a1 = 6 → ((¬ a1 = 7 → po (some (.inl ((-1)))) I2 A2) ∧ (a1 = 7 → (((I2 96 4) = 0 → po (some (.inl 0)) I2 A2) ∧ (¬ (I2 96 4) = 0 → po (some (.inl 1)) I2 A2))))) ∧ (a1 = 6 → po (some (.inl (I2 96 3))) I2 A2))) ∧ (a1 = 5 → po (some (.inl (I2 96 2))) I2 A2))) ∧ (a1 = 4 → po (some (.inl (I2 96 12))) I2 A2))) ∧ (a1 = 3 → po (some (.inl x5_22)) I2 A2))) ∧ (a1 = 2 → po (some (.inl x4_22)) I2 A2))) ∧ (a1 = 1 → po (some (.inl x3_22)) I2 A2))) ∧ (a1 = 0 → po (some (.inl x2_22)) I2 A2))) ∧ (¬ 10 ≤ x6_22 → (Iv32 I2 A2 x2_22 x3_22 x4_22 x5_22 x6_22 x2_22 x3_22 x4_22 x5_22 0 ∧ ∀ (x2_32 : Int32) (x3_32 : Int32) (x4_32 : Int32) (x5_32 : Int32) (x7_32 : Int32), Iv32 I2 A2 x2_22 x3_22 x4_22 x5_22 x6_22 x2_32 x3_32 x4_32 x5_32 x7_32 → ((10 ≤ x7_32 → (Iv22 I2 A2 x2_32 x3_32 x4_32 x5_32 (x6_22 + 1) ∧ mu22 I2 A2 x2_32 x3_32 x4_32 x5_32 (x6_22 + 1) < mu22 I2 A2 x2_22 x3_22 x4_22 x5_22 x6_22)) ∧ (¬ 10 ≤ x7_32 → (vp_in ((10 * x6_22) + x7_32) 100 ∧ ((¬ (A2 97 ((10 * x6_22) + x7_32).toNatClampNeg) = 0 → ((vp_in x6_22 10 ∧ vp_in x7_32 10) ∧ ((¬ (trnI (A2 101) x6_22 x7_32) = 0 → (Iv32 I2 A2 x2_22 x3_22 x4_22 x5_22 x6_22 (x2_32 + 1) (x3_32 + (A2 97 ((10 * x6_22) + x7_32).toNatClampNeg)) (x4_32 + 1) (x5_32 + (A2 97 ((10 * x6_22) + x7_32).toNatClampNeg)) (x7_32 + 1) ∧ mu32 I2 A2 x2_22 x3_22 x4_22 x5_22 x6_22 (x2_32 + 1) (x3_32 + (A2 97 ((10 * x6_22) + x7_32).toNatClampNeg)) (x4_32 + 1) (x5_32 + (A2 97 ((10 * x6_22) + x7_32).toNatClampNeg)) (x7_32 + 1) < mu32 I2 A2 x2_22 x3_22 x4_22 x5_22 x6_22 x2_32 x3_32 x4_32 x5_32 x7_32)) ∧ ((trnI (A2 101) x6_22 x7_32) = 0 → (Iv32 I2 A2 x2_22 x3_22 x4_22 x5_22 x6_22 (x2_32 + 1) (x3_32 + (A2 97 ((10 * x6_22) + x7_32).toNatClampNeg)) x4_32 x5_32 (x7_32 + 1) ∧ mu32 I2 A2 x2_22 x3_22 x4_22 x5_22 x6_22 (x2_32 + 1) (x3_32 + (A2 97 ((10 * x6_22) + x7_32).toNatClampNeg)) x4_32 x5_32 (x7_32 + 1) < mu32 I2 A2 x2_22 x3_22 x4_22 x5_22 x6_22 x2_32 x3_32 x4_32 x5_32 x7_32))))) ∧ ((A2 97 ((10 * x6_22) + x7_32).toNatClampNeg) = 0 → (Iv32 I2 A2 x2_22 x3_22 x4_22 x5_22 x6_22 x2_32 x3_32 x4_32 x5_32 (x7_32 + 1) ∧ mu32 I2 A2 x2_22 x3_22 x4_22 x5_22 x6_22 x2_32 x3_32 x4_32 x5_32 (x7_32 + 1) < mu32 I2 A2 x2_22 x3_22 x4_22 x5_22 x6_22 x2_32 x3_32 x4_32 x5_32 x7_32))))))))))))) : Ct l yX9_about cX9_about 9 (some .int) 2 48 D ads shp [.inr (some 96), .inl a1] I A po := by
  refine Ct_of (by decide) (Nat.le_of_ble_eq_true rfl) ?_
  intro p e s m args below meth c hC hr
  replace hC : CX p s m args meth c cX9_about 9 RX9 (AdS ads s.heap.size) := hC
  show Gm p l e s m args below meth c D ads 2 48 9 po I A 0 [some (.inr (some 96)), some (.inl a1), none, none, none, none, none, none, none] []
  refine g_blk hC _ bX9_about_0_6 (pc' := 6) (ls' := [some (.inr (some 96)), some (.inl a1), none, none, none, none, none, none, none]) (st' := [.inr (some 96)]) (I' := up2 I 96 0 0) rfl rfl ?_
  obtain ⟨hp1, hv⟩ := hv
  refine g_callV hC (hh_X9_findRow (up2 I 96 0 0) A  hp1) dX9_about_6 nm_X9_findRow rfl rfl wl_X9_97 wi_X9_findRow ws_X9_findRow wn_X9 wc_X9_findRow ⟨by decide, by decide⟩ (as := []) (rest := []) rfl (Nat.le_of_ble_eq_true rfl) ⟨Nat.le_refl _, Nat.le_refl _⟩ (k_qV ?_)
  intro I2 A2 hq2
  replace hv := hv I2 A2 hq2
  refine g_blk hC _ bX9_about_9_22 (pc' := 22) (ls' := [some (.inr (some 96)), some (.inl a1), some (.inl 0), some (.inl 0), some (.inl 0), some (.inl 0), some (.inl 0), none, none]) (st' := []) (I' := I2) rfl rfl ?_
  obtain ⟨hi22, hb22⟩ := hv
  have L22 : ∀ (n : Nat) (x2_22 : Int32) (x3_22 : Int32) (x4_22 : Int32) (x5_22 : Int32) (x6_22 : Int32), Iv22 I2 A2 x2_22 x3_22 x4_22 x5_22 x6_22 → mu22 I2 A2 x2_22 x3_22 x4_22 x5_22 x6_22 < n → Gm p l e s m args below meth c D ads 2 48 9 po I2 A2 22 [some (.inr (some 96)), some (.inl a1), some (.inl x2_22), some (.inl x3_22), some (.inl x4_22), some (.inl x5_22), some (.inl x6_22), none, none] [] := by
    intro n
    induction n with
    | zero => intro x2_22 x3_22 x4_22 x5_22 x6_22 _ hn; exact absurd hn (Nat.not_lt_zero _)
    | succ n ih22 =>
      intro x2_22 x3_22 x4_22 x5_22 x6_22 hv hn22
      replace hv := hb22 x2_22 x3_22 x4_22 x5_22 x6_22 hv
      skip
      refine g_blk hC _ bX9_about_22_26 (pc' := 26) (ls' := [some (.inr (some 96)), some (.inl a1), some (.inl x2_22), some (.inl x3_22), some (.inl x4_22), some (.inl x5_22), some (.inl x6_22), none, none]) (st' := [.inl 10, .inl x6_22]) (I' := I2) rfl rfl ?_
      obtain ⟨hv1, hv2⟩ := hv
      refine g_cge hC dX9_about_26 (tgt := 110) (by decide) (fun hc => ?_) (fun hc => ?_)
      · have hv := hv1 hc
        clear hv1 hv2 hc
        refine g_blk hC _ bX9_about_110_111 (pc' := 111) (ls' := [some (.inr (some 96)), some (.inl a1), some (.inl x2_22), some (.inl x3_22), some (.inl x4_22), some (.inl x5_22), some (.inl x6_22), none, none]) (st' := [.inl a1]) (I' := I2) rfl rfl ?_
        obtain ⟨hv1, hv2⟩ := hv
        refine g_ifne hC dX9_about_111 (tgt := 116) (by decide) (fun hc => ?_) (fun hc => ?_)
        · have hv := hv1 hc
          clear hv1 hv2 hc
          refine g_blk hC _ bX9_about_116_118 (pc' := 118) (ls' := [some (.inr (some 96)), some (.inl a1), some (.inl x2_22), some (.inl x3_22), some (.inl x4_22), some (.inl x5_22), some (.inl x6_22), none, none]) (st' := [.inl 1, .inl a1]) (I' := I2) rfl rfl ?_
          obtain ⟨hv1, hv2⟩ := hv
          refine g_cne hC dX9_about_118 (tgt := 123) (by decide) (fun hc => ?_) (fun hc => ?_)
          · have hv := hv1 hc
            clear hv1 hv2 hc
            refine g_blk hC _ bX9_about_123_125 (pc' := 125) (ls' := [some (.inr (some 96)), some (.inl a1), some (.inl x2_22), some (.inl x3_22), some (.inl x4_22), some (.inl x5_22), some (.inl x6_22), none, none]) (st' := [.inl 2, .inl a1]) (I' := I2) rfl rfl ?_
            obtain ⟨hv1, hv2⟩ := hv
            refine g_cne hC dX9_about_125 (tgt := 131) (by decide) (fun hc => ?_) (fun hc => ?_)
            · have hv := hv1 hc
              clear hv1 hv2 hc
              refine g_blk hC _ bX9_about_131_133 (pc' := 133) (ls' := [some (.inr (some 96)), some (.inl a1), some (.inl x2_22), some (.inl x3_22), some (.inl x4_22), some (.inl x5_22), some (.inl x6_22), none, none]) (st' := [.inl 3, .inl a1]) (I' := I2) rfl rfl ?_
              obtain ⟨hv1, hv2⟩ := hv
              refine g_cne hC dX9_about_133 (tgt := 139) (by decide) (fun hc => ?_) (fun hc => ?_)
              · have hv := hv1 hc
                clear hv1 hv2 hc
                refine g_blk hC _ bX9_about_139_141 (pc' := 141) (ls' := [some (.inr (some 96)), some (.inl a1), some (.inl x2_22), some (.inl x3_22), some (.inl x4_22), some (.inl x5_22), some (.inl x6_22), none, none]) (st' := [.inl 4, .inl a1]) (I' := I2) rfl rfl ?_
                obtain ⟨hv1, hv2⟩ := hv
                refine g_cne hC dX9_about_141 (tgt := 149) (by decide) (fun hc => ?_) (fun hc => ?_)
                · have hv := hv1 hc
                  clear hv1 hv2 hc
                  refine g_blk hC _ bX9_about_149_151 (pc' := 151) (ls' := [some (.inr (some 96)), some (.inl a1), some (.inl x2_22), some (.inl x3_22), some (.inl x4_22), some (.inl x5_22), some (.inl x6_22), none, none]) (st' := [.inl 5, .inl a1]) (I' := I2) rfl rfl ?_
                  obtain ⟨hv1, hv2⟩ := hv
                  refine g_cne hC dX9_about_151 (tgt := 159) (by decide) (fun hc => ?_) (fun hc => ?_)
                  · have hv := hv1 hc
                    clear hv1 hv2 hc
                    refine g_blk hC _ bX9_about_159_162 (pc' := 162) (ls' := [some (.inr (some 96)), some (.inl a1), some (.inl x2_22), some (.inl x3_22), some (.inl x4_22), some (.inl x5_22), some (.inl x6_22), none, none]) (st' := [.inl 6, .inl a1]) (I' := I2) rfl rfl ?_
                    obtain ⟨hv1, hv2⟩ := hv
                    refine g_cne hC dX9_about_162 (tgt := 170) (by decide) (fun hc => ?_) (fun hc => ?_)
                    · have hv := hv1 hc
                      clear hv1 hv2 hc
                      refine g_blk hC _ bX9_about_170_173 (pc' := 173) (ls' := [some (.inr (some 96)), some (.inl a1), some (.inl x2_22), some (.inl x3_22), some (.inl x4_22), some (.inl x5_22), some (.inl x6_22), none, none]) (st' := [.inl 7, .inl a1]) (I' := I2) rfl rfl ?_
                      obtain ⟨hv1, hv2⟩ := hv
                      refine g_cne hC dX9_about_173 (tgt := 191) (by decide) (fun hc => ?_) (fun hc => ?_)
                      · have hv := hv1 hc
                        clear hv1 hv2 hc
                        refine g_blk hC _ bX9_about_191_192 (pc' := 192) (ls' := [some (.inr (some 96)), some (.inl a1), some (.inl x2_22), some (.inl x3_22), some (.inl x4_22), some (.inl x5_22), some (.inl x6_22), none, none]) (st' := [.inl ((-1))]) (I' := I2) rfl rfl ?_
                        exact g_reti hC hr rfl dX9_about_192 hv
                      · have hv := hv2 hc
                        clear hv1 hv2 hc
                        refine g_blk hC _ bX9_about_176_180 (pc' := 180) (ls' := [some (.inr (some 96)), some (.inl a1), some (.inl x2_22), some (.inl x3_22), some (.inl x4_22), some (.inl x5_22), some (.inl x6_22), none, none]) (st' := [.inl (I2 96 4)]) (I' := I2) rfl rfl ?_
                        obtain ⟨hv1, hv2⟩ := hv
                        refine g_ifeq hC dX9_about_180 (tgt := 187) (by decide) (fun hc => ?_) (fun hc => ?_)
                        · have hv := hv1 hc
                          clear hv1 hv2 hc
                          refine g_blk hC _ bX9_about_187_188 (pc' := 188) (ls' := [some (.inr (some 96)), some (.inl a1), some (.inl x2_22), some (.inl x3_22), some (.inl x4_22), some (.inl x5_22), some (.inl x6_22), none, none]) (st' := [.inl 0]) (I' := I2) rfl rfl ?_
                          refine g_goto hC dX9_about_188 (tgt := 192) (by decide) ?_
                          exact g_reti hC hr rfl dX9_about_192 hv
                        · have hv := hv2 hc
                          clear hv1 hv2 hc
                          refine g_blk hC _ bX9_about_183_184 (pc' := 184) (ls' := [some (.inr (some 96)), some (.inl a1), some (.inl x2_22), some (.inl x3_22), some (.inl x4_22), some (.inl x5_22), some (.inl x6_22), none, none]) (st' := [.inl 1]) (I' := I2) rfl rfl ?_
                          refine g_goto hC dX9_about_184 (tgt := 192) (by decide) ?_
                          exact g_reti hC hr rfl dX9_about_192 hv
                    · have hv := hv2 hc
                      clear hv1 hv2 hc
                      refine g_blk hC _ bX9_about_165_169 (pc' := 169) (ls' := [some (.inr (some 96)), some (.inl a1), some (.inl x2_22), some (.inl x3_22), some (.inl x4_22), some (.inl x5_22), some (.inl x6_22), none, none]) (st' := [.inl (I2 96 3)]) (I' := I2) rfl rfl ?_
                      exact g_reti hC hr rfl dX9_about_169 hv
                  · have hv := hv2 hc
                    clear hv1 hv2 hc
                    refine g_blk hC _ bX9_about_154_158 (pc' := 158) (ls' := [some (.inr (some 96)), some (.inl a1), some (.inl x2_22), some (.inl x3_22), some (.inl x4_22), some (.inl x5_22), some (.inl x6_22), none, none]) (st' := [.inl (I2 96 2)]) (I' := I2) rfl rfl ?_
                    exact g_reti hC hr rfl dX9_about_158 hv
                · have hv := hv2 hc
                  clear hv1 hv2 hc
                  refine g_blk hC _ bX9_about_144_148 (pc' := 148) (ls' := [some (.inr (some 96)), some (.inl a1), some (.inl x2_22), some (.inl x3_22), some (.inl x4_22), some (.inl x5_22), some (.inl x6_22), none, none]) (st' := [.inl (I2 96 12)]) (I' := I2) rfl rfl ?_
                  exact g_reti hC hr rfl dX9_about_148 hv
              · have hv := hv2 hc
                clear hv1 hv2 hc
                refine g_blk hC _ bX9_about_136_138 (pc' := 138) (ls' := [some (.inr (some 96)), some (.inl a1), some (.inl x2_22), some (.inl x3_22), some (.inl x4_22), some (.inl x5_22), some (.inl x6_22), none, none]) (st' := [.inl x5_22]) (I' := I2) rfl rfl ?_
                exact g_reti hC hr rfl dX9_about_138 hv
            · have hv := hv2 hc
              clear hv1 hv2 hc
              refine g_blk hC _ bX9_about_128_130 (pc' := 130) (ls' := [some (.inr (some 96)), some (.inl a1), some (.inl x2_22), some (.inl x3_22), some (.inl x4_22), some (.inl x5_22), some (.inl x6_22), none, none]) (st' := [.inl x4_22]) (I' := I2) rfl rfl ?_
              exact g_reti hC hr rfl dX9_about_130 hv
          · have hv := hv2 hc
            clear hv1 hv2 hc
            refine g_blk hC _ bX9_about_121_122 (pc' := 122) (ls' := [some (.inr (some 96)), some (.inl a1), some (.inl x2_22), some (.inl x3_22), some (.inl x4_22), some (.inl x5_22), some (.inl x6_22), none, none]) (st' := [.inl x3_22]) (I' := I2) rfl rfl ?_
            exact g_reti hC hr rfl dX9_about_122 hv
        · have hv := hv2 hc
          clear hv1 hv2 hc
          refine g_blk hC _ bX9_about_114_115 (pc' := 115) (ls' := [some (.inr (some 96)), some (.inl a1), some (.inl x2_22), some (.inl x3_22), some (.inl x4_22), some (.inl x5_22), some (.inl x6_22), none, none]) (st' := [.inl x2_22]) (I' := I2) rfl rfl ?_
          exact g_reti hC hr rfl dX9_about_115 hv
      · have hv := hv2 hc
        clear hv1 hv2 hc
        refine g_blk hC _ bX9_about_29_32 (pc' := 32) (ls' := [some (.inr (some 96)), some (.inl a1), some (.inl x2_22), some (.inl x3_22), some (.inl x4_22), some (.inl x5_22), some (.inl x6_22), some (.inl 0), none]) (st' := []) (I' := I2) rfl rfl ?_
        obtain ⟨hi32, hb32⟩ := hv
        have L32 : ∀ (n : Nat) (x2_32 : Int32) (x3_32 : Int32) (x4_32 : Int32) (x5_32 : Int32) (x7_32 : Int32), Iv32 I2 A2 x2_22 x3_22 x4_22 x5_22 x6_22 x2_32 x3_32 x4_32 x5_32 x7_32 → mu32 I2 A2 x2_22 x3_22 x4_22 x5_22 x6_22 x2_32 x3_32 x4_32 x5_32 x7_32 < n → Gm p l e s m args below meth c D ads 2 48 9 po I2 A2 32 [some (.inr (some 96)), some (.inl a1), some (.inl x2_32), some (.inl x3_32), some (.inl x4_32), some (.inl x5_32), some (.inl x6_22), some (.inl x7_32), none] [] := by
          intro n
          induction n with
          | zero => intro x2_32 x3_32 x4_32 x5_32 x7_32 _ hn; exact absurd hn (Nat.not_lt_zero _)
          | succ n ih32 =>
            intro x2_32 x3_32 x4_32 x5_32 x7_32 hv hn32
            replace hv := hb32 x2_32 x3_32 x4_32 x5_32 x7_32 hv
            skip
            refine g_blk hC _ bX9_about_32_36 (pc' := 36) (ls' := [some (.inr (some 96)), some (.inl a1), some (.inl x2_32), some (.inl x3_32), some (.inl x4_32), some (.inl x5_32), some (.inl x6_22), some (.inl x7_32), none]) (st' := [.inl 10, .inl x7_32]) (I' := I2) rfl rfl ?_
            obtain ⟨hv1, hv2⟩ := hv
            refine g_cge hC dX9_about_36 (tgt := 104) (by decide) (fun hc => ?_) (fun hc => ?_)
            · have hv := hv1 hc
              clear hv1 hv2 hc
              refine g_blk hC _ bX9_about_104_107 (pc' := 107) (ls' := [some (.inr (some 96)), some (.inl a1), some (.inl x2_32), some (.inl x3_32), some (.inl x4_32), some (.inl x5_32), some (.inl (x6_22 + 1)), some (.inl x7_32), none]) (st' := []) (I' := I2) rfl rfl ?_
              refine g_goto hC dX9_about_107 (tgt := 22) (by decide) ?_
              exact g_weak (ls1 := [some (.inr (some 96)), some (.inl a1), some (.inl x2_32), some (.inl x3_32), some (.inl x4_32), some (.inl x5_32), some (.inl (x6_22 + 1)), none, none]) rfl (And.intro rfl (And.intro rfl (And.intro rfl (And.intro rfl (And.intro rfl (And.intro rfl (And.intro rfl trivial))))))) (ih22 x2_32 x3_32 x4_32 x5_32 (x6_22 + 1) hv.1 (Nat.lt_of_lt_of_le hv.2 (Nat.le_of_lt_succ hn22)))
            · have hv := hv2 hc
              clear hv1 hv2 hc
              refine g_blk hC _ bX9_about_39_51 (pc' := 51) (ls' := [some (.inr (some 96)), some (.inl a1), some (.inl x2_32), some (.inl x3_32), some (.inl x4_32), some (.inl x5_32), some (.inl x6_22), some (.inl x7_32), none]) (st' := [.inl ((10 * x6_22) + x7_32), .inr (some 97)]) (I' := I2) rfl rfl ?_
              obtain ⟨hi, hv⟩ := hv
              refine g_iald hC dX9_about_51 (rfl) hi ?_
              clear hi
              refine g_blk hC _ bX9_about_52_56 (pc' := 56) (ls' := [some (.inr (some 96)), some (.inl a1), some (.inl x2_32), some (.inl x3_32), some (.inl x4_32), some (.inl x5_32), some (.inl x6_22), some (.inl x7_32), some (.inl (A2 97 ((10 * x6_22) + x7_32).toNatClampNeg))]) (st' := [.inl (A2 97 ((10 * x6_22) + x7_32).toNatClampNeg)]) (I' := I2) rfl rfl ?_
              obtain ⟨hv1, hv2⟩ := hv
              refine g_ifne hC dX9_about_56 (tgt := 62) (by decide) (fun hc => ?_) (fun hc => ?_)
              · have hv := hv1 hc
                clear hv1 hv2 hc
                refine g_blk hC _ bX9_about_62_76 (pc' := 76) (ls' := [some (.inr (some 96)), some (.inl a1), some (.inl (x2_32 + 1)), some (.inl (x3_32 + (A2 97 ((10 * x6_22) + x7_32).toNatClampNeg))), some (.inl x4_32), some (.inl x5_32), some (.inl x6_22), some (.inl x7_32), some (.inl (A2 97 ((10 * x6_22) + x7_32).toNatClampNeg))]) (st' := [.inl x7_32, .inl x6_22, .inr (some 96)]) (I' := I2) rfl rfl ?_
                obtain ⟨hp3, hv⟩ := hv
                refine g_callV hC (c_X9_isTurned l D ads I2 A2 x6_22 x7_32 hp3) dX9_about_76 nm_X9_isTurned rfl rfl wl_X9_93 wi_X9_isTurned ws_X9_isTurned wn_X9 wc_X9_isTurned ⟨by decide, by decide⟩ (as := [.inl x6_22, .inl x7_32]) (rest := []) rfl (Nat.le_of_ble_eq_true rfl) ⟨Nat.le_refl _, Nat.le_refl _⟩ (k_qI ?_)
                obtain ⟨hv1, hv2⟩ := hv
                refine g_ifne hC dX9_about_79 (tgt := 85) (by decide) (fun hc => ?_) (fun hc => ?_)
                · have hv := hv1 hc
                  clear hv1 hv2 hc
                  refine g_blk hC _ bX9_about_85_101 (pc' := 101) (ls' := [some (.inr (some 96)), some (.inl a1), some (.inl (x2_32 + 1)), some (.inl (x3_32 + (A2 97 ((10 * x6_22) + x7_32).toNatClampNeg))), some (.inl (x4_32 + 1)), some (.inl (x5_32 + (A2 97 ((10 * x6_22) + x7_32).toNatClampNeg))), some (.inl x6_22), some (.inl (x7_32 + 1)), some (.inl (A2 97 ((10 * x6_22) + x7_32).toNatClampNeg))]) (st' := []) (I' := I2) rfl rfl ?_
                  refine g_goto hC dX9_about_101 (tgt := 32) (by decide) ?_
                  exact g_weak (ls1 := [some (.inr (some 96)), some (.inl a1), some (.inl (x2_32 + 1)), some (.inl (x3_32 + (A2 97 ((10 * x6_22) + x7_32).toNatClampNeg))), some (.inl (x4_32 + 1)), some (.inl (x5_32 + (A2 97 ((10 * x6_22) + x7_32).toNatClampNeg))), some (.inl x6_22), some (.inl (x7_32 + 1)), none]) rfl (And.intro rfl (And.intro rfl (And.intro rfl (And.intro rfl (And.intro rfl (And.intro rfl (And.intro rfl (And.intro rfl trivial)))))))) (ih32 (x2_32 + 1) (x3_32 + (A2 97 ((10 * x6_22) + x7_32).toNatClampNeg)) (x4_32 + 1) (x5_32 + (A2 97 ((10 * x6_22) + x7_32).toNatClampNeg)) (x7_32 + 1) hv.1 (Nat.lt_of_lt_of_le hv.2 (Nat.le_of_lt_succ hn32)))
                · have hv := hv2 hc
                  clear hv1 hv2 hc
                  refine g_goto hC dX9_about_82 (tgt := 98) (by decide) ?_
                  refine g_blk hC _ bX9_about_98_101 (pc' := 101) (ls' := [some (.inr (some 96)), some (.inl a1), some (.inl (x2_32 + 1)), some (.inl (x3_32 + (A2 97 ((10 * x6_22) + x7_32).toNatClampNeg))), some (.inl x4_32), some (.inl x5_32), some (.inl x6_22), some (.inl (x7_32 + 1)), some (.inl (A2 97 ((10 * x6_22) + x7_32).toNatClampNeg))]) (st' := []) (I' := I2) rfl rfl ?_
                  refine g_goto hC dX9_about_101 (tgt := 32) (by decide) ?_
                  exact g_weak (ls1 := [some (.inr (some 96)), some (.inl a1), some (.inl (x2_32 + 1)), some (.inl (x3_32 + (A2 97 ((10 * x6_22) + x7_32).toNatClampNeg))), some (.inl x4_32), some (.inl x5_32), some (.inl x6_22), some (.inl (x7_32 + 1)), none]) rfl (And.intro rfl (And.intro rfl (And.intro rfl (And.intro rfl (And.intro rfl (And.intro rfl (And.intro rfl (And.intro rfl trivial)))))))) (ih32 (x2_32 + 1) (x3_32 + (A2 97 ((10 * x6_22) + x7_32).toNatClampNeg)) x4_32 x5_32 (x7_32 + 1) hv.1 (Nat.lt_of_lt_of_le hv.2 (Nat.le_of_lt_succ hn32)))
              · have hv := hv2 hc
                clear hv1 hv2 hc
                refine g_goto hC dX9_about_59 (tgt := 98) (by decide) ?_
                refine g_blk hC _ bX9_about_98_101 (pc' := 101) (ls' := [some (.inr (some 96)), some (.inl a1), some (.inl x2_32), some (.inl x3_32), some (.inl x4_32), some (.inl x5_32), some (.inl x6_22), some (.inl (x7_32 + 1)), some (.inl (A2 97 ((10 * x6_22) + x7_32).toNatClampNeg))]) (st' := []) (I' := I2) rfl rfl ?_
                refine g_goto hC dX9_about_101 (tgt := 32) (by decide) ?_
                exact g_weak (ls1 := [some (.inr (some 96)), some (.inl a1), some (.inl x2_32), some (.inl x3_32), some (.inl x4_32), some (.inl x5_32), some (.inl x6_22), some (.inl (x7_32 + 1)), none]) rfl (And.intro rfl (And.intro rfl (And.intro rfl (And.intro rfl (And.intro rfl (And.intro rfl (And.intro rfl (And.intro rfl trivial)))))))) (ih32 x2_32 x3_32 x4_32 x5_32 (x7_32 + 1) hv.1 (Nat.lt_of_lt_of_le hv.2 (Nat.le_of_lt_succ hn32)))
        exact g_weak (ls1 := [some (.inr (some 96)), some (.inl a1), some (.inl x2_22), some (.inl x3_22), some (.inl x4_22), some (.inl x5_22), some (.inl x6_22), some (.inl 0), none]) rfl (And.intro rfl (And.intro rfl (And.intro rfl (And.intro rfl (And.intro rfl (And.intro rfl (And.intro rfl (And.intro rfl trivial)))))))) (L32 _ x2_22 x3_22 x4_22 x5_22 0 hi32 (Nat.lt_succ_self _))
  exact g_weak (ls1 := [some (.inr (some 96)), some (.inl a1), some (.inl 0), some (.inl 0), some (.inl 0), some (.inl 0), some (.inl 0), none, none]) rfl (And.intro rfl (And.intro rfl (And.intro rfl (And.intro rfl (And.intro rfl (And.intro rfl (And.intro rfl trivial))))))) (L22 _ 0 0 0 0 0 hi22 (Nat.lt_succ_self _))
theorem bX9_width_0_7 : okB cX9_width RX9 0 [(5, 0, 0, 0, 0), (0, 0, 0, 0, 0), (24, 65, 9, 0, 0), (5, 0, 0, 0, 0), (3, 1, 0, 0, 0)] := And.intro ⟨_, dX9_width_0, rfl⟩ (And.intro ⟨_, dX9_width_1, by decide⟩ (And.intro ⟨dX9_width_2, fl_X9_65, rfl, rfl⟩ (And.intro ⟨_, dX9_width_5, rfl⟩ (And.intro ⟨_, dX9_width_6, rfl⟩ trivial))))
theorem bX9_width_35_36 : okB cX9_width RX9 35 [(0, 0, 0, 0, 0)] := And.intro ⟨_, dX9_width_35, by decide⟩ trivial
theorem bX9_width_13_15 : okB cX9_width RX9 13 [(5, 0, 0, 0, 0), (3, 2, 0, 0, 0)] := And.intro ⟨_, dX9_width_13, rfl⟩ (And.intro ⟨_, dX9_width_14, rfl⟩ trivial)
theorem bX9_width_21_31 : okB cX9_width RX9 21 [(5, 0, 0, 0, 0), (23, 7, 9, 1, 0), (1, 0, 0, 0, 10), (3, 1, 0, 0, 0), (14, 0, 0, 0, 0), (3, 2, 0, 0, 0), (12, 0, 0, 0, 0)] := And.intro ⟨_, dX9_width_21, rfl⟩ (And.intro ⟨dX9_width_22, fl_X9_7⟩ (And.intro ⟨_, dX9_width_25, by decide⟩ (And.intro ⟨_, dX9_width_27, rfl⟩ (And.intro dX9_width_28 (And.intro ⟨_, dX9_width_29, rfl⟩ (And.intro dX9_width_30 trivial))))))
set_option maxHeartbeats 4000000 in
set_option maxRecDepth 100000 in
theorem k_X9_width (l : Launch) (D : va_G) (ads : AD) (I A : HI) (a1 : Int32) (a2 : Int32) (po : Option AV → HI → HI → Prop)
    (hv : (((zP a1) = 0 → po (some (.inl 0)) (up2 I 96 0 0) A) ∧ (¬ (zP a1) = 0 → (((zP a2) = 0 → po (some (.inl 0)) (up2 I 96 0 0) A) ∧ (¬ (zP a2) = 0 → (vp_in ((10 * a1) + a2) 100 ∧ po (some (.inl (A 97 ((10 * a1) + a2).toNatClampNeg))) (up2 I 96 0 0) A)))))) : Ct l yX9_width cX9_width 3 (some .int) 1 21 D ads shp [.inr (some 96), .inl a1, .inl a2] I A po := by
  refine Ct_of (by decide) (Nat.le_of_ble_eq_true rfl) ?_
  intro p e s m args below meth c hC hr
  replace hC : CX p s m args meth c cX9_width 3 RX9 (AdS ads s.heap.size) := hC
  show Gm p l e s m args below meth c D ads 1 21 3 po I A 0 [some (.inr (some 96)), some (.inl a1), some (.inl a2)] []
  refine g_blk hC _ bX9_width_0_7 (pc' := 7) (ls' := [some (.inr (some 96)), some (.inl a1), some (.inl a2)]) (st' := [.inl a1, .inr (some 96)]) (I' := up2 I 96 0 0) rfl rfl ?_
  refine g_callV hC (c_X9_isPlace l D ads (up2 I 96 0 0) A a1) dX9_width_7 nm_X9_isPlace rfl rfl wl_X9_68 wi_X9_isPlace ws_X9_isPlace wn_X9 wc_X9_isPlace ⟨by decide, by decide⟩ (as := [.inl a1]) (rest := []) rfl (Nat.le_of_ble_eq_true rfl) ⟨Nat.le_refl _, Nat.le_refl _⟩ (k_qI ?_)
  obtain ⟨hv1, hv2⟩ := hv
  refine g_ifeq hC dX9_width_10 (tgt := 35) (by decide) (fun hc => ?_) (fun hc => ?_)
  · have hv := hv1 hc
    clear hv1 hv2 hc
    refine g_blk hC _ bX9_width_35_36 (pc' := 36) (ls' := [some (.inr (some 96)), some (.inl a1), some (.inl a2)]) (st' := [.inl 0]) (I' := up2 I 96 0 0) rfl rfl ?_
    exact g_reti hC hr rfl dX9_width_36 hv
  · have hv := hv2 hc
    clear hv1 hv2 hc
    refine g_blk hC _ bX9_width_13_15 (pc' := 15) (ls' := [some (.inr (some 96)), some (.inl a1), some (.inl a2)]) (st' := [.inl a2, .inr (some 96)]) (I' := up2 I 96 0 0) rfl rfl ?_
    refine g_callV hC (c_X9_isPlace l D ads (up2 I 96 0 0) A a2) dX9_width_15 nm_X9_isPlace rfl rfl wl_X9_68 wi_X9_isPlace ws_X9_isPlace wn_X9 wc_X9_isPlace ⟨by decide, by decide⟩ (as := [.inl a2]) (rest := []) rfl (Nat.le_of_ble_eq_true rfl) ⟨Nat.le_refl _, Nat.le_refl _⟩ (k_qI ?_)
    obtain ⟨hv1, hv2⟩ := hv
    refine g_ifeq hC dX9_width_18 (tgt := 35) (by decide) (fun hc => ?_) (fun hc => ?_)
    · have hv := hv1 hc
      clear hv1 hv2 hc
      refine g_blk hC _ bX9_width_35_36 (pc' := 36) (ls' := [some (.inr (some 96)), some (.inl a1), some (.inl a2)]) (st' := [.inl 0]) (I' := up2 I 96 0 0) rfl rfl ?_
      exact g_reti hC hr rfl dX9_width_36 hv
    · have hv := hv2 hc
      clear hv1 hv2 hc
      refine g_blk hC _ bX9_width_21_31 (pc' := 31) (ls' := [some (.inr (some 96)), some (.inl a1), some (.inl a2)]) (st' := [.inl ((10 * a1) + a2), .inr (some 97)]) (I' := up2 I 96 0 0) rfl rfl ?_
      obtain ⟨hi, hv⟩ := hv
      refine g_iald hC dX9_width_31 (rfl) hi ?_
      clear hi
      refine g_goto hC dX9_width_32 (tgt := 36) (by decide) ?_
      exact g_reti hC hr rfl dX9_width_36 hv
theorem bX9_turned_0_6 : okB cX9_turned RX9 0 [(5, 0, 0, 0, 0), (0, 0, 0, 0, 0), (24, 65, 9, 0, 0), (5, 0, 0, 0, 0)] := And.intro ⟨_, dX9_turned_0, rfl⟩ (And.intro ⟨_, dX9_turned_1, by decide⟩ (And.intro ⟨dX9_turned_2, fl_X9_65, rfl, rfl⟩ (And.intro ⟨_, dX9_turned_5, rfl⟩ trivial)))
theorem bX9_turned_9_12 : okB cX9_turned RX9 9 [(5, 0, 0, 0, 0), (3, 1, 0, 0, 0), (3, 2, 0, 0, 0)] := And.intro ⟨_, dX9_turned_9, rfl⟩ (And.intro ⟨_, dX9_turned_10, rfl⟩ (And.intro ⟨_, dX9_turned_11, rfl⟩ trivial))
theorem bX9_turned_22_25 : okB cX9_turned RX9 22 [(5, 0, 0, 0, 0), (3, 1, 0, 0, 0), (3, 2, 0, 0, 0)] := And.intro ⟨_, dX9_turned_22, rfl⟩ (And.intro ⟨_, dX9_turned_23, rfl⟩ (And.intro ⟨_, dX9_turned_24, rfl⟩ trivial))
theorem bX9_turned_35_36 : okB cX9_turned RX9 35 [(0, 0, 0, 0, 0)] := And.intro ⟨_, dX9_turned_35, by decide⟩ trivial
theorem bX9_turned_31_32 : okB cX9_turned RX9 31 [(0, 0, 0, 0, 1)] := And.intro ⟨_, dX9_turned_31, by decide⟩ trivial
theorem bX9_turned_18_19 : okB cX9_turned RX9 18 [(0, 0, 0, 0, (-1))] := And.intro ⟨_, dX9_turned_18, by decide⟩ trivial
set_option maxHeartbeats 4000000 in
set_option maxRecDepth 100000 in
theorem k_X9_turned (l : Launch) (D : va_G) (ads : AD) (I A : HI) (a1 : Int32) (a2 : Int32) (po : Option AV → HI → HI → Prop) {pp_X9_findRow : HI → HI → Prop} {qq_X9_findRow : HI → HI → HI → HI → Prop} (hh_X9_findRow : ∀ (I A : HI), pp_X9_findRow I A → Ct l yX9_findRow cX9_findRow 5 none 1 24 D ads shp [.inr (some 96)] I A (qV (qq_X9_findRow I A)))
    (hv : ((pp_X9_findRow (up2 I 96 0 0) A) ∧ (∀ (I2 A2 : HI), qq_X9_findRow (up2 I 96 0 0) A I2 A2 → ((¬ (isF (A2 97) a1 a2) = 0 → ((vp_in a1 10 ∧ vp_in a2 10) ∧ (((trnI (A2 101) a1 a2) = 0 → po (some (.inl 0)) I2 A2) ∧ (¬ (trnI (A2 101) a1 a2) = 0 → po (some (.inl 1)) I2 A2)))) ∧ ((isF (A2 97) a1 a2) = 0 → po (some (.inl ((-1)))) I2 A2))))) : Ct l yX9_turned cX9_turned 3 (some .int) 2 48 D ads shp [.inr (some 96), .inl a1, .inl a2] I A po := by
  refine Ct_of (by decide) (Nat.le_of_ble_eq_true rfl) ?_
  intro p e s m args below meth c hC hr
  replace hC : CX p s m args meth c cX9_turned 3 RX9 (AdS ads s.heap.size) := hC
  show Gm p l e s m args below meth c D ads 2 48 3 po I A 0 [some (.inr (some 96)), some (.inl a1), some (.inl a2)] []
  refine g_blk hC _ bX9_turned_0_6 (pc' := 6) (ls' := [some (.inr (some 96)), some (.inl a1), some (.inl a2)]) (st' := [.inr (some 96)]) (I' := up2 I 96 0 0) rfl rfl ?_
  obtain ⟨hp1, hv⟩ := hv
  refine g_callV hC (hh_X9_findRow (up2 I 96 0 0) A  hp1) dX9_turned_6 nm_X9_findRow rfl rfl wl_X9_97 wi_X9_findRow ws_X9_findRow wn_X9 wc_X9_findRow ⟨by decide, by decide⟩ (as := []) (rest := []) rfl (Nat.le_of_ble_eq_true rfl) ⟨Nat.le_refl _, Nat.le_refl _⟩ (k_qV ?_)
  intro I2 A2 hq2
  replace hv := hv I2 A2 hq2
  refine g_blk hC _ bX9_turned_9_12 (pc' := 12) (ls' := [some (.inr (some 96)), some (.inl a1), some (.inl a2)]) (st' := [.inl a2, .inl a1, .inr (some 96)]) (I' := I2) rfl rfl ?_
  refine g_callV hC (c_X9_isFlow l D ads I2 A2 a1 a2) dX9_turned_12 nm_X9_isFlow rfl rfl wl_X9_155 wi_X9_isFlow ws_X9_isFlow wn_X9 wc_X9_isFlow ⟨by decide, by decide⟩ (as := [.inl a1, .inl a2]) (rest := []) rfl (Nat.le_of_ble_eq_true rfl) ⟨Nat.le_refl _, Nat.le_refl _⟩ (k_qI ?_)
  obtain ⟨hv1, hv2⟩ := hv
  refine g_ifne hC dX9_turned_15 (tgt := 22) (by decide) (fun hc => ?_) (fun hc => ?_)
  · have hv := hv1 hc
    clear hv1 hv2 hc
    refine g_blk hC _ bX9_turned_22_25 (pc' := 25) (ls' := [some (.inr (some 96)), some (.inl a1), some (.inl a2)]) (st' := [.inl a2, .inl a1, .inr (some 96)]) (I' := I2) rfl rfl ?_
    obtain ⟨hp4, hv⟩ := hv
    refine g_callV hC (c_X9_isTurned l D ads I2 A2 a1 a2 hp4) dX9_turned_25 nm_X9_isTurned rfl rfl wl_X9_93 wi_X9_isTurned ws_X9_isTurned wn_X9 wc_X9_isTurned ⟨by decide, by decide⟩ (as := [.inl a1, .inl a2]) (rest := []) rfl (Nat.le_of_ble_eq_true rfl) ⟨Nat.le_refl _, Nat.le_refl _⟩ (k_qI ?_)
    obtain ⟨hv1, hv2⟩ := hv
    refine g_ifeq hC dX9_turned_28 (tgt := 35) (by decide) (fun hc => ?_) (fun hc => ?_)
    · have hv := hv1 hc
      clear hv1 hv2 hc
      refine g_blk hC _ bX9_turned_35_36 (pc' := 36) (ls' := [some (.inr (some 96)), some (.inl a1), some (.inl a2)]) (st' := [.inl 0]) (I' := I2) rfl rfl ?_
      exact g_reti hC hr rfl dX9_turned_36 hv
    · have hv := hv2 hc
      clear hv1 hv2 hc
      refine g_blk hC _ bX9_turned_31_32 (pc' := 32) (ls' := [some (.inr (some 96)), some (.inl a1), some (.inl a2)]) (st' := [.inl 1]) (I' := I2) rfl rfl ?_
      refine g_goto hC dX9_turned_32 (tgt := 36) (by decide) ?_
      exact g_reti hC hr rfl dX9_turned_36 hv
  · have hv := hv2 hc
    clear hv1 hv2 hc
    refine g_blk hC _ bX9_turned_18_19 (pc' := 19) (ls' := [some (.inr (some 96)), some (.inl a1), some (.inl a2)]) (st' := [.inl ((-1))]) (I' := I2) rfl rfl ?_
    refine g_goto hC dX9_turned_19 (tgt := 36) (by decide) ?_
    exact g_reti hC hr rfl dX9_turned_36 hv
theorem bX9_row_0_6 : okB cX9_row RX9 0 [(5, 0, 0, 0, 0), (0, 0, 0, 0, 0), (24, 65, 9, 0, 0), (5, 0, 0, 0, 0)] := And.intro ⟨_, dX9_row_0, rfl⟩ (And.intro ⟨_, dX9_row_1, by decide⟩ (And.intro ⟨dX9_row_2, fl_X9_65, rfl, rfl⟩ (And.intro ⟨_, dX9_row_5, rfl⟩ trivial)))
theorem bX9_row_9_10 : okB cX9_row RX9 9 [(3, 1, 0, 0, 0)] := And.intro ⟨_, dX9_row_9, rfl⟩ trivial
theorem bX9_row_30_31 : okB cX9_row RX9 30 [(0, 0, 0, 0, (-1))] := And.intro ⟨_, dX9_row_30, by decide⟩ trivial
theorem bX9_row_13_18 : okB cX9_row RX9 13 [(3, 1, 0, 0, 0), (5, 0, 0, 0, 0), (23, 87, 9, 8, 0)] := And.intro ⟨_, dX9_row_13, rfl⟩ (And.intro ⟨_, dX9_row_14, rfl⟩ (And.intro ⟨dX9_row_15, fl_X9_87⟩ trivial))
theorem bX9_row_21_26 : okB cX9_row RX9 21 [(5, 0, 0, 0, 0), (23, 23, 9, 9, 0), (3, 1, 0, 0, 0)] := And.intro ⟨_, dX9_row_21, rfl⟩ (And.intro ⟨dX9_row_22, fl_X9_23⟩ (And.intro ⟨_, dX9_row_25, rfl⟩ trivial))
set_option maxHeartbeats 4000000 in
set_option maxRecDepth 100000 in
theorem k_X9_row (l : Launch) (D : va_G) (ads : AD) (I A : HI) (a1 : Int32) (po : Option AV → HI → HI → Prop) {pp_X9_findRow : HI → HI → Prop} {qq_X9_findRow : HI → HI → HI → HI → Prop} (hh_X9_findRow : ∀ (I A : HI), pp_X9_findRow I A → Ct l yX9_findRow cX9_findRow 5 none 1 24 D ads shp [.inr (some 96)] I A (qV (qq_X9_findRow I A)))
    (hv : ((pp_X9_findRow (up2 I 96 0 0) A) ∧ (∀ (I2 A2 : HI), qq_X9_findRow (up2 I 96 0 0) A I2 A2 → ((a1 < 0 → po (some (.inl ((-1)))) I2 A2) ∧ (¬ a1 < 0 → (((I2 96 8) ≤ a1 → po (some (.inl ((-1)))) I2 A2) ∧ (¬ (I2 96 8) ≤ a1 → (vp_in a1 10 ∧ po (some (.inl (A2 100 a1.toNatClampNeg))) I2 A2)))))))) : Ct l yX9_row cX9_row 2 (some .int) 2 48 D ads shp [.inr (some 96), .inl a1] I A po := by
  refine Ct_of (by decide) (Nat.le_of_ble_eq_true rfl) ?_
  intro p e s m args below meth c hC hr
  replace hC : CX p s m args meth c cX9_row 2 RX9 (AdS ads s.heap.size) := hC
  show Gm p l e s m args below meth c D ads 2 48 2 po I A 0 [some (.inr (some 96)), some (.inl a1)] []
  refine g_blk hC _ bX9_row_0_6 (pc' := 6) (ls' := [some (.inr (some 96)), some (.inl a1)]) (st' := [.inr (some 96)]) (I' := up2 I 96 0 0) rfl rfl ?_
  obtain ⟨hp1, hv⟩ := hv
  refine g_callV hC (hh_X9_findRow (up2 I 96 0 0) A  hp1) dX9_row_6 nm_X9_findRow rfl rfl wl_X9_97 wi_X9_findRow ws_X9_findRow wn_X9 wc_X9_findRow ⟨by decide, by decide⟩ (as := []) (rest := []) rfl (Nat.le_of_ble_eq_true rfl) ⟨Nat.le_refl _, Nat.le_refl _⟩ (k_qV ?_)
  intro I2 A2 hq2
  replace hv := hv I2 A2 hq2
  refine g_blk hC _ bX9_row_9_10 (pc' := 10) (ls' := [some (.inr (some 96)), some (.inl a1)]) (st' := [.inl a1]) (I' := I2) rfl rfl ?_
  obtain ⟨hv1, hv2⟩ := hv
  refine g_iflt hC dX9_row_10 (tgt := 30) (by decide) (fun hc => ?_) (fun hc => ?_)
  · have hv := hv1 hc
    clear hv1 hv2 hc
    refine g_blk hC _ bX9_row_30_31 (pc' := 31) (ls' := [some (.inr (some 96)), some (.inl a1)]) (st' := [.inl ((-1))]) (I' := I2) rfl rfl ?_
    exact g_reti hC hr rfl dX9_row_31 hv
  · have hv := hv2 hc
    clear hv1 hv2 hc
    refine g_blk hC _ bX9_row_13_18 (pc' := 18) (ls' := [some (.inr (some 96)), some (.inl a1)]) (st' := [.inl (I2 96 8), .inl a1]) (I' := I2) rfl rfl ?_
    obtain ⟨hv1, hv2⟩ := hv
    refine g_cge hC dX9_row_18 (tgt := 30) (by decide) (fun hc => ?_) (fun hc => ?_)
    · have hv := hv1 hc
      clear hv1 hv2 hc
      refine g_blk hC _ bX9_row_30_31 (pc' := 31) (ls' := [some (.inr (some 96)), some (.inl a1)]) (st' := [.inl ((-1))]) (I' := I2) rfl rfl ?_
      exact g_reti hC hr rfl dX9_row_31 hv
    · have hv := hv2 hc
      clear hv1 hv2 hc
      refine g_blk hC _ bX9_row_21_26 (pc' := 26) (ls' := [some (.inr (some 96)), some (.inl a1)]) (st' := [.inl a1, .inr (some 100)]) (I' := I2) rfl rfl ?_
      obtain ⟨hi, hv⟩ := hv
      refine g_iald hC dX9_row_26 (rfl) hi ?_
      clear hi
      refine g_goto hC dX9_row_27 (tgt := 31) (by decide) ?_
      exact g_reti hC hr rfl dX9_row_31 hv
theorem bX9_layer_0_6 : okB cX9_layer RX9 0 [(5, 0, 0, 0, 0), (0, 0, 0, 0, 0), (24, 65, 9, 0, 0), (5, 0, 0, 0, 0)] := And.intro ⟨_, dX9_layer_0, rfl⟩ (And.intro ⟨_, dX9_layer_1, by decide⟩ (And.intro ⟨dX9_layer_2, fl_X9_65, rfl, rfl⟩ (And.intro ⟨_, dX9_layer_5, rfl⟩ trivial)))
theorem bX9_layer_9_11 : okB cX9_layer RX9 9 [(5, 0, 0, 0, 0), (3, 1, 0, 0, 0)] := And.intro ⟨_, dX9_layer_9, rfl⟩ (And.intro ⟨_, dX9_layer_10, rfl⟩ trivial)
theorem bX9_layer_34_35 : okB cX9_layer RX9 34 [(0, 0, 0, 0, (-1))] := And.intro ⟨_, dX9_layer_34, by decide⟩ trivial
theorem bX9_layer_17_19 : okB cX9_layer RX9 17 [(5, 0, 0, 0, 0), (3, 1, 0, 0, 0)] := And.intro ⟨_, dX9_layer_17, rfl⟩ (And.intro ⟨_, dX9_layer_18, rfl⟩ trivial)
theorem bX9_layer_25_30 : okB cX9_layer RX9 25 [(5, 0, 0, 0, 0), (23, 29, 9, 11, 0), (3, 1, 0, 0, 0)] := And.intro ⟨_, dX9_layer_25, rfl⟩ (And.intro ⟨dX9_layer_26, fl_X9_29⟩ (And.intro ⟨_, dX9_layer_29, rfl⟩ trivial))
set_option maxHeartbeats 4000000 in
set_option maxRecDepth 100000 in
theorem k_X9_layer (l : Launch) (D : va_G) (ads : AD) (I A : HI) (a1 : Int32) (po : Option AV → HI → HI → Prop) {pp_X9_findRow : HI → HI → Prop} {qq_X9_findRow : HI → HI → HI → HI → Prop} (hh_X9_findRow : ∀ (I A : HI), pp_X9_findRow I A → Ct l yX9_findRow cX9_findRow 5 none 1 24 D ads shp [.inr (some 96)] I A (qV (qq_X9_findRow I A)))
    (hv : ((pp_X9_findRow (up2 I 96 0 0) A) ∧ (∀ (I2 A2 : HI), qq_X9_findRow (up2 I 96 0 0) A I2 A2 → (((zP a1) = 0 → po (some (.inl ((-1)))) I2 A2) ∧ (¬ (zP a1) = 0 → (((uBt (I2 96 7) a1) = 0 → po (some (.inl ((-1)))) I2 A2) ∧ (¬ (uBt (I2 96 7) a1) = 0 → (vp_in a1 10 ∧ po (some (.inl (A2 102 a1.toNatClampNeg))) I2 A2)))))))) : Ct l yX9_layer cX9_layer 2 (some .int) 2 48 D ads shp [.inr (some 96), .inl a1] I A po := by
  refine Ct_of (by decide) (Nat.le_of_ble_eq_true rfl) ?_
  intro p e s m args below meth c hC hr
  replace hC : CX p s m args meth c cX9_layer 2 RX9 (AdS ads s.heap.size) := hC
  show Gm p l e s m args below meth c D ads 2 48 2 po I A 0 [some (.inr (some 96)), some (.inl a1)] []
  refine g_blk hC _ bX9_layer_0_6 (pc' := 6) (ls' := [some (.inr (some 96)), some (.inl a1)]) (st' := [.inr (some 96)]) (I' := up2 I 96 0 0) rfl rfl ?_
  obtain ⟨hp1, hv⟩ := hv
  refine g_callV hC (hh_X9_findRow (up2 I 96 0 0) A  hp1) dX9_layer_6 nm_X9_findRow rfl rfl wl_X9_97 wi_X9_findRow ws_X9_findRow wn_X9 wc_X9_findRow ⟨by decide, by decide⟩ (as := []) (rest := []) rfl (Nat.le_of_ble_eq_true rfl) ⟨Nat.le_refl _, Nat.le_refl _⟩ (k_qV ?_)
  intro I2 A2 hq2
  replace hv := hv I2 A2 hq2
  refine g_blk hC _ bX9_layer_9_11 (pc' := 11) (ls' := [some (.inr (some 96)), some (.inl a1)]) (st' := [.inl a1, .inr (some 96)]) (I' := I2) rfl rfl ?_
  refine g_callV hC (c_X9_isPlace l D ads I2 A2 a1) dX9_layer_11 nm_X9_isPlace rfl rfl wl_X9_68 wi_X9_isPlace ws_X9_isPlace wn_X9 wc_X9_isPlace ⟨by decide, by decide⟩ (as := [.inl a1]) (rest := []) rfl (Nat.le_of_ble_eq_true rfl) ⟨Nat.le_refl _, Nat.le_refl _⟩ (k_qI ?_)
  obtain ⟨hv1, hv2⟩ := hv
  refine g_ifeq hC dX9_layer_14 (tgt := 34) (by decide) (fun hc => ?_) (fun hc => ?_)
  · have hv := hv1 hc
    clear hv1 hv2 hc
    refine g_blk hC _ bX9_layer_34_35 (pc' := 35) (ls' := [some (.inr (some 96)), some (.inl a1)]) (st' := [.inl ((-1))]) (I' := I2) rfl rfl ?_
    exact g_reti hC hr rfl dX9_layer_35 hv
  · have hv := hv2 hc
    clear hv1 hv2 hc
    refine g_blk hC _ bX9_layer_17_19 (pc' := 19) (ls' := [some (.inr (some 96)), some (.inl a1)]) (st' := [.inl a1, .inr (some 96)]) (I' := I2) rfl rfl ?_
    refine g_callV hC (c_X9_isUsed l D ads I2 A2 a1) dX9_layer_19 nm_X9_isUsed rfl rfl wl_X9_100 wi_X9_isUsed ws_X9_isUsed wn_X9 wc_X9_isUsed ⟨by decide, by decide⟩ (as := [.inl a1]) (rest := []) rfl (Nat.le_of_ble_eq_true rfl) ⟨Nat.le_refl _, Nat.le_refl _⟩ (k_qI ?_)
    obtain ⟨hv1, hv2⟩ := hv
    refine g_ifeq hC dX9_layer_22 (tgt := 34) (by decide) (fun hc => ?_) (fun hc => ?_)
    · have hv := hv1 hc
      clear hv1 hv2 hc
      refine g_blk hC _ bX9_layer_34_35 (pc' := 35) (ls' := [some (.inr (some 96)), some (.inl a1)]) (st' := [.inl ((-1))]) (I' := I2) rfl rfl ?_
      exact g_reti hC hr rfl dX9_layer_35 hv
    · have hv := hv2 hc
      clear hv1 hv2 hc
      refine g_blk hC _ bX9_layer_25_30 (pc' := 30) (ls' := [some (.inr (some 96)), some (.inl a1)]) (st' := [.inl a1, .inr (some 102)]) (I' := I2) rfl rfl ?_
      obtain ⟨hi, hv⟩ := hv
      refine g_iald hC dX9_layer_30 (rfl) hi ?_
      clear hi
      refine g_goto hC dX9_layer_31 (tgt := 35) (by decide) ?_
      exact g_reti hC hr rfl dX9_layer_35 hv
theorem bX9_rest_0_7 : okB cX9_rest RX9 0 [(5, 0, 0, 0, 0), (0, 0, 0, 0, 0), (24, 65, 9, 0, 0), (5, 0, 0, 0, 0), (3, 1, 0, 0, 0)] := And.intro ⟨_, dX9_rest_0, rfl⟩ (And.intro ⟨_, dX9_rest_1, by decide⟩ (And.intro ⟨dX9_rest_2, fl_X9_65, rfl, rfl⟩ (And.intro ⟨_, dX9_rest_5, rfl⟩ (And.intro ⟨_, dX9_rest_6, rfl⟩ trivial))))
theorem bX9_rest_17_21 : okB cX9_rest RX9 17 [(0, 0, 0, 0, 0), (7, 2, 0, 0, 0), (0, 0, 0, 0, 0), (7, 3, 0, 0, 0)] := And.intro ⟨_, dX9_rest_17, by decide⟩ (And.intro ⟨_, dX9_rest_18, rfl⟩ (And.intro ⟨_, dX9_rest_19, by decide⟩ (And.intro ⟨_, dX9_rest_20, rfl⟩ trivial)))
theorem bX9_rest_21_24 : okB cX9_rest RX9 21 [(3, 3, 0, 0, 0), (1, 0, 0, 0, 10)] := And.intro ⟨_, dX9_rest_21, rfl⟩ (And.intro ⟨_, dX9_rest_22, by decide⟩ trivial)
theorem bX9_rest_59_60 : okB cX9_rest RX9 59 [(3, 2, 0, 0, 0)] := And.intro ⟨_, dX9_rest_59, rfl⟩ trivial
theorem bX9_rest_27_38 : okB cX9_rest RX9 27 [(3, 2, 0, 0, 0), (5, 0, 0, 0, 0), (23, 7, 9, 1, 0), (1, 0, 0, 0, 10), (3, 3, 0, 0, 0), (14, 0, 0, 0, 0), (3, 1, 0, 0, 0), (12, 0, 0, 0, 0)] := And.intro ⟨_, dX9_rest_27, rfl⟩ (And.intro ⟨_, dX9_rest_28, rfl⟩ (And.intro ⟨dX9_rest_29, fl_X9_7⟩ (And.intro ⟨_, dX9_rest_32, by decide⟩ (And.intro ⟨_, dX9_rest_34, rfl⟩ (And.intro dX9_rest_35 (And.intro ⟨_, dX9_rest_36, rfl⟩ (And.intro dX9_rest_37 trivial)))))))
theorem bX9_rest_39_50 : okB cX9_rest RX9 39 [(12, 0, 0, 0, 0), (5, 0, 0, 0, 0), (23, 7, 9, 1, 0), (1, 0, 0, 0, 10), (3, 1, 0, 0, 0), (14, 0, 0, 0, 0), (3, 3, 0, 0, 0), (12, 0, 0, 0, 0)] := And.intro dX9_rest_39 (And.intro ⟨_, dX9_rest_40, rfl⟩ (And.intro ⟨dX9_rest_41, fl_X9_7⟩ (And.intro ⟨_, dX9_rest_44, by decide⟩ (And.intro ⟨_, dX9_rest_46, rfl⟩ (And.intro dX9_rest_47 (And.intro ⟨_, dX9_rest_48, rfl⟩ (And.intro dX9_rest_49 trivial)))))))
theorem bX9_rest_51_56 : okB cX9_rest RX9 51 [(13, 0, 0, 0, 0), (7, 2, 0, 0, 0), (11, 3, 0, 0, 1)] := And.intro dX9_rest_51 (And.intro ⟨_, dX9_rest_52, rfl⟩ (And.intro ⟨_, dX9_rest_53, by decide⟩ trivial))
theorem bX9_rest_13_16 : okB cX9_rest RX9 13 [(2, 0, 0, 0, (-10000))] := And.intro ⟨_, dX9_rest_13, by decide⟩ trivial
set_option maxHeartbeats 4000000 in
set_option maxRecDepth 100000 in
theorem k_X9_rest (l : Launch) (D : va_G) (ads : AD) (I A : HI) (a1 : Int32) (po : Option AV → HI → HI → Prop) (Iv21 : Int32 → Int32 → Prop) (mu21 : Int32 → Int32 → Nat)
    (hv : ((¬ (zP a1) = 0 → (Iv21 0 0 ∧ ∀ (x2_21 : Int32) (x3_21 : Int32), Iv21 x2_21 x3_21 → ((10 ≤ x3_21 → po (some (.inl x2_21)) (up2 I 96 0 0) A) ∧ (¬ 10 ≤ x3_21 → (vp_in ((10 * x3_21) + a1) 100 ∧ (vp_in ((10 * a1) + x3_21) 100 ∧ (Iv21 ((x2_21 + (A 97 ((10 * x3_21) + a1).toNatClampNeg)) - (A 97 ((10 * a1) + x3_21).toNatClampNeg)) (x3_21 + 1) ∧ mu21 ((x2_21 + (A 97 ((10 * x3_21) + a1).toNatClampNeg)) - (A 97 ((10 * a1) + x3_21).toNatClampNeg)) (x3_21 + 1) < mu21 x2_21 x3_21))))))) ∧ ((zP a1) = 0 → po (some (.inl ((-10000)))) (up2 I 96 0 0) A))) : Ct l yX9_rest cX9_rest 4 (some .int) 1 21 D ads shp [.inr (some 96), .inl a1] I A po := by
  refine Ct_of (by decide) (Nat.le_of_ble_eq_true rfl) ?_
  intro p e s m args below meth c hC hr
  replace hC : CX p s m args meth c cX9_rest 4 RX9 (AdS ads s.heap.size) := hC
  show Gm p l e s m args below meth c D ads 1 21 4 po I A 0 [some (.inr (some 96)), some (.inl a1), none, none] []
  refine g_blk hC _ bX9_rest_0_7 (pc' := 7) (ls' := [some (.inr (some 96)), some (.inl a1), none, none]) (st' := [.inl a1, .inr (some 96)]) (I' := up2 I 96 0 0) rfl rfl ?_
  refine g_callV hC (c_X9_isPlace l D ads (up2 I 96 0 0) A a1) dX9_rest_7 nm_X9_isPlace rfl rfl wl_X9_68 wi_X9_isPlace ws_X9_isPlace wn_X9 wc_X9_isPlace ⟨by decide, by decide⟩ (as := [.inl a1]) (rest := []) rfl (Nat.le_of_ble_eq_true rfl) ⟨Nat.le_refl _, Nat.le_refl _⟩ (k_qI ?_)
  obtain ⟨hv1, hv2⟩ := hv
  refine g_ifne hC dX9_rest_10 (tgt := 17) (by decide) (fun hc => ?_) (fun hc => ?_)
  · have hv := hv1 hc
    clear hv1 hv2 hc
    refine g_blk hC _ bX9_rest_17_21 (pc' := 21) (ls' := [some (.inr (some 96)), some (.inl a1), some (.inl 0), some (.inl 0)]) (st' := []) (I' := up2 I 96 0 0) rfl rfl ?_
    obtain ⟨hi21, hb21⟩ := hv
    have L21 : ∀ (n : Nat) (x2_21 : Int32) (x3_21 : Int32), Iv21 x2_21 x3_21 → mu21 x2_21 x3_21 < n → Gm p l e s m args below meth c D ads 1 21 4 po (up2 I 96 0 0) A 21 [some (.inr (some 96)), some (.inl a1), some (.inl x2_21), some (.inl x3_21)] [] := by
      intro n
      induction n with
      | zero => intro x2_21 x3_21 _ hn; exact absurd hn (Nat.not_lt_zero _)
      | succ n ih21 =>
        intro x2_21 x3_21 hv hn21
        replace hv := hb21 x2_21 x3_21 hv
        skip
        refine g_blk hC _ bX9_rest_21_24 (pc' := 24) (ls' := [some (.inr (some 96)), some (.inl a1), some (.inl x2_21), some (.inl x3_21)]) (st' := [.inl 10, .inl x3_21]) (I' := up2 I 96 0 0) rfl rfl ?_
        obtain ⟨hv1, hv2⟩ := hv
        refine g_cge hC dX9_rest_24 (tgt := 59) (by decide) (fun hc => ?_) (fun hc => ?_)
        · have hv := hv1 hc
          clear hv1 hv2 hc
          refine g_blk hC _ bX9_rest_59_60 (pc' := 60) (ls' := [some (.inr (some 96)), some (.inl a1), some (.inl x2_21), some (.inl x3_21)]) (st' := [.inl x2_21]) (I' := up2 I 96 0 0) rfl rfl ?_
          exact g_reti hC hr rfl dX9_rest_60 hv
        · have hv := hv2 hc
          clear hv1 hv2 hc
          refine g_blk hC _ bX9_rest_27_38 (pc' := 38) (ls' := [some (.inr (some 96)), some (.inl a1), some (.inl x2_21), some (.inl x3_21)]) (st' := [.inl ((10 * x3_21) + a1), .inr (some 97), .inl x2_21]) (I' := up2 I 96 0 0) rfl rfl ?_
          obtain ⟨hi, hv⟩ := hv
          refine g_iald hC dX9_rest_38 (rfl) hi ?_
          clear hi
          refine g_blk hC _ bX9_rest_39_50 (pc' := 50) (ls' := [some (.inr (some 96)), some (.inl a1), some (.inl x2_21), some (.inl x3_21)]) (st' := [.inl ((10 * a1) + x3_21), .inr (some 97), .inl (x2_21 + (A 97 ((10 * x3_21) + a1).toNatClampNeg))]) (I' := up2 I 96 0 0) rfl rfl ?_
          obtain ⟨hi, hv⟩ := hv
          refine g_iald hC dX9_rest_50 (rfl) hi ?_
          clear hi
          refine g_blk hC _ bX9_rest_51_56 (pc' := 56) (ls' := [some (.inr (some 96)), some (.inl a1), some (.inl ((x2_21 + (A 97 ((10 * x3_21) + a1).toNatClampNeg)) - (A 97 ((10 * a1) + x3_21).toNatClampNeg))), some (.inl (x3_21 + 1))]) (st' := []) (I' := up2 I 96 0 0) rfl rfl ?_
          refine g_goto hC dX9_rest_56 (tgt := 21) (by decide) ?_
          exact g_weak (ls1 := [some (.inr (some 96)), some (.inl a1), some (.inl ((x2_21 + (A 97 ((10 * x3_21) + a1).toNatClampNeg)) - (A 97 ((10 * a1) + x3_21).toNatClampNeg))), some (.inl (x3_21 + 1))]) rfl (And.intro rfl (And.intro rfl (And.intro rfl (And.intro rfl trivial)))) (ih21 ((x2_21 + (A 97 ((10 * x3_21) + a1).toNatClampNeg)) - (A 97 ((10 * a1) + x3_21).toNatClampNeg)) (x3_21 + 1) hv.1 (Nat.lt_of_lt_of_le hv.2 (Nat.le_of_lt_succ hn21)))
    exact g_weak (ls1 := [some (.inr (some 96)), some (.inl a1), some (.inl 0), some (.inl 0)]) rfl (And.intro rfl (And.intro rfl (And.intro rfl (And.intro rfl trivial)))) (L21 _ 0 0 hi21 (Nat.lt_succ_self _))
  · have hv := hv2 hc
    clear hv1 hv2 hc
    refine g_blk hC _ bX9_rest_13_16 (pc' := 16) (ls' := [some (.inr (some 96)), some (.inl a1), none, none]) (st' := [.inl ((-10000))]) (I' := up2 I 96 0 0) rfl rfl ?_
    exact g_reti hC hr rfl dX9_rest_16 hv
theorem bX9_cost_0_6 : okB cX9_cost RX9 0 [(5, 0, 0, 0, 0), (0, 0, 0, 0, 0), (24, 65, 9, 0, 0), (5, 0, 0, 0, 0)] := And.intro ⟨_, dX9_cost_0, rfl⟩ (And.intro ⟨_, dX9_cost_1, by decide⟩ (And.intro ⟨dX9_cost_2, fl_X9_65, rfl, rfl⟩ (And.intro ⟨_, dX9_cost_5, rfl⟩ trivial)))
theorem bX9_cost_9_13 : okB cX9_cost RX9 9 [(5, 0, 0, 0, 0), (23, 110, 9, 14, 0)] := And.intro ⟨_, dX9_cost_9, rfl⟩ (And.intro ⟨dX9_cost_10, fl_X9_110⟩ trivial)
theorem bX9_cost_23_24 : okB cX9_cost RX9 23 [(0, 0, 0, 0, (-1))] := And.intro ⟨_, dX9_cost_23, by decide⟩ trivial
theorem bX9_cost_16_20 : okB cX9_cost RX9 16 [(5, 0, 0, 0, 0), (23, 140, 9, 27, 0)] := And.intro ⟨_, dX9_cost_16, rfl⟩ (And.intro ⟨dX9_cost_17, fl_X9_140⟩ trivial)
set_option maxHeartbeats 4000000 in
set_option maxRecDepth 100000 in
theorem k_X9_cost (l : Launch) (D : va_G) (ads : AD) (I A : HI) (po : Option AV → HI → HI → Prop) {pp_X9_findOrder : HI → HI → Prop} {qq_X9_findOrder : HI → HI → HI → HI → Prop} (hh_X9_findOrder : ∀ (I A : HI), pp_X9_findOrder I A → Ct l yX9_findOrder cX9_findOrder 7 none 3 72 D ads shp [.inr (some 96)] I A (qV (qq_X9_findOrder I A)))
    (hv : ((pp_X9_findOrder (up2 I 96 0 0) A) ∧ (∀ (I2 A2 : HI), qq_X9_findOrder (up2 I 96 0 0) A I2 A2 → (((I2 96 14) = 0 → po (some (.inl ((-1)))) I2 A2) ∧ (¬ (I2 96 14) = 0 → po (some (.inl (I2 96 27))) I2 A2))))) : Ct l yX9_cost cX9_cost 1 (some .int) 4 98 D ads shp [.inr (some 96)] I A po := by
  refine Ct_of (by decide) (Nat.le_of_ble_eq_true rfl) ?_
  intro p e s m args below meth c hC hr
  replace hC : CX p s m args meth c cX9_cost 1 RX9 (AdS ads s.heap.size) := hC
  show Gm p l e s m args below meth c D ads 4 98 1 po I A 0 [some (.inr (some 96))] []
  refine g_blk hC _ bX9_cost_0_6 (pc' := 6) (ls' := [some (.inr (some 96))]) (st' := [.inr (some 96)]) (I' := up2 I 96 0 0) rfl rfl ?_
  obtain ⟨hp1, hv⟩ := hv
  refine g_callV hC (hh_X9_findOrder (up2 I 96 0 0) A  hp1) dX9_cost_6 nm_X9_findOrder rfl rfl wl_X9_158 wi_X9_findOrder ws_X9_findOrder wn_X9 wc_X9_findOrder ⟨by decide, by decide⟩ (as := []) (rest := []) rfl (Nat.le_of_ble_eq_true rfl) ⟨Nat.le_refl _, Nat.le_refl _⟩ (k_qV ?_)
  intro I2 A2 hq2
  replace hv := hv I2 A2 hq2
  refine g_blk hC _ bX9_cost_9_13 (pc' := 13) (ls' := [some (.inr (some 96))]) (st' := [.inl (I2 96 14)]) (I' := I2) rfl rfl ?_
  obtain ⟨hv1, hv2⟩ := hv
  refine g_ifeq hC dX9_cost_13 (tgt := 23) (by decide) (fun hc => ?_) (fun hc => ?_)
  · have hv := hv1 hc
    clear hv1 hv2 hc
    refine g_blk hC _ bX9_cost_23_24 (pc' := 24) (ls' := [some (.inr (some 96))]) (st' := [.inl ((-1))]) (I' := I2) rfl rfl ?_
    exact g_reti hC hr rfl dX9_cost_24 hv
  · have hv := hv2 hc
    clear hv1 hv2 hc
    refine g_blk hC _ bX9_cost_16_20 (pc' := 20) (ls' := [some (.inr (some 96))]) (st' := [.inl (I2 96 27)]) (I' := I2) rfl rfl ?_
    refine g_goto hC dX9_cost_20 (tgt := 24) (by decide) ?_
    exact g_reti hC hr rfl dX9_cost_24 hv
theorem bX9_part_0_6 : okB cX9_part RX9 0 [(5, 0, 0, 0, 0), (0, 0, 0, 0, 0), (24, 65, 9, 0, 0), (5, 0, 0, 0, 0)] := And.intro ⟨_, dX9_part_0, rfl⟩ (And.intro ⟨_, dX9_part_1, by decide⟩ (And.intro ⟨dX9_part_2, fl_X9_65, rfl, rfl⟩ (And.intro ⟨_, dX9_part_5, rfl⟩ trivial)))
theorem bX9_part_9_13 : okB cX9_part RX9 9 [(5, 0, 0, 0, 0), (23, 110, 9, 14, 0)] := And.intro ⟨_, dX9_part_9, rfl⟩ (And.intro ⟨dX9_part_10, fl_X9_110⟩ trivial)
theorem bX9_part_25_26 : okB cX9_part RX9 25 [(0, 0, 0, 0, (-1))] := And.intro ⟨_, dX9_part_25, by decide⟩ trivial
theorem bX9_part_16_17 : okB cX9_part RX9 16 [(3, 1, 0, 0, 0)] := And.intro ⟨_, dX9_part_16, rfl⟩ trivial
theorem bX9_part_20_22 : okB cX9_part RX9 20 [(3, 1, 0, 0, 0), (0, 0, 0, 0, 2)] := And.intro ⟨_, dX9_part_20, rfl⟩ (And.intro ⟨_, dX9_part_21, by decide⟩ trivial)
theorem bX9_part_27_37 : okB cX9_part RX9 27 [(0, 0, 0, 0, 0), (7, 2, 0, 0, 0), (0, 0, 0, 0, 0), (7, 3, 0, 0, 0), (0, 0, 0, 0, 0), (8, 4, 0, 0, 0), (0, 0, 0, 0, 0), (8, 5, 0, 0, 0)] := And.intro ⟨_, dX9_part_27, by decide⟩ (And.intro ⟨_, dX9_part_28, rfl⟩ (And.intro ⟨_, dX9_part_29, by decide⟩ (And.intro ⟨_, dX9_part_30, rfl⟩ (And.intro ⟨_, dX9_part_31, by decide⟩ (And.intro dX9_part_32 (And.intro ⟨_, dX9_part_34, by decide⟩ (And.intro dX9_part_35 trivial)))))))
theorem bX9_part_37_43 : okB cX9_part RX9 37 [(4, 5, 0, 0, 0), (5, 0, 0, 0, 0), (23, 90, 9, 12, 0)] := And.intro dX9_part_37 (And.intro ⟨_, dX9_part_39, rfl⟩ (And.intro ⟨dX9_part_40, fl_X9_90⟩ trivial))
theorem bX9_part_116_117 : okB cX9_part RX9 116 [(3, 1, 0, 0, 0)] := And.intro ⟨_, dX9_part_116, rfl⟩ trivial
theorem bX9_part_124_126 : okB cX9_part RX9 124 [(3, 1, 0, 0, 0), (0, 0, 0, 0, 1)] := And.intro ⟨_, dX9_part_124, rfl⟩ (And.intro ⟨_, dX9_part_125, by decide⟩ trivial)
theorem bX9_part_133_135 : okB cX9_part RX9 133 [(4, 4, 0, 0, 0)] := And.intro dX9_part_133 trivial
theorem bX9_part_129_130 : okB cX9_part RX9 129 [(3, 3, 0, 0, 0)] := And.intro ⟨_, dX9_part_129, rfl⟩ trivial
theorem bX9_part_120_121 : okB cX9_part RX9 120 [(3, 2, 0, 0, 0)] := And.intro ⟨_, dX9_part_120, rfl⟩ trivial
theorem bX9_part_46_57 : okB cX9_part RX9 46 [(4, 4, 0, 0, 0), (5, 0, 0, 0, 0), (4, 5, 0, 0, 0), (5, 0, 0, 0, 0), (23, 62, 9, 26, 0), (4, 5, 0, 0, 0)] := And.intro dX9_part_46 (And.intro ⟨_, dX9_part_48, rfl⟩ (And.intro dX9_part_49 (And.intro ⟨_, dX9_part_51, rfl⟩ (And.intro ⟨dX9_part_52, fl_X9_62⟩ (And.intro dX9_part_55 trivial)))))
theorem bX9_part_61_72 : okB cX9_part RX9 61 [(12, 0, 0, 0, 0), (8, 4, 0, 0, 0), (4, 5, 0, 0, 0), (0, 0, 0, 0, 1), (12, 0, 0, 0, 0), (5, 0, 0, 0, 0), (23, 90, 9, 12, 0)] := And.intro dX9_part_61 (And.intro dX9_part_62 (And.intro dX9_part_64 (And.intro ⟨_, dX9_part_66, by decide⟩ (And.intro dX9_part_67 (And.intro ⟨_, dX9_part_68, rfl⟩ (And.intro ⟨dX9_part_69, fl_X9_90⟩ trivial))))))
theorem bX9_part_78_88 : okB cX9_part RX9 78 [(3, 2, 0, 0, 0), (5, 0, 0, 0, 0), (4, 5, 0, 0, 0), (5, 0, 0, 0, 0), (23, 62, 9, 26, 0), (4, 5, 0, 0, 0)] := And.intro ⟨_, dX9_part_78, rfl⟩ (And.intro ⟨_, dX9_part_79, rfl⟩ (And.intro dX9_part_80 (And.intro ⟨_, dX9_part_82, rfl⟩ (And.intro ⟨dX9_part_83, fl_X9_62⟩ (And.intro dX9_part_86 trivial)))))
theorem bX9_part_89_97 : okB cX9_part RX9 89 [(5, 0, 0, 0, 0), (23, 62, 9, 26, 0), (4, 5, 0, 0, 0), (0, 0, 0, 0, 1), (12, 0, 0, 0, 0)] := And.intro ⟨_, dX9_part_89, rfl⟩ (And.intro ⟨dX9_part_90, fl_X9_62⟩ (And.intro dX9_part_93 (And.intro ⟨_, dX9_part_95, by decide⟩ (And.intro dX9_part_96 trivial))))
theorem bX9_part_101_113 : okB cX9_part RX9 101 [(12, 0, 0, 0, 0), (7, 2, 0, 0, 0), (3, 3, 0, 0, 0), (5, 0, 0, 0, 0), (23, 128, 9, 23, 0), (12, 0, 0, 0, 0), (7, 3, 0, 0, 0), (11, 5, 0, 0, 1)] := And.intro dX9_part_101 (And.intro ⟨_, dX9_part_102, rfl⟩ (And.intro ⟨_, dX9_part_103, rfl⟩ (And.intro ⟨_, dX9_part_104, rfl⟩ (And.intro ⟨dX9_part_105, fl_X9_128⟩ (And.intro dX9_part_108 (And.intro ⟨_, dX9_part_109, rfl⟩ (And.intro ⟨_, dX9_part_110, by decide⟩ trivial)))))))
theorem bX9_part_110_113 : okB cX9_part RX9 110 [(11, 5, 0, 0, 1)] := And.intro ⟨_, dX9_part_110, by decide⟩ trivial
set_option maxHeartbeats 4000000 in
set_option maxRecDepth 100000 in
theorem k_X9_part (l : Launch) (D : va_G) (ads : AD) (I A : HI) (a1 : Int32) (po : Option AV → HI → HI → Prop) {pp_X9_findOrder : HI → HI → Prop} {qq_X9_findOrder : HI → HI → HI → HI → Prop} (hh_X9_findOrder : ∀ (I A : HI), pp_X9_findOrder I A → Ct l yX9_findOrder cX9_findOrder 7 none 3 72 D ads shp [.inr (some 96)] I A (qV (qq_X9_findOrder I A))) {pp_X9_moves : HI → HI → Int32 → Int32 → Prop} {ff_X9_moves : HI → HI → Int32 → Int32 → Int32} (hh_X9_moves : ∀ (I A : HI) (a1 : Int32) (a2 : Int32), pp_X9_moves I A a1 a2 → Ct l yX9_moves cX9_moves 8 (some .int) 1 23 D ads shp [.inr (some 96), .inl a1, .inl a2] I A (qI (ff_X9_moves I A a1 a2) I A)) {pp_X9_crosses : HI → HI → Int32 → Int32 → Int32 → Prop} {qq_X9_crosses : HI → HI → Int32 → Int32 → Int32 → Int32 → HI → HI → Prop} (hh_X9_crosses : ∀ (I A : HI) (a1 : Int32) (a2 : Int32) (a3 : Int32), pp_X9_crosses I A a1 a2 a3 → Ct l yX9_crosses cX9_crosses 8 (some .int) 1 23 D ads shp [.inr (some 96), .inl a1, .inl a2, .inl a3] I A (qJ (qq_X9_crosses I A a1 a2 a3))) (Iv37 : HI → HI → Int32 → Int32 → Int32 → Int32 → HI → HI → Prop) (mu37 : HI → HI → Int32 → Int32 → Int32 → Int32 → HI → HI → Nat)
    (hv : ((pp_X9_findOrder (up2 I 96 0 0) A) ∧ (∀ (I2 A2 : HI), qq_X9_findOrder (up2 I 96 0 0) A I2 A2 → (((I2 96 14) = 0 → po (some (.inl ((-1)))) I2 A2) ∧ (¬ (I2 96 14) = 0 → ((a1 < 0 → po (some (.inl ((-1)))) I2 A2) ∧ (¬ a1 < 0 → ((a1 ≤ 2 → (Iv37 I2 A2 0 0 0 0 I2 A2 ∧ ∀ (x2_37 : Int32) (x3_37 : Int32) (x4_37 : Int32) (x5_37 : Int32) (I_37 : HI) (A_37 : HI), Iv37 I2 A2 x2_37 x3_37 x4_37 x5_37 I_37 A_37 → (((I_37 96 12) ≤ x5_37 → ((¬ a1 = 0 → ((¬ a1 = 1 → po (some (.inl x4_37)) I_37 A_37) ∧ (a1 = 1 → po (some (.inl x3_37)) I_37 A_37))) ∧ (a1 = 0 → po (some (.inl x2_37)) I_37 A_37))) ∧ (¬ (I_37 96 12) ≤ x5_37 → (vp_in x5_37 10 ∧ ((pp_X9_moves I_37 A_37 x5_37 (A_37 113 x5_37.toNatClampNeg)) ∧ ((¬ (x5_37 + 1) = (I_37 96 12) → (vp_in x5_37 10 ∧ (vp_in (x5_37 + 1) 10 ∧ ((pp_X9_crosses I_37 A_37 x5_37 (A_37 113 x5_37.toNatClampNeg) (A_37 113 (x5_37 + 1).toNatClampNeg)) ∧ (∀ (r5 : Int32) (I5 A5 : HI), qq_X9_crosses I_37 A_37 x5_37 (A_37 113 x5_37.toNatClampNeg) (A_37 113 (x5_37 + 1).toNatClampNeg) r5 I5 A5 → (Iv37 I2 A2 (x2_37 + r5) (x3_37 + (I5 96 23)) (x4_37 + (ff_X9_moves I_37 A_37 x5_37 (A_37 113 x5_37.toNatClampNeg))) (x5_37 + 1) I5 A5 ∧ mu37 I2 A2 (x2_37 + r5) (x3_37 + (I5 96 23)) (x4_37 + (ff_X9_moves I_37 A_37 x5_37 (A_37 113 x5_37.toNatClampNeg))) (x5_37 + 1) I5 A5 < mu37 I2 A2 x2_37 x3_37 x4_37 x5_37 I_37 A_37)))))) ∧ ((x5_37 + 1) = (I_37 96 12) → (Iv37 I2 A2 x2_37 x3_37 (x4_37 + (ff_X9_moves I_37 A_37 x5_37 (A_37 113 x5_37.toNatClampNeg))) (x5_37 + 1) I_37 A_37 ∧ mu37 I2 A2 x2_37 x3_37 (x4_37 + (ff_X9_moves I_37 A_37 x5_37 (A_37 113 x5_37.toNatClampNeg))) (x5_37 + 1) I_37 A_37 < mu37 I2 A2 x2_37 x3_37 x4_37 x5_37 I_37 A_37))))))))) ∧ (¬ a1 ≤ 2 → po (some (.inl ((-1)))) I2 A2))))))))) : Ct l yX9_part cX9_part 6 (some .int) 4 98 D ads shp [.inr (some 96), .inl a1] I A po := by
  refine Ct_of (by decide) (Nat.le_of_ble_eq_true rfl) ?_
  intro p e s m args below meth c hC hr
  replace hC : CX p s m args meth c cX9_part 6 RX9 (AdS ads s.heap.size) := hC
  show Gm p l e s m args below meth c D ads 4 98 6 po I A 0 [some (.inr (some 96)), some (.inl a1), none, none, none, none] []
  refine g_blk hC _ bX9_part_0_6 (pc' := 6) (ls' := [some (.inr (some 96)), some (.inl a1), none, none, none, none]) (st' := [.inr (some 96)]) (I' := up2 I 96 0 0) rfl rfl ?_
  obtain ⟨hp1, hv⟩ := hv
  refine g_callV hC (hh_X9_findOrder (up2 I 96 0 0) A  hp1) dX9_part_6 nm_X9_findOrder rfl rfl wl_X9_158 wi_X9_findOrder ws_X9_findOrder wn_X9 wc_X9_findOrder ⟨by decide, by decide⟩ (as := []) (rest := []) rfl (Nat.le_of_ble_eq_true rfl) ⟨Nat.le_refl _, Nat.le_refl _⟩ (k_qV ?_)
  intro I2 A2 hq2
  replace hv := hv I2 A2 hq2
  refine g_blk hC _ bX9_part_9_13 (pc' := 13) (ls' := [some (.inr (some 96)), some (.inl a1), none, none, none, none]) (st' := [.inl (I2 96 14)]) (I' := I2) rfl rfl ?_
  obtain ⟨hv1, hv2⟩ := hv
  refine g_ifeq hC dX9_part_13 (tgt := 25) (by decide) (fun hc => ?_) (fun hc => ?_)
  · have hv := hv1 hc
    clear hv1 hv2 hc
    refine g_blk hC _ bX9_part_25_26 (pc' := 26) (ls' := [some (.inr (some 96)), some (.inl a1), none, none, none, none]) (st' := [.inl ((-1))]) (I' := I2) rfl rfl ?_
    exact g_reti hC hr rfl dX9_part_26 hv
  · have hv := hv2 hc
    clear hv1 hv2 hc
    refine g_blk hC _ bX9_part_16_17 (pc' := 17) (ls' := [some (.inr (some 96)), some (.inl a1), none, none, none, none]) (st' := [.inl a1]) (I' := I2) rfl rfl ?_
    obtain ⟨hv1, hv2⟩ := hv
    refine g_iflt hC dX9_part_17 (tgt := 25) (by decide) (fun hc => ?_) (fun hc => ?_)
    · have hv := hv1 hc
      clear hv1 hv2 hc
      refine g_blk hC _ bX9_part_25_26 (pc' := 26) (ls' := [some (.inr (some 96)), some (.inl a1), none, none, none, none]) (st' := [.inl ((-1))]) (I' := I2) rfl rfl ?_
      exact g_reti hC hr rfl dX9_part_26 hv
    · have hv := hv2 hc
      clear hv1 hv2 hc
      refine g_blk hC _ bX9_part_20_22 (pc' := 22) (ls' := [some (.inr (some 96)), some (.inl a1), none, none, none, none]) (st' := [.inl 2, .inl a1]) (I' := I2) rfl rfl ?_
      obtain ⟨hv1, hv2⟩ := hv
      refine g_cle hC dX9_part_22 (tgt := 27) (by decide) (fun hc => ?_) (fun hc => ?_)
      · have hv := hv1 hc
        clear hv1 hv2 hc
        refine g_blk hC _ bX9_part_27_37 (pc' := 37) (ls' := [some (.inr (some 96)), some (.inl a1), some (.inl 0), some (.inl 0), some (.inl 0), some (.inl 0)]) (st' := []) (I' := I2) rfl rfl ?_
        obtain ⟨hi37, hb37⟩ := hv
        have L37 : ∀ (n : Nat) (x2_37 : Int32) (x3_37 : Int32) (x4_37 : Int32) (x5_37 : Int32) (I_37 : HI) (A_37 : HI), Iv37 I2 A2 x2_37 x3_37 x4_37 x5_37 I_37 A_37 → mu37 I2 A2 x2_37 x3_37 x4_37 x5_37 I_37 A_37 < n → Gm p l e s m args below meth c D ads 4 98 6 po I_37 A_37 37 [some (.inr (some 96)), some (.inl a1), some (.inl x2_37), some (.inl x3_37), some (.inl x4_37), some (.inl x5_37)] [] := by
          intro n
          induction n with
          | zero => intro x2_37 x3_37 x4_37 x5_37 I_37 A_37 _ hn; exact absurd hn (Nat.not_lt_zero _)
          | succ n ih37 =>
            intro x2_37 x3_37 x4_37 x5_37 I_37 A_37 hv hn37
            replace hv := hb37 x2_37 x3_37 x4_37 x5_37 I_37 A_37 hv
            skip
            refine g_blk hC _ bX9_part_37_43 (pc' := 43) (ls' := [some (.inr (some 96)), some (.inl a1), some (.inl x2_37), some (.inl x3_37), some (.inl x4_37), some (.inl x5_37)]) (st' := [.inl (I_37 96 12), .inl x5_37]) (I' := I_37) rfl rfl ?_
            obtain ⟨hv1, hv2⟩ := hv
            refine g_cge hC dX9_part_43 (tgt := 116) (by decide) (fun hc => ?_) (fun hc => ?_)
            · have hv := hv1 hc
              clear hv1 hv2 hc
              refine g_blk hC _ bX9_part_116_117 (pc' := 117) (ls' := [some (.inr (some 96)), some (.inl a1), some (.inl x2_37), some (.inl x3_37), some (.inl x4_37), some (.inl x5_37)]) (st' := [.inl a1]) (I' := I_37) rfl rfl ?_
              obtain ⟨hv1, hv2⟩ := hv
              refine g_ifne hC dX9_part_117 (tgt := 124) (by decide) (fun hc => ?_) (fun hc => ?_)
              · have hv := hv1 hc
                clear hv1 hv2 hc
                refine g_blk hC _ bX9_part_124_126 (pc' := 126) (ls' := [some (.inr (some 96)), some (.inl a1), some (.inl x2_37), some (.inl x3_37), some (.inl x4_37), some (.inl x5_37)]) (st' := [.inl 1, .inl a1]) (I' := I_37) rfl rfl ?_
                obtain ⟨hv1, hv2⟩ := hv
                refine g_cne hC dX9_part_126 (tgt := 133) (by decide) (fun hc => ?_) (fun hc => ?_)
                · have hv := hv1 hc
                  clear hv1 hv2 hc
                  refine g_blk hC _ bX9_part_133_135 (pc' := 135) (ls' := [some (.inr (some 96)), some (.inl a1), some (.inl x2_37), some (.inl x3_37), some (.inl x4_37), some (.inl x5_37)]) (st' := [.inl x4_37]) (I' := I_37) rfl rfl ?_
                  exact g_reti hC hr rfl dX9_part_135 hv
                · have hv := hv2 hc
                  clear hv1 hv2 hc
                  refine g_blk hC _ bX9_part_129_130 (pc' := 130) (ls' := [some (.inr (some 96)), some (.inl a1), some (.inl x2_37), some (.inl x3_37), some (.inl x4_37), some (.inl x5_37)]) (st' := [.inl x3_37]) (I' := I_37) rfl rfl ?_
                  refine g_goto hC dX9_part_130 (tgt := 135) (by decide) ?_
                  exact g_reti hC hr rfl dX9_part_135 hv
              · have hv := hv2 hc
                clear hv1 hv2 hc
                refine g_blk hC _ bX9_part_120_121 (pc' := 121) (ls' := [some (.inr (some 96)), some (.inl a1), some (.inl x2_37), some (.inl x3_37), some (.inl x4_37), some (.inl x5_37)]) (st' := [.inl x2_37]) (I' := I_37) rfl rfl ?_
                refine g_goto hC dX9_part_121 (tgt := 135) (by decide) ?_
                exact g_reti hC hr rfl dX9_part_135 hv
            · have hv := hv2 hc
              clear hv1 hv2 hc
              refine g_blk hC _ bX9_part_46_57 (pc' := 57) (ls' := [some (.inr (some 96)), some (.inl a1), some (.inl x2_37), some (.inl x3_37), some (.inl x4_37), some (.inl x5_37)]) (st' := [.inl x5_37, .inr (some 113), .inl x5_37, .inr (some 96), .inl x4_37]) (I' := I_37) rfl rfl ?_
              obtain ⟨hi, hv⟩ := hv
              refine g_iald hC dX9_part_57 (rfl) hi ?_
              clear hi
              obtain ⟨hp3, hv⟩ := hv
              refine g_callV hC (hh_X9_moves I_37 A_37 x5_37 (A_37 113 x5_37.toNatClampNeg) hp3) dX9_part_58 nm_X9_moves rfl rfl wl_X9_149 wi_X9_moves ws_X9_moves wn_X9 wc_X9_moves ⟨by decide, by decide⟩ (as := [.inl x5_37, .inl (A_37 113 x5_37.toNatClampNeg)]) (rest := [.inl x4_37]) rfl (Nat.le_of_ble_eq_true rfl) ⟨Nat.le_refl _, Nat.le_refl _⟩ (k_qI ?_)
              refine g_blk hC _ bX9_part_61_72 (pc' := 72) (ls' := [some (.inr (some 96)), some (.inl a1), some (.inl x2_37), some (.inl x3_37), some (.inl (x4_37 + (ff_X9_moves I_37 A_37 x5_37 (A_37 113 x5_37.toNatClampNeg)))), some (.inl x5_37)]) (st' := [.inl (I_37 96 12), .inl (x5_37 + 1)]) (I' := I_37) rfl rfl ?_
              obtain ⟨hv1, hv2⟩ := hv
              refine g_cne hC dX9_part_72 (tgt := 78) (by decide) (fun hc => ?_) (fun hc => ?_)
              · have hv := hv1 hc
                clear hv1 hv2 hc
                refine g_blk hC _ bX9_part_78_88 (pc' := 88) (ls' := [some (.inr (some 96)), some (.inl a1), some (.inl x2_37), some (.inl x3_37), some (.inl (x4_37 + (ff_X9_moves I_37 A_37 x5_37 (A_37 113 x5_37.toNatClampNeg)))), some (.inl x5_37)]) (st' := [.inl x5_37, .inr (some 113), .inl x5_37, .inr (some 96), .inl x2_37]) (I' := I_37) rfl rfl ?_
                obtain ⟨hi, hv⟩ := hv
                refine g_iald hC dX9_part_88 (rfl) hi ?_
                clear hi
                refine g_blk hC _ bX9_part_89_97 (pc' := 97) (ls' := [some (.inr (some 96)), some (.inl a1), some (.inl x2_37), some (.inl x3_37), some (.inl (x4_37 + (ff_X9_moves I_37 A_37 x5_37 (A_37 113 x5_37.toNatClampNeg)))), some (.inl x5_37)]) (st' := [.inl (x5_37 + 1), .inr (some 113), .inl (A_37 113 x5_37.toNatClampNeg), .inl x5_37, .inr (some 96), .inl x2_37]) (I' := I_37) rfl rfl ?_
                obtain ⟨hi, hv⟩ := hv
                refine g_iald hC dX9_part_97 (rfl) hi ?_
                clear hi
                obtain ⟨hp4, hv⟩ := hv
                refine g_callV hC (hh_X9_crosses I_37 A_37 x5_37 (A_37 113 x5_37.toNatClampNeg) (A_37 113 (x5_37 + 1).toNatClampNeg) hp4) dX9_part_98 nm_X9_crosses rfl rfl wl_X9_146 wi_X9_crosses ws_X9_crosses wn_X9 wc_X9_crosses ⟨by decide, by decide⟩ (as := [.inl x5_37, .inl (A_37 113 x5_37.toNatClampNeg), .inl (A_37 113 (x5_37 + 1).toNatClampNeg)]) (rest := [.inl x2_37]) rfl (Nat.le_of_ble_eq_true rfl) ⟨Nat.le_refl _, Nat.le_refl _⟩ (k_qJ ?_)
                intro r5 I5 A5 hq5
                replace hv := hv r5 I5 A5 hq5
                refine g_blk hC _ bX9_part_101_113 (pc' := 113) (ls' := [some (.inr (some 96)), some (.inl a1), some (.inl (x2_37 + r5)), some (.inl (x3_37 + (I5 96 23))), some (.inl (x4_37 + (ff_X9_moves I_37 A_37 x5_37 (A_37 113 x5_37.toNatClampNeg)))), some (.inl (x5_37 + 1))]) (st' := []) (I' := I5) rfl rfl ?_
                refine g_goto hC dX9_part_113 (tgt := 37) (by decide) ?_
                exact g_weak (ls1 := [some (.inr (some 96)), some (.inl a1), some (.inl (x2_37 + r5)), some (.inl (x3_37 + (I5 96 23))), some (.inl (x4_37 + (ff_X9_moves I_37 A_37 x5_37 (A_37 113 x5_37.toNatClampNeg)))), some (.inl (x5_37 + 1))]) rfl (And.intro rfl (And.intro rfl (And.intro rfl (And.intro rfl (And.intro rfl (And.intro rfl trivial)))))) (ih37 (x2_37 + r5) (x3_37 + (I5 96 23)) (x4_37 + (ff_X9_moves I_37 A_37 x5_37 (A_37 113 x5_37.toNatClampNeg))) (x5_37 + 1) I5 A5 hv.1 (Nat.lt_of_lt_of_le hv.2 (Nat.le_of_lt_succ hn37)))
              · have hv := hv2 hc
                clear hv1 hv2 hc
                refine g_goto hC dX9_part_75 (tgt := 110) (by decide) ?_
                refine g_blk hC _ bX9_part_110_113 (pc' := 113) (ls' := [some (.inr (some 96)), some (.inl a1), some (.inl x2_37), some (.inl x3_37), some (.inl (x4_37 + (ff_X9_moves I_37 A_37 x5_37 (A_37 113 x5_37.toNatClampNeg)))), some (.inl (x5_37 + 1))]) (st' := []) (I' := I_37) rfl rfl ?_
                refine g_goto hC dX9_part_113 (tgt := 37) (by decide) ?_
                exact g_weak (ls1 := [some (.inr (some 96)), some (.inl a1), some (.inl x2_37), some (.inl x3_37), some (.inl (x4_37 + (ff_X9_moves I_37 A_37 x5_37 (A_37 113 x5_37.toNatClampNeg)))), some (.inl (x5_37 + 1))]) rfl (And.intro rfl (And.intro rfl (And.intro rfl (And.intro rfl (And.intro rfl (And.intro rfl trivial)))))) (ih37 x2_37 x3_37 (x4_37 + (ff_X9_moves I_37 A_37 x5_37 (A_37 113 x5_37.toNatClampNeg))) (x5_37 + 1) I_37 A_37 hv.1 (Nat.lt_of_lt_of_le hv.2 (Nat.le_of_lt_succ hn37)))
        exact g_weak (ls1 := [some (.inr (some 96)), some (.inl a1), some (.inl 0), some (.inl 0), some (.inl 0), some (.inl 0)]) rfl (And.intro rfl (And.intro rfl (And.intro rfl (And.intro rfl (And.intro rfl (And.intro rfl trivial)))))) (L37 _ 0 0 0 0 I2 A2 hi37 (Nat.lt_succ_self _))
      · have hv := hv2 hc
        clear hv1 hv2 hc
        refine g_blk hC _ bX9_part_25_26 (pc' := 26) (ls' := [some (.inr (some 96)), some (.inl a1), none, none, none, none]) (st' := [.inl ((-1))]) (I' := I2) rfl rfl ?_
        exact g_reti hC hr rfl dX9_part_26 hv
theorem bX9_items_0_6 : okB cX9_items RX9 0 [(5, 0, 0, 0, 0), (0, 0, 0, 0, 0), (24, 65, 9, 0, 0), (5, 0, 0, 0, 0)] := And.intro ⟨_, dX9_items_0, rfl⟩ (And.intro ⟨_, dX9_items_1, by decide⟩ (And.intro ⟨dX9_items_2, fl_X9_65, rfl, rfl⟩ (And.intro ⟨_, dX9_items_5, rfl⟩ trivial)))
theorem bX9_items_9_10 : okB cX9_items RX9 9 [(3, 1, 0, 0, 0)] := And.intro ⟨_, dX9_items_9, rfl⟩ trivial
theorem bX9_items_30_31 : okB cX9_items RX9 30 [(0, 0, 0, 0, (-1))] := And.intro ⟨_, dX9_items_30, by decide⟩ trivial
theorem bX9_items_13_18 : okB cX9_items RX9 13 [(3, 1, 0, 0, 0), (5, 0, 0, 0, 0), (23, 90, 9, 12, 0)] := And.intro ⟨_, dX9_items_13, rfl⟩ (And.intro ⟨_, dX9_items_14, rfl⟩ (And.intro ⟨dX9_items_15, fl_X9_90⟩ trivial))
theorem bX9_items_21_26 : okB cX9_items RX9 21 [(5, 0, 0, 0, 0), (23, 35, 9, 15, 0), (3, 1, 0, 0, 0)] := And.intro ⟨_, dX9_items_21, rfl⟩ (And.intro ⟨dX9_items_22, fl_X9_35⟩ (And.intro ⟨_, dX9_items_25, rfl⟩ trivial))
set_option maxHeartbeats 4000000 in
set_option maxRecDepth 100000 in
theorem k_X9_items (l : Launch) (D : va_G) (ads : AD) (I A : HI) (a1 : Int32) (po : Option AV → HI → HI → Prop) {pp_X9_findItems : HI → HI → Prop} {qq_X9_findItems : HI → HI → HI → HI → Prop} (hh_X9_findItems : ∀ (I A : HI), pp_X9_findItems I A → Ct l yX9_findItems cX9_findItems 5 none 2 48 D ads shp [.inr (some 96)] I A (qV (qq_X9_findItems I A)))
    (hv : ((pp_X9_findItems (up2 I 96 0 0) A) ∧ (∀ (I2 A2 : HI), qq_X9_findItems (up2 I 96 0 0) A I2 A2 → ((a1 < 0 → po (some (.inl ((-1)))) I2 A2) ∧ (¬ a1 < 0 → (((I2 96 12) ≤ a1 → po (some (.inl ((-1)))) I2 A2) ∧ (¬ (I2 96 12) ≤ a1 → (vp_in a1 10 ∧ po (some (.inl (A2 104 a1.toNatClampNeg))) I2 A2)))))))) : Ct l yX9_items cX9_items 2 (some .int) 3 72 D ads shp [.inr (some 96), .inl a1] I A po := by
  refine Ct_of (by decide) (Nat.le_of_ble_eq_true rfl) ?_
  intro p e s m args below meth c hC hr
  replace hC : CX p s m args meth c cX9_items 2 RX9 (AdS ads s.heap.size) := hC
  show Gm p l e s m args below meth c D ads 3 72 2 po I A 0 [some (.inr (some 96)), some (.inl a1)] []
  refine g_blk hC _ bX9_items_0_6 (pc' := 6) (ls' := [some (.inr (some 96)), some (.inl a1)]) (st' := [.inr (some 96)]) (I' := up2 I 96 0 0) rfl rfl ?_
  obtain ⟨hp1, hv⟩ := hv
  refine g_callV hC (hh_X9_findItems (up2 I 96 0 0) A  hp1) dX9_items_6 nm_X9_findItems rfl rfl wl_X9_134 wi_X9_findItems ws_X9_findItems wn_X9 wc_X9_findItems ⟨by decide, by decide⟩ (as := []) (rest := []) rfl (Nat.le_of_ble_eq_true rfl) ⟨Nat.le_refl _, Nat.le_refl _⟩ (k_qV ?_)
  intro I2 A2 hq2
  replace hv := hv I2 A2 hq2
  refine g_blk hC _ bX9_items_9_10 (pc' := 10) (ls' := [some (.inr (some 96)), some (.inl a1)]) (st' := [.inl a1]) (I' := I2) rfl rfl ?_
  obtain ⟨hv1, hv2⟩ := hv
  refine g_iflt hC dX9_items_10 (tgt := 30) (by decide) (fun hc => ?_) (fun hc => ?_)
  · have hv := hv1 hc
    clear hv1 hv2 hc
    refine g_blk hC _ bX9_items_30_31 (pc' := 31) (ls' := [some (.inr (some 96)), some (.inl a1)]) (st' := [.inl ((-1))]) (I' := I2) rfl rfl ?_
    exact g_reti hC hr rfl dX9_items_31 hv
  · have hv := hv2 hc
    clear hv1 hv2 hc
    refine g_blk hC _ bX9_items_13_18 (pc' := 18) (ls' := [some (.inr (some 96)), some (.inl a1)]) (st' := [.inl (I2 96 12), .inl a1]) (I' := I2) rfl rfl ?_
    obtain ⟨hv1, hv2⟩ := hv
    refine g_cge hC dX9_items_18 (tgt := 30) (by decide) (fun hc => ?_) (fun hc => ?_)
    · have hv := hv1 hc
      clear hv1 hv2 hc
      refine g_blk hC _ bX9_items_30_31 (pc' := 31) (ls' := [some (.inr (some 96)), some (.inl a1)]) (st' := [.inl ((-1))]) (I' := I2) rfl rfl ?_
      exact g_reti hC hr rfl dX9_items_31 hv
    · have hv := hv2 hc
      clear hv1 hv2 hc
      refine g_blk hC _ bX9_items_21_26 (pc' := 26) (ls' := [some (.inr (some 96)), some (.inl a1)]) (st' := [.inl a1, .inr (some 104)]) (I' := I2) rfl rfl ?_
      obtain ⟨hi, hv⟩ := hv
      refine g_iald hC dX9_items_26 (rfl) hi ?_
      clear hi
      refine g_goto hC dX9_items_27 (tgt := 31) (by decide) ?_
      exact g_reti hC hr rfl dX9_items_31 hv
theorem bX9_item_0_6 : okB cX9_item RX9 0 [(5, 0, 0, 0, 0), (0, 0, 0, 0, 0), (24, 65, 9, 0, 0), (5, 0, 0, 0, 0)] := And.intro ⟨_, dX9_item_0, rfl⟩ (And.intro ⟨_, dX9_item_1, by decide⟩ (And.intro ⟨dX9_item_2, fl_X9_65, rfl, rfl⟩ (And.intro ⟨_, dX9_item_5, rfl⟩ trivial)))
theorem bX9_item_9_13 : okB cX9_item RX9 9 [(5, 0, 0, 0, 0), (23, 110, 9, 14, 0)] := And.intro ⟨_, dX9_item_9, rfl⟩ (And.intro ⟨dX9_item_10, fl_X9_110⟩ trivial)
theorem bX9_item_42_43 : okB cX9_item RX9 42 [(0, 0, 0, 0, (-1))] := And.intro ⟨_, dX9_item_42, by decide⟩ trivial
theorem bX9_item_16_17 : okB cX9_item RX9 16 [(3, 1, 0, 0, 0)] := And.intro ⟨_, dX9_item_16, rfl⟩ trivial
theorem bX9_item_20_25 : okB cX9_item RX9 20 [(3, 1, 0, 0, 0), (5, 0, 0, 0, 0), (23, 90, 9, 12, 0)] := And.intro ⟨_, dX9_item_20, rfl⟩ (And.intro ⟨_, dX9_item_21, rfl⟩ (And.intro ⟨dX9_item_22, fl_X9_90⟩ trivial))
theorem bX9_item_28_29 : okB cX9_item RX9 28 [(3, 2, 0, 0, 0)] := And.intro ⟨_, dX9_item_28, rfl⟩ trivial
theorem bX9_item_32_38 : okB cX9_item RX9 32 [(3, 2, 0, 0, 0), (5, 0, 0, 0, 0), (23, 35, 9, 15, 0), (3, 1, 0, 0, 0)] := And.intro ⟨_, dX9_item_32, rfl⟩ (And.intro ⟨_, dX9_item_33, rfl⟩ (And.intro ⟨dX9_item_34, fl_X9_35⟩ (And.intro ⟨_, dX9_item_37, rfl⟩ trivial)))
theorem bX9_item_46_57 : okB cX9_item RX9 46 [(5, 0, 0, 0, 0), (23, 38, 9, 16, 0), (1, 0, 0, 0, 30), (3, 1, 0, 0, 0), (14, 0, 0, 0, 0), (5, 0, 0, 0, 0), (3, 1, 0, 0, 0), (3, 2, 0, 0, 0)] := And.intro ⟨_, dX9_item_46, rfl⟩ (And.intro ⟨dX9_item_47, fl_X9_38⟩ (And.intro ⟨_, dX9_item_50, by decide⟩ (And.intro ⟨_, dX9_item_52, rfl⟩ (And.intro dX9_item_53 (And.intro ⟨_, dX9_item_54, rfl⟩ (And.intro ⟨_, dX9_item_55, rfl⟩ (And.intro ⟨_, dX9_item_56, rfl⟩ trivial)))))))
theorem bX9_item_60_61 : okB cX9_item RX9 60 [(12, 0, 0, 0, 0)] := And.intro dX9_item_60 trivial
set_option maxHeartbeats 4000000 in
set_option maxRecDepth 100000 in
theorem k_X9_item (l : Launch) (D : va_G) (ads : AD) (I A : HI) (a1 : Int32) (a2 : Int32) (po : Option AV → HI → HI → Prop) {pp_X9_findOrder : HI → HI → Prop} {qq_X9_findOrder : HI → HI → HI → HI → Prop} (hh_X9_findOrder : ∀ (I A : HI), pp_X9_findOrder I A → Ct l yX9_findOrder cX9_findOrder 7 none 3 72 D ads shp [.inr (some 96)] I A (qV (qq_X9_findOrder I A))) {pp_X9_itemAt : HI → HI → Int32 → Int32 → Prop} {ff_X9_itemAt : HI → HI → Int32 → Int32 → Int32} (hh_X9_itemAt : ∀ (I A : HI) (a1 : Int32) (a2 : Int32), pp_X9_itemAt I A a1 a2 → Ct l yX9_itemAt cX9_itemAt 4 (some .int) 1 23 D ads shp [.inr (some 96), .inl a1, .inl a2] I A (qI (ff_X9_itemAt I A a1 a2) I A))
    (hv : ((pp_X9_findOrder (up2 I 96 0 0) A) ∧ (∀ (I2 A2 : HI), qq_X9_findOrder (up2 I 96 0 0) A I2 A2 → (((I2 96 14) = 0 → po (some (.inl ((-1)))) I2 A2) ∧ (¬ (I2 96 14) = 0 → ((a1 < 0 → po (some (.inl ((-1)))) I2 A2) ∧ (¬ a1 < 0 → (((I2 96 12) ≤ a1 → po (some (.inl ((-1)))) I2 A2) ∧ (¬ (I2 96 12) ≤ a1 → ((a2 < 0 → po (some (.inl ((-1)))) I2 A2) ∧ (¬ a2 < 0 → (vp_in a1 10 ∧ ((a2 < (A2 104 a1.toNatClampNeg) → ((pp_X9_itemAt I2 A2 a1 a2) ∧ (vp_in ((30 * a1) + (ff_X9_itemAt I2 A2 a1 a2)) 300 ∧ po (some (.inl (A2 105 ((30 * a1) + (ff_X9_itemAt I2 A2 a1 a2)).toNatClampNeg))) I2 A2))) ∧ (¬ a2 < (A2 104 a1.toNatClampNeg) → po (some (.inl ((-1)))) I2 A2)))))))))))))) : Ct l yX9_item cX9_item 3 (some .int) 4 98 D ads shp [.inr (some 96), .inl a1, .inl a2] I A po := by
  refine Ct_of (by decide) (Nat.le_of_ble_eq_true rfl) ?_
  intro p e s m args below meth c hC hr
  replace hC : CX p s m args meth c cX9_item 3 RX9 (AdS ads s.heap.size) := hC
  show Gm p l e s m args below meth c D ads 4 98 3 po I A 0 [some (.inr (some 96)), some (.inl a1), some (.inl a2)] []
  refine g_blk hC _ bX9_item_0_6 (pc' := 6) (ls' := [some (.inr (some 96)), some (.inl a1), some (.inl a2)]) (st' := [.inr (some 96)]) (I' := up2 I 96 0 0) rfl rfl ?_
  obtain ⟨hp1, hv⟩ := hv
  refine g_callV hC (hh_X9_findOrder (up2 I 96 0 0) A  hp1) dX9_item_6 nm_X9_findOrder rfl rfl wl_X9_158 wi_X9_findOrder ws_X9_findOrder wn_X9 wc_X9_findOrder ⟨by decide, by decide⟩ (as := []) (rest := []) rfl (Nat.le_of_ble_eq_true rfl) ⟨Nat.le_refl _, Nat.le_refl _⟩ (k_qV ?_)
  intro I2 A2 hq2
  replace hv := hv I2 A2 hq2
  refine g_blk hC _ bX9_item_9_13 (pc' := 13) (ls' := [some (.inr (some 96)), some (.inl a1), some (.inl a2)]) (st' := [.inl (I2 96 14)]) (I' := I2) rfl rfl ?_
  obtain ⟨hv1, hv2⟩ := hv
  refine g_ifeq hC dX9_item_13 (tgt := 42) (by decide) (fun hc => ?_) (fun hc => ?_)
  · have hv := hv1 hc
    clear hv1 hv2 hc
    refine g_blk hC _ bX9_item_42_43 (pc' := 43) (ls' := [some (.inr (some 96)), some (.inl a1), some (.inl a2)]) (st' := [.inl ((-1))]) (I' := I2) rfl rfl ?_
    refine g_goto hC dX9_item_43 (tgt := 62) (by decide) ?_
    exact g_reti hC hr rfl dX9_item_62 hv
  · have hv := hv2 hc
    clear hv1 hv2 hc
    refine g_blk hC _ bX9_item_16_17 (pc' := 17) (ls' := [some (.inr (some 96)), some (.inl a1), some (.inl a2)]) (st' := [.inl a1]) (I' := I2) rfl rfl ?_
    obtain ⟨hv1, hv2⟩ := hv
    refine g_iflt hC dX9_item_17 (tgt := 42) (by decide) (fun hc => ?_) (fun hc => ?_)
    · have hv := hv1 hc
      clear hv1 hv2 hc
      refine g_blk hC _ bX9_item_42_43 (pc' := 43) (ls' := [some (.inr (some 96)), some (.inl a1), some (.inl a2)]) (st' := [.inl ((-1))]) (I' := I2) rfl rfl ?_
      refine g_goto hC dX9_item_43 (tgt := 62) (by decide) ?_
      exact g_reti hC hr rfl dX9_item_62 hv
    · have hv := hv2 hc
      clear hv1 hv2 hc
      refine g_blk hC _ bX9_item_20_25 (pc' := 25) (ls' := [some (.inr (some 96)), some (.inl a1), some (.inl a2)]) (st' := [.inl (I2 96 12), .inl a1]) (I' := I2) rfl rfl ?_
      obtain ⟨hv1, hv2⟩ := hv
      refine g_cge hC dX9_item_25 (tgt := 42) (by decide) (fun hc => ?_) (fun hc => ?_)
      · have hv := hv1 hc
        clear hv1 hv2 hc
        refine g_blk hC _ bX9_item_42_43 (pc' := 43) (ls' := [some (.inr (some 96)), some (.inl a1), some (.inl a2)]) (st' := [.inl ((-1))]) (I' := I2) rfl rfl ?_
        refine g_goto hC dX9_item_43 (tgt := 62) (by decide) ?_
        exact g_reti hC hr rfl dX9_item_62 hv
      · have hv := hv2 hc
        clear hv1 hv2 hc
        refine g_blk hC _ bX9_item_28_29 (pc' := 29) (ls' := [some (.inr (some 96)), some (.inl a1), some (.inl a2)]) (st' := [.inl a2]) (I' := I2) rfl rfl ?_
        obtain ⟨hv1, hv2⟩ := hv
        refine g_iflt hC dX9_item_29 (tgt := 42) (by decide) (fun hc => ?_) (fun hc => ?_)
        · have hv := hv1 hc
          clear hv1 hv2 hc
          refine g_blk hC _ bX9_item_42_43 (pc' := 43) (ls' := [some (.inr (some 96)), some (.inl a1), some (.inl a2)]) (st' := [.inl ((-1))]) (I' := I2) rfl rfl ?_
          refine g_goto hC dX9_item_43 (tgt := 62) (by decide) ?_
          exact g_reti hC hr rfl dX9_item_62 hv
        · have hv := hv2 hc
          clear hv1 hv2 hc
          refine g_blk hC _ bX9_item_32_38 (pc' := 38) (ls' := [some (.inr (some 96)), some (.inl a1), some (.inl a2)]) (st' := [.inl a1, .inr (some 104), .inl a2]) (I' := I2) rfl rfl ?_
          obtain ⟨hi, hv⟩ := hv
          refine g_iald hC dX9_item_38 (rfl) hi ?_
          clear hi
          obtain ⟨hv1, hv2⟩ := hv
          refine g_clt hC dX9_item_39 (tgt := 46) (by decide) (fun hc => ?_) (fun hc => ?_)
          · have hv := hv1 hc
            clear hv1 hv2 hc
            refine g_blk hC _ bX9_item_46_57 (pc' := 57) (ls' := [some (.inr (some 96)), some (.inl a1), some (.inl a2)]) (st' := [.inl a2, .inl a1, .inr (some 96), .inl (30 * a1), .inr (some 105)]) (I' := I2) rfl rfl ?_
            obtain ⟨hp3, hv⟩ := hv
            refine g_callV hC (hh_X9_itemAt I2 A2 a1 a2 hp3) dX9_item_57 nm_X9_itemAt rfl rfl wl_X9_161 wi_X9_itemAt ws_X9_itemAt wn_X9 wc_X9_itemAt ⟨by decide, by decide⟩ (as := [.inl a1, .inl a2]) (rest := [.inl (30 * a1), .inr (some 105)]) rfl (Nat.le_of_ble_eq_true rfl) ⟨Nat.le_refl _, Nat.le_refl _⟩ (k_qI ?_)
            refine g_blk hC _ bX9_item_60_61 (pc' := 61) (ls' := [some (.inr (some 96)), some (.inl a1), some (.inl a2)]) (st' := [.inl ((30 * a1) + (ff_X9_itemAt I2 A2 a1 a2)), .inr (some 105)]) (I' := I2) rfl rfl ?_
            obtain ⟨hi, hv⟩ := hv
            refine g_iald hC dX9_item_61 (rfl) hi ?_
            clear hi
            exact g_reti hC hr rfl dX9_item_62 hv
          · have hv := hv2 hc
            clear hv1 hv2 hc
            refine g_blk hC _ bX9_item_42_43 (pc' := 43) (ls' := [some (.inr (some 96)), some (.inl a1), some (.inl a2)]) (st' := [.inl ((-1))]) (I' := I2) rfl rfl ?_
            refine g_goto hC dX9_item_43 (tgt := 62) (by decide) ?_
            exact g_reti hC hr rfl dX9_item_62 hv
theorem bX9_place_0_6 : okB cX9_place RX9 0 [(5, 0, 0, 0, 0), (0, 0, 0, 0, 0), (24, 65, 9, 0, 0), (5, 0, 0, 0, 0)] := And.intro ⟨_, dX9_place_0, rfl⟩ (And.intro ⟨_, dX9_place_1, by decide⟩ (And.intro ⟨dX9_place_2, fl_X9_65, rfl, rfl⟩ (And.intro ⟨_, dX9_place_5, rfl⟩ trivial)))
theorem bX9_place_9_13 : okB cX9_place RX9 9 [(5, 0, 0, 0, 0), (23, 110, 9, 14, 0)] := And.intro ⟨_, dX9_place_9, rfl⟩ (And.intro ⟨dX9_place_10, fl_X9_110⟩ trivial)
theorem bX9_place_41_42 : okB cX9_place RX9 41 [(0, 0, 0, 0, (-1))] := And.intro ⟨_, dX9_place_41, by decide⟩ trivial
theorem bX9_place_16_18 : okB cX9_place RX9 16 [(5, 0, 0, 0, 0), (3, 1, 0, 0, 0)] := And.intro ⟨_, dX9_place_16, rfl⟩ (And.intro ⟨_, dX9_place_17, rfl⟩ trivial)
theorem bX9_place_24_26 : okB cX9_place RX9 24 [(5, 0, 0, 0, 0), (3, 1, 0, 0, 0)] := And.intro ⟨_, dX9_place_24, rfl⟩ (And.intro ⟨_, dX9_place_25, rfl⟩ trivial)
theorem bX9_place_32_33 : okB cX9_place RX9 32 [(3, 2, 0, 0, 0)] := And.intro ⟨_, dX9_place_32, rfl⟩ trivial
theorem bX9_place_36_38 : okB cX9_place RX9 36 [(3, 2, 0, 0, 0), (0, 0, 0, 0, 1)] := And.intro ⟨_, dX9_place_36, rfl⟩ (And.intro ⟨_, dX9_place_37, by decide⟩ trivial)
theorem bX9_place_43_49 : okB cX9_place RX9 43 [(5, 0, 0, 0, 0), (5, 0, 0, 0, 0), (23, 29, 9, 11, 0), (3, 1, 0, 0, 0)] := And.intro ⟨_, dX9_place_43, rfl⟩ (And.intro ⟨_, dX9_place_44, rfl⟩ (And.intro ⟨dX9_place_45, fl_X9_29⟩ (And.intro ⟨_, dX9_place_48, rfl⟩ trivial)))
theorem bX9_place_50_56 : okB cX9_place RX9 50 [(5, 0, 0, 0, 0), (5, 0, 0, 0, 0), (23, 29, 9, 11, 0), (3, 1, 0, 0, 0)] := And.intro ⟨_, dX9_place_50, rfl⟩ (And.intro ⟨_, dX9_place_51, rfl⟩ (And.intro ⟨dX9_place_52, fl_X9_29⟩ (And.intro ⟨_, dX9_place_55, rfl⟩ trivial)))
theorem bX9_place_57_58 : okB cX9_place RX9 57 [(3, 1, 0, 0, 0)] := And.intro ⟨_, dX9_place_57, rfl⟩ trivial
theorem bX9_place_64_66 : okB cX9_place RX9 64 [(7, 3, 0, 0, 0), (3, 2, 0, 0, 0)] := And.intro ⟨_, dX9_place_64, rfl⟩ (And.intro ⟨_, dX9_place_65, rfl⟩ trivial)
theorem bX9_place_73_76 : okB cX9_place RX9 73 [(3, 3, 0, 0, 0), (5, 0, 0, 0, 0), (3, 1, 0, 0, 0)] := And.intro ⟨_, dX9_place_73, rfl⟩ (And.intro ⟨_, dX9_place_74, rfl⟩ (And.intro ⟨_, dX9_place_75, rfl⟩ trivial))
theorem bX9_place_79_80 : okB cX9_place RX9 79 [(12, 0, 0, 0, 0)] := And.intro dX9_place_79 trivial
theorem bX9_place_69_70 : okB cX9_place RX9 69 [(3, 3, 0, 0, 0)] := And.intro ⟨_, dX9_place_69, rfl⟩ trivial
set_option maxHeartbeats 4000000 in
set_option maxRecDepth 100000 in
theorem k_X9_place (l : Launch) (D : va_G) (ads : AD) (I A : HI) (a1 : Int32) (a2 : Int32) (po : Option AV → HI → HI → Prop) {pp_X9_findOrder : HI → HI → Prop} {qq_X9_findOrder : HI → HI → HI → HI → Prop} (hh_X9_findOrder : ∀ (I A : HI), pp_X9_findOrder I A → Ct l yX9_findOrder cX9_findOrder 7 none 3 72 D ads shp [.inr (some 96)] I A (qV (qq_X9_findOrder I A))) {pp_X9_find : HI → HI → Int32 → Int32 → Prop} {ff_X9_find : HI → HI → Int32 → Int32 → Int32} (hh_X9_find : ∀ (I A : HI) (a1 : Int32) (a2 : Int32), pp_X9_find I A a1 a2 → Ct l yX9_find cX9_find 4 (some .int) 0 0 D ads shp [.inr (some 96), .inl a1, .inl a2] I A (qI (ff_X9_find I A a1 a2) I A)) {pp_X9_topOf : HI → HI → Int32 → Int32 → Prop} {ff_X9_topOf : HI → HI → Int32 → Int32 → Int32} (hh_X9_topOf : ∀ (I A : HI) (a1 : Int32) (a2 : Int32), pp_X9_topOf I A a1 a2 → Ct l yX9_topOf cX9_topOf 5 (some .int) 3 68 D ads shp [.inr (some 96), .inl a1, .inl a2] I A (qI (ff_X9_topOf I A a1 a2) I A)) {pp_X9_sizeOf : HI → HI → Int32 → Prop} {ff_X9_sizeOf : HI → HI → Int32 → Int32} (hh_X9_sizeOf : ∀ (I A : HI) (a1 : Int32), pp_X9_sizeOf I A a1 → Ct l yX9_sizeOf cX9_sizeOf 5 (some .int) 2 44 D ads shp [.inr (some 96), .inl a1] I A (qI (ff_X9_sizeOf I A a1) I A))
    (hv : ((pp_X9_findOrder (up2 I 96 0 0) A) ∧ (∀ (I2 A2 : HI), qq_X9_findOrder (up2 I 96 0 0) A I2 A2 → (((I2 96 14) = 0 → po (some (.inl ((-1)))) I2 A2) ∧ (¬ (I2 96 14) = 0 → (((zP a1) = 0 → po (some (.inl ((-1)))) I2 A2) ∧ (¬ (zP a1) = 0 → (((uBt (I2 96 7) a1) = 0 → po (some (.inl ((-1)))) I2 A2) ∧ (¬ (uBt (I2 96 7) a1) = 0 → ((a2 < 0 → po (some (.inl ((-1)))) I2 A2) ∧ (¬ a2 < 0 → ((a2 ≤ 1 → (vp_in a1 10 ∧ (vp_in a1 10 ∧ ((pp_X9_find I2 A2 (A2 102 a1.toNatClampNeg) a1) ∧ ((pp_X9_topOf I2 A2 (A2 102 a1.toNatClampNeg) (ff_X9_find I2 A2 (A2 102 a1.toNatClampNeg) a1)) ∧ ((¬ a2 = 0 → ((pp_X9_sizeOf I2 A2 a1) ∧ po (some (.inl ((ff_X9_topOf I2 A2 (A2 102 a1.toNatClampNeg) (ff_X9_find I2 A2 (A2 102 a1.toNatClampNeg) a1)) + (ff_X9_sizeOf I2 A2 a1)))) I2 A2)) ∧ (a2 = 0 → po (some (.inl (ff_X9_topOf I2 A2 (A2 102 a1.toNatClampNeg) (ff_X9_find I2 A2 (A2 102 a1.toNatClampNeg) a1)))) I2 A2))))))) ∧ (¬ a2 ≤ 1 → po (some (.inl ((-1)))) I2 A2))))))))))))) : Ct l yX9_place cX9_place 4 (some .int) 4 98 D ads shp [.inr (some 96), .inl a1, .inl a2] I A po := by
  refine Ct_of (by decide) (Nat.le_of_ble_eq_true rfl) ?_
  intro p e s m args below meth c hC hr
  replace hC : CX p s m args meth c cX9_place 4 RX9 (AdS ads s.heap.size) := hC
  show Gm p l e s m args below meth c D ads 4 98 4 po I A 0 [some (.inr (some 96)), some (.inl a1), some (.inl a2), none] []
  refine g_blk hC _ bX9_place_0_6 (pc' := 6) (ls' := [some (.inr (some 96)), some (.inl a1), some (.inl a2), none]) (st' := [.inr (some 96)]) (I' := up2 I 96 0 0) rfl rfl ?_
  obtain ⟨hp1, hv⟩ := hv
  refine g_callV hC (hh_X9_findOrder (up2 I 96 0 0) A  hp1) dX9_place_6 nm_X9_findOrder rfl rfl wl_X9_158 wi_X9_findOrder ws_X9_findOrder wn_X9 wc_X9_findOrder ⟨by decide, by decide⟩ (as := []) (rest := []) rfl (Nat.le_of_ble_eq_true rfl) ⟨Nat.le_refl _, Nat.le_refl _⟩ (k_qV ?_)
  intro I2 A2 hq2
  replace hv := hv I2 A2 hq2
  refine g_blk hC _ bX9_place_9_13 (pc' := 13) (ls' := [some (.inr (some 96)), some (.inl a1), some (.inl a2), none]) (st' := [.inl (I2 96 14)]) (I' := I2) rfl rfl ?_
  obtain ⟨hv1, hv2⟩ := hv
  refine g_ifeq hC dX9_place_13 (tgt := 41) (by decide) (fun hc => ?_) (fun hc => ?_)
  · have hv := hv1 hc
    clear hv1 hv2 hc
    refine g_blk hC _ bX9_place_41_42 (pc' := 42) (ls' := [some (.inr (some 96)), some (.inl a1), some (.inl a2), none]) (st' := [.inl ((-1))]) (I' := I2) rfl rfl ?_
    exact g_reti hC hr rfl dX9_place_42 hv
  · have hv := hv2 hc
    clear hv1 hv2 hc
    refine g_blk hC _ bX9_place_16_18 (pc' := 18) (ls' := [some (.inr (some 96)), some (.inl a1), some (.inl a2), none]) (st' := [.inl a1, .inr (some 96)]) (I' := I2) rfl rfl ?_
    refine g_callV hC (c_X9_isPlace l D ads I2 A2 a1) dX9_place_18 nm_X9_isPlace rfl rfl wl_X9_68 wi_X9_isPlace ws_X9_isPlace wn_X9 wc_X9_isPlace ⟨by decide, by decide⟩ (as := [.inl a1]) (rest := []) rfl (Nat.le_of_ble_eq_true rfl) ⟨Nat.le_refl _, Nat.le_refl _⟩ (k_qI ?_)
    obtain ⟨hv1, hv2⟩ := hv
    refine g_ifeq hC dX9_place_21 (tgt := 41) (by decide) (fun hc => ?_) (fun hc => ?_)
    · have hv := hv1 hc
      clear hv1 hv2 hc
      refine g_blk hC _ bX9_place_41_42 (pc' := 42) (ls' := [some (.inr (some 96)), some (.inl a1), some (.inl a2), none]) (st' := [.inl ((-1))]) (I' := I2) rfl rfl ?_
      exact g_reti hC hr rfl dX9_place_42 hv
    · have hv := hv2 hc
      clear hv1 hv2 hc
      refine g_blk hC _ bX9_place_24_26 (pc' := 26) (ls' := [some (.inr (some 96)), some (.inl a1), some (.inl a2), none]) (st' := [.inl a1, .inr (some 96)]) (I' := I2) rfl rfl ?_
      refine g_callV hC (c_X9_isUsed l D ads I2 A2 a1) dX9_place_26 nm_X9_isUsed rfl rfl wl_X9_100 wi_X9_isUsed ws_X9_isUsed wn_X9 wc_X9_isUsed ⟨by decide, by decide⟩ (as := [.inl a1]) (rest := []) rfl (Nat.le_of_ble_eq_true rfl) ⟨Nat.le_refl _, Nat.le_refl _⟩ (k_qI ?_)
      obtain ⟨hv1, hv2⟩ := hv
      refine g_ifeq hC dX9_place_29 (tgt := 41) (by decide) (fun hc => ?_) (fun hc => ?_)
      · have hv := hv1 hc
        clear hv1 hv2 hc
        refine g_blk hC _ bX9_place_41_42 (pc' := 42) (ls' := [some (.inr (some 96)), some (.inl a1), some (.inl a2), none]) (st' := [.inl ((-1))]) (I' := I2) rfl rfl ?_
        exact g_reti hC hr rfl dX9_place_42 hv
      · have hv := hv2 hc
        clear hv1 hv2 hc
        refine g_blk hC _ bX9_place_32_33 (pc' := 33) (ls' := [some (.inr (some 96)), some (.inl a1), some (.inl a2), none]) (st' := [.inl a2]) (I' := I2) rfl rfl ?_
        obtain ⟨hv1, hv2⟩ := hv
        refine g_iflt hC dX9_place_33 (tgt := 41) (by decide) (fun hc => ?_) (fun hc => ?_)
        · have hv := hv1 hc
          clear hv1 hv2 hc
          refine g_blk hC _ bX9_place_41_42 (pc' := 42) (ls' := [some (.inr (some 96)), some (.inl a1), some (.inl a2), none]) (st' := [.inl ((-1))]) (I' := I2) rfl rfl ?_
          exact g_reti hC hr rfl dX9_place_42 hv
        · have hv := hv2 hc
          clear hv1 hv2 hc
          refine g_blk hC _ bX9_place_36_38 (pc' := 38) (ls' := [some (.inr (some 96)), some (.inl a1), some (.inl a2), none]) (st' := [.inl 1, .inl a2]) (I' := I2) rfl rfl ?_
          obtain ⟨hv1, hv2⟩ := hv
          refine g_cle hC dX9_place_38 (tgt := 43) (by decide) (fun hc => ?_) (fun hc => ?_)
          · have hv := hv1 hc
            clear hv1 hv2 hc
            refine g_blk hC _ bX9_place_43_49 (pc' := 49) (ls' := [some (.inr (some 96)), some (.inl a1), some (.inl a2), none]) (st' := [.inl a1, .inr (some 102), .inr (some 96)]) (I' := I2) rfl rfl ?_
            obtain ⟨hi, hv⟩ := hv
            refine g_iald hC dX9_place_49 (rfl) hi ?_
            clear hi
            refine g_blk hC _ bX9_place_50_56 (pc' := 56) (ls' := [some (.inr (some 96)), some (.inl a1), some (.inl a2), none]) (st' := [.inl a1, .inr (some 102), .inr (some 96), .inl (A2 102 a1.toNatClampNeg), .inr (some 96)]) (I' := I2) rfl rfl ?_
            obtain ⟨hi, hv⟩ := hv
            refine g_iald hC dX9_place_56 (rfl) hi ?_
            clear hi
            refine g_blk hC _ bX9_place_57_58 (pc' := 58) (ls' := [some (.inr (some 96)), some (.inl a1), some (.inl a2), none]) (st' := [.inl a1, .inl (A2 102 a1.toNatClampNeg), .inr (some 96), .inl (A2 102 a1.toNatClampNeg), .inr (some 96)]) (I' := I2) rfl rfl ?_
            obtain ⟨hp5, hv⟩ := hv
            refine g_callV hC (hh_X9_find I2 A2 (A2 102 a1.toNatClampNeg) a1 hp5) dX9_place_58 nm_X9_find rfl rfl wl_X9_118 wi_X9_find ws_X9_find wn_X9 wc_X9_find ⟨by decide, by decide⟩ (as := [.inl (A2 102 a1.toNatClampNeg), .inl a1]) (rest := [.inl (A2 102 a1.toNatClampNeg), .inr (some 96)]) rfl (Nat.le_of_ble_eq_true rfl) ⟨Nat.le_refl _, Nat.le_refl _⟩ (k_qI ?_)
            obtain ⟨hp6, hv⟩ := hv
            refine g_callV hC (hh_X9_topOf I2 A2 (A2 102 a1.toNatClampNeg) (ff_X9_find I2 A2 (A2 102 a1.toNatClampNeg) a1) hp6) dX9_place_61 nm_X9_topOf rfl rfl wl_X9_167 wi_X9_topOf ws_X9_topOf wn_X9 wc_X9_topOf ⟨by decide, by decide⟩ (as := [.inl (A2 102 a1.toNatClampNeg), .inl (ff_X9_find I2 A2 (A2 102 a1.toNatClampNeg) a1)]) (rest := []) rfl (Nat.le_of_ble_eq_true rfl) ⟨Nat.le_refl _, Nat.le_refl _⟩ (k_qI ?_)
            refine g_blk hC _ bX9_place_64_66 (pc' := 66) (ls' := [some (.inr (some 96)), some (.inl a1), some (.inl a2), some (.inl (ff_X9_topOf I2 A2 (A2 102 a1.toNatClampNeg) (ff_X9_find I2 A2 (A2 102 a1.toNatClampNeg) a1)))]) (st' := [.inl a2]) (I' := I2) rfl rfl ?_
            obtain ⟨hv1, hv2⟩ := hv
            refine g_ifne hC dX9_place_66 (tgt := 73) (by decide) (fun hc => ?_) (fun hc => ?_)
            · have hv := hv1 hc
              clear hv1 hv2 hc
              refine g_blk hC _ bX9_place_73_76 (pc' := 76) (ls' := [some (.inr (some 96)), some (.inl a1), some (.inl a2), some (.inl (ff_X9_topOf I2 A2 (A2 102 a1.toNatClampNeg) (ff_X9_find I2 A2 (A2 102 a1.toNatClampNeg) a1)))]) (st' := [.inl a1, .inr (some 96), .inl (ff_X9_topOf I2 A2 (A2 102 a1.toNatClampNeg) (ff_X9_find I2 A2 (A2 102 a1.toNatClampNeg) a1))]) (I' := I2) rfl rfl ?_
              obtain ⟨hp7, hv⟩ := hv
              refine g_callV hC (hh_X9_sizeOf I2 A2 a1 hp7) dX9_place_76 nm_X9_sizeOf rfl rfl wl_X9_164 wi_X9_sizeOf ws_X9_sizeOf wn_X9 wc_X9_sizeOf ⟨by decide, by decide⟩ (as := [.inl a1]) (rest := [.inl (ff_X9_topOf I2 A2 (A2 102 a1.toNatClampNeg) (ff_X9_find I2 A2 (A2 102 a1.toNatClampNeg) a1))]) rfl (Nat.le_of_ble_eq_true rfl) ⟨Nat.le_refl _, Nat.le_refl _⟩ (k_qI ?_)
              refine g_blk hC _ bX9_place_79_80 (pc' := 80) (ls' := [some (.inr (some 96)), some (.inl a1), some (.inl a2), some (.inl (ff_X9_topOf I2 A2 (A2 102 a1.toNatClampNeg) (ff_X9_find I2 A2 (A2 102 a1.toNatClampNeg) a1)))]) (st' := [.inl ((ff_X9_topOf I2 A2 (A2 102 a1.toNatClampNeg) (ff_X9_find I2 A2 (A2 102 a1.toNatClampNeg) a1)) + (ff_X9_sizeOf I2 A2 a1))]) (I' := I2) rfl rfl ?_
              exact g_reti hC hr rfl dX9_place_80 hv
            · have hv := hv2 hc
              clear hv1 hv2 hc
              refine g_blk hC _ bX9_place_69_70 (pc' := 70) (ls' := [some (.inr (some 96)), some (.inl a1), some (.inl a2), some (.inl (ff_X9_topOf I2 A2 (A2 102 a1.toNatClampNeg) (ff_X9_find I2 A2 (A2 102 a1.toNatClampNeg) a1)))]) (st' := [.inl (ff_X9_topOf I2 A2 (A2 102 a1.toNatClampNeg) (ff_X9_find I2 A2 (A2 102 a1.toNatClampNeg) a1))]) (I' := I2) rfl rfl ?_
              refine g_goto hC dX9_place_70 (tgt := 80) (by decide) ?_
              exact g_reti hC hr rfl dX9_place_80 hv
          · have hv := hv2 hc
            clear hv1 hv2 hc
            refine g_blk hC _ bX9_place_41_42 (pc' := 42) (ls' := [some (.inr (some 96)), some (.inl a1), some (.inl a2), none]) (st' := [.inl ((-1))]) (I' := I2) rfl rfl ?_
            exact g_reti hC hr rfl dX9_place_42 hv
theorem bX9_keep_0_6 : okB cX9_keep RX9 0 [(5, 0, 0, 0, 0), (0, 0, 0, 0, 0), (24, 65, 9, 0, 0), (5, 0, 0, 0, 0)] := And.intro ⟨_, dX9_keep_0, rfl⟩ (And.intro ⟨_, dX9_keep_1, by decide⟩ (And.intro ⟨dX9_keep_2, fl_X9_65, rfl, rfl⟩ (And.intro ⟨_, dX9_keep_5, rfl⟩ trivial)))
theorem bX9_keep_9_13 : okB cX9_keep RX9 9 [(5, 0, 0, 0, 0), (23, 110, 9, 14, 0)] := And.intro ⟨_, dX9_keep_9, rfl⟩ (And.intro ⟨dX9_keep_10, fl_X9_110⟩ trivial)
theorem bX9_keep_18_25 : okB cX9_keep RX9 18 [(5, 0, 0, 0, 0), (0, 0, 0, 0, 1), (25, 152, 9, 4, 0), (0, 0, 0, 0, 0), (7, 1, 0, 0, 0)] := And.intro ⟨_, dX9_keep_18, rfl⟩ (And.intro ⟨_, dX9_keep_19, by decide⟩ (And.intro ⟨dX9_keep_20, fl_X9_152, rfl, rfl⟩ (And.intro ⟨_, dX9_keep_23, by decide⟩ (And.intro ⟨_, dX9_keep_24, rfl⟩ trivial))))
theorem bX9_keep_25_28 : okB cX9_keep RX9 25 [(3, 1, 0, 0, 0), (1, 0, 0, 0, 10)] := And.intro ⟨_, dX9_keep_25, rfl⟩ (And.intro ⟨_, dX9_keep_26, by decide⟩ trivial)
theorem bX9_keep_107_108 : okB cX9_keep RX9 107 [(0, 0, 0, 0, 1)] := And.intro ⟨_, dX9_keep_107, by decide⟩ trivial
theorem bX9_keep_31_38 : okB cX9_keep RX9 31 [(5, 0, 0, 0, 0), (23, 17, 9, 5, 0), (3, 1, 0, 0, 0), (5, 0, 0, 0, 0), (3, 1, 0, 0, 0)] := And.intro ⟨_, dX9_keep_31, rfl⟩ (And.intro ⟨dX9_keep_32, fl_X9_17⟩ (And.intro ⟨_, dX9_keep_35, rfl⟩ (And.intro ⟨_, dX9_keep_36, rfl⟩ (And.intro ⟨_, dX9_keep_37, rfl⟩ trivial))))
theorem bX9_keep_53_54 : okB cX9_keep RX9 53 [(0, 0, 0, 0, (-1))] := And.intro ⟨_, dX9_keep_53, by decide⟩ trivial
theorem bX9_keep_55_57 : okB cX9_keep RX9 55 [(5, 0, 0, 0, 0), (3, 1, 0, 0, 0)] := And.intro ⟨_, dX9_keep_55, rfl⟩ (And.intro ⟨_, dX9_keep_56, rfl⟩ trivial)
theorem bX9_keep_101_104 : okB cX9_keep RX9 101 [(11, 1, 0, 0, 1)] := And.intro ⟨_, dX9_keep_101, by decide⟩ trivial
theorem bX9_keep_63_74 : okB cX9_keep RX9 63 [(5, 0, 0, 0, 0), (23, 20, 9, 6, 0), (3, 1, 0, 0, 0), (5, 0, 0, 0, 0), (5, 0, 0, 0, 0), (23, 29, 9, 11, 0), (3, 1, 0, 0, 0)] := And.intro ⟨_, dX9_keep_63, rfl⟩ (And.intro ⟨dX9_keep_64, fl_X9_20⟩ (And.intro ⟨_, dX9_keep_67, rfl⟩ (And.intro ⟨_, dX9_keep_68, rfl⟩ (And.intro ⟨_, dX9_keep_69, rfl⟩ (And.intro ⟨dX9_keep_70, fl_X9_29⟩ (And.intro ⟨_, dX9_keep_73, rfl⟩ trivial))))))
theorem bX9_keep_75_84 : okB cX9_keep RX9 75 [(5, 0, 0, 0, 0), (23, 62, 9, 26, 0), (5, 0, 0, 0, 0), (23, 29, 9, 11, 0), (3, 1, 0, 0, 0)] := And.intro ⟨_, dX9_keep_75, rfl⟩ (And.intro ⟨dX9_keep_76, fl_X9_62⟩ (And.intro ⟨_, dX9_keep_79, rfl⟩ (And.intro ⟨dX9_keep_80, fl_X9_29⟩ (And.intro ⟨_, dX9_keep_83, rfl⟩ trivial))))
theorem bX9_keep_86_92 : okB cX9_keep RX9 86 [(5, 0, 0, 0, 0), (5, 0, 0, 0, 0), (23, 29, 9, 11, 0), (3, 1, 0, 0, 0)] := And.intro ⟨_, dX9_keep_86, rfl⟩ (And.intro ⟨_, dX9_keep_87, rfl⟩ (And.intro ⟨dX9_keep_88, fl_X9_29⟩ (And.intro ⟨_, dX9_keep_91, rfl⟩ trivial)))
theorem bX9_keep_93_94 : okB cX9_keep RX9 93 [(3, 1, 0, 0, 0)] := And.intro ⟨_, dX9_keep_93, rfl⟩ trivial
theorem bX9_keep_44_49 : okB cX9_keep RX9 44 [(5, 0, 0, 0, 0), (23, 29, 9, 11, 0), (3, 1, 0, 0, 0)] := And.intro ⟨_, dX9_keep_44, rfl⟩ (And.intro ⟨dX9_keep_45, fl_X9_29⟩ (And.intro ⟨_, dX9_keep_48, rfl⟩ trivial))
theorem bX9_keep_16_17 : okB cX9_keep RX9 16 [(0, 0, 0, 0, 0)] := And.intro ⟨_, dX9_keep_16, by decide⟩ trivial
set_option maxHeartbeats 4000000 in
set_option maxRecDepth 100000 in
theorem k_X9_keep (l : Launch) (D : va_G) (ads : AD) (I A : HI) (po : Option AV → HI → HI → Prop) {pp_X9_findOrder : HI → HI → Prop} {qq_X9_findOrder : HI → HI → HI → HI → Prop} (hh_X9_findOrder : ∀ (I A : HI), pp_X9_findOrder I A → Ct l yX9_findOrder cX9_findOrder 7 none 3 72 D ads shp [.inr (some 96)] I A (qV (qq_X9_findOrder I A))) {pp_X9_find : HI → HI → Int32 → Int32 → Prop} {ff_X9_find : HI → HI → Int32 → Int32 → Int32} (hh_X9_find : ∀ (I A : HI) (a1 : Int32) (a2 : Int32), pp_X9_find I A a1 a2 → Ct l yX9_find cX9_find 4 (some .int) 0 0 D ads shp [.inr (some 96), .inl a1, .inl a2] I A (qI (ff_X9_find I A a1 a2) I A)) (Iv25 : HI → HI → Int32 → HI → Prop) (mu25 : HI → HI → Int32 → HI → Nat)
    (hv : ((pp_X9_findOrder (up2 I 96 0 0) A) ∧ (∀ (I2 A2 : HI), qq_X9_findOrder (up2 I 96 0 0) A I2 A2 → ((¬ (I2 96 14) = 0 → (Iv25 I2 A2 0 A2 ∧ ∀ (x1_25 : Int32) (A_25 : HI), Iv25 I2 A2 x1_25 A_25 → ((10 ≤ x1_25 → po (some (.inl 1)) (up2 I2 96 4 1) A_25) ∧ (¬ 10 ≤ x1_25 → (((uBt ((up2 I2 96 4 1) 96 7) x1_25) = 0 → (vp_in x1_25 10 ∧ (((uBt ((up2 I2 96 4 1) 96 7) x1_25) = 0 → (Iv25 I2 A2 (x1_25 + 1) (up2 A_25 98 x1_25.toNatClampNeg ((-1))) ∧ mu25 I2 A2 (x1_25 + 1) (up2 A_25 98 x1_25.toNatClampNeg ((-1))) < mu25 I2 A2 x1_25 A_25)) ∧ (¬ (uBt ((up2 I2 96 4 1) 96 7) x1_25) = 0 → (vp_in x1_25 10 ∧ (vp_in x1_25 10 ∧ (vp_in ((up2 A_25 98 x1_25.toNatClampNeg ((-1))) 102 x1_25.toNatClampNeg) 10 ∧ (vp_in x1_25 10 ∧ ((pp_X9_find (up2 I2 96 4 1) (up2 A_25 98 x1_25.toNatClampNeg ((-1))) ((up2 A_25 98 x1_25.toNatClampNeg ((-1))) 102 x1_25.toNatClampNeg) x1_25) ∧ ((stO0 ((up2 A_25 98 x1_25.toNatClampNeg ((-1))) 104) ((up2 A_25 98 x1_25.toNatClampNeg ((-1))) 102 x1_25.toNatClampNeg) ((up2 A_25 98 x1_25.toNatClampNeg ((-1))) 113 ((up2 A_25 98 x1_25.toNatClampNeg ((-1))) 102 x1_25.toNatClampNeg).toNatClampNeg) (ff_X9_find (up2 I2 96 4 1) (up2 A_25 98 x1_25.toNatClampNeg ((-1))) ((up2 A_25 98 x1_25.toNatClampNeg ((-1))) 102 x1_25.toNatClampNeg) x1_25)) ∧ (vp_in x1_25 10 ∧ (Iv25 I2 A2 (x1_25 + 1) (up2 (up2 A_25 98 x1_25.toNatClampNeg ((-1))) 99 x1_25.toNatClampNeg (stO ((up2 A_25 98 x1_25.toNatClampNeg ((-1))) 104) ((up2 A_25 98 x1_25.toNatClampNeg ((-1))) 110) ((up2 A_25 98 x1_25.toNatClampNeg ((-1))) 102 x1_25.toNatClampNeg) ((up2 A_25 98 x1_25.toNatClampNeg ((-1))) 113 ((up2 A_25 98 x1_25.toNatClampNeg ((-1))) 102 x1_25.toNatClampNeg).toNatClampNeg) (ff_X9_find (up2 I2 96 4 1) (up2 A_25 98 x1_25.toNatClampNeg ((-1))) ((up2 A_25 98 x1_25.toNatClampNeg ((-1))) 102 x1_25.toNatClampNeg) x1_25))) ∧ mu25 I2 A2 (x1_25 + 1) (up2 (up2 A_25 98 x1_25.toNatClampNeg ((-1))) 99 x1_25.toNatClampNeg (stO ((up2 A_25 98 x1_25.toNatClampNeg ((-1))) 104) ((up2 A_25 98 x1_25.toNatClampNeg ((-1))) 110) ((up2 A_25 98 x1_25.toNatClampNeg ((-1))) 102 x1_25.toNatClampNeg) ((up2 A_25 98 x1_25.toNatClampNeg ((-1))) 113 ((up2 A_25 98 x1_25.toNatClampNeg ((-1))) 102 x1_25.toNatClampNeg).toNatClampNeg) (ff_X9_find (up2 I2 96 4 1) (up2 A_25 98 x1_25.toNatClampNeg ((-1))) ((up2 A_25 98 x1_25.toNatClampNeg ((-1))) 102 x1_25.toNatClampNeg) x1_25))) < mu25 I2 A2 x1_25 A_25)))))))))))) ∧ (¬ (uBt ((up2 I2 96 4 1) 96 7) x1_25) = 0 → (vp_in x1_25 10 ∧ (vp_in x1_25 10 ∧ (((uBt ((up2 I2 96 4 1) 96 7) x1_25) = 0 → (Iv25 I2 A2 (x1_25 + 1) (up2 A_25 98 x1_25.toNatClampNeg (A_25 102 x1_25.toNatClampNeg)) ∧ mu25 I2 A2 (x1_25 + 1) (up2 A_25 98 x1_25.toNatClampNeg (A_25 102 x1_25.toNatClampNeg)) < mu25 I2 A2 x1_25 A_25)) ∧ (¬ (uBt ((up2 I2 96 4 1) 96 7) x1_25) = 0 → (vp_in x1_25 10 ∧ (vp_in x1_25 10 ∧ (vp_in ((up2 A_25 98 x1_25.toNatClampNeg (A_25 102 x1_25.toNatClampNeg)) 102 x1_25.toNatClampNeg) 10 ∧ (vp_in x1_25 10 ∧ ((pp_X9_find (up2 I2 96 4 1) (up2 A_25 98 x1_25.toNatClampNeg (A_25 102 x1_25.toNatClampNeg)) ((up2 A_25 98 x1_25.toNatClampNeg (A_25 102 x1_25.toNatClampNeg)) 102 x1_25.toNatClampNeg) x1_25) ∧ ((stO0 ((up2 A_25 98 x1_25.toNatClampNeg (A_25 102 x1_25.toNatClampNeg)) 104) ((up2 A_25 98 x1_25.toNatClampNeg (A_25 102 x1_25.toNatClampNeg)) 102 x1_25.toNatClampNeg) ((up2 A_25 98 x1_25.toNatClampNeg (A_25 102 x1_25.toNatClampNeg)) 113 ((up2 A_25 98 x1_25.toNatClampNeg (A_25 102 x1_25.toNatClampNeg)) 102 x1_25.toNatClampNeg).toNatClampNeg) (ff_X9_find (up2 I2 96 4 1) (up2 A_25 98 x1_25.toNatClampNeg (A_25 102 x1_25.toNatClampNeg)) ((up2 A_25 98 x1_25.toNatClampNeg (A_25 102 x1_25.toNatClampNeg)) 102 x1_25.toNatClampNeg) x1_25)) ∧ (vp_in x1_25 10 ∧ (Iv25 I2 A2 (x1_25 + 1) (up2 (up2 A_25 98 x1_25.toNatClampNeg (A_25 102 x1_25.toNatClampNeg)) 99 x1_25.toNatClampNeg (stO ((up2 A_25 98 x1_25.toNatClampNeg (A_25 102 x1_25.toNatClampNeg)) 104) ((up2 A_25 98 x1_25.toNatClampNeg (A_25 102 x1_25.toNatClampNeg)) 110) ((up2 A_25 98 x1_25.toNatClampNeg (A_25 102 x1_25.toNatClampNeg)) 102 x1_25.toNatClampNeg) ((up2 A_25 98 x1_25.toNatClampNeg (A_25 102 x1_25.toNatClampNeg)) 113 ((up2 A_25 98 x1_25.toNatClampNeg (A_25 102 x1_25.toNatClampNeg)) 102 x1_25.toNatClampNeg).toNatClampNeg) (ff_X9_find (up2 I2 96 4 1) (up2 A_25 98 x1_25.toNatClampNeg (A_25 102 x1_25.toNatClampNeg)) ((up2 A_25 98 x1_25.toNatClampNeg (A_25 102 x1_25.toNatClampNeg)) 102 x1_25.toNatClampNeg) x1_25))) ∧ mu25 I2 A2 (x1_25 + 1) (up2 (up2 A_25 98 x1_25.toNatClampNeg (A_25 102 x1_25.toNatClampNeg)) 99 x1_25.toNatClampNeg (stO ((up2 A_25 98 x1_25.toNatClampNeg (A_25 102 x1_25.toNatClampNeg)) 104) ((up2 A_25 98 x1_25.toNatClampNeg (A_25 102 x1_25.toNatClampNeg)) 110) ((up2 A_25 98 x1_25.toNatClampNeg (A_25 102 x1_25.toNatClampNeg)) 102 x1_25.toNatClampNeg) ((up2 A_25 98 x1_25.toNatClampNeg (A_25 102 x1_25.toNatClampNeg)) 113 ((up2 A_25 98 x1_25.toNatClampNeg (A_25 102 x1_25.toNatClampNeg)) 102 x1_25.toNatClampNeg).toNatClampNeg) (ff_X9_find (up2 I2 96 4 1) (up2 A_25 98 x1_25.toNatClampNeg (A_25 102 x1_25.toNatClampNeg)) ((up2 A_25 98 x1_25.toNatClampNeg (A_25 102 x1_25.toNatClampNeg)) 102 x1_25.toNatClampNeg) x1_25))) < mu25 I2 A2 x1_25 A_25)))))))))))))))))) ∧ ((I2 96 14) = 0 → po (some (.inl 0)) I2 A2))))) : Ct l yX9_keep cX9_keep 2 (some .boolean) 4 98 D ads shp [.inr (some 96)] I A po := by
  refine Ct_of (by decide) (Nat.le_of_ble_eq_true rfl) ?_
  intro p e s m args below meth c hC hr
  replace hC : CX p s m args meth c cX9_keep 2 RX9 (AdS ads s.heap.size) := hC
  show Gm p l e s m args below meth c D ads 4 98 2 po I A 0 [some (.inr (some 96)), none] []
  refine g_blk hC _ bX9_keep_0_6 (pc' := 6) (ls' := [some (.inr (some 96)), none]) (st' := [.inr (some 96)]) (I' := up2 I 96 0 0) rfl rfl ?_
  obtain ⟨hp1, hv⟩ := hv
  refine g_callV hC (hh_X9_findOrder (up2 I 96 0 0) A  hp1) dX9_keep_6 nm_X9_findOrder rfl rfl wl_X9_158 wi_X9_findOrder ws_X9_findOrder wn_X9 wc_X9_findOrder ⟨by decide, by decide⟩ (as := []) (rest := []) rfl (Nat.le_of_ble_eq_true rfl) ⟨Nat.le_refl _, Nat.le_refl _⟩ (k_qV ?_)
  intro I2 A2 hq2
  replace hv := hv I2 A2 hq2
  refine g_blk hC _ bX9_keep_9_13 (pc' := 13) (ls' := [some (.inr (some 96)), none]) (st' := [.inl (I2 96 14)]) (I' := I2) rfl rfl ?_
  obtain ⟨hv1, hv2⟩ := hv
  refine g_ifne hC dX9_keep_13 (tgt := 18) (by decide) (fun hc => ?_) (fun hc => ?_)
  · have hv := hv1 hc
    clear hv1 hv2 hc
    refine g_blk hC _ bX9_keep_18_25 (pc' := 25) (ls' := [some (.inr (some 96)), some (.inl 0)]) (st' := []) (I' := up2 I2 96 4 1) rfl rfl ?_
    obtain ⟨hi25, hb25⟩ := hv
    have L25 : ∀ (n : Nat) (x1_25 : Int32) (A_25 : HI), Iv25 I2 A2 x1_25 A_25 → mu25 I2 A2 x1_25 A_25 < n → Gm p l e s m args below meth c D ads 4 98 2 po (up2 I2 96 4 1) A_25 25 [some (.inr (some 96)), some (.inl x1_25)] [] := by
      intro n
      induction n with
      | zero => intro x1_25 A_25 _ hn; exact absurd hn (Nat.not_lt_zero _)
      | succ n ih25 =>
        intro x1_25 A_25 hv hn25
        replace hv := hb25 x1_25 A_25 hv
        skip
        refine g_blk hC _ bX9_keep_25_28 (pc' := 28) (ls' := [some (.inr (some 96)), some (.inl x1_25)]) (st' := [.inl 10, .inl x1_25]) (I' := up2 I2 96 4 1) rfl rfl ?_
        obtain ⟨hv1, hv2⟩ := hv
        refine g_cge hC dX9_keep_28 (tgt := 107) (by decide) (fun hc => ?_) (fun hc => ?_)
        · have hv := hv1 hc
          clear hv1 hv2 hc
          refine g_blk hC _ bX9_keep_107_108 (pc' := 108) (ls' := [some (.inr (some 96)), some (.inl x1_25)]) (st' := [.inl 1]) (I' := up2 I2 96 4 1) rfl rfl ?_
          exact g_reti hC hr (by decide) dX9_keep_108 hv
        · have hv := hv2 hc
          clear hv1 hv2 hc
          refine g_blk hC _ bX9_keep_31_38 (pc' := 38) (ls' := [some (.inr (some 96)), some (.inl x1_25)]) (st' := [.inl x1_25, .inr (some 96), .inl x1_25, .inr (some 98)]) (I' := up2 I2 96 4 1) rfl rfl ?_
          refine g_callV hC (c_X9_isUsed l D ads (up2 I2 96 4 1) A_25 x1_25) dX9_keep_38 nm_X9_isUsed rfl rfl wl_X9_100 wi_X9_isUsed ws_X9_isUsed wn_X9 wc_X9_isUsed ⟨by decide, by decide⟩ (as := [.inl x1_25]) (rest := [.inl x1_25, .inr (some 98)]) rfl (Nat.le_of_ble_eq_true rfl) ⟨Nat.le_refl _, Nat.le_refl _⟩ (k_qI ?_)
          obtain ⟨hv1, hv2⟩ := hv
          refine g_ifeq hC dX9_keep_41 (tgt := 53) (by decide) (fun hc => ?_) (fun hc => ?_)
          · have hv := hv1 hc
            clear hv1 hv2 hc
            refine g_blk hC _ bX9_keep_53_54 (pc' := 54) (ls' := [some (.inr (some 96)), some (.inl x1_25)]) (st' := [.inl ((-1)), .inl x1_25, .inr (some 98)]) (I' := up2 I2 96 4 1) rfl rfl ?_
            obtain ⟨hi, hv⟩ := hv
            refine g_iast hC dX9_keep_54 (rfl) hi ?_
            clear hi
            refine g_blk hC _ bX9_keep_55_57 (pc' := 57) (ls' := [some (.inr (some 96)), some (.inl x1_25)]) (st' := [.inl x1_25, .inr (some 96)]) (I' := up2 I2 96 4 1) rfl rfl ?_
            refine g_callV hC (c_X9_isUsed l D ads (up2 I2 96 4 1) (up2 A_25 98 x1_25.toNatClampNeg ((-1))) x1_25) dX9_keep_57 nm_X9_isUsed rfl rfl wl_X9_100 wi_X9_isUsed ws_X9_isUsed wn_X9 wc_X9_isUsed ⟨by decide, by decide⟩ (as := [.inl x1_25]) (rest := []) rfl (Nat.le_of_ble_eq_true rfl) ⟨Nat.le_refl _, Nat.le_refl _⟩ (k_qI ?_)
            obtain ⟨hv1, hv2⟩ := hv
            refine g_ifeq hC dX9_keep_60 (tgt := 101) (by decide) (fun hc => ?_) (fun hc => ?_)
            · have hv := hv1 hc
              clear hv1 hv2 hc
              refine g_blk hC _ bX9_keep_101_104 (pc' := 104) (ls' := [some (.inr (some 96)), some (.inl (x1_25 + 1))]) (st' := []) (I' := up2 I2 96 4 1) rfl rfl ?_
              refine g_goto hC dX9_keep_104 (tgt := 25) (by decide) ?_
              exact g_weak (ls1 := [some (.inr (some 96)), some (.inl (x1_25 + 1))]) rfl (And.intro rfl (And.intro rfl trivial)) (ih25 (x1_25 + 1) (up2 A_25 98 x1_25.toNatClampNeg ((-1))) hv.1 (Nat.lt_of_lt_of_le hv.2 (Nat.le_of_lt_succ hn25)))
            · have hv := hv2 hc
              clear hv1 hv2 hc
              refine g_blk hC _ bX9_keep_63_74 (pc' := 74) (ls' := [some (.inr (some 96)), some (.inl x1_25)]) (st' := [.inl x1_25, .inr (some 102), .inr (some 96), .inl x1_25, .inr (some 99)]) (I' := up2 I2 96 4 1) rfl rfl ?_
              obtain ⟨hi, hv⟩ := hv
              refine g_iald hC dX9_keep_74 (rfl) hi ?_
              clear hi
              refine g_blk hC _ bX9_keep_75_84 (pc' := 84) (ls' := [some (.inr (some 96)), some (.inl x1_25)]) (st' := [.inl x1_25, .inr (some 102), .inr (some 113), .inl ((up2 A_25 98 x1_25.toNatClampNeg ((-1))) 102 x1_25.toNatClampNeg), .inr (some 96), .inl x1_25, .inr (some 99)]) (I' := up2 I2 96 4 1) rfl rfl ?_
              obtain ⟨hi, hv⟩ := hv
              refine g_iald hC dX9_keep_84 (rfl) hi ?_
              clear hi
              obtain ⟨hi, hv⟩ := hv
              refine g_iald hC dX9_keep_85 (rfl) hi ?_
              clear hi
              refine g_blk hC _ bX9_keep_86_92 (pc' := 92) (ls' := [some (.inr (some 96)), some (.inl x1_25)]) (st' := [.inl x1_25, .inr (some 102), .inr (some 96), .inl ((up2 A_25 98 x1_25.toNatClampNeg ((-1))) 113 ((up2 A_25 98 x1_25.toNatClampNeg ((-1))) 102 x1_25.toNatClampNeg).toNatClampNeg), .inl ((up2 A_25 98 x1_25.toNatClampNeg ((-1))) 102 x1_25.toNatClampNeg), .inr (some 96), .inl x1_25, .inr (some 99)]) (I' := up2 I2 96 4 1) rfl rfl ?_
              obtain ⟨hi, hv⟩ := hv
              refine g_iald hC dX9_keep_92 (rfl) hi ?_
              clear hi
              refine g_blk hC _ bX9_keep_93_94 (pc' := 94) (ls' := [some (.inr (some 96)), some (.inl x1_25)]) (st' := [.inl x1_25, .inl ((up2 A_25 98 x1_25.toNatClampNeg ((-1))) 102 x1_25.toNatClampNeg), .inr (some 96), .inl ((up2 A_25 98 x1_25.toNatClampNeg ((-1))) 113 ((up2 A_25 98 x1_25.toNatClampNeg ((-1))) 102 x1_25.toNatClampNeg).toNatClampNeg), .inl ((up2 A_25 98 x1_25.toNatClampNeg ((-1))) 102 x1_25.toNatClampNeg), .inr (some 96), .inl x1_25, .inr (some 99)]) (I' := up2 I2 96 4 1) rfl rfl ?_
              obtain ⟨hp5, hv⟩ := hv
              refine g_callV hC (hh_X9_find (up2 I2 96 4 1) (up2 A_25 98 x1_25.toNatClampNeg ((-1))) ((up2 A_25 98 x1_25.toNatClampNeg ((-1))) 102 x1_25.toNatClampNeg) x1_25 hp5) dX9_keep_94 nm_X9_find rfl rfl wl_X9_118 wi_X9_find ws_X9_find wn_X9 wc_X9_find ⟨by decide, by decide⟩ (as := [.inl ((up2 A_25 98 x1_25.toNatClampNeg ((-1))) 102 x1_25.toNatClampNeg), .inl x1_25]) (rest := [.inl ((up2 A_25 98 x1_25.toNatClampNeg ((-1))) 113 ((up2 A_25 98 x1_25.toNatClampNeg ((-1))) 102 x1_25.toNatClampNeg).toNatClampNeg), .inl ((up2 A_25 98 x1_25.toNatClampNeg ((-1))) 102 x1_25.toNatClampNeg), .inr (some 96), .inl x1_25, .inr (some 99)]) rfl (Nat.le_of_ble_eq_true rfl) ⟨Nat.le_refl _, Nat.le_refl _⟩ (k_qI ?_)
              obtain ⟨hp6, hv⟩ := hv
              refine g_callV hC (c_X9_standOf l D ads (up2 I2 96 4 1) (up2 A_25 98 x1_25.toNatClampNeg ((-1))) ((up2 A_25 98 x1_25.toNatClampNeg ((-1))) 102 x1_25.toNatClampNeg) ((up2 A_25 98 x1_25.toNatClampNeg ((-1))) 113 ((up2 A_25 98 x1_25.toNatClampNeg ((-1))) 102 x1_25.toNatClampNeg).toNatClampNeg) (ff_X9_find (up2 I2 96 4 1) (up2 A_25 98 x1_25.toNatClampNeg ((-1))) ((up2 A_25 98 x1_25.toNatClampNeg ((-1))) 102 x1_25.toNatClampNeg) x1_25) hp6) dX9_keep_97 nm_X9_standOf rfl rfl wl_X9_131 wi_X9_standOf ws_X9_standOf wn_X9 wc_X9_standOf ⟨by decide, by decide⟩ (as := [.inl ((up2 A_25 98 x1_25.toNatClampNeg ((-1))) 102 x1_25.toNatClampNeg), .inl ((up2 A_25 98 x1_25.toNatClampNeg ((-1))) 113 ((up2 A_25 98 x1_25.toNatClampNeg ((-1))) 102 x1_25.toNatClampNeg).toNatClampNeg), .inl (ff_X9_find (up2 I2 96 4 1) (up2 A_25 98 x1_25.toNatClampNeg ((-1))) ((up2 A_25 98 x1_25.toNatClampNeg ((-1))) 102 x1_25.toNatClampNeg) x1_25)]) (rest := [.inl x1_25, .inr (some 99)]) rfl (Nat.le_of_ble_eq_true rfl) ⟨Nat.le_refl _, Nat.le_refl _⟩ (k_qI ?_)
              obtain ⟨hi, hv⟩ := hv
              refine g_iast hC dX9_keep_100 (rfl) hi ?_
              clear hi
              refine g_blk hC _ bX9_keep_101_104 (pc' := 104) (ls' := [some (.inr (some 96)), some (.inl (x1_25 + 1))]) (st' := []) (I' := up2 I2 96 4 1) rfl rfl ?_
              refine g_goto hC dX9_keep_104 (tgt := 25) (by decide) ?_
              exact g_weak (ls1 := [some (.inr (some 96)), some (.inl (x1_25 + 1))]) rfl (And.intro rfl (And.intro rfl trivial)) (ih25 (x1_25 + 1) (up2 (up2 A_25 98 x1_25.toNatClampNeg ((-1))) 99 x1_25.toNatClampNeg (stO ((up2 A_25 98 x1_25.toNatClampNeg ((-1))) 104) ((up2 A_25 98 x1_25.toNatClampNeg ((-1))) 110) ((up2 A_25 98 x1_25.toNatClampNeg ((-1))) 102 x1_25.toNatClampNeg) ((up2 A_25 98 x1_25.toNatClampNeg ((-1))) 113 ((up2 A_25 98 x1_25.toNatClampNeg ((-1))) 102 x1_25.toNatClampNeg).toNatClampNeg) (ff_X9_find (up2 I2 96 4 1) (up2 A_25 98 x1_25.toNatClampNeg ((-1))) ((up2 A_25 98 x1_25.toNatClampNeg ((-1))) 102 x1_25.toNatClampNeg) x1_25))) hv.1 (Nat.lt_of_lt_of_le hv.2 (Nat.le_of_lt_succ hn25)))
          · have hv := hv2 hc
            clear hv1 hv2 hc
            refine g_blk hC _ bX9_keep_44_49 (pc' := 49) (ls' := [some (.inr (some 96)), some (.inl x1_25)]) (st' := [.inl x1_25, .inr (some 102), .inl x1_25, .inr (some 98)]) (I' := up2 I2 96 4 1) rfl rfl ?_
            obtain ⟨hi, hv⟩ := hv
            refine g_iald hC dX9_keep_49 (rfl) hi ?_
            clear hi
            refine g_goto hC dX9_keep_50 (tgt := 54) (by decide) ?_
            obtain ⟨hi, hv⟩ := hv
            refine g_iast hC dX9_keep_54 (rfl) hi ?_
            clear hi
            refine g_blk hC _ bX9_keep_55_57 (pc' := 57) (ls' := [some (.inr (some 96)), some (.inl x1_25)]) (st' := [.inl x1_25, .inr (some 96)]) (I' := up2 I2 96 4 1) rfl rfl ?_
            refine g_callV hC (c_X9_isUsed l D ads (up2 I2 96 4 1) (up2 A_25 98 x1_25.toNatClampNeg (A_25 102 x1_25.toNatClampNeg)) x1_25) dX9_keep_57 nm_X9_isUsed rfl rfl wl_X9_100 wi_X9_isUsed ws_X9_isUsed wn_X9 wc_X9_isUsed ⟨by decide, by decide⟩ (as := [.inl x1_25]) (rest := []) rfl (Nat.le_of_ble_eq_true rfl) ⟨Nat.le_refl _, Nat.le_refl _⟩ (k_qI ?_)
            obtain ⟨hv1, hv2⟩ := hv
            refine g_ifeq hC dX9_keep_60 (tgt := 101) (by decide) (fun hc => ?_) (fun hc => ?_)
            · have hv := hv1 hc
              clear hv1 hv2 hc
              refine g_blk hC _ bX9_keep_101_104 (pc' := 104) (ls' := [some (.inr (some 96)), some (.inl (x1_25 + 1))]) (st' := []) (I' := up2 I2 96 4 1) rfl rfl ?_
              refine g_goto hC dX9_keep_104 (tgt := 25) (by decide) ?_
              exact g_weak (ls1 := [some (.inr (some 96)), some (.inl (x1_25 + 1))]) rfl (And.intro rfl (And.intro rfl trivial)) (ih25 (x1_25 + 1) (up2 A_25 98 x1_25.toNatClampNeg (A_25 102 x1_25.toNatClampNeg)) hv.1 (Nat.lt_of_lt_of_le hv.2 (Nat.le_of_lt_succ hn25)))
            · have hv := hv2 hc
              clear hv1 hv2 hc
              refine g_blk hC _ bX9_keep_63_74 (pc' := 74) (ls' := [some (.inr (some 96)), some (.inl x1_25)]) (st' := [.inl x1_25, .inr (some 102), .inr (some 96), .inl x1_25, .inr (some 99)]) (I' := up2 I2 96 4 1) rfl rfl ?_
              obtain ⟨hi, hv⟩ := hv
              refine g_iald hC dX9_keep_74 (rfl) hi ?_
              clear hi
              refine g_blk hC _ bX9_keep_75_84 (pc' := 84) (ls' := [some (.inr (some 96)), some (.inl x1_25)]) (st' := [.inl x1_25, .inr (some 102), .inr (some 113), .inl ((up2 A_25 98 x1_25.toNatClampNeg (A_25 102 x1_25.toNatClampNeg)) 102 x1_25.toNatClampNeg), .inr (some 96), .inl x1_25, .inr (some 99)]) (I' := up2 I2 96 4 1) rfl rfl ?_
              obtain ⟨hi, hv⟩ := hv
              refine g_iald hC dX9_keep_84 (rfl) hi ?_
              clear hi
              obtain ⟨hi, hv⟩ := hv
              refine g_iald hC dX9_keep_85 (rfl) hi ?_
              clear hi
              refine g_blk hC _ bX9_keep_86_92 (pc' := 92) (ls' := [some (.inr (some 96)), some (.inl x1_25)]) (st' := [.inl x1_25, .inr (some 102), .inr (some 96), .inl ((up2 A_25 98 x1_25.toNatClampNeg (A_25 102 x1_25.toNatClampNeg)) 113 ((up2 A_25 98 x1_25.toNatClampNeg (A_25 102 x1_25.toNatClampNeg)) 102 x1_25.toNatClampNeg).toNatClampNeg), .inl ((up2 A_25 98 x1_25.toNatClampNeg (A_25 102 x1_25.toNatClampNeg)) 102 x1_25.toNatClampNeg), .inr (some 96), .inl x1_25, .inr (some 99)]) (I' := up2 I2 96 4 1) rfl rfl ?_
              obtain ⟨hi, hv⟩ := hv
              refine g_iald hC dX9_keep_92 (rfl) hi ?_
              clear hi
              refine g_blk hC _ bX9_keep_93_94 (pc' := 94) (ls' := [some (.inr (some 96)), some (.inl x1_25)]) (st' := [.inl x1_25, .inl ((up2 A_25 98 x1_25.toNatClampNeg (A_25 102 x1_25.toNatClampNeg)) 102 x1_25.toNatClampNeg), .inr (some 96), .inl ((up2 A_25 98 x1_25.toNatClampNeg (A_25 102 x1_25.toNatClampNeg)) 113 ((up2 A_25 98 x1_25.toNatClampNeg (A_25 102 x1_25.toNatClampNeg)) 102 x1_25.toNatClampNeg).toNatClampNeg), .inl ((up2 A_25 98 x1_25.toNatClampNeg (A_25 102 x1_25.toNatClampNeg)) 102 x1_25.toNatClampNeg), .inr (some 96), .inl x1_25, .inr (some 99)]) (I' := up2 I2 96 4 1) rfl rfl ?_
              obtain ⟨hp8, hv⟩ := hv
              refine g_callV hC (hh_X9_find (up2 I2 96 4 1) (up2 A_25 98 x1_25.toNatClampNeg (A_25 102 x1_25.toNatClampNeg)) ((up2 A_25 98 x1_25.toNatClampNeg (A_25 102 x1_25.toNatClampNeg)) 102 x1_25.toNatClampNeg) x1_25 hp8) dX9_keep_94 nm_X9_find rfl rfl wl_X9_118 wi_X9_find ws_X9_find wn_X9 wc_X9_find ⟨by decide, by decide⟩ (as := [.inl ((up2 A_25 98 x1_25.toNatClampNeg (A_25 102 x1_25.toNatClampNeg)) 102 x1_25.toNatClampNeg), .inl x1_25]) (rest := [.inl ((up2 A_25 98 x1_25.toNatClampNeg (A_25 102 x1_25.toNatClampNeg)) 113 ((up2 A_25 98 x1_25.toNatClampNeg (A_25 102 x1_25.toNatClampNeg)) 102 x1_25.toNatClampNeg).toNatClampNeg), .inl ((up2 A_25 98 x1_25.toNatClampNeg (A_25 102 x1_25.toNatClampNeg)) 102 x1_25.toNatClampNeg), .inr (some 96), .inl x1_25, .inr (some 99)]) rfl (Nat.le_of_ble_eq_true rfl) ⟨Nat.le_refl _, Nat.le_refl _⟩ (k_qI ?_)
              obtain ⟨hp9, hv⟩ := hv
              refine g_callV hC (c_X9_standOf l D ads (up2 I2 96 4 1) (up2 A_25 98 x1_25.toNatClampNeg (A_25 102 x1_25.toNatClampNeg)) ((up2 A_25 98 x1_25.toNatClampNeg (A_25 102 x1_25.toNatClampNeg)) 102 x1_25.toNatClampNeg) ((up2 A_25 98 x1_25.toNatClampNeg (A_25 102 x1_25.toNatClampNeg)) 113 ((up2 A_25 98 x1_25.toNatClampNeg (A_25 102 x1_25.toNatClampNeg)) 102 x1_25.toNatClampNeg).toNatClampNeg) (ff_X9_find (up2 I2 96 4 1) (up2 A_25 98 x1_25.toNatClampNeg (A_25 102 x1_25.toNatClampNeg)) ((up2 A_25 98 x1_25.toNatClampNeg (A_25 102 x1_25.toNatClampNeg)) 102 x1_25.toNatClampNeg) x1_25) hp9) dX9_keep_97 nm_X9_standOf rfl rfl wl_X9_131 wi_X9_standOf ws_X9_standOf wn_X9 wc_X9_standOf ⟨by decide, by decide⟩ (as := [.inl ((up2 A_25 98 x1_25.toNatClampNeg (A_25 102 x1_25.toNatClampNeg)) 102 x1_25.toNatClampNeg), .inl ((up2 A_25 98 x1_25.toNatClampNeg (A_25 102 x1_25.toNatClampNeg)) 113 ((up2 A_25 98 x1_25.toNatClampNeg (A_25 102 x1_25.toNatClampNeg)) 102 x1_25.toNatClampNeg).toNatClampNeg), .inl (ff_X9_find (up2 I2 96 4 1) (up2 A_25 98 x1_25.toNatClampNeg (A_25 102 x1_25.toNatClampNeg)) ((up2 A_25 98 x1_25.toNatClampNeg (A_25 102 x1_25.toNatClampNeg)) 102 x1_25.toNatClampNeg) x1_25)]) (rest := [.inl x1_25, .inr (some 99)]) rfl (Nat.le_of_ble_eq_true rfl) ⟨Nat.le_refl _, Nat.le_refl _⟩ (k_qI ?_)
              obtain ⟨hi, hv⟩ := hv
              refine g_iast hC dX9_keep_100 (rfl) hi ?_
              clear hi
              refine g_blk hC _ bX9_keep_101_104 (pc' := 104) (ls' := [some (.inr (some 96)), some (.inl (x1_25 + 1))]) (st' := []) (I' := up2 I2 96 4 1) rfl rfl ?_
              refine g_goto hC dX9_keep_104 (tgt := 25) (by decide) ?_
              exact g_weak (ls1 := [some (.inr (some 96)), some (.inl (x1_25 + 1))]) rfl (And.intro rfl (And.intro rfl trivial)) (ih25 (x1_25 + 1) (up2 (up2 A_25 98 x1_25.toNatClampNeg (A_25 102 x1_25.toNatClampNeg)) 99 x1_25.toNatClampNeg (stO ((up2 A_25 98 x1_25.toNatClampNeg (A_25 102 x1_25.toNatClampNeg)) 104) ((up2 A_25 98 x1_25.toNatClampNeg (A_25 102 x1_25.toNatClampNeg)) 110) ((up2 A_25 98 x1_25.toNatClampNeg (A_25 102 x1_25.toNatClampNeg)) 102 x1_25.toNatClampNeg) ((up2 A_25 98 x1_25.toNatClampNeg (A_25 102 x1_25.toNatClampNeg)) 113 ((up2 A_25 98 x1_25.toNatClampNeg (A_25 102 x1_25.toNatClampNeg)) 102 x1_25.toNatClampNeg).toNatClampNeg) (ff_X9_find (up2 I2 96 4 1) (up2 A_25 98 x1_25.toNatClampNeg (A_25 102 x1_25.toNatClampNeg)) ((up2 A_25 98 x1_25.toNatClampNeg (A_25 102 x1_25.toNatClampNeg)) 102 x1_25.toNatClampNeg) x1_25))) hv.1 (Nat.lt_of_lt_of_le hv.2 (Nat.le_of_lt_succ hn25)))
    exact g_weak (ls1 := [some (.inr (some 96)), some (.inl 0)]) rfl (And.intro rfl (And.intro rfl trivial)) (L25 _ 0 A2 hi25 (Nat.lt_succ_self _))
  · have hv := hv2 hc
    clear hv1 hv2 hc
    refine g_blk hC _ bX9_keep_16_17 (pc' := 17) (ls' := [some (.inr (some 96)), none]) (st' := [.inl 0]) (I' := I2) rfl rfl ?_
    exact g_reti hC hr (by decide) dX9_keep_17 hv
theorem bX9_forget_0_12 : okB cX9_forget RX9 0 [(5, 0, 0, 0, 0), (0, 0, 0, 0, 0), (24, 65, 9, 0, 0), (5, 0, 0, 0, 0), (0, 0, 0, 0, 0), (25, 152, 9, 4, 0), (0, 0, 0, 0, 0), (7, 1, 0, 0, 0)] := And.intro ⟨_, dX9_forget_0, rfl⟩ (And.intro ⟨_, dX9_forget_1, by decide⟩ (And.intro ⟨dX9_forget_2, fl_X9_65, rfl, rfl⟩ (And.intro ⟨_, dX9_forget_5, rfl⟩ (And.intro ⟨_, dX9_forget_6, by decide⟩ (And.intro ⟨dX9_forget_7, fl_X9_152, rfl, rfl⟩ (And.intro ⟨_, dX9_forget_10, by decide⟩ (And.intro ⟨_, dX9_forget_11, rfl⟩ trivial)))))))
theorem bX9_forget_12_15 : okB cX9_forget RX9 12 [(3, 1, 0, 0, 0), (1, 0, 0, 0, 10)] := And.intro ⟨_, dX9_forget_12, rfl⟩ (And.intro ⟨_, dX9_forget_13, by decide⟩ trivial)
theorem bX9_forget_18_24 : okB cX9_forget RX9 18 [(5, 0, 0, 0, 0), (23, 17, 9, 5, 0), (3, 1, 0, 0, 0), (0, 0, 0, 0, (-1))] := And.intro ⟨_, dX9_forget_18, rfl⟩ (And.intro ⟨dX9_forget_19, fl_X9_17⟩ (And.intro ⟨_, dX9_forget_22, rfl⟩ (And.intro ⟨_, dX9_forget_23, by decide⟩ trivial)))
theorem bX9_forget_25_28 : okB cX9_forget RX9 25 [(11, 1, 0, 0, 1)] := And.intro ⟨_, dX9_forget_25, by decide⟩ trivial
set_option maxHeartbeats 4000000 in
set_option maxRecDepth 100000 in
theorem k_X9_forget (l : Launch) (D : va_G) (ads : AD) (I A : HI) (po : Option AV → HI → HI → Prop) (Iv12 : Int32 → HI → Prop) (mu12 : Int32 → HI → Nat)
    (hv : (Iv12 0 A ∧ ∀ (x1_12 : Int32) (A_12 : HI), Iv12 x1_12 A_12 → ((10 ≤ x1_12 → po none (up2 (up2 I 96 0 0) 96 4 0) A_12) ∧ (¬ 10 ≤ x1_12 → (vp_in x1_12 10 ∧ (Iv12 (x1_12 + 1) (up2 A_12 98 x1_12.toNatClampNeg ((-1))) ∧ mu12 (x1_12 + 1) (up2 A_12 98 x1_12.toNatClampNeg ((-1))) < mu12 x1_12 A_12)))))) : Ct l yX9_forget cX9_forget 2 none 0 0 D ads shp [.inr (some 96)] I A po := by
  refine Ct_of (by decide) (Nat.le_of_ble_eq_true rfl) ?_
  intro p e s m args below meth c hC hr
  replace hC : CX p s m args meth c cX9_forget 2 RX9 (AdS ads s.heap.size) := hC
  show Gm p l e s m args below meth c D ads 0 0 2 po I A 0 [some (.inr (some 96)), none] []
  refine g_blk hC _ bX9_forget_0_12 (pc' := 12) (ls' := [some (.inr (some 96)), some (.inl 0)]) (st' := []) (I' := up2 (up2 I 96 0 0) 96 4 0) rfl rfl ?_
  obtain ⟨hi12, hb12⟩ := hv
  have L12 : ∀ (n : Nat) (x1_12 : Int32) (A_12 : HI), Iv12 x1_12 A_12 → mu12 x1_12 A_12 < n → Gm p l e s m args below meth c D ads 0 0 2 po (up2 (up2 I 96 0 0) 96 4 0) A_12 12 [some (.inr (some 96)), some (.inl x1_12)] [] := by
    intro n
    induction n with
    | zero => intro x1_12 A_12 _ hn; exact absurd hn (Nat.not_lt_zero _)
    | succ n ih12 =>
      intro x1_12 A_12 hv hn12
      replace hv := hb12 x1_12 A_12 hv
      skip
      refine g_blk hC _ bX9_forget_12_15 (pc' := 15) (ls' := [some (.inr (some 96)), some (.inl x1_12)]) (st' := [.inl 10, .inl x1_12]) (I' := up2 (up2 I 96 0 0) 96 4 0) rfl rfl ?_
      obtain ⟨hv1, hv2⟩ := hv
      refine g_cge hC dX9_forget_15 (tgt := 31) (by decide) (fun hc => ?_) (fun hc => ?_)
      · have hv := hv1 hc
        clear hv1 hv2 hc
        exact g_retv hC hr dX9_forget_31 hv
      · have hv := hv2 hc
        clear hv1 hv2 hc
        refine g_blk hC _ bX9_forget_18_24 (pc' := 24) (ls' := [some (.inr (some 96)), some (.inl x1_12)]) (st' := [.inl ((-1)), .inl x1_12, .inr (some 98)]) (I' := up2 (up2 I 96 0 0) 96 4 0) rfl rfl ?_
        obtain ⟨hi, hv⟩ := hv
        refine g_iast hC dX9_forget_24 (rfl) hi ?_
        clear hi
        refine g_blk hC _ bX9_forget_25_28 (pc' := 28) (ls' := [some (.inr (some 96)), some (.inl (x1_12 + 1))]) (st' := []) (I' := up2 (up2 I 96 0 0) 96 4 0) rfl rfl ?_
        refine g_goto hC dX9_forget_28 (tgt := 12) (by decide) ?_
        exact g_weak (ls1 := [some (.inr (some 96)), some (.inl (x1_12 + 1))]) rfl (And.intro rfl (And.intro rfl trivial)) (ih12 (x1_12 + 1) (up2 A_12 98 x1_12.toNatClampNeg ((-1))) hv.1 (Nat.lt_of_lt_of_le hv.2 (Nat.le_of_lt_succ hn12)))
  exact g_weak (ls1 := [some (.inr (some 96)), some (.inl 0)]) rfl (And.intro rfl (And.intro rfl trivial)) (L12 _ 0 A hi12 (Nat.lt_succ_self _))
theorem bX9_orders_0_6 : okB cX9_orders RX9 0 [(5, 0, 0, 0, 0), (0, 0, 0, 0, 0), (24, 65, 9, 0, 0), (5, 0, 0, 0, 0)] := And.intro ⟨_, dX9_orders_0, rfl⟩ (And.intro ⟨_, dX9_orders_1, by decide⟩ (And.intro ⟨dX9_orders_2, fl_X9_65, rfl, rfl⟩ (And.intro ⟨_, dX9_orders_5, rfl⟩ trivial)))
theorem bX9_orders_9_13 : okB cX9_orders RX9 9 [(5, 0, 0, 0, 0), (23, 110, 9, 14, 0)] := And.intro ⟨_, dX9_orders_9, rfl⟩ (And.intro ⟨dX9_orders_10, fl_X9_110⟩ trivial)
theorem bX9_orders_23_24 : okB cX9_orders RX9 23 [(0, 0, 0, 0, (-1))] := And.intro ⟨_, dX9_orders_23, by decide⟩ trivial
theorem bX9_orders_16_20 : okB cX9_orders RX9 16 [(5, 0, 0, 0, 0), (23, 143, 9, 28, 0)] := And.intro ⟨_, dX9_orders_16, rfl⟩ (And.intro ⟨dX9_orders_17, fl_X9_143⟩ trivial)
set_option maxHeartbeats 4000000 in
set_option maxRecDepth 100000 in
theorem k_X9_orders (l : Launch) (D : va_G) (ads : AD) (I A : HI) (po : Option AV → HI → HI → Prop) {pp_X9_findOrder : HI → HI → Prop} {qq_X9_findOrder : HI → HI → HI → HI → Prop} (hh_X9_findOrder : ∀ (I A : HI), pp_X9_findOrder I A → Ct l yX9_findOrder cX9_findOrder 7 none 3 72 D ads shp [.inr (some 96)] I A (qV (qq_X9_findOrder I A)))
    (hv : ((pp_X9_findOrder (up2 I 96 0 0) A) ∧ (∀ (I2 A2 : HI), qq_X9_findOrder (up2 I 96 0 0) A I2 A2 → (((I2 96 14) = 0 → po (some (.inl ((-1)))) I2 A2) ∧ (¬ (I2 96 14) = 0 → po (some (.inl (I2 96 28))) I2 A2))))) : Ct l yX9_orders cX9_orders 1 (some .int) 4 98 D ads shp [.inr (some 96)] I A po := by
  refine Ct_of (by decide) (Nat.le_of_ble_eq_true rfl) ?_
  intro p e s m args below meth c hC hr
  replace hC : CX p s m args meth c cX9_orders 1 RX9 (AdS ads s.heap.size) := hC
  show Gm p l e s m args below meth c D ads 4 98 1 po I A 0 [some (.inr (some 96))] []
  refine g_blk hC _ bX9_orders_0_6 (pc' := 6) (ls' := [some (.inr (some 96))]) (st' := [.inr (some 96)]) (I' := up2 I 96 0 0) rfl rfl ?_
  obtain ⟨hp1, hv⟩ := hv
  refine g_callV hC (hh_X9_findOrder (up2 I 96 0 0) A  hp1) dX9_orders_6 nm_X9_findOrder rfl rfl wl_X9_158 wi_X9_findOrder ws_X9_findOrder wn_X9 wc_X9_findOrder ⟨by decide, by decide⟩ (as := []) (rest := []) rfl (Nat.le_of_ble_eq_true rfl) ⟨Nat.le_refl _, Nat.le_refl _⟩ (k_qV ?_)
  intro I2 A2 hq2
  replace hv := hv I2 A2 hq2
  refine g_blk hC _ bX9_orders_9_13 (pc' := 13) (ls' := [some (.inr (some 96))]) (st' := [.inl (I2 96 14)]) (I' := I2) rfl rfl ?_
  obtain ⟨hv1, hv2⟩ := hv
  refine g_ifeq hC dX9_orders_13 (tgt := 23) (by decide) (fun hc => ?_) (fun hc => ?_)
  · have hv := hv1 hc
    clear hv1 hv2 hc
    refine g_blk hC _ bX9_orders_23_24 (pc' := 24) (ls' := [some (.inr (some 96))]) (st' := [.inl ((-1))]) (I' := I2) rfl rfl ?_
    exact g_reti hC hr rfl dX9_orders_24 hv
  · have hv := hv2 hc
    clear hv1 hv2 hc
    refine g_blk hC _ bX9_orders_16_20 (pc' := 20) (ls' := [some (.inr (some 96))]) (st' := [.inl (I2 96 28)]) (I' := I2) rfl rfl ?_
    refine g_goto hC dX9_orders_20 (tgt := 24) (by decide) ?_
    exact g_reti hC hr rfl dX9_orders_24 hv
theorem bX9_point_0_6 : okB cX9_point RX9 0 [(5, 0, 0, 0, 0), (0, 0, 0, 0, 0), (24, 65, 9, 0, 0), (5, 0, 0, 0, 0)] := And.intro ⟨_, dX9_point_0, rfl⟩ (And.intro ⟨_, dX9_point_1, by decide⟩ (And.intro ⟨dX9_point_2, fl_X9_65, rfl, rfl⟩ (And.intro ⟨_, dX9_point_5, rfl⟩ trivial)))
theorem bX9_point_9_13 : okB cX9_point RX9 9 [(5, 0, 0, 0, 0), (23, 110, 9, 14, 0)] := And.intro ⟨_, dX9_point_9, rfl⟩ (And.intro ⟨dX9_point_10, fl_X9_110⟩ trivial)
theorem bX9_point_65_66 : okB cX9_point RX9 65 [(0, 0, 0, 0, (-1))] := And.intro ⟨_, dX9_point_65, by decide⟩ trivial
theorem bX9_point_16_19 : okB cX9_point RX9 16 [(5, 0, 0, 0, 0), (3, 1, 0, 0, 0), (3, 2, 0, 0, 0)] := And.intro ⟨_, dX9_point_16, rfl⟩ (And.intro ⟨_, dX9_point_17, rfl⟩ (And.intro ⟨_, dX9_point_18, rfl⟩ trivial))
theorem bX9_point_25_28 : okB cX9_point RX9 25 [(5, 0, 0, 0, 0), (3, 1, 0, 0, 0), (3, 2, 0, 0, 0)] := And.intro ⟨_, dX9_point_25, rfl⟩ (And.intro ⟨_, dX9_point_26, rfl⟩ (And.intro ⟨_, dX9_point_27, rfl⟩ trivial))
theorem bX9_point_34_40 : okB cX9_point RX9 34 [(3, 3, 0, 0, 0), (5, 0, 0, 0, 0), (23, 29, 9, 11, 0), (3, 1, 0, 0, 0)] := And.intro ⟨_, dX9_point_34, rfl⟩ (And.intro ⟨_, dX9_point_35, rfl⟩ (And.intro ⟨dX9_point_36, fl_X9_29⟩ (And.intro ⟨_, dX9_point_39, rfl⟩ trivial)))
theorem bX9_point_44_50 : okB cX9_point RX9 44 [(3, 3, 0, 0, 0), (5, 0, 0, 0, 0), (23, 29, 9, 11, 0), (3, 2, 0, 0, 0)] := And.intro ⟨_, dX9_point_44, rfl⟩ (And.intro ⟨_, dX9_point_45, rfl⟩ (And.intro ⟨dX9_point_46, fl_X9_29⟩ (And.intro ⟨_, dX9_point_49, rfl⟩ trivial)))
theorem bX9_point_54_56 : okB cX9_point RX9 54 [(4, 4, 0, 0, 0)] := And.intro dX9_point_54 trivial
theorem bX9_point_59_62 : okB cX9_point RX9 59 [(4, 4, 0, 0, 0), (0, 0, 0, 0, 1)] := And.intro dX9_point_59 (And.intro ⟨_, dX9_point_61, by decide⟩ trivial)
theorem bX9_point_100_106 : okB cX9_point RX9 100 [(5, 0, 0, 0, 0), (3, 3, 0, 0, 0), (5, 0, 0, 0, 0), (3, 1, 0, 0, 0), (3, 2, 0, 0, 0), (3, 3, 0, 0, 0)] := And.intro ⟨_, dX9_point_100, rfl⟩ (And.intro ⟨_, dX9_point_101, rfl⟩ (And.intro ⟨_, dX9_point_102, rfl⟩ (And.intro ⟨_, dX9_point_103, rfl⟩ (And.intro ⟨_, dX9_point_104, rfl⟩ (And.intro ⟨_, dX9_point_105, rfl⟩ trivial)))))
theorem bX9_point_112_118 : okB cX9_point RX9 112 [(8, 5, 0, 0, 0), (5, 0, 0, 0, 0), (3, 3, 0, 0, 0), (4, 5, 0, 0, 0)] := And.intro dX9_point_112 (And.intro ⟨_, dX9_point_114, rfl⟩ (And.intro ⟨_, dX9_point_115, rfl⟩ (And.intro dX9_point_116 trivial)))
theorem bX9_point_121_123 : okB cX9_point RX9 121 [(8, 6, 0, 0, 0)] := And.intro dX9_point_121 trivial
theorem bX9_point_139_147 : okB cX9_point RX9 139 [(5, 0, 0, 0, 0), (4, 7, 0, 0, 0), (5, 0, 0, 0, 0), (3, 1, 0, 0, 0), (3, 2, 0, 0, 0), (4, 7, 0, 0, 0)] := And.intro ⟨_, dX9_point_139, rfl⟩ (And.intro dX9_point_140 (And.intro ⟨_, dX9_point_142, rfl⟩ (And.intro ⟨_, dX9_point_143, rfl⟩ (And.intro ⟨_, dX9_point_144, rfl⟩ (And.intro dX9_point_145 trivial)))))
theorem bX9_point_153_155 : okB cX9_point RX9 153 [(8, 8, 0, 0, 0)] := And.intro dX9_point_153 trivial
theorem bX9_point_169_176 : okB cX9_point RX9 169 [(1, 0, 0, 0, 16), (4, 9, 0, 0, 0), (14, 0, 0, 0, 0), (8, 10, 0, 0, 0)] := And.intro ⟨_, dX9_point_169, by decide⟩ (And.intro dX9_point_171 (And.intro dX9_point_173 (And.intro dX9_point_174 trivial)))
theorem bX9_point_176_189 : okB cX9_point RX9 176 [(4, 10, 0, 0, 0), (1, 0, 0, 0, 16), (4, 9, 0, 0, 0), (14, 0, 0, 0, 0), (5, 0, 0, 0, 0), (23, 41, 9, 17, 0), (4, 9, 0, 0, 0)] := And.intro dX9_point_176 (And.intro ⟨_, dX9_point_178, by decide⟩ (And.intro dX9_point_180 (And.intro dX9_point_182 (And.intro ⟨_, dX9_point_183, rfl⟩ (And.intro ⟨dX9_point_184, fl_X9_41⟩ (And.intro dX9_point_187 trivial))))))
theorem bX9_point_190_191 : okB cX9_point RX9 190 [(12, 0, 0, 0, 0)] := And.intro dX9_point_190 trivial
theorem bX9_point_300_302 : okB cX9_point RX9 300 [(4, 6, 0, 0, 0)] := And.intro dX9_point_300 trivial
theorem bX9_point_242_246 : okB cX9_point RX9 242 [(4, 11, 0, 0, 0), (4, 5, 0, 0, 0)] := And.intro dX9_point_242 (And.intro dX9_point_244 trivial)
theorem bX9_point_294_297 : okB cX9_point RX9 294 [(11, 10, 0, 0, 1)] := And.intro ⟨_, dX9_point_294, by decide⟩ trivial
theorem bX9_point_249_258 : okB cX9_point RX9 249 [(5, 0, 0, 0, 0), (4, 7, 0, 0, 0), (5, 0, 0, 0, 0), (23, 62, 9, 26, 0), (4, 7, 0, 0, 0)] := And.intro ⟨_, dX9_point_249, rfl⟩ (And.intro dX9_point_250 (And.intro ⟨_, dX9_point_252, rfl⟩ (And.intro ⟨dX9_point_253, fl_X9_62⟩ (And.intro dX9_point_256 trivial))))
theorem bX9_point_259_261 : okB cX9_point RX9 259 [(4, 12, 0, 0, 0)] := And.intro dX9_point_259 trivial
theorem bX9_point_264_273 : okB cX9_point RX9 264 [(5, 0, 0, 0, 0), (4, 7, 0, 0, 0), (5, 0, 0, 0, 0), (23, 62, 9, 26, 0), (4, 7, 0, 0, 0)] := And.intro ⟨_, dX9_point_264, rfl⟩ (And.intro dX9_point_265 (And.intro ⟨_, dX9_point_267, rfl⟩ (And.intro ⟨dX9_point_268, fl_X9_62⟩ (And.intro dX9_point_271 trivial))))
theorem bX9_point_274_276 : okB cX9_point RX9 274 [(4, 8, 0, 0, 0)] := And.intro dX9_point_274 trivial
theorem bX9_point_282_290 : okB cX9_point RX9 282 [(4, 6, 0, 0, 0), (5, 0, 0, 0, 0), (23, 50, 9, 20, 0), (4, 10, 0, 0, 0)] := And.intro dX9_point_282 (And.intro ⟨_, dX9_point_284, rfl⟩ (And.intro ⟨dX9_point_285, fl_X9_50⟩ (And.intro dX9_point_288 trivial)))
theorem bX9_point_291_297 : okB cX9_point RX9 291 [(12, 0, 0, 0, 0), (8, 6, 0, 0, 0), (11, 10, 0, 0, 1)] := And.intro dX9_point_291 (And.intro dX9_point_292 (And.intro ⟨_, dX9_point_294, by decide⟩ trivial))
theorem bX9_point_218_220 : okB cX9_point RX9 218 [(4, 4, 0, 0, 0)] := And.intro dX9_point_218 trivial
theorem bX9_point_233_239 : okB cX9_point RX9 233 [(5, 0, 0, 0, 0), (23, 47, 9, 19, 0), (4, 10, 0, 0, 0)] := And.intro ⟨_, dX9_point_233, rfl⟩ (And.intro ⟨dX9_point_234, fl_X9_47⟩ (And.intro dX9_point_237 trivial))
theorem bX9_point_240_242 : okB cX9_point RX9 240 [(8, 12, 0, 0, 0)] := And.intro dX9_point_240 trivial
theorem bX9_point_223_229 : okB cX9_point RX9 223 [(5, 0, 0, 0, 0), (23, 44, 9, 18, 0), (4, 10, 0, 0, 0)] := And.intro ⟨_, dX9_point_223, rfl⟩ (And.intro ⟨dX9_point_224, fl_X9_44⟩ (And.intro dX9_point_227 trivial))
theorem bX9_point_194_196 : okB cX9_point RX9 194 [(4, 4, 0, 0, 0)] := And.intro dX9_point_194 trivial
theorem bX9_point_209_215 : okB cX9_point RX9 209 [(5, 0, 0, 0, 0), (23, 44, 9, 18, 0), (4, 10, 0, 0, 0)] := And.intro ⟨_, dX9_point_209, rfl⟩ (And.intro ⟨dX9_point_210, fl_X9_44⟩ (And.intro dX9_point_213 trivial))
theorem bX9_point_216_218 : okB cX9_point RX9 216 [(8, 11, 0, 0, 0)] := And.intro dX9_point_216 trivial
theorem bX9_point_199_205 : okB cX9_point RX9 199 [(5, 0, 0, 0, 0), (23, 47, 9, 19, 0), (4, 10, 0, 0, 0)] := And.intro ⟨_, dX9_point_199, rfl⟩ (And.intro ⟨dX9_point_200, fl_X9_47⟩ (And.intro dX9_point_203 trivial))
theorem bX9_point_155_157 : okB cX9_point RX9 155 [(4, 4, 0, 0, 0)] := And.intro dX9_point_155 trivial
theorem bX9_point_166_169 : okB cX9_point RX9 166 [(3, 3, 0, 0, 0), (8, 9, 0, 0, 0)] := And.intro ⟨_, dX9_point_166, rfl⟩ (And.intro dX9_point_167 trivial)
theorem bX9_point_160_163 : okB cX9_point RX9 160 [(3, 3, 0, 0, 0), (0, 0, 0, 0, 1), (13, 0, 0, 0, 0)] := And.intro ⟨_, dX9_point_160, rfl⟩ (And.intro ⟨_, dX9_point_161, by decide⟩ (And.intro dX9_point_162 trivial))
theorem bX9_point_167_169 : okB cX9_point RX9 167 [(8, 9, 0, 0, 0)] := And.intro dX9_point_167 trivial
theorem bX9_point_123_125 : okB cX9_point RX9 123 [(4, 4, 0, 0, 0)] := And.intro dX9_point_123 trivial
theorem bX9_point_134_139 : okB cX9_point RX9 134 [(3, 3, 0, 0, 0), (0, 0, 0, 0, 1), (12, 0, 0, 0, 0), (8, 7, 0, 0, 0)] := And.intro ⟨_, dX9_point_134, rfl⟩ (And.intro ⟨_, dX9_point_135, by decide⟩ (And.intro dX9_point_136 (And.intro dX9_point_137 trivial)))
theorem bX9_point_128_131 : okB cX9_point RX9 128 [(3, 3, 0, 0, 0), (0, 0, 0, 0, 1), (13, 0, 0, 0, 0)] := And.intro ⟨_, dX9_point_128, rfl⟩ (And.intro ⟨_, dX9_point_129, by decide⟩ (And.intro dX9_point_130 trivial))
theorem bX9_point_137_139 : okB cX9_point RX9 137 [(8, 7, 0, 0, 0)] := And.intro dX9_point_137 trivial
theorem bX9_point_67_69 : okB cX9_point RX9 67 [(4, 4, 0, 0, 0)] := And.intro dX9_point_67 trivial
theorem bX9_point_82_85 : okB cX9_point RX9 82 [(4, 4, 0, 0, 0), (0, 0, 0, 0, 1)] := And.intro dX9_point_82 (And.intro ⟨_, dX9_point_84, by decide⟩ trivial)
theorem bX9_point_88_94 : okB cX9_point RX9 88 [(3, 3, 0, 0, 0), (5, 0, 0, 0, 0), (23, 29, 9, 11, 0), (3, 2, 0, 0, 0)] := And.intro ⟨_, dX9_point_88, rfl⟩ (And.intro ⟨_, dX9_point_89, rfl⟩ (And.intro ⟨dX9_point_90, fl_X9_29⟩ (And.intro ⟨_, dX9_point_93, rfl⟩ trivial)))
theorem bX9_point_98_99 : okB cX9_point RX9 98 [(0, 0, 0, 0, (-1))] := And.intro ⟨_, dX9_point_98, by decide⟩ trivial
theorem bX9_point_72_78 : okB cX9_point RX9 72 [(3, 3, 0, 0, 0), (5, 0, 0, 0, 0), (23, 29, 9, 11, 0), (3, 1, 0, 0, 0)] := And.intro ⟨_, dX9_point_72, rfl⟩ (And.intro ⟨_, dX9_point_73, rfl⟩ (And.intro ⟨dX9_point_74, fl_X9_29⟩ (And.intro ⟨_, dX9_point_77, rfl⟩ trivial)))
set_option maxHeartbeats 4000000 in
set_option maxRecDepth 100000 in
theorem k_X9_point (l : Launch) (D : va_G) (ads : AD) (I A : HI) (a1 : Int32) (a2 : Int32) (a3 : Int32) (a4 : Int32) (po : Option AV → HI → HI → Prop) {pp_X9_findOrder : HI → HI → Prop} {qq_X9_findOrder : HI → HI → HI → HI → Prop} (hh_X9_findOrder : ∀ (I A : HI), pp_X9_findOrder I A → Ct l yX9_findOrder cX9_findOrder 7 none 3 72 D ads shp [.inr (some 96)] I A (qV (qq_X9_findOrder I A))) {pp_X9_find : HI → HI → Int32 → Int32 → Prop} {ff_X9_find : HI → HI → Int32 → Int32 → Int32} (hh_X9_find : ∀ (I A : HI) (a1 : Int32) (a2 : Int32), pp_X9_find I A a1 a2 → Ct l yX9_find cX9_find 4 (some .int) 0 0 D ads shp [.inr (some 96), .inl a1, .inl a2] I A (qI (ff_X9_find I A a1 a2) I A)) {pp_X9_topOf : HI → HI → Int32 → Int32 → Prop} {ff_X9_topOf : HI → HI → Int32 → Int32 → Int32} (hh_X9_topOf : ∀ (I A : HI) (a1 : Int32) (a2 : Int32), pp_X9_topOf I A a1 a2 → Ct l yX9_topOf cX9_topOf 5 (some .int) 3 68 D ads shp [.inr (some 96), .inl a1, .inl a2] I A (qI (ff_X9_topOf I A a1 a2) I A)) (Jn100 : HI → HI → Prop) (Jn139 : HI → HI → Int32 → Prop) (Jn169 : HI → HI → Int32 → Int32 → Prop) (Iv176 : HI → HI → Int32 → Int32 → Int32 → Int32 → Prop) (mu176 : HI → HI → Int32 → Int32 → Int32 → Int32 → Nat) (Jn218 : HI → HI → Int32 → Int32 → Int32 → Int32 → Int32 → Prop) (Jn242 : HI → HI → Int32 → Int32 → Int32 → Int32 → Int32 → Int32 → Prop)
    (hv : ((pp_X9_findOrder (up2 I 96 0 0) A) ∧ (∀ (I2 A2 : HI), qq_X9_findOrder (up2 I 96 0 0) A I2 A2 → (((I2 96 14) = 0 → po (some (.inl ((-1)))) I2 A2) ∧ (¬ (I2 96 14) = 0 → (((isF (A2 97) a1 a2) = 0 → po (some (.inl ((-1)))) I2 A2) ∧ (¬ (isF (A2 97) a1 a2) = 0 → ((vp_in a1 10 ∧ vp_in a2 10) ∧ ((¬ (trnI (A2 101) a1 a2) = 0 → po (some (.inl ((-1)))) I2 A2) ∧ ((trnI (A2 101) a1 a2) = 0 → (vp_in a1 10 ∧ ((a3 < (A2 102 a1.toNatClampNeg) → po (some (.inl ((-1)))) I2 A2) ∧ (¬ a3 < (A2 102 a1.toNatClampNeg) → (vp_in a2 10 ∧ (((A2 102 a2.toNatClampNeg) < a3 → po (some (.inl ((-1)))) I2 A2) ∧ (¬ (A2 102 a2.toNatClampNeg) < a3 → ((a4 < 0 → po (some (.inl ((-1)))) I2 A2) ∧ (¬ a4 < 0 → ((a4 ≤ 1 → ((Jn100 I2 A2 → ((vp_in a1 10 ∧ vp_in a2 10) ∧ ((pp_X9_find I2 A2 a3 (itmI (A2 102) a1 a2 a3)) ∧ ((pp_X9_topOf I2 A2 a3 (ff_X9_find I2 A2 a3 (itmI (A2 102) a1 a2 a3))) ∧ ((∀ (x7_139 : Int32), Jn139 I2 A2 x7_139 → ((vp_in a1 10 ∧ vp_in a2 10) ∧ ((pp_X9_find I2 A2 x7_139 (itmI (A2 102) a1 a2 x7_139)) ∧ ((∀ (x9_169 : Int32), Jn169 I2 A2 x7_139 x9_169 → (Iv176 I2 A2 x7_139 x9_169 (ff_X9_topOf I2 A2 a3 (ff_X9_find I2 A2 a3 (itmI (A2 102) a1 a2 a3))) (16 * x9_169) ∧ ∀ (x6_176 : Int32) (x10_176 : Int32), Iv176 I2 A2 x7_139 x9_169 x6_176 x10_176 → (vp_in x9_169 10 ∧ ((((16 * x9_169) + (A2 106 x9_169.toNatClampNeg)) ≤ x10_176 → po (some (.inl x6_176)) I2 A2) ∧ (¬ ((16 * x9_169) + (A2 106 x9_169.toNatClampNeg)) ≤ x10_176 → ((∀ (x11_218 : Int32), Jn218 I2 A2 x7_139 x9_169 x6_176 x10_176 x11_218 → ((∀ (x12_242 : Int32), Jn242 I2 A2 x7_139 x9_169 x6_176 x10_176 x11_218 x12_242 → ((¬ x11_218 = (ff_X9_find I2 A2 a3 (itmI (A2 102) a1 a2 a3)) → (Iv176 I2 A2 x7_139 x9_169 x6_176 (x10_176 + 1) ∧ mu176 I2 A2 x7_139 x9_169 x6_176 (x10_176 + 1) < mu176 I2 A2 x7_139 x9_169 x6_176 x10_176)) ∧ (x11_218 = (ff_X9_find I2 A2 a3 (itmI (A2 102) a1 a2 a3)) → (vp_in x7_139 10 ∧ ((stO0 (A2 104) x7_139 (A2 113 x7_139.toNatClampNeg) x12_242) ∧ (vp_in x7_139 10 ∧ ((stO0 (A2 104) x7_139 (A2 113 x7_139.toNatClampNeg) (ff_X9_find I2 A2 x7_139 (itmI (A2 102) a1 a2 x7_139))) ∧ (((stO (A2 104) (A2 110) x7_139 (A2 113 x7_139.toNatClampNeg) (ff_X9_find I2 A2 x7_139 (itmI (A2 102) a1 a2 x7_139))) ≤ (stO (A2 104) (A2 110) x7_139 (A2 113 x7_139.toNatClampNeg) x12_242) → (Iv176 I2 A2 x7_139 x9_169 x6_176 (x10_176 + 1) ∧ mu176 I2 A2 x7_139 x9_169 x6_176 (x10_176 + 1) < mu176 I2 A2 x7_139 x9_169 x6_176 x10_176)) ∧ (¬ (stO (A2 104) (A2 110) x7_139 (A2 113 x7_139.toNatClampNeg) (ff_X9_find I2 A2 x7_139 (itmI (A2 102) a1 a2 x7_139))) ≤ (stO (A2 104) (A2 110) x7_139 (A2 113 x7_139.toNatClampNeg) x12_242) → (vp_in x10_176 160 ∧ (Iv176 I2 A2 x7_139 x9_169 (x6_176 + (A2 109 x10_176.toNatClampNeg)) (x10_176 + 1) ∧ mu176 I2 A2 x7_139 x9_169 (x6_176 + (A2 109 x10_176.toNatClampNeg)) (x10_176 + 1) < mu176 I2 A2 x7_139 x9_169 x6_176 x10_176))))))))))) ∧ ((¬ a4 = 0 → (vp_in x10_176 160 ∧ (Jn242 I2 A2 x7_139 x9_169 x6_176 x10_176 x11_218 (A2 108 x10_176.toNatClampNeg)))) ∧ (a4 = 0 → (vp_in x10_176 160 ∧ (Jn242 I2 A2 x7_139 x9_169 x6_176 x10_176 x11_218 (A2 107 x10_176.toNatClampNeg))))))) ∧ ((¬ a4 = 0 → (vp_in x10_176 160 ∧ (Jn218 I2 A2 x7_139 x9_169 x6_176 x10_176 (A2 107 x10_176.toNatClampNeg)))) ∧ (a4 = 0 → (vp_in x10_176 160 ∧ (Jn218 I2 A2 x7_139 x9_169 x6_176 x10_176 (A2 108 x10_176.toNatClampNeg))))))))))) ∧ ((¬ a4 = 0 → (Jn169 I2 A2 x7_139 a3)) ∧ (a4 = 0 → (Jn169 I2 A2 x7_139 (a3 - 1)))))))) ∧ ((¬ a4 = 0 → (Jn139 I2 A2 (a3 + 1))) ∧ (a4 = 0 → (Jn139 I2 A2 (a3 - 1))))))))) ∧ ((¬ a4 = 0 → ((¬ a4 = 1 → (Jn100 I2 A2)) ∧ (a4 = 1 → (vp_in a2 10 ∧ ((¬ a3 = (A2 102 a2.toNatClampNeg) → (Jn100 I2 A2)) ∧ (a3 = (A2 102 a2.toNatClampNeg) → po (some (.inl ((-1)))) I2 A2)))))) ∧ (a4 = 0 → (vp_in a1 10 ∧ ((a3 = (A2 102 a1.toNatClampNeg) → po (some (.inl ((-1)))) I2 A2) ∧ (¬ a3 = (A2 102 a1.toNatClampNeg) → ((¬ a4 = 1 → (Jn100 I2 A2)) ∧ (a4 = 1 → (vp_in a2 10 ∧ ((¬ a3 = (A2 102 a2.toNatClampNeg) → (Jn100 I2 A2)) ∧ (a3 = (A2 102 a2.toNatClampNeg) → po (some (.inl ((-1)))) I2 A2)))))))))))) ∧ (¬ a4 ≤ 1 → po (some (.inl ((-1)))) I2 A2)))))))))))))))))))) : Ct l yX9_point cX9_point 13 (some .int) 4 98 D ads shp [.inr (some 96), .inl a1, .inl a2, .inl a3, .inl a4] I A po := by
  refine Ct_of (by decide) (Nat.le_of_ble_eq_true rfl) ?_
  intro p e s m args below meth c hC hr
  replace hC : CX p s m args meth c cX9_point 13 RX9 (AdS ads s.heap.size) := hC
  show Gm p l e s m args below meth c D ads 4 98 13 po I A 0 [some (.inr (some 96)), some (.inl a1), some (.inl a2), some (.inl a3), some (.inl a4), none, none, none, none, none, none, none, none] []
  refine g_blk hC _ bX9_point_0_6 (pc' := 6) (ls' := [some (.inr (some 96)), some (.inl a1), some (.inl a2), some (.inl a3), some (.inl a4), none, none, none, none, none, none, none, none]) (st' := [.inr (some 96)]) (I' := up2 I 96 0 0) rfl rfl ?_
  obtain ⟨hp1, hv⟩ := hv
  refine g_callV hC (hh_X9_findOrder (up2 I 96 0 0) A  hp1) dX9_point_6 nm_X9_findOrder rfl rfl wl_X9_158 wi_X9_findOrder ws_X9_findOrder wn_X9 wc_X9_findOrder ⟨by decide, by decide⟩ (as := []) (rest := []) rfl (Nat.le_of_ble_eq_true rfl) ⟨Nat.le_refl _, Nat.le_refl _⟩ (k_qV ?_)
  intro I2 A2 hq2
  replace hv := hv I2 A2 hq2
  refine g_blk hC _ bX9_point_9_13 (pc' := 13) (ls' := [some (.inr (some 96)), some (.inl a1), some (.inl a2), some (.inl a3), some (.inl a4), none, none, none, none, none, none, none, none]) (st' := [.inl (I2 96 14)]) (I' := I2) rfl rfl ?_
  obtain ⟨hv1, hv2⟩ := hv
  refine g_ifeq hC dX9_point_13 (tgt := 65) (by decide) (fun hc => ?_) (fun hc => ?_)
  · have hv := hv1 hc
    clear hv1 hv2 hc
    refine g_blk hC _ bX9_point_65_66 (pc' := 66) (ls' := [some (.inr (some 96)), some (.inl a1), some (.inl a2), some (.inl a3), some (.inl a4), none, none, none, none, none, none, none, none]) (st' := [.inl ((-1))]) (I' := I2) rfl rfl ?_
    exact g_reti hC hr rfl dX9_point_66 hv
  · have hv := hv2 hc
    clear hv1 hv2 hc
    refine g_blk hC _ bX9_point_16_19 (pc' := 19) (ls' := [some (.inr (some 96)), some (.inl a1), some (.inl a2), some (.inl a3), some (.inl a4), none, none, none, none, none, none, none, none]) (st' := [.inl a2, .inl a1, .inr (some 96)]) (I' := I2) rfl rfl ?_
    refine g_callV hC (c_X9_isFlow l D ads I2 A2 a1 a2) dX9_point_19 nm_X9_isFlow rfl rfl wl_X9_155 wi_X9_isFlow ws_X9_isFlow wn_X9 wc_X9_isFlow ⟨by decide, by decide⟩ (as := [.inl a1, .inl a2]) (rest := []) rfl (Nat.le_of_ble_eq_true rfl) ⟨Nat.le_refl _, Nat.le_refl _⟩ (k_qI ?_)
    obtain ⟨hv1, hv2⟩ := hv
    refine g_ifeq hC dX9_point_22 (tgt := 65) (by decide) (fun hc => ?_) (fun hc => ?_)
    · have hv := hv1 hc
      clear hv1 hv2 hc
      refine g_blk hC _ bX9_point_65_66 (pc' := 66) (ls' := [some (.inr (some 96)), some (.inl a1), some (.inl a2), some (.inl a3), some (.inl a4), none, none, none, none, none, none, none, none]) (st' := [.inl ((-1))]) (I' := I2) rfl rfl ?_
      exact g_reti hC hr rfl dX9_point_66 hv
    · have hv := hv2 hc
      clear hv1 hv2 hc
      refine g_blk hC _ bX9_point_25_28 (pc' := 28) (ls' := [some (.inr (some 96)), some (.inl a1), some (.inl a2), some (.inl a3), some (.inl a4), none, none, none, none, none, none, none, none]) (st' := [.inl a2, .inl a1, .inr (some 96)]) (I' := I2) rfl rfl ?_
      obtain ⟨hp4, hv⟩ := hv
      refine g_callV hC (c_X9_isTurned l D ads I2 A2 a1 a2 hp4) dX9_point_28 nm_X9_isTurned rfl rfl wl_X9_93 wi_X9_isTurned ws_X9_isTurned wn_X9 wc_X9_isTurned ⟨by decide, by decide⟩ (as := [.inl a1, .inl a2]) (rest := []) rfl (Nat.le_of_ble_eq_true rfl) ⟨Nat.le_refl _, Nat.le_refl _⟩ (k_qI ?_)
      obtain ⟨hv1, hv2⟩ := hv
      refine g_ifne hC dX9_point_31 (tgt := 65) (by decide) (fun hc => ?_) (fun hc => ?_)
      · have hv := hv1 hc
        clear hv1 hv2 hc
        refine g_blk hC _ bX9_point_65_66 (pc' := 66) (ls' := [some (.inr (some 96)), some (.inl a1), some (.inl a2), some (.inl a3), some (.inl a4), none, none, none, none, none, none, none, none]) (st' := [.inl ((-1))]) (I' := I2) rfl rfl ?_
        exact g_reti hC hr rfl dX9_point_66 hv
      · have hv := hv2 hc
        clear hv1 hv2 hc
        refine g_blk hC _ bX9_point_34_40 (pc' := 40) (ls' := [some (.inr (some 96)), some (.inl a1), some (.inl a2), some (.inl a3), some (.inl a4), none, none, none, none, none, none, none, none]) (st' := [.inl a1, .inr (some 102), .inl a3]) (I' := I2) rfl rfl ?_
        obtain ⟨hi, hv⟩ := hv
        refine g_iald hC dX9_point_40 (rfl) hi ?_
        clear hi
        obtain ⟨hv1, hv2⟩ := hv
        refine g_clt hC dX9_point_41 (tgt := 65) (by decide) (fun hc => ?_) (fun hc => ?_)
        · have hv := hv1 hc
          clear hv1 hv2 hc
          refine g_blk hC _ bX9_point_65_66 (pc' := 66) (ls' := [some (.inr (some 96)), some (.inl a1), some (.inl a2), some (.inl a3), some (.inl a4), none, none, none, none, none, none, none, none]) (st' := [.inl ((-1))]) (I' := I2) rfl rfl ?_
          exact g_reti hC hr rfl dX9_point_66 hv
        · have hv := hv2 hc
          clear hv1 hv2 hc
          refine g_blk hC _ bX9_point_44_50 (pc' := 50) (ls' := [some (.inr (some 96)), some (.inl a1), some (.inl a2), some (.inl a3), some (.inl a4), none, none, none, none, none, none, none, none]) (st' := [.inl a2, .inr (some 102), .inl a3]) (I' := I2) rfl rfl ?_
          obtain ⟨hi, hv⟩ := hv
          refine g_iald hC dX9_point_50 (rfl) hi ?_
          clear hi
          obtain ⟨hv1, hv2⟩ := hv
          refine g_cgt hC dX9_point_51 (tgt := 65) (by decide) (fun hc => ?_) (fun hc => ?_)
          · have hv := hv1 hc
            clear hv1 hv2 hc
            refine g_blk hC _ bX9_point_65_66 (pc' := 66) (ls' := [some (.inr (some 96)), some (.inl a1), some (.inl a2), some (.inl a3), some (.inl a4), none, none, none, none, none, none, none, none]) (st' := [.inl ((-1))]) (I' := I2) rfl rfl ?_
            exact g_reti hC hr rfl dX9_point_66 hv
          · have hv := hv2 hc
            clear hv1 hv2 hc
            refine g_blk hC _ bX9_point_54_56 (pc' := 56) (ls' := [some (.inr (some 96)), some (.inl a1), some (.inl a2), some (.inl a3), some (.inl a4), none, none, none, none, none, none, none, none]) (st' := [.inl a4]) (I' := I2) rfl rfl ?_
            obtain ⟨hv1, hv2⟩ := hv
            refine g_iflt hC dX9_point_56 (tgt := 65) (by decide) (fun hc => ?_) (fun hc => ?_)
            · have hv := hv1 hc
              clear hv1 hv2 hc
              refine g_blk hC _ bX9_point_65_66 (pc' := 66) (ls' := [some (.inr (some 96)), some (.inl a1), some (.inl a2), some (.inl a3), some (.inl a4), none, none, none, none, none, none, none, none]) (st' := [.inl ((-1))]) (I' := I2) rfl rfl ?_
              exact g_reti hC hr rfl dX9_point_66 hv
            · have hv := hv2 hc
              clear hv1 hv2 hc
              refine g_blk hC _ bX9_point_59_62 (pc' := 62) (ls' := [some (.inr (some 96)), some (.inl a1), some (.inl a2), some (.inl a3), some (.inl a4), none, none, none, none, none, none, none, none]) (st' := [.inl 1, .inl a4]) (I' := I2) rfl rfl ?_
              obtain ⟨hv1, hv2⟩ := hv
              refine g_cle hC dX9_point_62 (tgt := 67) (by decide) (fun hc => ?_) (fun hc => ?_)
              · have hv := hv1 hc
                clear hv1 hv2 hc
                obtain ⟨hj100, hv⟩ := hv
                have J100 : Jn100 I2 A2 → Gm p l e s m args below meth c D ads 4 98 13 po I2 A2 100 [some (.inr (some 96)), some (.inl a1), some (.inl a2), some (.inl a3), some (.inl a4), none, none, none, none, none, none, none, none] [] := by
                  intro  hv
                  replace hv := hj100  hv
                  refine g_blk hC _ bX9_point_100_106 (pc' := 106) (ls' := [some (.inr (some 96)), some (.inl a1), some (.inl a2), some (.inl a3), some (.inl a4), none, none, none, none, none, none, none, none]) (st' := [.inl a3, .inl a2, .inl a1, .inr (some 96), .inl a3, .inr (some 96)]) (I' := I2) rfl rfl ?_
                  obtain ⟨hp5, hv⟩ := hv
                  refine g_callV hC (c_X9_idOf l D ads I2 A2 a1 a2 a3 hp5) dX9_point_106 nm_X9_idOf rfl rfl wl_X9_114 wi_X9_idOf ws_X9_idOf wn_X9 wc_X9_idOf ⟨by decide, by decide⟩ (as := [.inl a1, .inl a2, .inl a3]) (rest := [.inl a3, .inr (some 96)]) rfl (Nat.le_of_ble_eq_true rfl) ⟨Nat.le_refl _, Nat.le_refl _⟩ (k_qI ?_)
                  obtain ⟨hp6, hv⟩ := hv
                  refine g_callV hC (hh_X9_find I2 A2 a3 (itmI (A2 102) a1 a2 a3) hp6) dX9_point_109 nm_X9_find rfl rfl wl_X9_118 wi_X9_find ws_X9_find wn_X9 wc_X9_find ⟨by decide, by decide⟩ (as := [.inl a3, .inl (itmI (A2 102) a1 a2 a3)]) (rest := []) rfl (Nat.le_of_ble_eq_true rfl) ⟨Nat.le_refl _, Nat.le_refl _⟩ (k_qI ?_)
                  refine g_blk hC _ bX9_point_112_118 (pc' := 118) (ls' := [some (.inr (some 96)), some (.inl a1), some (.inl a2), some (.inl a3), some (.inl a4), some (.inl (ff_X9_find I2 A2 a3 (itmI (A2 102) a1 a2 a3))), none, none, none, none, none, none, none]) (st' := [.inl (ff_X9_find I2 A2 a3 (itmI (A2 102) a1 a2 a3)), .inl a3, .inr (some 96)]) (I' := I2) rfl rfl ?_
                  obtain ⟨hp7, hv⟩ := hv
                  refine g_callV hC (hh_X9_topOf I2 A2 a3 (ff_X9_find I2 A2 a3 (itmI (A2 102) a1 a2 a3)) hp7) dX9_point_118 nm_X9_topOf rfl rfl wl_X9_167 wi_X9_topOf ws_X9_topOf wn_X9 wc_X9_topOf ⟨by decide, by decide⟩ (as := [.inl a3, .inl (ff_X9_find I2 A2 a3 (itmI (A2 102) a1 a2 a3))]) (rest := []) rfl (Nat.le_of_ble_eq_true rfl) ⟨Nat.le_refl _, Nat.le_refl _⟩ (k_qI ?_)
                  refine g_blk hC _ bX9_point_121_123 (pc' := 123) (ls' := [some (.inr (some 96)), some (.inl a1), some (.inl a2), some (.inl a3), some (.inl a4), some (.inl (ff_X9_find I2 A2 a3 (itmI (A2 102) a1 a2 a3))), some (.inl (ff_X9_topOf I2 A2 a3 (ff_X9_find I2 A2 a3 (itmI (A2 102) a1 a2 a3)))), none, none, none, none, none, none]) (st' := []) (I' := I2) rfl rfl ?_
                  obtain ⟨hj139, hv⟩ := hv
                  have J139 : ∀ (x7_139 : Int32), Jn139 I2 A2 x7_139 → Gm p l e s m args below meth c D ads 4 98 13 po I2 A2 139 [some (.inr (some 96)), some (.inl a1), some (.inl a2), some (.inl a3), some (.inl a4), some (.inl (ff_X9_find I2 A2 a3 (itmI (A2 102) a1 a2 a3))), some (.inl (ff_X9_topOf I2 A2 a3 (ff_X9_find I2 A2 a3 (itmI (A2 102) a1 a2 a3)))), some (.inl x7_139), none, none, none, none, none] [] := by
                    intro x7_139 hv
                    replace hv := hj139 x7_139 hv
                    refine g_blk hC _ bX9_point_139_147 (pc' := 147) (ls' := [some (.inr (some 96)), some (.inl a1), some (.inl a2), some (.inl a3), some (.inl a4), some (.inl (ff_X9_find I2 A2 a3 (itmI (A2 102) a1 a2 a3))), some (.inl (ff_X9_topOf I2 A2 a3 (ff_X9_find I2 A2 a3 (itmI (A2 102) a1 a2 a3)))), some (.inl x7_139), none, none, none, none, none]) (st' := [.inl x7_139, .inl a2, .inl a1, .inr (some 96), .inl x7_139, .inr (some 96)]) (I' := I2) rfl rfl ?_
                    obtain ⟨hp8, hv⟩ := hv
                    refine g_callV hC (c_X9_idOf l D ads I2 A2 a1 a2 x7_139 hp8) dX9_point_147 nm_X9_idOf rfl rfl wl_X9_114 wi_X9_idOf ws_X9_idOf wn_X9 wc_X9_idOf ⟨by decide, by decide⟩ (as := [.inl a1, .inl a2, .inl x7_139]) (rest := [.inl x7_139, .inr (some 96)]) rfl (Nat.le_of_ble_eq_true rfl) ⟨Nat.le_refl _, Nat.le_refl _⟩ (k_qI ?_)
                    obtain ⟨hp9, hv⟩ := hv
                    refine g_callV hC (hh_X9_find I2 A2 x7_139 (itmI (A2 102) a1 a2 x7_139) hp9) dX9_point_150 nm_X9_find rfl rfl wl_X9_118 wi_X9_find ws_X9_find wn_X9 wc_X9_find ⟨by decide, by decide⟩ (as := [.inl x7_139, .inl (itmI (A2 102) a1 a2 x7_139)]) (rest := []) rfl (Nat.le_of_ble_eq_true rfl) ⟨Nat.le_refl _, Nat.le_refl _⟩ (k_qI ?_)
                    refine g_blk hC _ bX9_point_153_155 (pc' := 155) (ls' := [some (.inr (some 96)), some (.inl a1), some (.inl a2), some (.inl a3), some (.inl a4), some (.inl (ff_X9_find I2 A2 a3 (itmI (A2 102) a1 a2 a3))), some (.inl (ff_X9_topOf I2 A2 a3 (ff_X9_find I2 A2 a3 (itmI (A2 102) a1 a2 a3)))), some (.inl x7_139), some (.inl (ff_X9_find I2 A2 x7_139 (itmI (A2 102) a1 a2 x7_139))), none, none, none, none]) (st' := []) (I' := I2) rfl rfl ?_
                    obtain ⟨hj169, hv⟩ := hv
                    have J169 : ∀ (x9_169 : Int32), Jn169 I2 A2 x7_139 x9_169 → Gm p l e s m args below meth c D ads 4 98 13 po I2 A2 169 [some (.inr (some 96)), none, none, none, some (.inl a4), some (.inl (ff_X9_find I2 A2 a3 (itmI (A2 102) a1 a2 a3))), some (.inl (ff_X9_topOf I2 A2 a3 (ff_X9_find I2 A2 a3 (itmI (A2 102) a1 a2 a3)))), some (.inl x7_139), some (.inl (ff_X9_find I2 A2 x7_139 (itmI (A2 102) a1 a2 x7_139))), some (.inl x9_169), none, none, none] [] := by
                      intro x9_169 hv
                      replace hv := hj169 x9_169 hv
                      refine g_blk hC _ bX9_point_169_176 (pc' := 176) (ls' := [some (.inr (some 96)), none, none, none, some (.inl a4), some (.inl (ff_X9_find I2 A2 a3 (itmI (A2 102) a1 a2 a3))), some (.inl (ff_X9_topOf I2 A2 a3 (ff_X9_find I2 A2 a3 (itmI (A2 102) a1 a2 a3)))), some (.inl x7_139), some (.inl (ff_X9_find I2 A2 x7_139 (itmI (A2 102) a1 a2 x7_139))), some (.inl x9_169), some (.inl (16 * x9_169)), none, none]) (st' := []) (I' := I2) rfl rfl ?_
                      obtain ⟨hi176, hb176⟩ := hv
                      have L176 : ∀ (n : Nat) (x6_176 : Int32) (x10_176 : Int32), Iv176 I2 A2 x7_139 x9_169 x6_176 x10_176 → mu176 I2 A2 x7_139 x9_169 x6_176 x10_176 < n → Gm p l e s m args below meth c D ads 4 98 13 po I2 A2 176 [some (.inr (some 96)), none, none, none, some (.inl a4), some (.inl (ff_X9_find I2 A2 a3 (itmI (A2 102) a1 a2 a3))), some (.inl x6_176), some (.inl x7_139), some (.inl (ff_X9_find I2 A2 x7_139 (itmI (A2 102) a1 a2 x7_139))), some (.inl x9_169), some (.inl x10_176), none, none] [] := by
                        intro n
                        induction n with
                        | zero => intro x6_176 x10_176 _ hn; exact absurd hn (Nat.not_lt_zero _)
                        | succ n ih176 =>
                          intro x6_176 x10_176 hv hn176
                          replace hv := hb176 x6_176 x10_176 hv
                          skip
                          refine g_blk hC _ bX9_point_176_189 (pc' := 189) (ls' := [some (.inr (some 96)), none, none, none, some (.inl a4), some (.inl (ff_X9_find I2 A2 a3 (itmI (A2 102) a1 a2 a3))), some (.inl x6_176), some (.inl x7_139), some (.inl (ff_X9_find I2 A2 x7_139 (itmI (A2 102) a1 a2 x7_139))), some (.inl x9_169), some (.inl x10_176), none, none]) (st' := [.inl x9_169, .inr (some 106), .inl (16 * x9_169), .inl x10_176]) (I' := I2) rfl rfl ?_
                          obtain ⟨hi, hv⟩ := hv
                          refine g_iald hC dX9_point_189 (rfl) hi ?_
                          clear hi
                          refine g_blk hC _ bX9_point_190_191 (pc' := 191) (ls' := [some (.inr (some 96)), none, none, none, some (.inl a4), some (.inl (ff_X9_find I2 A2 a3 (itmI (A2 102) a1 a2 a3))), some (.inl x6_176), some (.inl x7_139), some (.inl (ff_X9_find I2 A2 x7_139 (itmI (A2 102) a1 a2 x7_139))), some (.inl x9_169), some (.inl x10_176), none, none]) (st' := [.inl ((16 * x9_169) + (A2 106 x9_169.toNatClampNeg)), .inl x10_176]) (I' := I2) rfl rfl ?_
                          obtain ⟨hv1, hv2⟩ := hv
                          refine g_cge hC dX9_point_191 (tgt := 300) (by decide) (fun hc => ?_) (fun hc => ?_)
                          · have hv := hv1 hc
                            clear hv1 hv2 hc
                            refine g_blk hC _ bX9_point_300_302 (pc' := 302) (ls' := [some (.inr (some 96)), none, none, none, some (.inl a4), some (.inl (ff_X9_find I2 A2 a3 (itmI (A2 102) a1 a2 a3))), some (.inl x6_176), some (.inl x7_139), some (.inl (ff_X9_find I2 A2 x7_139 (itmI (A2 102) a1 a2 x7_139))), some (.inl x9_169), some (.inl x10_176), none, none]) (st' := [.inl x6_176]) (I' := I2) rfl rfl ?_
                            exact g_reti hC hr rfl dX9_point_302 hv
                          · have hv := hv2 hc
                            clear hv1 hv2 hc
                            obtain ⟨hj218, hv⟩ := hv
                            have J218 : ∀ (x11_218 : Int32), Jn218 I2 A2 x7_139 x9_169 x6_176 x10_176 x11_218 → Gm p l e s m args below meth c D ads 4 98 13 po I2 A2 218 [some (.inr (some 96)), none, none, none, some (.inl a4), some (.inl (ff_X9_find I2 A2 a3 (itmI (A2 102) a1 a2 a3))), some (.inl x6_176), some (.inl x7_139), some (.inl (ff_X9_find I2 A2 x7_139 (itmI (A2 102) a1 a2 x7_139))), some (.inl x9_169), some (.inl x10_176), some (.inl x11_218), none] [] := by
                              intro x11_218 hv
                              replace hv := hj218 x11_218 hv
                              obtain ⟨hj242, hv⟩ := hv
                              have J242 : ∀ (x12_242 : Int32), Jn242 I2 A2 x7_139 x9_169 x6_176 x10_176 x11_218 x12_242 → Gm p l e s m args below meth c D ads 4 98 13 po I2 A2 242 [some (.inr (some 96)), none, none, none, some (.inl a4), some (.inl (ff_X9_find I2 A2 a3 (itmI (A2 102) a1 a2 a3))), some (.inl x6_176), some (.inl x7_139), some (.inl (ff_X9_find I2 A2 x7_139 (itmI (A2 102) a1 a2 x7_139))), some (.inl x9_169), some (.inl x10_176), some (.inl x11_218), some (.inl x12_242)] [] := by
                                intro x12_242 hv
                                replace hv := hj242 x12_242 hv
                                refine g_blk hC _ bX9_point_242_246 (pc' := 246) (ls' := [some (.inr (some 96)), none, none, none, some (.inl a4), some (.inl (ff_X9_find I2 A2 a3 (itmI (A2 102) a1 a2 a3))), some (.inl x6_176), some (.inl x7_139), some (.inl (ff_X9_find I2 A2 x7_139 (itmI (A2 102) a1 a2 x7_139))), some (.inl x9_169), some (.inl x10_176), some (.inl x11_218), some (.inl x12_242)]) (st' := [.inl (ff_X9_find I2 A2 a3 (itmI (A2 102) a1 a2 a3)), .inl x11_218]) (I' := I2) rfl rfl ?_
                                obtain ⟨hv1, hv2⟩ := hv
                                refine g_cne hC dX9_point_246 (tgt := 294) (by decide) (fun hc => ?_) (fun hc => ?_)
                                · have hv := hv1 hc
                                  clear hv1 hv2 hc
                                  refine g_blk hC _ bX9_point_294_297 (pc' := 297) (ls' := [some (.inr (some 96)), none, none, none, some (.inl a4), some (.inl (ff_X9_find I2 A2 a3 (itmI (A2 102) a1 a2 a3))), some (.inl x6_176), some (.inl x7_139), some (.inl (ff_X9_find I2 A2 x7_139 (itmI (A2 102) a1 a2 x7_139))), some (.inl x9_169), some (.inl (x10_176 + 1)), some (.inl x11_218), some (.inl x12_242)]) (st' := []) (I' := I2) rfl rfl ?_
                                  refine g_goto hC dX9_point_297 (tgt := 176) (by decide) ?_
                                  exact g_weak (ls1 := [some (.inr (some 96)), none, none, none, some (.inl a4), some (.inl (ff_X9_find I2 A2 a3 (itmI (A2 102) a1 a2 a3))), some (.inl x6_176), some (.inl x7_139), some (.inl (ff_X9_find I2 A2 x7_139 (itmI (A2 102) a1 a2 x7_139))), some (.inl x9_169), some (.inl (x10_176 + 1)), none, none]) rfl (And.intro rfl (And.intro rfl (And.intro rfl (And.intro rfl (And.intro rfl (And.intro rfl (And.intro rfl (And.intro rfl trivial)))))))) (ih176 x6_176 (x10_176 + 1) hv.1 (Nat.lt_of_lt_of_le hv.2 (Nat.le_of_lt_succ hn176)))
                                · have hv := hv2 hc
                                  clear hv1 hv2 hc
                                  refine g_blk hC _ bX9_point_249_258 (pc' := 258) (ls' := [some (.inr (some 96)), none, none, none, some (.inl a4), some (.inl (ff_X9_find I2 A2 a3 (itmI (A2 102) a1 a2 a3))), some (.inl x6_176), some (.inl x7_139), some (.inl (ff_X9_find I2 A2 x7_139 (itmI (A2 102) a1 a2 x7_139))), some (.inl x9_169), some (.inl x10_176), some (.inl x11_218), some (.inl x12_242)]) (st' := [.inl x7_139, .inr (some 113), .inl x7_139, .inr (some 96)]) (I' := I2) rfl rfl ?_
                                  obtain ⟨hi, hv⟩ := hv
                                  refine g_iald hC dX9_point_258 (rfl) hi ?_
                                  clear hi
                                  refine g_blk hC _ bX9_point_259_261 (pc' := 261) (ls' := [some (.inr (some 96)), none, none, none, some (.inl a4), some (.inl (ff_X9_find I2 A2 a3 (itmI (A2 102) a1 a2 a3))), some (.inl x6_176), some (.inl x7_139), some (.inl (ff_X9_find I2 A2 x7_139 (itmI (A2 102) a1 a2 x7_139))), some (.inl x9_169), some (.inl x10_176), some (.inl x11_218), some (.inl x12_242)]) (st' := [.inl x12_242, .inl (A2 113 x7_139.toNatClampNeg), .inl x7_139, .inr (some 96)]) (I' := I2) rfl rfl ?_
                                  obtain ⟨hp10, hv⟩ := hv
                                  refine g_callV hC (c_X9_standOf l D ads I2 A2 x7_139 (A2 113 x7_139.toNatClampNeg) x12_242 hp10) dX9_point_261 nm_X9_standOf rfl rfl wl_X9_131 wi_X9_standOf ws_X9_standOf wn_X9 wc_X9_standOf ⟨by decide, by decide⟩ (as := [.inl x7_139, .inl (A2 113 x7_139.toNatClampNeg), .inl x12_242]) (rest := []) rfl (Nat.le_of_ble_eq_true rfl) ⟨Nat.le_refl _, Nat.le_refl _⟩ (k_qI ?_)
                                  refine g_blk hC _ bX9_point_264_273 (pc' := 273) (ls' := [some (.inr (some 96)), none, none, none, some (.inl a4), some (.inl (ff_X9_find I2 A2 a3 (itmI (A2 102) a1 a2 a3))), some (.inl x6_176), some (.inl x7_139), some (.inl (ff_X9_find I2 A2 x7_139 (itmI (A2 102) a1 a2 x7_139))), some (.inl x9_169), some (.inl x10_176), some (.inl x11_218), some (.inl x12_242)]) (st' := [.inl x7_139, .inr (some 113), .inl x7_139, .inr (some 96), .inl (stO (A2 104) (A2 110) x7_139 (A2 113 x7_139.toNatClampNeg) x12_242)]) (I' := I2) rfl rfl ?_
                                  obtain ⟨hi, hv⟩ := hv
                                  refine g_iald hC dX9_point_273 (rfl) hi ?_
                                  clear hi
                                  refine g_blk hC _ bX9_point_274_276 (pc' := 276) (ls' := [some (.inr (some 96)), none, none, none, some (.inl a4), some (.inl (ff_X9_find I2 A2 a3 (itmI (A2 102) a1 a2 a3))), some (.inl x6_176), some (.inl x7_139), some (.inl (ff_X9_find I2 A2 x7_139 (itmI (A2 102) a1 a2 x7_139))), some (.inl x9_169), some (.inl x10_176), some (.inl x11_218), some (.inl x12_242)]) (st' := [.inl (ff_X9_find I2 A2 x7_139 (itmI (A2 102) a1 a2 x7_139)), .inl (A2 113 x7_139.toNatClampNeg), .inl x7_139, .inr (some 96), .inl (stO (A2 104) (A2 110) x7_139 (A2 113 x7_139.toNatClampNeg) x12_242)]) (I' := I2) rfl rfl ?_
                                  obtain ⟨hp11, hv⟩ := hv
                                  refine g_callV hC (c_X9_standOf l D ads I2 A2 x7_139 (A2 113 x7_139.toNatClampNeg) (ff_X9_find I2 A2 x7_139 (itmI (A2 102) a1 a2 x7_139)) hp11) dX9_point_276 nm_X9_standOf rfl rfl wl_X9_131 wi_X9_standOf ws_X9_standOf wn_X9 wc_X9_standOf ⟨by decide, by decide⟩ (as := [.inl x7_139, .inl (A2 113 x7_139.toNatClampNeg), .inl (ff_X9_find I2 A2 x7_139 (itmI (A2 102) a1 a2 x7_139))]) (rest := [.inl (stO (A2 104) (A2 110) x7_139 (A2 113 x7_139.toNatClampNeg) x12_242)]) rfl (Nat.le_of_ble_eq_true rfl) ⟨Nat.le_refl _, Nat.le_refl _⟩ (k_qI ?_)
                                  obtain ⟨hv1, hv2⟩ := hv
                                  refine g_cge hC dX9_point_279 (tgt := 294) (by decide) (fun hc => ?_) (fun hc => ?_)
                                  · have hv := hv1 hc
                                    clear hv1 hv2 hc
                                    refine g_blk hC _ bX9_point_294_297 (pc' := 297) (ls' := [some (.inr (some 96)), none, none, none, some (.inl a4), some (.inl (ff_X9_find I2 A2 a3 (itmI (A2 102) a1 a2 a3))), some (.inl x6_176), some (.inl x7_139), some (.inl (ff_X9_find I2 A2 x7_139 (itmI (A2 102) a1 a2 x7_139))), some (.inl x9_169), some (.inl (x10_176 + 1)), some (.inl x11_218), some (.inl x12_242)]) (st' := []) (I' := I2) rfl rfl ?_
                                    refine g_goto hC dX9_point_297 (tgt := 176) (by decide) ?_
                                    exact g_weak (ls1 := [some (.inr (some 96)), none, none, none, some (.inl a4), some (.inl (ff_X9_find I2 A2 a3 (itmI (A2 102) a1 a2 a3))), some (.inl x6_176), some (.inl x7_139), some (.inl (ff_X9_find I2 A2 x7_139 (itmI (A2 102) a1 a2 x7_139))), some (.inl x9_169), some (.inl (x10_176 + 1)), none, none]) rfl (And.intro rfl (And.intro rfl (And.intro rfl (And.intro rfl (And.intro rfl (And.intro rfl (And.intro rfl (And.intro rfl trivial)))))))) (ih176 x6_176 (x10_176 + 1) hv.1 (Nat.lt_of_lt_of_le hv.2 (Nat.le_of_lt_succ hn176)))
                                  · have hv := hv2 hc
                                    clear hv1 hv2 hc
                                    refine g_blk hC _ bX9_point_282_290 (pc' := 290) (ls' := [some (.inr (some 96)), none, none, none, some (.inl a4), some (.inl (ff_X9_find I2 A2 a3 (itmI (A2 102) a1 a2 a3))), some (.inl x6_176), some (.inl x7_139), some (.inl (ff_X9_find I2 A2 x7_139 (itmI (A2 102) a1 a2 x7_139))), some (.inl x9_169), some (.inl x10_176), some (.inl x11_218), some (.inl x12_242)]) (st' := [.inl x10_176, .inr (some 109), .inl x6_176]) (I' := I2) rfl rfl ?_
                                    obtain ⟨hi, hv⟩ := hv
                                    refine g_iald hC dX9_point_290 (rfl) hi ?_
                                    clear hi
                                    refine g_blk hC _ bX9_point_291_297 (pc' := 297) (ls' := [some (.inr (some 96)), none, none, none, some (.inl a4), some (.inl (ff_X9_find I2 A2 a3 (itmI (A2 102) a1 a2 a3))), some (.inl (x6_176 + (A2 109 x10_176.toNatClampNeg))), some (.inl x7_139), some (.inl (ff_X9_find I2 A2 x7_139 (itmI (A2 102) a1 a2 x7_139))), some (.inl x9_169), some (.inl (x10_176 + 1)), some (.inl x11_218), some (.inl x12_242)]) (st' := []) (I' := I2) rfl rfl ?_
                                    refine g_goto hC dX9_point_297 (tgt := 176) (by decide) ?_
                                    exact g_weak (ls1 := [some (.inr (some 96)), none, none, none, some (.inl a4), some (.inl (ff_X9_find I2 A2 a3 (itmI (A2 102) a1 a2 a3))), some (.inl (x6_176 + (A2 109 x10_176.toNatClampNeg))), some (.inl x7_139), some (.inl (ff_X9_find I2 A2 x7_139 (itmI (A2 102) a1 a2 x7_139))), some (.inl x9_169), some (.inl (x10_176 + 1)), none, none]) rfl (And.intro rfl (And.intro rfl (And.intro rfl (And.intro rfl (And.intro rfl (And.intro rfl (And.intro rfl (And.intro rfl trivial)))))))) (ih176 (x6_176 + (A2 109 x10_176.toNatClampNeg)) (x10_176 + 1) hv.1 (Nat.lt_of_lt_of_le hv.2 (Nat.le_of_lt_succ hn176)))
                              refine g_blk hC _ bX9_point_218_220 (pc' := 220) (ls' := [some (.inr (some 96)), none, none, none, some (.inl a4), some (.inl (ff_X9_find I2 A2 a3 (itmI (A2 102) a1 a2 a3))), some (.inl x6_176), some (.inl x7_139), some (.inl (ff_X9_find I2 A2 x7_139 (itmI (A2 102) a1 a2 x7_139))), some (.inl x9_169), some (.inl x10_176), some (.inl x11_218), none]) (st' := [.inl a4]) (I' := I2) rfl rfl ?_
                              obtain ⟨hv1, hv2⟩ := hv
                              refine g_ifne hC dX9_point_220 (tgt := 233) (by decide) (fun hc => ?_) (fun hc => ?_)
                              · have hv := hv1 hc
                                clear hv1 hv2 hc
                                refine g_blk hC _ bX9_point_233_239 (pc' := 239) (ls' := [some (.inr (some 96)), none, none, none, some (.inl a4), some (.inl (ff_X9_find I2 A2 a3 (itmI (A2 102) a1 a2 a3))), some (.inl x6_176), some (.inl x7_139), some (.inl (ff_X9_find I2 A2 x7_139 (itmI (A2 102) a1 a2 x7_139))), some (.inl x9_169), some (.inl x10_176), some (.inl x11_218), none]) (st' := [.inl x10_176, .inr (some 108)]) (I' := I2) rfl rfl ?_
                                obtain ⟨hi, hv⟩ := hv
                                refine g_iald hC dX9_point_239 (rfl) hi ?_
                                clear hi
                                refine g_blk hC _ bX9_point_240_242 (pc' := 242) (ls' := [some (.inr (some 96)), none, none, none, some (.inl a4), some (.inl (ff_X9_find I2 A2 a3 (itmI (A2 102) a1 a2 a3))), some (.inl x6_176), some (.inl x7_139), some (.inl (ff_X9_find I2 A2 x7_139 (itmI (A2 102) a1 a2 x7_139))), some (.inl x9_169), some (.inl x10_176), some (.inl x11_218), some (.inl (A2 108 x10_176.toNatClampNeg))]) (st' := []) (I' := I2) rfl rfl ?_
                                exact g_weak (ls1 := [some (.inr (some 96)), none, none, none, some (.inl a4), some (.inl (ff_X9_find I2 A2 a3 (itmI (A2 102) a1 a2 a3))), some (.inl x6_176), some (.inl x7_139), some (.inl (ff_X9_find I2 A2 x7_139 (itmI (A2 102) a1 a2 x7_139))), some (.inl x9_169), some (.inl x10_176), some (.inl x11_218), some (.inl (A2 108 x10_176.toNatClampNeg))]) rfl (And.intro rfl (And.intro rfl (And.intro rfl (And.intro rfl (And.intro rfl (And.intro rfl (And.intro rfl (And.intro rfl (And.intro rfl (And.intro rfl trivial)))))))))) (J242 (A2 108 x10_176.toNatClampNeg) hv)
                              · have hv := hv2 hc
                                clear hv1 hv2 hc
                                refine g_blk hC _ bX9_point_223_229 (pc' := 229) (ls' := [some (.inr (some 96)), none, none, none, some (.inl a4), some (.inl (ff_X9_find I2 A2 a3 (itmI (A2 102) a1 a2 a3))), some (.inl x6_176), some (.inl x7_139), some (.inl (ff_X9_find I2 A2 x7_139 (itmI (A2 102) a1 a2 x7_139))), some (.inl x9_169), some (.inl x10_176), some (.inl x11_218), none]) (st' := [.inl x10_176, .inr (some 107)]) (I' := I2) rfl rfl ?_
                                obtain ⟨hi, hv⟩ := hv
                                refine g_iald hC dX9_point_229 (rfl) hi ?_
                                clear hi
                                refine g_goto hC dX9_point_230 (tgt := 240) (by decide) ?_
                                refine g_blk hC _ bX9_point_240_242 (pc' := 242) (ls' := [some (.inr (some 96)), none, none, none, some (.inl a4), some (.inl (ff_X9_find I2 A2 a3 (itmI (A2 102) a1 a2 a3))), some (.inl x6_176), some (.inl x7_139), some (.inl (ff_X9_find I2 A2 x7_139 (itmI (A2 102) a1 a2 x7_139))), some (.inl x9_169), some (.inl x10_176), some (.inl x11_218), some (.inl (A2 107 x10_176.toNatClampNeg))]) (st' := []) (I' := I2) rfl rfl ?_
                                exact g_weak (ls1 := [some (.inr (some 96)), none, none, none, some (.inl a4), some (.inl (ff_X9_find I2 A2 a3 (itmI (A2 102) a1 a2 a3))), some (.inl x6_176), some (.inl x7_139), some (.inl (ff_X9_find I2 A2 x7_139 (itmI (A2 102) a1 a2 x7_139))), some (.inl x9_169), some (.inl x10_176), some (.inl x11_218), some (.inl (A2 107 x10_176.toNatClampNeg))]) rfl (And.intro rfl (And.intro rfl (And.intro rfl (And.intro rfl (And.intro rfl (And.intro rfl (And.intro rfl (And.intro rfl (And.intro rfl (And.intro rfl trivial)))))))))) (J242 (A2 107 x10_176.toNatClampNeg) hv)
                            refine g_blk hC _ bX9_point_194_196 (pc' := 196) (ls' := [some (.inr (some 96)), none, none, none, some (.inl a4), some (.inl (ff_X9_find I2 A2 a3 (itmI (A2 102) a1 a2 a3))), some (.inl x6_176), some (.inl x7_139), some (.inl (ff_X9_find I2 A2 x7_139 (itmI (A2 102) a1 a2 x7_139))), some (.inl x9_169), some (.inl x10_176), none, none]) (st' := [.inl a4]) (I' := I2) rfl rfl ?_
                            obtain ⟨hv1, hv2⟩ := hv
                            refine g_ifne hC dX9_point_196 (tgt := 209) (by decide) (fun hc => ?_) (fun hc => ?_)
                            · have hv := hv1 hc
                              clear hv1 hv2 hc
                              refine g_blk hC _ bX9_point_209_215 (pc' := 215) (ls' := [some (.inr (some 96)), none, none, none, some (.inl a4), some (.inl (ff_X9_find I2 A2 a3 (itmI (A2 102) a1 a2 a3))), some (.inl x6_176), some (.inl x7_139), some (.inl (ff_X9_find I2 A2 x7_139 (itmI (A2 102) a1 a2 x7_139))), some (.inl x9_169), some (.inl x10_176), none, none]) (st' := [.inl x10_176, .inr (some 107)]) (I' := I2) rfl rfl ?_
                              obtain ⟨hi, hv⟩ := hv
                              refine g_iald hC dX9_point_215 (rfl) hi ?_
                              clear hi
                              refine g_blk hC _ bX9_point_216_218 (pc' := 218) (ls' := [some (.inr (some 96)), none, none, none, some (.inl a4), some (.inl (ff_X9_find I2 A2 a3 (itmI (A2 102) a1 a2 a3))), some (.inl x6_176), some (.inl x7_139), some (.inl (ff_X9_find I2 A2 x7_139 (itmI (A2 102) a1 a2 x7_139))), some (.inl x9_169), some (.inl x10_176), some (.inl (A2 107 x10_176.toNatClampNeg)), none]) (st' := []) (I' := I2) rfl rfl ?_
                              exact g_weak (ls1 := [some (.inr (some 96)), none, none, none, some (.inl a4), some (.inl (ff_X9_find I2 A2 a3 (itmI (A2 102) a1 a2 a3))), some (.inl x6_176), some (.inl x7_139), some (.inl (ff_X9_find I2 A2 x7_139 (itmI (A2 102) a1 a2 x7_139))), some (.inl x9_169), some (.inl x10_176), some (.inl (A2 107 x10_176.toNatClampNeg)), none]) rfl (And.intro rfl (And.intro rfl (And.intro rfl (And.intro rfl (And.intro rfl (And.intro rfl (And.intro rfl (And.intro rfl (And.intro rfl trivial))))))))) (J218 (A2 107 x10_176.toNatClampNeg) hv)
                            · have hv := hv2 hc
                              clear hv1 hv2 hc
                              refine g_blk hC _ bX9_point_199_205 (pc' := 205) (ls' := [some (.inr (some 96)), none, none, none, some (.inl a4), some (.inl (ff_X9_find I2 A2 a3 (itmI (A2 102) a1 a2 a3))), some (.inl x6_176), some (.inl x7_139), some (.inl (ff_X9_find I2 A2 x7_139 (itmI (A2 102) a1 a2 x7_139))), some (.inl x9_169), some (.inl x10_176), none, none]) (st' := [.inl x10_176, .inr (some 108)]) (I' := I2) rfl rfl ?_
                              obtain ⟨hi, hv⟩ := hv
                              refine g_iald hC dX9_point_205 (rfl) hi ?_
                              clear hi
                              refine g_goto hC dX9_point_206 (tgt := 216) (by decide) ?_
                              refine g_blk hC _ bX9_point_216_218 (pc' := 218) (ls' := [some (.inr (some 96)), none, none, none, some (.inl a4), some (.inl (ff_X9_find I2 A2 a3 (itmI (A2 102) a1 a2 a3))), some (.inl x6_176), some (.inl x7_139), some (.inl (ff_X9_find I2 A2 x7_139 (itmI (A2 102) a1 a2 x7_139))), some (.inl x9_169), some (.inl x10_176), some (.inl (A2 108 x10_176.toNatClampNeg)), none]) (st' := []) (I' := I2) rfl rfl ?_
                              exact g_weak (ls1 := [some (.inr (some 96)), none, none, none, some (.inl a4), some (.inl (ff_X9_find I2 A2 a3 (itmI (A2 102) a1 a2 a3))), some (.inl x6_176), some (.inl x7_139), some (.inl (ff_X9_find I2 A2 x7_139 (itmI (A2 102) a1 a2 x7_139))), some (.inl x9_169), some (.inl x10_176), some (.inl (A2 108 x10_176.toNatClampNeg)), none]) rfl (And.intro rfl (And.intro rfl (And.intro rfl (And.intro rfl (And.intro rfl (And.intro rfl (And.intro rfl (And.intro rfl (And.intro rfl trivial))))))))) (J218 (A2 108 x10_176.toNatClampNeg) hv)
                      exact g_weak (ls1 := [some (.inr (some 96)), none, none, none, some (.inl a4), some (.inl (ff_X9_find I2 A2 a3 (itmI (A2 102) a1 a2 a3))), some (.inl (ff_X9_topOf I2 A2 a3 (ff_X9_find I2 A2 a3 (itmI (A2 102) a1 a2 a3)))), some (.inl x7_139), some (.inl (ff_X9_find I2 A2 x7_139 (itmI (A2 102) a1 a2 x7_139))), some (.inl x9_169), some (.inl (16 * x9_169)), none, none]) rfl (And.intro rfl (And.intro rfl (And.intro rfl (And.intro rfl (And.intro rfl (And.intro rfl (And.intro rfl (And.intro rfl trivial)))))))) (L176 _ (ff_X9_topOf I2 A2 a3 (ff_X9_find I2 A2 a3 (itmI (A2 102) a1 a2 a3))) (16 * x9_169) hi176 (Nat.lt_succ_self _))
                    refine g_blk hC _ bX9_point_155_157 (pc' := 157) (ls' := [some (.inr (some 96)), some (.inl a1), some (.inl a2), some (.inl a3), some (.inl a4), some (.inl (ff_X9_find I2 A2 a3 (itmI (A2 102) a1 a2 a3))), some (.inl (ff_X9_topOf I2 A2 a3 (ff_X9_find I2 A2 a3 (itmI (A2 102) a1 a2 a3)))), some (.inl x7_139), some (.inl (ff_X9_find I2 A2 x7_139 (itmI (A2 102) a1 a2 x7_139))), none, none, none, none]) (st' := [.inl a4]) (I' := I2) rfl rfl ?_
                    obtain ⟨hv1, hv2⟩ := hv
                    refine g_ifne hC dX9_point_157 (tgt := 166) (by decide) (fun hc => ?_) (fun hc => ?_)
                    · have hv := hv1 hc
                      clear hv1 hv2 hc
                      refine g_blk hC _ bX9_point_166_169 (pc' := 169) (ls' := [some (.inr (some 96)), some (.inl a1), some (.inl a2), some (.inl a3), some (.inl a4), some (.inl (ff_X9_find I2 A2 a3 (itmI (A2 102) a1 a2 a3))), some (.inl (ff_X9_topOf I2 A2 a3 (ff_X9_find I2 A2 a3 (itmI (A2 102) a1 a2 a3)))), some (.inl x7_139), some (.inl (ff_X9_find I2 A2 x7_139 (itmI (A2 102) a1 a2 x7_139))), some (.inl a3), none, none, none]) (st' := []) (I' := I2) rfl rfl ?_
                      exact g_weak (ls1 := [some (.inr (some 96)), none, none, none, some (.inl a4), some (.inl (ff_X9_find I2 A2 a3 (itmI (A2 102) a1 a2 a3))), some (.inl (ff_X9_topOf I2 A2 a3 (ff_X9_find I2 A2 a3 (itmI (A2 102) a1 a2 a3)))), some (.inl x7_139), some (.inl (ff_X9_find I2 A2 x7_139 (itmI (A2 102) a1 a2 x7_139))), some (.inl a3), none, none, none]) rfl (And.intro rfl (And.intro rfl (And.intro rfl (And.intro rfl (And.intro rfl (And.intro rfl (And.intro rfl trivial))))))) (J169 a3 hv)
                    · have hv := hv2 hc
                      clear hv1 hv2 hc
                      refine g_blk hC _ bX9_point_160_163 (pc' := 163) (ls' := [some (.inr (some 96)), some (.inl a1), some (.inl a2), some (.inl a3), some (.inl a4), some (.inl (ff_X9_find I2 A2 a3 (itmI (A2 102) a1 a2 a3))), some (.inl (ff_X9_topOf I2 A2 a3 (ff_X9_find I2 A2 a3 (itmI (A2 102) a1 a2 a3)))), some (.inl x7_139), some (.inl (ff_X9_find I2 A2 x7_139 (itmI (A2 102) a1 a2 x7_139))), none, none, none, none]) (st' := [.inl (a3 - 1)]) (I' := I2) rfl rfl ?_
                      refine g_goto hC dX9_point_163 (tgt := 167) (by decide) ?_
                      refine g_blk hC _ bX9_point_167_169 (pc' := 169) (ls' := [some (.inr (some 96)), some (.inl a1), some (.inl a2), some (.inl a3), some (.inl a4), some (.inl (ff_X9_find I2 A2 a3 (itmI (A2 102) a1 a2 a3))), some (.inl (ff_X9_topOf I2 A2 a3 (ff_X9_find I2 A2 a3 (itmI (A2 102) a1 a2 a3)))), some (.inl x7_139), some (.inl (ff_X9_find I2 A2 x7_139 (itmI (A2 102) a1 a2 x7_139))), some (.inl (a3 - 1)), none, none, none]) (st' := []) (I' := I2) rfl rfl ?_
                      exact g_weak (ls1 := [some (.inr (some 96)), none, none, none, some (.inl a4), some (.inl (ff_X9_find I2 A2 a3 (itmI (A2 102) a1 a2 a3))), some (.inl (ff_X9_topOf I2 A2 a3 (ff_X9_find I2 A2 a3 (itmI (A2 102) a1 a2 a3)))), some (.inl x7_139), some (.inl (ff_X9_find I2 A2 x7_139 (itmI (A2 102) a1 a2 x7_139))), some (.inl (a3 - 1)), none, none, none]) rfl (And.intro rfl (And.intro rfl (And.intro rfl (And.intro rfl (And.intro rfl (And.intro rfl (And.intro rfl trivial))))))) (J169 (a3 - 1) hv)
                  refine g_blk hC _ bX9_point_123_125 (pc' := 125) (ls' := [some (.inr (some 96)), some (.inl a1), some (.inl a2), some (.inl a3), some (.inl a4), some (.inl (ff_X9_find I2 A2 a3 (itmI (A2 102) a1 a2 a3))), some (.inl (ff_X9_topOf I2 A2 a3 (ff_X9_find I2 A2 a3 (itmI (A2 102) a1 a2 a3)))), none, none, none, none, none, none]) (st' := [.inl a4]) (I' := I2) rfl rfl ?_
                  obtain ⟨hv1, hv2⟩ := hv
                  refine g_ifne hC dX9_point_125 (tgt := 134) (by decide) (fun hc => ?_) (fun hc => ?_)
                  · have hv := hv1 hc
                    clear hv1 hv2 hc
                    refine g_blk hC _ bX9_point_134_139 (pc' := 139) (ls' := [some (.inr (some 96)), some (.inl a1), some (.inl a2), some (.inl a3), some (.inl a4), some (.inl (ff_X9_find I2 A2 a3 (itmI (A2 102) a1 a2 a3))), some (.inl (ff_X9_topOf I2 A2 a3 (ff_X9_find I2 A2 a3 (itmI (A2 102) a1 a2 a3)))), some (.inl (a3 + 1)), none, none, none, none, none]) (st' := []) (I' := I2) rfl rfl ?_
                    exact g_weak (ls1 := [some (.inr (some 96)), some (.inl a1), some (.inl a2), some (.inl a3), some (.inl a4), some (.inl (ff_X9_find I2 A2 a3 (itmI (A2 102) a1 a2 a3))), some (.inl (ff_X9_topOf I2 A2 a3 (ff_X9_find I2 A2 a3 (itmI (A2 102) a1 a2 a3)))), some (.inl (a3 + 1)), none, none, none, none, none]) rfl (And.intro rfl (And.intro rfl (And.intro rfl (And.intro rfl (And.intro rfl (And.intro rfl (And.intro rfl (And.intro rfl trivial)))))))) (J139 (a3 + 1) hv)
                  · have hv := hv2 hc
                    clear hv1 hv2 hc
                    refine g_blk hC _ bX9_point_128_131 (pc' := 131) (ls' := [some (.inr (some 96)), some (.inl a1), some (.inl a2), some (.inl a3), some (.inl a4), some (.inl (ff_X9_find I2 A2 a3 (itmI (A2 102) a1 a2 a3))), some (.inl (ff_X9_topOf I2 A2 a3 (ff_X9_find I2 A2 a3 (itmI (A2 102) a1 a2 a3)))), none, none, none, none, none, none]) (st' := [.inl (a3 - 1)]) (I' := I2) rfl rfl ?_
                    refine g_goto hC dX9_point_131 (tgt := 137) (by decide) ?_
                    refine g_blk hC _ bX9_point_137_139 (pc' := 139) (ls' := [some (.inr (some 96)), some (.inl a1), some (.inl a2), some (.inl a3), some (.inl a4), some (.inl (ff_X9_find I2 A2 a3 (itmI (A2 102) a1 a2 a3))), some (.inl (ff_X9_topOf I2 A2 a3 (ff_X9_find I2 A2 a3 (itmI (A2 102) a1 a2 a3)))), some (.inl (a3 - 1)), none, none, none, none, none]) (st' := []) (I' := I2) rfl rfl ?_
                    exact g_weak (ls1 := [some (.inr (some 96)), some (.inl a1), some (.inl a2), some (.inl a3), some (.inl a4), some (.inl (ff_X9_find I2 A2 a3 (itmI (A2 102) a1 a2 a3))), some (.inl (ff_X9_topOf I2 A2 a3 (ff_X9_find I2 A2 a3 (itmI (A2 102) a1 a2 a3)))), some (.inl (a3 - 1)), none, none, none, none, none]) rfl (And.intro rfl (And.intro rfl (And.intro rfl (And.intro rfl (And.intro rfl (And.intro rfl (And.intro rfl (And.intro rfl trivial)))))))) (J139 (a3 - 1) hv)
                refine g_blk hC _ bX9_point_67_69 (pc' := 69) (ls' := [some (.inr (some 96)), some (.inl a1), some (.inl a2), some (.inl a3), some (.inl a4), none, none, none, none, none, none, none, none]) (st' := [.inl a4]) (I' := I2) rfl rfl ?_
                obtain ⟨hv1, hv2⟩ := hv
                refine g_ifne hC dX9_point_69 (tgt := 82) (by decide) (fun hc => ?_) (fun hc => ?_)
                · have hv := hv1 hc
                  clear hv1 hv2 hc
                  refine g_blk hC _ bX9_point_82_85 (pc' := 85) (ls' := [some (.inr (some 96)), some (.inl a1), some (.inl a2), some (.inl a3), some (.inl a4), none, none, none, none, none, none, none, none]) (st' := [.inl 1, .inl a4]) (I' := I2) rfl rfl ?_
                  obtain ⟨hv1, hv2⟩ := hv
                  refine g_cne hC dX9_point_85 (tgt := 100) (by decide) (fun hc => ?_) (fun hc => ?_)
                  · have hv := hv1 hc
                    clear hv1 hv2 hc
                    exact g_weak (ls1 := [some (.inr (some 96)), some (.inl a1), some (.inl a2), some (.inl a3), some (.inl a4), none, none, none, none, none, none, none, none]) rfl (And.intro rfl (And.intro rfl (And.intro rfl (And.intro rfl (And.intro rfl trivial))))) (J100  hv)
                  · have hv := hv2 hc
                    clear hv1 hv2 hc
                    refine g_blk hC _ bX9_point_88_94 (pc' := 94) (ls' := [some (.inr (some 96)), some (.inl a1), some (.inl a2), some (.inl a3), some (.inl a4), none, none, none, none, none, none, none, none]) (st' := [.inl a2, .inr (some 102), .inl a3]) (I' := I2) rfl rfl ?_
                    obtain ⟨hi, hv⟩ := hv
                    refine g_iald hC dX9_point_94 (rfl) hi ?_
                    clear hi
                    obtain ⟨hv1, hv2⟩ := hv
                    refine g_cne hC dX9_point_95 (tgt := 100) (by decide) (fun hc => ?_) (fun hc => ?_)
                    · have hv := hv1 hc
                      clear hv1 hv2 hc
                      exact g_weak (ls1 := [some (.inr (some 96)), some (.inl a1), some (.inl a2), some (.inl a3), some (.inl a4), none, none, none, none, none, none, none, none]) rfl (And.intro rfl (And.intro rfl (And.intro rfl (And.intro rfl (And.intro rfl trivial))))) (J100  hv)
                    · have hv := hv2 hc
                      clear hv1 hv2 hc
                      refine g_blk hC _ bX9_point_98_99 (pc' := 99) (ls' := [some (.inr (some 96)), some (.inl a1), some (.inl a2), some (.inl a3), some (.inl a4), none, none, none, none, none, none, none, none]) (st' := [.inl ((-1))]) (I' := I2) rfl rfl ?_
                      exact g_reti hC hr rfl dX9_point_99 hv
                · have hv := hv2 hc
                  clear hv1 hv2 hc
                  refine g_blk hC _ bX9_point_72_78 (pc' := 78) (ls' := [some (.inr (some 96)), some (.inl a1), some (.inl a2), some (.inl a3), some (.inl a4), none, none, none, none, none, none, none, none]) (st' := [.inl a1, .inr (some 102), .inl a3]) (I' := I2) rfl rfl ?_
                  obtain ⟨hi, hv⟩ := hv
                  refine g_iald hC dX9_point_78 (rfl) hi ?_
                  clear hi
                  obtain ⟨hv1, hv2⟩ := hv
                  refine g_ceq hC dX9_point_79 (tgt := 98) (by decide) (fun hc => ?_) (fun hc => ?_)
                  · have hv := hv1 hc
                    clear hv1 hv2 hc
                    refine g_blk hC _ bX9_point_98_99 (pc' := 99) (ls' := [some (.inr (some 96)), some (.inl a1), some (.inl a2), some (.inl a3), some (.inl a4), none, none, none, none, none, none, none, none]) (st' := [.inl ((-1))]) (I' := I2) rfl rfl ?_
                    exact g_reti hC hr rfl dX9_point_99 hv
                  · have hv := hv2 hc
                    clear hv1 hv2 hc
                    refine g_blk hC _ bX9_point_82_85 (pc' := 85) (ls' := [some (.inr (some 96)), some (.inl a1), some (.inl a2), some (.inl a3), some (.inl a4), none, none, none, none, none, none, none, none]) (st' := [.inl 1, .inl a4]) (I' := I2) rfl rfl ?_
                    obtain ⟨hv1, hv2⟩ := hv
                    refine g_cne hC dX9_point_85 (tgt := 100) (by decide) (fun hc => ?_) (fun hc => ?_)
                    · have hv := hv1 hc
                      clear hv1 hv2 hc
                      exact g_weak (ls1 := [some (.inr (some 96)), some (.inl a1), some (.inl a2), some (.inl a3), some (.inl a4), none, none, none, none, none, none, none, none]) rfl (And.intro rfl (And.intro rfl (And.intro rfl (And.intro rfl (And.intro rfl trivial))))) (J100  hv)
                    · have hv := hv2 hc
                      clear hv1 hv2 hc
                      refine g_blk hC _ bX9_point_88_94 (pc' := 94) (ls' := [some (.inr (some 96)), some (.inl a1), some (.inl a2), some (.inl a3), some (.inl a4), none, none, none, none, none, none, none, none]) (st' := [.inl a2, .inr (some 102), .inl a3]) (I' := I2) rfl rfl ?_
                      obtain ⟨hi, hv⟩ := hv
                      refine g_iald hC dX9_point_94 (rfl) hi ?_
                      clear hi
                      obtain ⟨hv1, hv2⟩ := hv
                      refine g_cne hC dX9_point_95 (tgt := 100) (by decide) (fun hc => ?_) (fun hc => ?_)
                      · have hv := hv1 hc
                        clear hv1 hv2 hc
                        exact g_weak (ls1 := [some (.inr (some 96)), some (.inl a1), some (.inl a2), some (.inl a3), some (.inl a4), none, none, none, none, none, none, none, none]) rfl (And.intro rfl (And.intro rfl (And.intro rfl (And.intro rfl (And.intro rfl trivial))))) (J100  hv)
                      · have hv := hv2 hc
                        clear hv1 hv2 hc
                        refine g_blk hC _ bX9_point_98_99 (pc' := 99) (ls' := [some (.inr (some 96)), some (.inl a1), some (.inl a2), some (.inl a3), some (.inl a4), none, none, none, none, none, none, none, none]) (st' := [.inl ((-1))]) (I' := I2) rfl rfl ?_
                        exact g_reti hC hr rfl dX9_point_99 hv
              · have hv := hv2 hc
                clear hv1 hv2 hc
                refine g_blk hC _ bX9_point_65_66 (pc' := 66) (ls' := [some (.inr (some 96)), some (.inl a1), some (.inl a2), some (.inl a3), some (.inl a4), none, none, none, none, none, none, none, none]) (st' := [.inl ((-1))]) (I' := I2) rfl rfl ?_
                exact g_reti hC hr rfl dX9_point_66 hv
