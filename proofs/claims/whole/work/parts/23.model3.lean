theorem bX9_findOrder_0_1 : okB cX9_findOrder RX9 0 [(5, 0, 0, 0, 0)] := And.intro ⟨_, dX9_findOrder_0, rfl⟩ trivial
theorem bX9_findOrder_4_8 : okB cX9_findOrder RX9 4 [(5, 0, 0, 0, 0), (23, 110, 9, 14, 0)] := And.intro ⟨_, dX9_findOrder_4, rfl⟩ (And.intro ⟨dX9_findOrder_5, fl_X9_110⟩ trivial)
theorem bX9_findOrder_12_13 : okB cX9_findOrder RX9 12 [(5, 0, 0, 0, 0)] := And.intro ⟨_, dX9_findOrder_12, rfl⟩ trivial
theorem bX9_findOrder_16_33 : okB cX9_findOrder RX9 16 [(5, 0, 0, 0, 0), (0, 0, 0, 0, 0), (24, 140, 9, 27, 0), (5, 0, 0, 0, 0), (0, 0, 0, 0, 1), (24, 143, 9, 28, 0), (5, 0, 0, 0, 0), (23, 90, 9, 12, 0), (0, 0, 0, 0, 1), (13, 0, 0, 0, 0), (7, 1, 0, 0, 0)] := And.intro ⟨_, dX9_findOrder_16, rfl⟩ (And.intro ⟨_, dX9_findOrder_17, by decide⟩ (And.intro ⟨dX9_findOrder_18, fl_X9_140, rfl, rfl⟩ (And.intro ⟨_, dX9_findOrder_21, rfl⟩ (And.intro ⟨_, dX9_findOrder_22, by decide⟩ (And.intro ⟨dX9_findOrder_23, fl_X9_143, rfl, rfl⟩ (And.intro ⟨_, dX9_findOrder_26, rfl⟩ (And.intro ⟨dX9_findOrder_27, fl_X9_90⟩ (And.intro ⟨_, dX9_findOrder_30, by decide⟩ (And.intro dX9_findOrder_31 (And.intro ⟨_, dX9_findOrder_32, rfl⟩ trivial))))))))))
theorem bX9_findOrder_33_34 : okB cX9_findOrder RX9 33 [(3, 1, 0, 0, 0)] := And.intro ⟨_, dX9_findOrder_33, rfl⟩ trivial
theorem bX9_findOrder_234_238 : okB cX9_findOrder RX9 234 [(5, 0, 0, 0, 0), (23, 90, 9, 12, 0)] := And.intro ⟨_, dX9_findOrder_234, rfl⟩ (And.intro ⟨dX9_findOrder_235, fl_X9_90⟩ trivial)
theorem bX9_findOrder_242_250 : okB cX9_findOrder RX9 242 [(5, 0, 0, 0, 0), (26, 82, 0, 0, 1000000000), (24, 140, 9, 27, 0), (0, 0, 0, 0, 0), (7, 1, 0, 0, 0)] := And.intro ⟨_, dX9_findOrder_242, rfl⟩ (And.intro ⟨dX9_findOrder_243, wk_X9_82⟩ (And.intro ⟨dX9_findOrder_245, fl_X9_140, rfl, rfl⟩ (And.intro ⟨_, dX9_findOrder_248, by decide⟩ (And.intro ⟨_, dX9_findOrder_249, rfl⟩ trivial))))
theorem bX9_findOrder_250_257 : okB cX9_findOrder RX9 250 [(3, 1, 0, 0, 0), (5, 0, 0, 0, 0), (5, 0, 0, 0, 0), (23, 35, 9, 15, 0), (0, 0, 0, 0, 0)] := And.intro ⟨_, dX9_findOrder_250, rfl⟩ (And.intro ⟨_, dX9_findOrder_251, rfl⟩ (And.intro ⟨_, dX9_findOrder_252, rfl⟩ (And.intro ⟨dX9_findOrder_253, fl_X9_35⟩ (And.intro ⟨_, dX9_findOrder_256, by decide⟩ trivial))))
theorem bX9_findOrder_326_333 : okB cX9_findOrder RX9 326 [(5, 0, 0, 0, 0), (23, 140, 9, 27, 0), (7, 1, 0, 0, 0), (0, 0, 0, 0, 0), (7, 2, 0, 0, 0)] := And.intro ⟨_, dX9_findOrder_326, rfl⟩ (And.intro ⟨dX9_findOrder_327, fl_X9_140⟩ (And.intro ⟨_, dX9_findOrder_330, rfl⟩ (And.intro ⟨_, dX9_findOrder_331, by decide⟩ (And.intro ⟨_, dX9_findOrder_332, rfl⟩ trivial))))
theorem bX9_findOrder_333_338 : okB cX9_findOrder RX9 333 [(3, 2, 0, 0, 0), (5, 0, 0, 0, 0), (23, 90, 9, 12, 0)] := And.intro ⟨_, dX9_findOrder_333, rfl⟩ (And.intro ⟨_, dX9_findOrder_334, rfl⟩ (And.intro ⟨dX9_findOrder_335, fl_X9_90⟩ trivial))
theorem bX9_findOrder_341_343 : okB cX9_findOrder RX9 341 [(0, 0, 0, 0, 0), (7, 3, 0, 0, 0)] := And.intro ⟨_, dX9_findOrder_341, by decide⟩ (And.intro ⟨_, dX9_findOrder_342, rfl⟩ trivial)
theorem bX9_findOrder_343_344 : okB cX9_findOrder RX9 343 [(3, 2, 0, 0, 0)] := And.intro ⟨_, dX9_findOrder_343, rfl⟩ trivial
theorem bX9_findOrder_351_362 : okB cX9_findOrder RX9 351 [(5, 0, 0, 0, 0), (3, 2, 0, 0, 0), (0, 0, 0, 0, 1), (13, 0, 0, 0, 0), (5, 0, 0, 0, 0), (23, 62, 9, 26, 0), (3, 2, 0, 0, 0), (0, 0, 0, 0, 1), (13, 0, 0, 0, 0)] := And.intro ⟨_, dX9_findOrder_351, rfl⟩ (And.intro ⟨_, dX9_findOrder_352, rfl⟩ (And.intro ⟨_, dX9_findOrder_353, by decide⟩ (And.intro dX9_findOrder_354 (And.intro ⟨_, dX9_findOrder_355, rfl⟩ (And.intro ⟨dX9_findOrder_356, fl_X9_62⟩ (And.intro ⟨_, dX9_findOrder_359, rfl⟩ (And.intro ⟨_, dX9_findOrder_360, by decide⟩ (And.intro dX9_findOrder_361 trivial))))))))
theorem bX9_findOrder_363_364 : okB cX9_findOrder RX9 363 [(3, 3, 0, 0, 0)] := And.intro ⟨_, dX9_findOrder_363, rfl⟩ trivial
theorem bX9_findOrder_367_377 : okB cX9_findOrder RX9 367 [(5, 0, 0, 0, 0), (23, 56, 9, 24, 0), (1, 0, 0, 0, 120), (3, 2, 0, 0, 0), (14, 0, 0, 0, 0), (3, 3, 0, 0, 0), (12, 0, 0, 0, 0)] := And.intro ⟨_, dX9_findOrder_367, rfl⟩ (And.intro ⟨dX9_findOrder_368, fl_X9_56⟩ (And.intro ⟨_, dX9_findOrder_371, by decide⟩ (And.intro ⟨_, dX9_findOrder_373, rfl⟩ (And.intro dX9_findOrder_374 (And.intro ⟨_, dX9_findOrder_375, rfl⟩ (And.intro dX9_findOrder_376 trivial))))))
theorem bX9_findOrder_378_380 : okB cX9_findOrder RX9 378 [(12, 0, 0, 0, 0), (3, 1, 0, 0, 0)] := And.intro dX9_findOrder_378 (And.intro ⟨_, dX9_findOrder_379, rfl⟩ trivial)
theorem bX9_findOrder_390_396 : okB cX9_findOrder RX9 390 [(5, 0, 0, 0, 0), (23, 62, 9, 26, 0), (3, 2, 0, 0, 0), (3, 3, 0, 0, 0)] := And.intro ⟨_, dX9_findOrder_390, rfl⟩ (And.intro ⟨dX9_findOrder_391, fl_X9_62⟩ (And.intro ⟨_, dX9_findOrder_394, rfl⟩ (And.intro ⟨_, dX9_findOrder_395, rfl⟩ trivial)))
theorem bX9_findOrder_397_407 : okB cX9_findOrder RX9 397 [(5, 0, 0, 0, 0), (23, 56, 9, 24, 0), (1, 0, 0, 0, 120), (3, 2, 0, 0, 0), (14, 0, 0, 0, 0), (3, 3, 0, 0, 0), (12, 0, 0, 0, 0)] := And.intro ⟨_, dX9_findOrder_397, rfl⟩ (And.intro ⟨dX9_findOrder_398, fl_X9_56⟩ (And.intro ⟨_, dX9_findOrder_401, by decide⟩ (And.intro ⟨_, dX9_findOrder_403, rfl⟩ (And.intro dX9_findOrder_404 (And.intro ⟨_, dX9_findOrder_405, rfl⟩ (And.intro dX9_findOrder_406 trivial))))))
theorem bX9_findOrder_408_415 : okB cX9_findOrder RX9 408 [(5, 0, 0, 0, 0), (23, 76, 9, 3, 0), (5, 0, 0, 0, 0), (3, 2, 0, 0, 0), (3, 3, 0, 0, 0)] := And.intro ⟨_, dX9_findOrder_408, rfl⟩ (And.intro ⟨dX9_findOrder_409, fl_X9_76⟩ (And.intro ⟨_, dX9_findOrder_412, rfl⟩ (And.intro ⟨_, dX9_findOrder_413, rfl⟩ (And.intro ⟨_, dX9_findOrder_414, rfl⟩ trivial))))
theorem bX9_findOrder_418_424 : okB cX9_findOrder RX9 418 [(14, 0, 0, 0, 0), (13, 0, 0, 0, 0), (7, 1, 0, 0, 0), (11, 2, 0, 0, 1)] := And.intro dX9_findOrder_418 (And.intro dX9_findOrder_419 (And.intro ⟨_, dX9_findOrder_420, rfl⟩ (And.intro ⟨_, dX9_findOrder_421, by decide⟩ trivial)))
theorem bX9_findOrder_383_387 : okB cX9_findOrder RX9 383 [(3, 3, 0, 0, 0), (0, 0, 0, 0, 1), (12, 0, 0, 0, 0), (7, 3, 0, 0, 0)] := And.intro ⟨_, dX9_findOrder_383, rfl⟩ (And.intro ⟨_, dX9_findOrder_384, by decide⟩ (And.intro dX9_findOrder_385 (And.intro ⟨_, dX9_findOrder_386, rfl⟩ trivial)))
theorem bX9_findOrder_347_348 : okB cX9_findOrder RX9 347 [(0, 0, 0, 0, 0)] := And.intro ⟨_, dX9_findOrder_347, by decide⟩ trivial
theorem bX9_findOrder_264_269 : okB cX9_findOrder RX9 264 [(5, 0, 0, 0, 0), (23, 56, 9, 24, 0), (3, 1, 0, 0, 0)] := And.intro ⟨_, dX9_findOrder_264, rfl⟩ (And.intro ⟨dX9_findOrder_265, fl_X9_56⟩ (And.intro ⟨_, dX9_findOrder_268, rfl⟩ trivial))
theorem bX9_findOrder_270_274 : okB cX9_findOrder RX9 270 [(5, 0, 0, 0, 0), (23, 140, 9, 27, 0)] := And.intro ⟨_, dX9_findOrder_270, rfl⟩ (And.intro ⟨dX9_findOrder_271, fl_X9_140⟩ trivial)
theorem bX9_findOrder_292_297 : okB cX9_findOrder RX9 292 [(5, 0, 0, 0, 0), (23, 56, 9, 24, 0), (3, 1, 0, 0, 0)] := And.intro ⟨_, dX9_findOrder_292, rfl⟩ (And.intro ⟨dX9_findOrder_293, fl_X9_56⟩ (And.intro ⟨_, dX9_findOrder_296, rfl⟩ trivial))
theorem bX9_findOrder_298_302 : okB cX9_findOrder RX9 298 [(5, 0, 0, 0, 0), (23, 140, 9, 27, 0)] := And.intro ⟨_, dX9_findOrder_298, rfl⟩ (And.intro ⟨dX9_findOrder_299, fl_X9_140⟩ trivial)
theorem bX9_findOrder_320_323 : okB cX9_findOrder RX9 320 [(11, 1, 0, 0, 1)] := And.intro ⟨_, dX9_findOrder_320, by decide⟩ trivial
theorem bX9_findOrder_305_315 : okB cX9_findOrder RX9 305 [(5, 0, 0, 0, 0), (5, 0, 0, 0, 0), (23, 143, 9, 28, 0), (5, 0, 0, 0, 0), (23, 59, 9, 25, 0), (3, 1, 0, 0, 0)] := And.intro ⟨_, dX9_findOrder_305, rfl⟩ (And.intro ⟨_, dX9_findOrder_306, rfl⟩ (And.intro ⟨dX9_findOrder_307, fl_X9_143⟩ (And.intro ⟨_, dX9_findOrder_310, rfl⟩ (And.intro ⟨dX9_findOrder_311, fl_X9_59⟩ (And.intro ⟨_, dX9_findOrder_314, rfl⟩ trivial)))))
theorem bX9_findOrder_316_323 : okB cX9_findOrder RX9 316 [(12, 0, 0, 0, 0), (24, 143, 9, 28, 0), (11, 1, 0, 0, 1)] := And.intro dX9_findOrder_316 (And.intro ⟨dX9_findOrder_317, fl_X9_143, rfl, rfl⟩ (And.intro ⟨_, dX9_findOrder_320, by decide⟩ trivial))
theorem bX9_findOrder_277_283 : okB cX9_findOrder RX9 277 [(5, 0, 0, 0, 0), (5, 0, 0, 0, 0), (23, 56, 9, 24, 0), (3, 1, 0, 0, 0)] := And.intro ⟨_, dX9_findOrder_277, rfl⟩ (And.intro ⟨_, dX9_findOrder_278, rfl⟩ (And.intro ⟨dX9_findOrder_279, fl_X9_56⟩ (And.intro ⟨_, dX9_findOrder_282, rfl⟩ trivial)))
theorem bX9_findOrder_284_297 : okB cX9_findOrder RX9 284 [(24, 140, 9, 27, 0), (5, 0, 0, 0, 0), (0, 0, 0, 0, 0), (24, 143, 9, 28, 0), (5, 0, 0, 0, 0), (23, 56, 9, 24, 0), (3, 1, 0, 0, 0)] := And.intro ⟨dX9_findOrder_284, fl_X9_140, rfl, rfl⟩ (And.intro ⟨_, dX9_findOrder_287, rfl⟩ (And.intro ⟨_, dX9_findOrder_288, by decide⟩ (And.intro ⟨dX9_findOrder_289, fl_X9_143, rfl, rfl⟩ (And.intro ⟨_, dX9_findOrder_292, rfl⟩ (And.intro ⟨dX9_findOrder_293, fl_X9_56⟩ (And.intro ⟨_, dX9_findOrder_296, rfl⟩ trivial))))))
theorem bX9_findOrder_37_39 : okB cX9_findOrder RX9 37 [(0, 0, 0, 0, 0), (7, 2, 0, 0, 0)] := And.intro ⟨_, dX9_findOrder_37, by decide⟩ (And.intro ⟨_, dX9_findOrder_38, rfl⟩ trivial)
theorem bX9_findOrder_39_46 : okB cX9_findOrder RX9 39 [(3, 2, 0, 0, 0), (5, 0, 0, 0, 0), (5, 0, 0, 0, 0), (23, 35, 9, 15, 0), (3, 1, 0, 0, 0)] := And.intro ⟨_, dX9_findOrder_39, rfl⟩ (And.intro ⟨_, dX9_findOrder_40, rfl⟩ (And.intro ⟨_, dX9_findOrder_41, rfl⟩ (And.intro ⟨dX9_findOrder_42, fl_X9_35⟩ (And.intro ⟨_, dX9_findOrder_45, rfl⟩ trivial))))
theorem bX9_findOrder_228_231 : okB cX9_findOrder RX9 228 [(11, 1, 0, 0, (-1))] := And.intro ⟨_, dX9_findOrder_228, by decide⟩ trivial
theorem bX9_findOrder_87_90 : okB cX9_findOrder RX9 87 [(0, 0, 0, 0, 0), (8, 5, 0, 0, 0)] := And.intro ⟨_, dX9_findOrder_87, by decide⟩ (And.intro dX9_findOrder_88 trivial)
theorem bX9_findOrder_90_97 : okB cX9_findOrder RX9 90 [(3, 1, 0, 0, 0), (0, 0, 0, 0, 1), (12, 0, 0, 0, 0), (5, 0, 0, 0, 0), (23, 90, 9, 12, 0)] := And.intro ⟨_, dX9_findOrder_90, rfl⟩ (And.intro ⟨_, dX9_findOrder_91, by decide⟩ (And.intro dX9_findOrder_92 (And.intro ⟨_, dX9_findOrder_93, rfl⟩ (And.intro ⟨dX9_findOrder_94, fl_X9_90⟩ trivial))))
theorem bX9_findOrder_185_203 : okB cX9_findOrder RX9 185 [(5, 0, 0, 0, 0), (23, 56, 9, 24, 0), (1, 0, 0, 0, 120), (3, 1, 0, 0, 0), (14, 0, 0, 0, 0), (3, 2, 0, 0, 0), (12, 0, 0, 0, 0), (3, 3, 0, 0, 0), (5, 0, 0, 0, 0), (23, 76, 9, 3, 0), (5, 0, 0, 0, 0), (3, 1, 0, 0, 0), (3, 2, 0, 0, 0)] := And.intro ⟨_, dX9_findOrder_185, rfl⟩ (And.intro ⟨dX9_findOrder_186, fl_X9_56⟩ (And.intro ⟨_, dX9_findOrder_189, by decide⟩ (And.intro ⟨_, dX9_findOrder_191, rfl⟩ (And.intro dX9_findOrder_192 (And.intro ⟨_, dX9_findOrder_193, rfl⟩ (And.intro dX9_findOrder_194 (And.intro ⟨_, dX9_findOrder_195, rfl⟩ (And.intro ⟨_, dX9_findOrder_196, rfl⟩ (And.intro ⟨dX9_findOrder_197, fl_X9_76⟩ (And.intro ⟨_, dX9_findOrder_200, rfl⟩ (And.intro ⟨_, dX9_findOrder_201, rfl⟩ (And.intro ⟨_, dX9_findOrder_202, rfl⟩ trivial))))))))))))
theorem bX9_findOrder_206_208 : okB cX9_findOrder RX9 206 [(14, 0, 0, 0, 0), (12, 0, 0, 0, 0)] := And.intro dX9_findOrder_206 (And.intro dX9_findOrder_207 trivial)
theorem bX9_findOrder_209_221 : okB cX9_findOrder RX9 209 [(5, 0, 0, 0, 0), (23, 59, 9, 25, 0), (1, 0, 0, 0, 120), (3, 1, 0, 0, 0), (14, 0, 0, 0, 0), (3, 2, 0, 0, 0), (12, 0, 0, 0, 0), (4, 4, 0, 0, 0)] := And.intro ⟨_, dX9_findOrder_209, rfl⟩ (And.intro ⟨dX9_findOrder_210, fl_X9_59⟩ (And.intro ⟨_, dX9_findOrder_213, by decide⟩ (And.intro ⟨_, dX9_findOrder_215, rfl⟩ (And.intro dX9_findOrder_216 (And.intro ⟨_, dX9_findOrder_217, rfl⟩ (And.intro dX9_findOrder_218 (And.intro dX9_findOrder_219 trivial)))))))
theorem bX9_findOrder_222_225 : okB cX9_findOrder RX9 222 [(11, 2, 0, 0, 1)] := And.intro ⟨_, dX9_findOrder_222, by decide⟩ trivial
theorem bX9_findOrder_100_110 : okB cX9_findOrder RX9 100 [(4, 5, 0, 0, 0), (5, 0, 0, 0, 0), (5, 0, 0, 0, 0), (23, 35, 9, 15, 0), (3, 1, 0, 0, 0), (0, 0, 0, 0, 1), (12, 0, 0, 0, 0)] := And.intro dX9_findOrder_100 (And.intro ⟨_, dX9_findOrder_102, rfl⟩ (And.intro ⟨_, dX9_findOrder_103, rfl⟩ (And.intro ⟨dX9_findOrder_104, fl_X9_35⟩ (And.intro ⟨_, dX9_findOrder_107, rfl⟩ (And.intro ⟨_, dX9_findOrder_108, by decide⟩ (And.intro dX9_findOrder_109 trivial))))))
theorem bX9_findOrder_117_122 : okB cX9_findOrder RX9 117 [(5, 0, 0, 0, 0), (3, 1, 0, 0, 0), (3, 2, 0, 0, 0), (4, 5, 0, 0, 0)] := And.intro ⟨_, dX9_findOrder_117, rfl⟩ (And.intro ⟨_, dX9_findOrder_118, rfl⟩ (And.intro ⟨_, dX9_findOrder_119, rfl⟩ (And.intro dX9_findOrder_120 trivial)))
theorem bX9_findOrder_125_138 : okB cX9_findOrder RX9 125 [(5, 0, 0, 0, 0), (23, 56, 9, 24, 0), (1, 0, 0, 0, 120), (3, 1, 0, 0, 0), (0, 0, 0, 0, 1), (12, 0, 0, 0, 0), (14, 0, 0, 0, 0), (4, 5, 0, 0, 0), (12, 0, 0, 0, 0)] := And.intro ⟨_, dX9_findOrder_125, rfl⟩ (And.intro ⟨dX9_findOrder_126, fl_X9_56⟩ (And.intro ⟨_, dX9_findOrder_129, by decide⟩ (And.intro ⟨_, dX9_findOrder_131, rfl⟩ (And.intro ⟨_, dX9_findOrder_132, by decide⟩ (And.intro dX9_findOrder_133 (And.intro dX9_findOrder_134 (And.intro dX9_findOrder_135 (And.intro dX9_findOrder_137 trivial))))))))
theorem bX9_findOrder_139_145 : okB cX9_findOrder RX9 139 [(12, 0, 0, 0, 0), (8, 6, 0, 0, 0), (4, 6, 0, 0, 0), (3, 3, 0, 0, 0)] := And.intro dX9_findOrder_139 (And.intro dX9_findOrder_140 (And.intro dX9_findOrder_142 (And.intro ⟨_, dX9_findOrder_144, rfl⟩ trivial)))
theorem bX9_findOrder_154_157 : okB cX9_findOrder RX9 154 [(4, 6, 0, 0, 0), (3, 3, 0, 0, 0)] := And.intro dX9_findOrder_154 (And.intro ⟨_, dX9_findOrder_156, rfl⟩ trivial)
theorem bX9_findOrder_179_182 : okB cX9_findOrder RX9 179 [(11, 5, 0, 0, 1)] := And.intro ⟨_, dX9_findOrder_179, by decide⟩ trivial
theorem bX9_findOrder_160_175 : okB cX9_findOrder RX9 160 [(4, 4, 0, 0, 0), (5, 0, 0, 0, 0), (23, 59, 9, 25, 0), (1, 0, 0, 0, 120), (3, 1, 0, 0, 0), (0, 0, 0, 0, 1), (12, 0, 0, 0, 0), (14, 0, 0, 0, 0), (4, 5, 0, 0, 0), (12, 0, 0, 0, 0)] := And.intro dX9_findOrder_160 (And.intro ⟨_, dX9_findOrder_162, rfl⟩ (And.intro ⟨dX9_findOrder_163, fl_X9_59⟩ (And.intro ⟨_, dX9_findOrder_166, by decide⟩ (And.intro ⟨_, dX9_findOrder_168, rfl⟩ (And.intro ⟨_, dX9_findOrder_169, by decide⟩ (And.intro dX9_findOrder_170 (And.intro dX9_findOrder_171 (And.intro dX9_findOrder_172 (And.intro dX9_findOrder_174 trivial)))))))))
theorem bX9_findOrder_176_182 : okB cX9_findOrder RX9 176 [(12, 0, 0, 0, 0), (8, 4, 0, 0, 0), (11, 5, 0, 0, 1)] := And.intro dX9_findOrder_176 (And.intro dX9_findOrder_177 (And.intro ⟨_, dX9_findOrder_179, by decide⟩ trivial))
theorem bX9_findOrder_148_157 : okB cX9_findOrder RX9 148 [(4, 6, 0, 0, 0), (7, 3, 0, 0, 0), (0, 0, 0, 0, 0), (8, 4, 0, 0, 0), (4, 6, 0, 0, 0), (3, 3, 0, 0, 0)] := And.intro dX9_findOrder_148 (And.intro ⟨_, dX9_findOrder_150, rfl⟩ (And.intro ⟨_, dX9_findOrder_151, by decide⟩ (And.intro dX9_findOrder_152 (And.intro dX9_findOrder_154 (And.intro ⟨_, dX9_findOrder_156, rfl⟩ trivial)))))
theorem bX9_findOrder_53_60 : okB cX9_findOrder RX9 53 [(3, 1, 0, 0, 0), (5, 0, 0, 0, 0), (23, 90, 9, 12, 0), (0, 0, 0, 0, 1), (13, 0, 0, 0, 0)] := And.intro ⟨_, dX9_findOrder_53, rfl⟩ (And.intro ⟨_, dX9_findOrder_54, rfl⟩ (And.intro ⟨dX9_findOrder_55, fl_X9_90⟩ (And.intro ⟨_, dX9_findOrder_58, by decide⟩ (And.intro dX9_findOrder_59 trivial))))
theorem bX9_findOrder_67_77 : okB cX9_findOrder RX9 67 [(26, 82, 0, 0, 1000000000), (7, 3, 0, 0, 0), (3, 1, 0, 0, 0), (5, 0, 0, 0, 0), (23, 90, 9, 12, 0), (0, 0, 0, 0, 1), (13, 0, 0, 0, 0)] := And.intro ⟨dX9_findOrder_67, wk_X9_82⟩ (And.intro ⟨_, dX9_findOrder_69, rfl⟩ (And.intro ⟨_, dX9_findOrder_70, rfl⟩ (And.intro ⟨_, dX9_findOrder_71, rfl⟩ (And.intro ⟨dX9_findOrder_72, fl_X9_90⟩ (And.intro ⟨_, dX9_findOrder_75, by decide⟩ (And.intro dX9_findOrder_76 trivial))))))
theorem bX9_findOrder_84_87 : okB cX9_findOrder RX9 84 [(0, 0, 0, 0, 0), (8, 4, 0, 0, 0)] := And.intro ⟨_, dX9_findOrder_84, by decide⟩ (And.intro dX9_findOrder_85 trivial)
theorem bX9_findOrder_80_81 : okB cX9_findOrder RX9 80 [(0, 0, 0, 0, 1)] := And.intro ⟨_, dX9_findOrder_80, by decide⟩ trivial
theorem bX9_findOrder_85_87 : okB cX9_findOrder RX9 85 [(8, 4, 0, 0, 0)] := And.intro dX9_findOrder_85 trivial
theorem bX9_findOrder_63_64 : okB cX9_findOrder RX9 63 [(0, 0, 0, 0, 0)] := And.intro ⟨_, dX9_findOrder_63, by decide⟩ trivial
theorem bX9_findOrder_69_77 : okB cX9_findOrder RX9 69 [(7, 3, 0, 0, 0), (3, 1, 0, 0, 0), (5, 0, 0, 0, 0), (23, 90, 9, 12, 0), (0, 0, 0, 0, 1), (13, 0, 0, 0, 0)] := And.intro ⟨_, dX9_findOrder_69, rfl⟩ (And.intro ⟨_, dX9_findOrder_70, rfl⟩ (And.intro ⟨_, dX9_findOrder_71, rfl⟩ (And.intro ⟨dX9_findOrder_72, fl_X9_90⟩ (And.intro ⟨_, dX9_findOrder_75, by decide⟩ (And.intro dX9_findOrder_76 trivial)))))
set_option maxHeartbeats 4000000 in
set_option maxRecDepth 100000 in
theorem k_X9_findOrder (l : Launch) (D : va_G) (ads : AD) (I A : HI) (po : Option AV → HI → HI → Prop) (Iv33 : HI → HI → HI → HI → Int32 → HI → HI → Prop) (mu33 : HI → HI → HI → HI → Int32 → HI → HI → Nat) (Iv250 : HI → HI → HI → HI → Int32 → HI → HI → Int32 → HI → Prop) (mu250 : HI → HI → HI → HI → Int32 → HI → HI → Int32 → HI → Nat) (Iv333 : HI → HI → HI → HI → Int32 → HI → HI → Int32 → HI → Int32 → Int32 → HI → HI → Prop) (mu333 : HI → HI → HI → HI → Int32 → HI → HI → Int32 → HI → Int32 → Int32 → HI → HI → Nat) (Iv343 : HI → HI → HI → HI → Int32 → HI → HI → Int32 → HI → Int32 → Int32 → HI → HI → Int32 → HI → HI → Prop) (mu343 : HI → HI → HI → HI → Int32 → HI → HI → Int32 → HI → Int32 → Int32 → HI → HI → Int32 → HI → HI → Nat) (Iv39 : HI → HI → HI → HI → Int32 → HI → HI → Int32 → HI → HI → Prop) (mu39 : HI → HI → HI → HI → Int32 → HI → HI → Int32 → HI → HI → Nat) (Jn87 : HI → HI → HI → HI → Int32 → HI → HI → Int32 → HI → HI → Int32 → Int32 → Prop) (Iv90 : HI → HI → HI → HI → Int32 → HI → HI → Int32 → HI → HI → Int32 → Int32 → Int32 → Int32 → Int32 → HI → HI → Prop) (mu90 : HI → HI → HI → HI → Int32 → HI → HI → Int32 → HI → HI → Int32 → Int32 → Int32 → Int32 → Int32 → HI → HI → Nat)
    (hv : ((FO (A 97)) ∧ (∀ (I2 A2 : HI), fIt I A I2 A2 → ((¬ (I2 96 14) = 0 → ((mRo0 I2 A2) ∧ (∀ (I4 A4 : HI), mRo I2 A2 I4 A4 → (Iv33 I2 A2 I4 A4 (((up2 (up2 I4 96 27 0) 96 28 1) 96 12) - 1) (up2 (up2 I4 96 27 0) 96 28 1) A4 ∧ ∀ (x1_33 : Int32) (I_33 : HI) (A_33 : HI), Iv33 I2 A2 I4 A4 x1_33 I_33 A_33 → ((x1_33 < 0 → ((¬ (I_33 96 12) = 0 → (Iv250 I2 A2 I4 A4 x1_33 I_33 A_33 0 (up2 I_33 96 27 1000000000) ∧ ∀ (x1_250 : Int32) (I_250 : HI), Iv250 I2 A2 I4 A4 x1_33 I_33 A_33 x1_250 I_250 → (vp_in (0 : Int32) 10 ∧ (((facI (A_33 104 (0 : Int32).toNatClampNeg)) ≤ x1_250 → (Iv333 I2 A2 I4 A4 x1_33 I_33 A_33 x1_250 I_250 (I_250 96 27) 0 I_250 A_33 ∧ ∀ (x1_333 : Int32) (x2_333 : Int32) (I_333 : HI) (A_333 : HI), Iv333 I2 A2 I4 A4 x1_33 I_33 A_33 x1_250 I_250 x1_333 x2_333 I_333 A_333 → (((I_333 96 12) ≤ x2_333 → po none I_333 A_333) ∧ (¬ (I_333 96 12) ≤ x2_333 → (Iv343 I2 A2 I4 A4 x1_33 I_33 A_33 x1_250 I_250 x1_333 x2_333 I_333 A_333 0 I_333 A_333 ∧ ∀ (x3_343 : Int32) (I_343 : HI) (A_343 : HI), Iv343 I2 A2 I4 A4 x1_33 I_33 A_33 x1_250 I_250 x1_333 x2_333 I_333 A_333 x3_343 I_343 A_343 → ((¬ x2_333 = 0 → (vp_in (x2_333 - 1) 10 ∧ ((crs0 I_343 A_343 (x2_333 - 1) (A_343 113 (x2_333 - 1).toNatClampNeg) x3_343) ∧ (∀ (r7 : Int32) (I7 A7 : HI), A7 = A_343 ∧ crs I_343 A_343 (x2_333 - 1) (A_343 113 (x2_333 - 1).toNatClampNeg) x3_343 r7 I7 → (vp_in ((120 * x2_333) + x3_343) 1200 ∧ (((r7 + (A7 111 ((120 * x2_333) + x3_343).toNatClampNeg)) = x1_333 → (vp_in x2_333 10 ∧ (vp_in ((120 * x2_333) + x3_343) 1200 ∧ ((mov0 (up2 A7 113 x2_333.toNatClampNeg x3_343) x2_333 x3_343) ∧ (Iv333 I2 A2 I4 A4 x1_33 I_33 A_33 x1_250 I_250 (((up2 A7 113 x2_333.toNatClampNeg x3_343) 111 ((120 * x2_333) + x3_343).toNatClampNeg) - ((I7 96 3) * (mov (up2 A7 113 x2_333.toNatClampNeg x3_343) x2_333 x3_343))) (x2_333 + 1) I7 (up2 A7 113 x2_333.toNatClampNeg x3_343) ∧ mu333 I2 A2 I4 A4 x1_33 I_33 A_33 x1_250 I_250 (((up2 A7 113 x2_333.toNatClampNeg x3_343) 111 ((120 * x2_333) + x3_343).toNatClampNeg) - ((I7 96 3) * (mov (up2 A7 113 x2_333.toNatClampNeg x3_343) x2_333 x3_343))) (x2_333 + 1) I7 (up2 A7 113 x2_333.toNatClampNeg x3_343) < mu333 I2 A2 I4 A4 x1_33 I_33 A_33 x1_250 I_250 x1_333 x2_333 I_333 A_333))))) ∧ (¬ (r7 + (A7 111 ((120 * x2_333) + x3_343).toNatClampNeg)) = x1_333 → (Iv343 I2 A2 I4 A4 x1_33 I_33 A_33 x1_250 I_250 x1_333 x2_333 I_333 A_333 (x3_343 + 1) I7 A7 ∧ mu343 I2 A2 I4 A4 x1_33 I_33 A_33 x1_250 I_250 x1_333 x2_333 I_333 A_333 (x3_343 + 1) I7 A7 < mu343 I2 A2 I4 A4 x1_33 I_33 A_33 x1_250 I_250 x1_333 x2_333 I_333 A_333 x3_343 I_343 A_343)))))))) ∧ (x2_333 = 0 → (vp_in ((120 * x2_333) + x3_343) 1200 ∧ (((0 + (A_343 111 ((120 * x2_333) + x3_343).toNatClampNeg)) = x1_333 → (vp_in x2_333 10 ∧ (vp_in ((120 * x2_333) + x3_343) 1200 ∧ ((mov0 (up2 A_343 113 x2_333.toNatClampNeg x3_343) x2_333 x3_343) ∧ (Iv333 I2 A2 I4 A4 x1_33 I_33 A_33 x1_250 I_250 (((up2 A_343 113 x2_333.toNatClampNeg x3_343) 111 ((120 * x2_333) + x3_343).toNatClampNeg) - ((I_343 96 3) * (mov (up2 A_343 113 x2_333.toNatClampNeg x3_343) x2_333 x3_343))) (x2_333 + 1) I_343 (up2 A_343 113 x2_333.toNatClampNeg x3_343) ∧ mu333 I2 A2 I4 A4 x1_33 I_33 A_33 x1_250 I_250 (((up2 A_343 113 x2_333.toNatClampNeg x3_343) 111 ((120 * x2_333) + x3_343).toNatClampNeg) - ((I_343 96 3) * (mov (up2 A_343 113 x2_333.toNatClampNeg x3_343) x2_333 x3_343))) (x2_333 + 1) I_343 (up2 A_343 113 x2_333.toNatClampNeg x3_343) < mu333 I2 A2 I4 A4 x1_33 I_33 A_33 x1_250 I_250 x1_333 x2_333 I_333 A_333))))) ∧ (¬ (0 + (A_343 111 ((120 * x2_333) + x3_343).toNatClampNeg)) = x1_333 → (Iv343 I2 A2 I4 A4 x1_33 I_33 A_33 x1_250 I_250 x1_333 x2_333 I_333 A_333 (x3_343 + 1) I_343 A_343 ∧ mu343 I2 A2 I4 A4 x1_33 I_33 A_33 x1_250 I_250 x1_333 x2_333 I_333 A_333 (x3_343 + 1) I_343 A_343 < mu343 I2 A2 I4 A4 x1_33 I_33 A_33 x1_250 I_250 x1_333 x2_333 I_333 A_333 x3_343 I_343 A_343))))))))))) ∧ (¬ (facI (A_33 104 (0 : Int32).toNatClampNeg)) ≤ x1_250 → (vp_in x1_250 1200 ∧ (((I_250 96 27) ≤ (A_33 111 x1_250.toNatClampNeg) → (vp_in x1_250 1200 ∧ ((¬ (A_33 111 x1_250.toNatClampNeg) = (I_250 96 27) → (Iv250 I2 A2 I4 A4 x1_33 I_33 A_33 (x1_250 + 1) I_250 ∧ mu250 I2 A2 I4 A4 x1_33 I_33 A_33 (x1_250 + 1) I_250 < mu250 I2 A2 I4 A4 x1_33 I_33 A_33 x1_250 I_250)) ∧ ((A_33 111 x1_250.toNatClampNeg) = (I_250 96 27) → (vp_in x1_250 1200 ∧ (Iv250 I2 A2 I4 A4 x1_33 I_33 A_33 (x1_250 + 1) (up2 I_250 96 28 ((I_250 96 28) + (A_33 112 x1_250.toNatClampNeg))) ∧ mu250 I2 A2 I4 A4 x1_33 I_33 A_33 (x1_250 + 1) (up2 I_250 96 28 ((I_250 96 28) + (A_33 112 x1_250.toNatClampNeg))) < mu250 I2 A2 I4 A4 x1_33 I_33 A_33 x1_250 I_250)))))) ∧ (¬ (I_250 96 27) ≤ (A_33 111 x1_250.toNatClampNeg) → (vp_in x1_250 1200 ∧ (vp_in x1_250 1200 ∧ ((¬ (A_33 111 x1_250.toNatClampNeg) = ((up2 (up2 I_250 96 27 (A_33 111 x1_250.toNatClampNeg)) 96 28 0) 96 27) → (Iv250 I2 A2 I4 A4 x1_33 I_33 A_33 (x1_250 + 1) (up2 (up2 I_250 96 27 (A_33 111 x1_250.toNatClampNeg)) 96 28 0) ∧ mu250 I2 A2 I4 A4 x1_33 I_33 A_33 (x1_250 + 1) (up2 (up2 I_250 96 27 (A_33 111 x1_250.toNatClampNeg)) 96 28 0) < mu250 I2 A2 I4 A4 x1_33 I_33 A_33 x1_250 I_250)) ∧ ((A_33 111 x1_250.toNatClampNeg) = ((up2 (up2 I_250 96 27 (A_33 111 x1_250.toNatClampNeg)) 96 28 0) 96 27) → (vp_in x1_250 1200 ∧ (Iv250 I2 A2 I4 A4 x1_33 I_33 A_33 (x1_250 + 1) (up2 (up2 (up2 I_250 96 27 (A_33 111 x1_250.toNatClampNeg)) 96 28 0) 96 28 (((up2 (up2 I_250 96 27 (A_33 111 x1_250.toNatClampNeg)) 96 28 0) 96 28) + (A_33 112 x1_250.toNatClampNeg))) ∧ mu250 I2 A2 I4 A4 x1_33 I_33 A_33 (x1_250 + 1) (up2 (up2 (up2 I_250 96 27 (A_33 111 x1_250.toNatClampNeg)) 96 28 0) 96 28 (((up2 (up2 I_250 96 27 (A_33 111 x1_250.toNatClampNeg)) 96 28 0) 96 28) + (A_33 112 x1_250.toNatClampNeg))) < mu250 I2 A2 I4 A4 x1_33 I_33 A_33 x1_250 I_250)))))))))))))) ∧ ((I_33 96 12) = 0 → po none I_33 A_33))) ∧ (¬ x1_33 < 0 → (Iv39 I2 A2 I4 A4 x1_33 I_33 A_33 0 I_33 A_33 ∧ ∀ (x2_39 : Int32) (I_39 : HI) (A_39 : HI), Iv39 I2 A2 I4 A4 x1_33 I_33 A_33 x2_39 I_39 A_39 → (vp_in x1_33 10 ∧ (((facI (A_39 104 x1_33.toNatClampNeg)) ≤ x2_39 → (Iv33 I2 A2 I4 A4 (x1_33 + (-1)) I_39 A_39 ∧ mu33 I2 A2 I4 A4 (x1_33 + (-1)) I_39 A_39 < mu33 I2 A2 I4 A4 x1_33 I_33 A_33)) ∧ (¬ (facI (A_39 104 x1_33.toNatClampNeg)) ≤ x2_39 → ((∀ (x3_87 : Int32) (x4_87 : Int32), Jn87 I2 A2 I4 A4 x1_33 I_33 A_33 x2_39 I_39 A_39 x3_87 x4_87 → (Iv90 I2 A2 I4 A4 x1_33 I_33 A_33 x2_39 I_39 A_39 x3_87 x4_87 x3_87 x4_87 0 I_39 A_39 ∧ ∀ (x3_90 : Int32) (x4_90 : Int32) (x5_90 : Int32) (I_90 : HI) (A_90 : HI), Iv90 I2 A2 I4 A4 x1_33 I_33 A_33 x2_39 I_39 A_39 x3_87 x4_87 x3_90 x4_90 x5_90 I_90 A_90 → (((I_90 96 12) ≤ (x1_33 + 1) → ((mov0 A_90 x1_33 x2_39) ∧ (vp_in ((120 * x1_33) + x2_39) 1200 ∧ (vp_in ((120 * x1_33) + x2_39) 1200 ∧ (Iv39 I2 A2 I4 A4 x1_33 I_33 A_33 (x2_39 + 1) I_90 (up2 (up2 A_90 111 ((120 * x1_33) + x2_39).toNatClampNeg (x3_90 + ((I_90 96 3) * (mov A_90 x1_33 x2_39)))) 112 ((120 * x1_33) + x2_39).toNatClampNeg x4_90) ∧ mu39 I2 A2 I4 A4 x1_33 I_33 A_33 (x2_39 + 1) I_90 (up2 (up2 A_90 111 ((120 * x1_33) + x2_39).toNatClampNeg (x3_90 + ((I_90 96 3) * (mov A_90 x1_33 x2_39)))) 112 ((120 * x1_33) + x2_39).toNatClampNeg x4_90) < mu39 I2 A2 I4 A4 x1_33 I_33 A_33 x2_39 I_39 A_39))))) ∧ (¬ (I_90 96 12) ≤ (x1_33 + 1) → (vp_in (x1_33 + 1) 10 ∧ (((facI (A_90 104 (x1_33 + 1).toNatClampNeg)) ≤ x5_90 → ((mov0 A_90 x1_33 x2_39) ∧ (vp_in ((120 * x1_33) + x2_39) 1200 ∧ (vp_in ((120 * x1_33) + x2_39) 1200 ∧ (Iv39 I2 A2 I4 A4 x1_33 I_33 A_33 (x2_39 + 1) I_90 (up2 (up2 A_90 111 ((120 * x1_33) + x2_39).toNatClampNeg (x3_90 + ((I_90 96 3) * (mov A_90 x1_33 x2_39)))) 112 ((120 * x1_33) + x2_39).toNatClampNeg x4_90) ∧ mu39 I2 A2 I4 A4 x1_33 I_33 A_33 (x2_39 + 1) I_90 (up2 (up2 A_90 111 ((120 * x1_33) + x2_39).toNatClampNeg (x3_90 + ((I_90 96 3) * (mov A_90 x1_33 x2_39)))) 112 ((120 * x1_33) + x2_39).toNatClampNeg x4_90) < mu39 I2 A2 I4 A4 x1_33 I_33 A_33 x2_39 I_39 A_39))))) ∧ (¬ (facI (A_90 104 (x1_33 + 1).toNatClampNeg)) ≤ x5_90 → ((crs0 I_90 A_90 x1_33 x2_39 x5_90) ∧ (∀ (r15 : Int32) (I15 A15 : HI), A15 = A_90 ∧ crs I_90 A_90 x1_33 x2_39 x5_90 r15 I15 → (vp_in ((120 * (x1_33 + 1)) + x5_90) 1200 ∧ ((x3_90 ≤ (r15 + (A15 111 ((120 * (x1_33 + 1)) + x5_90).toNatClampNeg)) → ((¬ (r15 + (A15 111 ((120 * (x1_33 + 1)) + x5_90).toNatClampNeg)) = x3_90 → (Iv90 I2 A2 I4 A4 x1_33 I_33 A_33 x2_39 I_39 A_39 x3_87 x4_87 x3_90 x4_90 (x5_90 + 1) I15 A15 ∧ mu90 I2 A2 I4 A4 x1_33 I_33 A_33 x2_39 I_39 A_39 x3_87 x4_87 x3_90 x4_90 (x5_90 + 1) I15 A15 < mu90 I2 A2 I4 A4 x1_33 I_33 A_33 x2_39 I_39 A_39 x3_87 x4_87 x3_90 x4_90 x5_90 I_90 A_90)) ∧ ((r15 + (A15 111 ((120 * (x1_33 + 1)) + x5_90).toNatClampNeg)) = x3_90 → (vp_in ((120 * (x1_33 + 1)) + x5_90) 1200 ∧ (Iv90 I2 A2 I4 A4 x1_33 I_33 A_33 x2_39 I_39 A_39 x3_87 x4_87 x3_90 (x4_90 + (A15 112 ((120 * (x1_33 + 1)) + x5_90).toNatClampNeg)) (x5_90 + 1) I15 A15 ∧ mu90 I2 A2 I4 A4 x1_33 I_33 A_33 x2_39 I_39 A_39 x3_87 x4_87 x3_90 (x4_90 + (A15 112 ((120 * (x1_33 + 1)) + x5_90).toNatClampNeg)) (x5_90 + 1) I15 A15 < mu90 I2 A2 I4 A4 x1_33 I_33 A_33 x2_39 I_39 A_39 x3_87 x4_87 x3_90 x4_90 x5_90 I_90 A_90))))) ∧ (¬ x3_90 ≤ (r15 + (A15 111 ((120 * (x1_33 + 1)) + x5_90).toNatClampNeg)) → ((¬ (r15 + (A15 111 ((120 * (x1_33 + 1)) + x5_90).toNatClampNeg)) = (r15 + (A15 111 ((120 * (x1_33 + 1)) + x5_90).toNatClampNeg)) → (Iv90 I2 A2 I4 A4 x1_33 I_33 A_33 x2_39 I_39 A_39 x3_87 x4_87 (r15 + (A15 111 ((120 * (x1_33 + 1)) + x5_90).toNatClampNeg)) 0 (x5_90 + 1) I15 A15 ∧ mu90 I2 A2 I4 A4 x1_33 I_33 A_33 x2_39 I_39 A_39 x3_87 x4_87 (r15 + (A15 111 ((120 * (x1_33 + 1)) + x5_90).toNatClampNeg)) 0 (x5_90 + 1) I15 A15 < mu90 I2 A2 I4 A4 x1_33 I_33 A_33 x2_39 I_39 A_39 x3_87 x4_87 x3_90 x4_90 x5_90 I_90 A_90)) ∧ ((r15 + (A15 111 ((120 * (x1_33 + 1)) + x5_90).toNatClampNeg)) = (r15 + (A15 111 ((120 * (x1_33 + 1)) + x5_90).toNatClampNeg)) → (vp_in ((120 * (x1_33 + 1)) + x5_90) 1200 ∧ (Iv90 I2 A2 I4 A4 x1_33 I_33 A_33 x2_39 I_39 A_39 x3_87 x4_87 (r15 + (A15 111 ((120 * (x1_33 + 1)) + x5_90).toNatClampNeg)) (0 + (A15 112 ((120 * (x1_33 + 1)) + x5_90).toNatClampNeg)) (x5_90 + 1) I15 A15 ∧ mu90 I2 A2 I4 A4 x1_33 I_33 A_33 x2_39 I_39 A_39 x3_87 x4_87 (r15 + (A15 111 ((120 * (x1_33 + 1)) + x5_90).toNatClampNeg)) (0 + (A15 112 ((120 * (x1_33 + 1)) + x5_90).toNatClampNeg)) (x5_90 + 1) I15 A15 < mu90 I2 A2 I4 A4 x1_33 I_33 A_33 x2_39 I_39 A_39 x3_87 x4_87 x3_90 x4_90 x5_90 I_90 A_90)))))))))))))))) ∧ ((¬ x1_33 = ((I_39 96 12) - 1) → ((¬ x1_33 = ((I_39 96 12) - 1) → (Jn87 I2 A2 I4 A4 x1_33 I_33 A_33 x2_39 I_39 A_39 1000000000 0)) ∧ (x1_33 = ((I_39 96 12) - 1) → (Jn87 I2 A2 I4 A4 x1_33 I_33 A_33 x2_39 I_39 A_39 1000000000 1)))) ∧ (x1_33 = ((I_39 96 12) - 1) → ((¬ x1_33 = ((I_39 96 12) - 1) → (Jn87 I2 A2 I4 A4 x1_33 I_33 A_33 x2_39 I_39 A_39 0 0)) ∧ (x1_33 = ((I_39 96 12) - 1) → (Jn87 I2 A2 I4 A4 x1_33 I_33 A_33 x2_39 I_39 A_39 0 1)))))))))))))))) ∧ ((I2 96 14) = 0 → po none I2 A2))))) : Ct l yX9_findOrder cX9_findOrder 7 none 3 72 D ads shp [.inr (some 96)] I A po := by
  refine Ct_of (by decide) (Nat.le_of_ble_eq_true rfl) ?_
  intro p e s m args below meth c hC hr
  replace hC : CX p s m args meth c cX9_findOrder 7 RX9 (AdS ads s.heap.size) := hC
  show Gm p l e s m args below meth c D ads 3 72 7 po I A 0 [some (.inr (some 96)), none, none, none, none, none, none] []
  refine g_blk hC _ bX9_findOrder_0_1 (pc' := 1) (ls' := [some (.inr (some 96)), none, none, none, none, none, none]) (st' := [.inr (some 96)]) (I' := I) rfl rfl ?_
  obtain ⟨hp1, hv⟩ := hv
  refine g_callV hC (c_X9_findItems l D ads I A  hp1) dX9_findOrder_1 nm_X9_findItems rfl rfl wl_X9_134 wi_X9_findItems ws_X9_findItems wn_X9 wc_X9_findItems ⟨by decide, by decide⟩ (as := []) (rest := []) rfl (Nat.le_of_ble_eq_true rfl) ⟨Nat.le_refl _, Nat.le_refl _⟩ (k_qV ?_)
  intro I2 A2 hq2
  replace hv := hv I2 A2 hq2
  refine g_blk hC _ bX9_findOrder_4_8 (pc' := 8) (ls' := [some (.inr (some 96)), none, none, none, none, none, none]) (st' := [.inl (I2 96 14)]) (I' := I2) rfl rfl ?_
  obtain ⟨hv1, hv2⟩ := hv
  refine g_ifne hC dX9_findOrder_8 (tgt := 12) (by decide) (fun hc => ?_) (fun hc => ?_)
  · have hv := hv1 hc
    clear hv1 hv2 hc
    refine g_blk hC _ bX9_findOrder_12_13 (pc' := 13) (ls' := [some (.inr (some 96)), none, none, none, none, none, none]) (st' := [.inr (some 96)]) (I' := I2) rfl rfl ?_
    obtain ⟨hp3, hv⟩ := hv
    refine g_callV hC (c_X9_makeRows l D ads I2 A2  hp3) dX9_findOrder_13 nm_X9_makeRows rfl rfl wl_X9_137 wi_X9_makeRows ws_X9_makeRows wn_X9 wc_X9_makeRows ⟨by decide, by decide⟩ (as := []) (rest := []) rfl (Nat.le_of_ble_eq_true rfl) ⟨Nat.le_refl _, Nat.le_refl _⟩ (k_qV ?_)
    intro I4 A4 hq4
    replace hv := hv I4 A4 hq4
    refine g_blk hC _ bX9_findOrder_16_33 (pc' := 33) (ls' := [some (.inr (some 96)), some (.inl (((up2 (up2 I4 96 27 0) 96 28 1) 96 12) - 1)), none, none, none, none, none]) (st' := []) (I' := up2 (up2 I4 96 27 0) 96 28 1) rfl rfl ?_
    obtain ⟨hi33, hb33⟩ := hv
    have L33 : ∀ (n : Nat) (x1_33 : Int32) (I_33 : HI) (A_33 : HI), Iv33 I2 A2 I4 A4 x1_33 I_33 A_33 → mu33 I2 A2 I4 A4 x1_33 I_33 A_33 < n → Gm p l e s m args below meth c D ads 3 72 7 po I_33 A_33 33 [some (.inr (some 96)), some (.inl x1_33), none, none, none, none, none] [] := by
      intro n
      induction n with
      | zero => intro x1_33 I_33 A_33 _ hn; exact absurd hn (Nat.not_lt_zero _)
      | succ n ih33 =>
        intro x1_33 I_33 A_33 hv hn33
        replace hv := hb33 x1_33 I_33 A_33 hv
        skip
        refine g_blk hC _ bX9_findOrder_33_34 (pc' := 34) (ls' := [some (.inr (some 96)), some (.inl x1_33), none, none, none, none, none]) (st' := [.inl x1_33]) (I' := I_33) rfl rfl ?_
        obtain ⟨hv1, hv2⟩ := hv
        refine g_iflt hC dX9_findOrder_34 (tgt := 234) (by decide) (fun hc => ?_) (fun hc => ?_)
        · have hv := hv1 hc
          clear hv1 hv2 hc
          refine g_blk hC _ bX9_findOrder_234_238 (pc' := 238) (ls' := [some (.inr (some 96)), some (.inl x1_33), none, none, none, none, none]) (st' := [.inl (I_33 96 12)]) (I' := I_33) rfl rfl ?_
          obtain ⟨hv1, hv2⟩ := hv
          refine g_ifne hC dX9_findOrder_238 (tgt := 242) (by decide) (fun hc => ?_) (fun hc => ?_)
          · have hv := hv1 hc
            clear hv1 hv2 hc
            refine g_blk hC _ bX9_findOrder_242_250 (pc' := 250) (ls' := [some (.inr (some 96)), some (.inl 0), none, none, none, none, none]) (st' := []) (I' := up2 I_33 96 27 1000000000) rfl rfl ?_
            obtain ⟨hi250, hb250⟩ := hv
            have L250 : ∀ (n : Nat) (x1_250 : Int32) (I_250 : HI), Iv250 I2 A2 I4 A4 x1_33 I_33 A_33 x1_250 I_250 → mu250 I2 A2 I4 A4 x1_33 I_33 A_33 x1_250 I_250 < n → Gm p l e s m args below meth c D ads 3 72 7 po I_250 A_33 250 [some (.inr (some 96)), some (.inl x1_250), none, none, none, none, none] [] := by
              intro n
              induction n with
              | zero => intro x1_250 I_250 _ hn; exact absurd hn (Nat.not_lt_zero _)
              | succ n ih250 =>
                intro x1_250 I_250 hv hn250
                replace hv := hb250 x1_250 I_250 hv
                skip
                refine g_blk hC _ bX9_findOrder_250_257 (pc' := 257) (ls' := [some (.inr (some 96)), some (.inl x1_250), none, none, none, none, none]) (st' := [.inl 0, .inr (some 104), .inr (some 96), .inl x1_250]) (I' := I_250) rfl rfl ?_
                obtain ⟨hi, hv⟩ := hv
                refine g_iald hC dX9_findOrder_257 (rfl) hi ?_
                clear hi
                refine g_callV hC (c_X9_factorial l D ads I_250 A_33 (A_33 104 (0 : Int32).toNatClampNeg)) dX9_findOrder_258 nm_X9_factorial rfl rfl wl_X9_124 wi_X9_factorial ws_X9_factorial wn_X9 wc_X9_factorial ⟨by decide, by decide⟩ (as := [.inl (A_33 104 (0 : Int32).toNatClampNeg)]) (rest := [.inl x1_250]) rfl (Nat.le_of_ble_eq_true rfl) ⟨Nat.le_refl _, Nat.le_refl _⟩ (k_qI ?_)
                obtain ⟨hv1, hv2⟩ := hv
                refine g_cge hC dX9_findOrder_261 (tgt := 326) (by decide) (fun hc => ?_) (fun hc => ?_)
                · have hv := hv1 hc
                  clear hv1 hv2 hc
                  refine g_blk hC _ bX9_findOrder_326_333 (pc' := 333) (ls' := [some (.inr (some 96)), some (.inl (I_250 96 27)), some (.inl 0), none, none, none, none]) (st' := []) (I' := I_250) rfl rfl ?_
                  obtain ⟨hi333, hb333⟩ := hv
                  have L333 : ∀ (n : Nat) (x1_333 : Int32) (x2_333 : Int32) (I_333 : HI) (A_333 : HI), Iv333 I2 A2 I4 A4 x1_33 I_33 A_33 x1_250 I_250 x1_333 x2_333 I_333 A_333 → mu333 I2 A2 I4 A4 x1_33 I_33 A_33 x1_250 I_250 x1_333 x2_333 I_333 A_333 < n → Gm p l e s m args below meth c D ads 3 72 7 po I_333 A_333 333 [some (.inr (some 96)), some (.inl x1_333), some (.inl x2_333), none, none, none, none] [] := by
                    intro n
                    induction n with
                    | zero => intro x1_333 x2_333 I_333 A_333 _ hn; exact absurd hn (Nat.not_lt_zero _)
                    | succ n ih333 =>
                      intro x1_333 x2_333 I_333 A_333 hv hn333
                      replace hv := hb333 x1_333 x2_333 I_333 A_333 hv
                      skip
                      refine g_blk hC _ bX9_findOrder_333_338 (pc' := 338) (ls' := [some (.inr (some 96)), some (.inl x1_333), some (.inl x2_333), none, none, none, none]) (st' := [.inl (I_333 96 12), .inl x2_333]) (I' := I_333) rfl rfl ?_
                      obtain ⟨hv1, hv2⟩ := hv
                      refine g_cge hC dX9_findOrder_338 (tgt := 427) (by decide) (fun hc => ?_) (fun hc => ?_)
                      · have hv := hv1 hc
                        clear hv1 hv2 hc
                        exact g_retv hC hr dX9_findOrder_427 hv
                      · have hv := hv2 hc
                        clear hv1 hv2 hc
                        refine g_blk hC _ bX9_findOrder_341_343 (pc' := 343) (ls' := [some (.inr (some 96)), some (.inl x1_333), some (.inl x2_333), some (.inl 0), none, none, none]) (st' := []) (I' := I_333) rfl rfl ?_
                        obtain ⟨hi343, hb343⟩ := hv
                        have L343 : ∀ (n : Nat) (x3_343 : Int32) (I_343 : HI) (A_343 : HI), Iv343 I2 A2 I4 A4 x1_33 I_33 A_33 x1_250 I_250 x1_333 x2_333 I_333 A_333 x3_343 I_343 A_343 → mu343 I2 A2 I4 A4 x1_33 I_33 A_33 x1_250 I_250 x1_333 x2_333 I_333 A_333 x3_343 I_343 A_343 < n → Gm p l e s m args below meth c D ads 3 72 7 po I_343 A_343 343 [some (.inr (some 96)), some (.inl x1_333), some (.inl x2_333), some (.inl x3_343), none, none, none] [] := by
                          intro n
                          induction n with
                          | zero => intro x3_343 I_343 A_343 _ hn; exact absurd hn (Nat.not_lt_zero _)
                          | succ n ih343 =>
                            intro x3_343 I_343 A_343 hv hn343
                            replace hv := hb343 x3_343 I_343 A_343 hv
                            skip
                            refine g_blk hC _ bX9_findOrder_343_344 (pc' := 344) (ls' := [some (.inr (some 96)), some (.inl x1_333), some (.inl x2_333), some (.inl x3_343), none, none, none]) (st' := [.inl x2_333]) (I' := I_343) rfl rfl ?_
                            obtain ⟨hv1, hv2⟩ := hv
                            refine g_ifne hC dX9_findOrder_344 (tgt := 351) (by decide) (fun hc => ?_) (fun hc => ?_)
                            · have hv := hv1 hc
                              clear hv1 hv2 hc
                              refine g_blk hC _ bX9_findOrder_351_362 (pc' := 362) (ls' := [some (.inr (some 96)), some (.inl x1_333), some (.inl x2_333), some (.inl x3_343), none, none, none]) (st' := [.inl (x2_333 - 1), .inr (some 113), .inl (x2_333 - 1), .inr (some 96)]) (I' := I_343) rfl rfl ?_
                              obtain ⟨hi, hv⟩ := hv
                              refine g_iald hC dX9_findOrder_362 (rfl) hi ?_
                              clear hi
                              refine g_blk hC _ bX9_findOrder_363_364 (pc' := 364) (ls' := [some (.inr (some 96)), some (.inl x1_333), some (.inl x2_333), some (.inl x3_343), none, none, none]) (st' := [.inl x3_343, .inl (A_343 113 (x2_333 - 1).toNatClampNeg), .inl (x2_333 - 1), .inr (some 96)]) (I' := I_343) rfl rfl ?_
                              obtain ⟨hp6, hv⟩ := hv
                              refine g_callV hC (c_X9_crosses l D ads I_343 A_343 (x2_333 - 1) (A_343 113 (x2_333 - 1).toNatClampNeg) x3_343 hp6) dX9_findOrder_364 nm_X9_crosses rfl rfl wl_X9_146 wi_X9_crosses ws_X9_crosses wn_X9 wc_X9_crosses ⟨by decide, by decide⟩ (as := [.inl (x2_333 - 1), .inl (A_343 113 (x2_333 - 1).toNatClampNeg), .inl x3_343]) (rest := []) rfl (Nat.le_of_ble_eq_true rfl) ⟨Nat.le_refl _, Nat.le_refl _⟩ (k_qJ ?_)
                              intro r7 I7 A7 hq7
                              replace hv := hv r7 I7 A7 hq7
                              refine g_blk hC _ bX9_findOrder_367_377 (pc' := 377) (ls' := [some (.inr (some 96)), some (.inl x1_333), some (.inl x2_333), some (.inl x3_343), none, none, none]) (st' := [.inl ((120 * x2_333) + x3_343), .inr (some 111), .inl r7]) (I' := I7) rfl rfl ?_
                              obtain ⟨hi, hv⟩ := hv
                              refine g_iald hC dX9_findOrder_377 (rfl) hi ?_
                              clear hi
                              refine g_blk hC _ bX9_findOrder_378_380 (pc' := 380) (ls' := [some (.inr (some 96)), some (.inl x1_333), some (.inl x2_333), some (.inl x3_343), none, none, none]) (st' := [.inl x1_333, .inl (r7 + (A7 111 ((120 * x2_333) + x3_343).toNatClampNeg))]) (I' := I7) rfl rfl ?_
                              obtain ⟨hv1, hv2⟩ := hv
                              refine g_ceq hC dX9_findOrder_380 (tgt := 390) (by decide) (fun hc => ?_) (fun hc => ?_)
                              · have hv := hv1 hc
                                clear hv1 hv2 hc
                                refine g_blk hC _ bX9_findOrder_390_396 (pc' := 396) (ls' := [some (.inr (some 96)), some (.inl x1_333), some (.inl x2_333), some (.inl x3_343), none, none, none]) (st' := [.inl x3_343, .inl x2_333, .inr (some 113)]) (I' := I7) rfl rfl ?_
                                obtain ⟨hi, hv⟩ := hv
                                refine g_iast hC dX9_findOrder_396 (rfl) hi ?_
                                clear hi
                                refine g_blk hC _ bX9_findOrder_397_407 (pc' := 407) (ls' := [some (.inr (some 96)), some (.inl x1_333), some (.inl x2_333), some (.inl x3_343), none, none, none]) (st' := [.inl ((120 * x2_333) + x3_343), .inr (some 111)]) (I' := I7) rfl rfl ?_
                                obtain ⟨hi, hv⟩ := hv
                                refine g_iald hC dX9_findOrder_407 (rfl) hi ?_
                                clear hi
                                refine g_blk hC _ bX9_findOrder_408_415 (pc' := 415) (ls' := [some (.inr (some 96)), some (.inl x1_333), some (.inl x2_333), some (.inl x3_343), none, none, none]) (st' := [.inl x3_343, .inl x2_333, .inr (some 96), .inl (I7 96 3), .inl ((up2 A7 113 x2_333.toNatClampNeg x3_343) 111 ((120 * x2_333) + x3_343).toNatClampNeg)]) (I' := I7) rfl rfl ?_
                                obtain ⟨hp8, hv⟩ := hv
                                refine g_callV hC (c_X9_moves l D ads I7 (up2 A7 113 x2_333.toNatClampNeg x3_343) x2_333 x3_343 hp8) dX9_findOrder_415 nm_X9_moves rfl rfl wl_X9_149 wi_X9_moves ws_X9_moves wn_X9 wc_X9_moves ⟨by decide, by decide⟩ (as := [.inl x2_333, .inl x3_343]) (rest := [.inl (I7 96 3), .inl ((up2 A7 113 x2_333.toNatClampNeg x3_343) 111 ((120 * x2_333) + x3_343).toNatClampNeg)]) rfl (Nat.le_of_ble_eq_true rfl) ⟨Nat.le_refl _, Nat.le_refl _⟩ (k_qI ?_)
                                refine g_blk hC _ bX9_findOrder_418_424 (pc' := 424) (ls' := [some (.inr (some 96)), some (.inl (((up2 A7 113 x2_333.toNatClampNeg x3_343) 111 ((120 * x2_333) + x3_343).toNatClampNeg) - ((I7 96 3) * (mov (up2 A7 113 x2_333.toNatClampNeg x3_343) x2_333 x3_343)))), some (.inl (x2_333 + 1)), some (.inl x3_343), none, none, none]) (st' := []) (I' := I7) rfl rfl ?_
                                refine g_goto hC dX9_findOrder_424 (tgt := 333) (by decide) ?_
                                exact g_weak (ls1 := [some (.inr (some 96)), some (.inl (((up2 A7 113 x2_333.toNatClampNeg x3_343) 111 ((120 * x2_333) + x3_343).toNatClampNeg) - ((I7 96 3) * (mov (up2 A7 113 x2_333.toNatClampNeg x3_343) x2_333 x3_343)))), some (.inl (x2_333 + 1)), none, none, none, none]) rfl (And.intro rfl (And.intro rfl (And.intro rfl trivial))) (ih333 (((up2 A7 113 x2_333.toNatClampNeg x3_343) 111 ((120 * x2_333) + x3_343).toNatClampNeg) - ((I7 96 3) * (mov (up2 A7 113 x2_333.toNatClampNeg x3_343) x2_333 x3_343))) (x2_333 + 1) I7 (up2 A7 113 x2_333.toNatClampNeg x3_343) hv.1 (Nat.lt_of_lt_of_le hv.2 (Nat.le_of_lt_succ hn333)))
                              · have hv := hv2 hc
                                clear hv1 hv2 hc
                                refine g_blk hC _ bX9_findOrder_383_387 (pc' := 387) (ls' := [some (.inr (some 96)), some (.inl x1_333), some (.inl x2_333), some (.inl (x3_343 + 1)), none, none, none]) (st' := []) (I' := I7) rfl rfl ?_
                                refine g_goto hC dX9_findOrder_387 (tgt := 343) (by decide) ?_
                                exact g_weak (ls1 := [some (.inr (some 96)), some (.inl x1_333), some (.inl x2_333), some (.inl (x3_343 + 1)), none, none, none]) rfl (And.intro rfl (And.intro rfl (And.intro rfl (And.intro rfl trivial)))) (ih343 (x3_343 + 1) I7 A7 hv.1 (Nat.lt_of_lt_of_le hv.2 (Nat.le_of_lt_succ hn343)))
                            · have hv := hv2 hc
                              clear hv1 hv2 hc
                              refine g_blk hC _ bX9_findOrder_347_348 (pc' := 348) (ls' := [some (.inr (some 96)), some (.inl x1_333), some (.inl x2_333), some (.inl x3_343), none, none, none]) (st' := [.inl 0]) (I' := I_343) rfl rfl ?_
                              refine g_goto hC dX9_findOrder_348 (tgt := 367) (by decide) ?_
                              refine g_blk hC _ bX9_findOrder_367_377 (pc' := 377) (ls' := [some (.inr (some 96)), some (.inl x1_333), some (.inl x2_333), some (.inl x3_343), none, none, none]) (st' := [.inl ((120 * x2_333) + x3_343), .inr (some 111), .inl 0]) (I' := I_343) rfl rfl ?_
                              obtain ⟨hi, hv⟩ := hv
                              refine g_iald hC dX9_findOrder_377 (rfl) hi ?_
                              clear hi
                              refine g_blk hC _ bX9_findOrder_378_380 (pc' := 380) (ls' := [some (.inr (some 96)), some (.inl x1_333), some (.inl x2_333), some (.inl x3_343), none, none, none]) (st' := [.inl x1_333, .inl (0 + (A_343 111 ((120 * x2_333) + x3_343).toNatClampNeg))]) (I' := I_343) rfl rfl ?_
                              obtain ⟨hv1, hv2⟩ := hv
                              refine g_ceq hC dX9_findOrder_380 (tgt := 390) (by decide) (fun hc => ?_) (fun hc => ?_)
                              · have hv := hv1 hc
                                clear hv1 hv2 hc
                                refine g_blk hC _ bX9_findOrder_390_396 (pc' := 396) (ls' := [some (.inr (some 96)), some (.inl x1_333), some (.inl x2_333), some (.inl x3_343), none, none, none]) (st' := [.inl x3_343, .inl x2_333, .inr (some 113)]) (I' := I_343) rfl rfl ?_
                                obtain ⟨hi, hv⟩ := hv
                                refine g_iast hC dX9_findOrder_396 (rfl) hi ?_
                                clear hi
                                refine g_blk hC _ bX9_findOrder_397_407 (pc' := 407) (ls' := [some (.inr (some 96)), some (.inl x1_333), some (.inl x2_333), some (.inl x3_343), none, none, none]) (st' := [.inl ((120 * x2_333) + x3_343), .inr (some 111)]) (I' := I_343) rfl rfl ?_
                                obtain ⟨hi, hv⟩ := hv
                                refine g_iald hC dX9_findOrder_407 (rfl) hi ?_
                                clear hi
                                refine g_blk hC _ bX9_findOrder_408_415 (pc' := 415) (ls' := [some (.inr (some 96)), some (.inl x1_333), some (.inl x2_333), some (.inl x3_343), none, none, none]) (st' := [.inl x3_343, .inl x2_333, .inr (some 96), .inl (I_343 96 3), .inl ((up2 A_343 113 x2_333.toNatClampNeg x3_343) 111 ((120 * x2_333) + x3_343).toNatClampNeg)]) (I' := I_343) rfl rfl ?_
                                obtain ⟨hp9, hv⟩ := hv
                                refine g_callV hC (c_X9_moves l D ads I_343 (up2 A_343 113 x2_333.toNatClampNeg x3_343) x2_333 x3_343 hp9) dX9_findOrder_415 nm_X9_moves rfl rfl wl_X9_149 wi_X9_moves ws_X9_moves wn_X9 wc_X9_moves ⟨by decide, by decide⟩ (as := [.inl x2_333, .inl x3_343]) (rest := [.inl (I_343 96 3), .inl ((up2 A_343 113 x2_333.toNatClampNeg x3_343) 111 ((120 * x2_333) + x3_343).toNatClampNeg)]) rfl (Nat.le_of_ble_eq_true rfl) ⟨Nat.le_refl _, Nat.le_refl _⟩ (k_qI ?_)
                                refine g_blk hC _ bX9_findOrder_418_424 (pc' := 424) (ls' := [some (.inr (some 96)), some (.inl (((up2 A_343 113 x2_333.toNatClampNeg x3_343) 111 ((120 * x2_333) + x3_343).toNatClampNeg) - ((I_343 96 3) * (mov (up2 A_343 113 x2_333.toNatClampNeg x3_343) x2_333 x3_343)))), some (.inl (x2_333 + 1)), some (.inl x3_343), none, none, none]) (st' := []) (I' := I_343) rfl rfl ?_
                                refine g_goto hC dX9_findOrder_424 (tgt := 333) (by decide) ?_
                                exact g_weak (ls1 := [some (.inr (some 96)), some (.inl (((up2 A_343 113 x2_333.toNatClampNeg x3_343) 111 ((120 * x2_333) + x3_343).toNatClampNeg) - ((I_343 96 3) * (mov (up2 A_343 113 x2_333.toNatClampNeg x3_343) x2_333 x3_343)))), some (.inl (x2_333 + 1)), none, none, none, none]) rfl (And.intro rfl (And.intro rfl (And.intro rfl trivial))) (ih333 (((up2 A_343 113 x2_333.toNatClampNeg x3_343) 111 ((120 * x2_333) + x3_343).toNatClampNeg) - ((I_343 96 3) * (mov (up2 A_343 113 x2_333.toNatClampNeg x3_343) x2_333 x3_343))) (x2_333 + 1) I_343 (up2 A_343 113 x2_333.toNatClampNeg x3_343) hv.1 (Nat.lt_of_lt_of_le hv.2 (Nat.le_of_lt_succ hn333)))
                              · have hv := hv2 hc
                                clear hv1 hv2 hc
                                refine g_blk hC _ bX9_findOrder_383_387 (pc' := 387) (ls' := [some (.inr (some 96)), some (.inl x1_333), some (.inl x2_333), some (.inl (x3_343 + 1)), none, none, none]) (st' := []) (I' := I_343) rfl rfl ?_
                                refine g_goto hC dX9_findOrder_387 (tgt := 343) (by decide) ?_
                                exact g_weak (ls1 := [some (.inr (some 96)), some (.inl x1_333), some (.inl x2_333), some (.inl (x3_343 + 1)), none, none, none]) rfl (And.intro rfl (And.intro rfl (And.intro rfl (And.intro rfl trivial)))) (ih343 (x3_343 + 1) I_343 A_343 hv.1 (Nat.lt_of_lt_of_le hv.2 (Nat.le_of_lt_succ hn343)))
                        exact g_weak (ls1 := [some (.inr (some 96)), some (.inl x1_333), some (.inl x2_333), some (.inl 0), none, none, none]) rfl (And.intro rfl (And.intro rfl (And.intro rfl (And.intro rfl trivial)))) (L343 _ 0 I_333 A_333 hi343 (Nat.lt_succ_self _))
                  exact g_weak (ls1 := [some (.inr (some 96)), some (.inl (I_250 96 27)), some (.inl 0), none, none, none, none]) rfl (And.intro rfl (And.intro rfl (And.intro rfl trivial))) (L333 _ (I_250 96 27) 0 I_250 A_33 hi333 (Nat.lt_succ_self _))
                · have hv := hv2 hc
                  clear hv1 hv2 hc
                  refine g_blk hC _ bX9_findOrder_264_269 (pc' := 269) (ls' := [some (.inr (some 96)), some (.inl x1_250), none, none, none, none, none]) (st' := [.inl x1_250, .inr (some 111)]) (I' := I_250) rfl rfl ?_
                  obtain ⟨hi, hv⟩ := hv
                  refine g_iald hC dX9_findOrder_269 (rfl) hi ?_
                  clear hi
                  refine g_blk hC _ bX9_findOrder_270_274 (pc' := 274) (ls' := [some (.inr (some 96)), some (.inl x1_250), none, none, none, none, none]) (st' := [.inl (I_250 96 27), .inl (A_33 111 x1_250.toNatClampNeg)]) (I' := I_250) rfl rfl ?_
                  obtain ⟨hv1, hv2⟩ := hv
                  refine g_cge hC dX9_findOrder_274 (tgt := 292) (by decide) (fun hc => ?_) (fun hc => ?_)
                  · have hv := hv1 hc
                    clear hv1 hv2 hc
                    refine g_blk hC _ bX9_findOrder_292_297 (pc' := 297) (ls' := [some (.inr (some 96)), some (.inl x1_250), none, none, none, none, none]) (st' := [.inl x1_250, .inr (some 111)]) (I' := I_250) rfl rfl ?_
                    obtain ⟨hi, hv⟩ := hv
                    refine g_iald hC dX9_findOrder_297 (rfl) hi ?_
                    clear hi
                    refine g_blk hC _ bX9_findOrder_298_302 (pc' := 302) (ls' := [some (.inr (some 96)), some (.inl x1_250), none, none, none, none, none]) (st' := [.inl (I_250 96 27), .inl (A_33 111 x1_250.toNatClampNeg)]) (I' := I_250) rfl rfl ?_
                    obtain ⟨hv1, hv2⟩ := hv
                    refine g_cne hC dX9_findOrder_302 (tgt := 320) (by decide) (fun hc => ?_) (fun hc => ?_)
                    · have hv := hv1 hc
                      clear hv1 hv2 hc
                      refine g_blk hC _ bX9_findOrder_320_323 (pc' := 323) (ls' := [some (.inr (some 96)), some (.inl (x1_250 + 1)), none, none, none, none, none]) (st' := []) (I' := I_250) rfl rfl ?_
                      refine g_goto hC dX9_findOrder_323 (tgt := 250) (by decide) ?_
                      exact g_weak (ls1 := [some (.inr (some 96)), some (.inl (x1_250 + 1)), none, none, none, none, none]) rfl (And.intro rfl (And.intro rfl trivial)) (ih250 (x1_250 + 1) I_250 hv.1 (Nat.lt_of_lt_of_le hv.2 (Nat.le_of_lt_succ hn250)))
                    · have hv := hv2 hc
                      clear hv1 hv2 hc
                      refine g_blk hC _ bX9_findOrder_305_315 (pc' := 315) (ls' := [some (.inr (some 96)), some (.inl x1_250), none, none, none, none, none]) (st' := [.inl x1_250, .inr (some 112), .inl (I_250 96 28), .inr (some 96)]) (I' := I_250) rfl rfl ?_
                      obtain ⟨hi, hv⟩ := hv
                      refine g_iald hC dX9_findOrder_315 (rfl) hi ?_
                      clear hi
                      refine g_blk hC _ bX9_findOrder_316_323 (pc' := 323) (ls' := [some (.inr (some 96)), some (.inl (x1_250 + 1)), none, none, none, none, none]) (st' := []) (I' := up2 I_250 96 28 ((I_250 96 28) + (A_33 112 x1_250.toNatClampNeg))) rfl rfl ?_
                      refine g_goto hC dX9_findOrder_323 (tgt := 250) (by decide) ?_
                      exact g_weak (ls1 := [some (.inr (some 96)), some (.inl (x1_250 + 1)), none, none, none, none, none]) rfl (And.intro rfl (And.intro rfl trivial)) (ih250 (x1_250 + 1) (up2 I_250 96 28 ((I_250 96 28) + (A_33 112 x1_250.toNatClampNeg))) hv.1 (Nat.lt_of_lt_of_le hv.2 (Nat.le_of_lt_succ hn250)))
                  · have hv := hv2 hc
                    clear hv1 hv2 hc
                    refine g_blk hC _ bX9_findOrder_277_283 (pc' := 283) (ls' := [some (.inr (some 96)), some (.inl x1_250), none, none, none, none, none]) (st' := [.inl x1_250, .inr (some 111), .inr (some 96)]) (I' := I_250) rfl rfl ?_
                    obtain ⟨hi, hv⟩ := hv
                    refine g_iald hC dX9_findOrder_283 (rfl) hi ?_
                    clear hi
                    refine g_blk hC _ bX9_findOrder_284_297 (pc' := 297) (ls' := [some (.inr (some 96)), some (.inl x1_250), none, none, none, none, none]) (st' := [.inl x1_250, .inr (some 111)]) (I' := up2 (up2 I_250 96 27 (A_33 111 x1_250.toNatClampNeg)) 96 28 0) rfl rfl ?_
                    obtain ⟨hi, hv⟩ := hv
                    refine g_iald hC dX9_findOrder_297 (rfl) hi ?_
                    clear hi
                    refine g_blk hC _ bX9_findOrder_298_302 (pc' := 302) (ls' := [some (.inr (some 96)), some (.inl x1_250), none, none, none, none, none]) (st' := [.inl ((up2 (up2 I_250 96 27 (A_33 111 x1_250.toNatClampNeg)) 96 28 0) 96 27), .inl (A_33 111 x1_250.toNatClampNeg)]) (I' := up2 (up2 I_250 96 27 (A_33 111 x1_250.toNatClampNeg)) 96 28 0) rfl rfl ?_
                    obtain ⟨hv1, hv2⟩ := hv
                    refine g_cne hC dX9_findOrder_302 (tgt := 320) (by decide) (fun hc => ?_) (fun hc => ?_)
                    · have hv := hv1 hc
                      clear hv1 hv2 hc
                      refine g_blk hC _ bX9_findOrder_320_323 (pc' := 323) (ls' := [some (.inr (some 96)), some (.inl (x1_250 + 1)), none, none, none, none, none]) (st' := []) (I' := up2 (up2 I_250 96 27 (A_33 111 x1_250.toNatClampNeg)) 96 28 0) rfl rfl ?_
                      refine g_goto hC dX9_findOrder_323 (tgt := 250) (by decide) ?_
                      exact g_weak (ls1 := [some (.inr (some 96)), some (.inl (x1_250 + 1)), none, none, none, none, none]) rfl (And.intro rfl (And.intro rfl trivial)) (ih250 (x1_250 + 1) (up2 (up2 I_250 96 27 (A_33 111 x1_250.toNatClampNeg)) 96 28 0) hv.1 (Nat.lt_of_lt_of_le hv.2 (Nat.le_of_lt_succ hn250)))
                    · have hv := hv2 hc
                      clear hv1 hv2 hc
                      refine g_blk hC _ bX9_findOrder_305_315 (pc' := 315) (ls' := [some (.inr (some 96)), some (.inl x1_250), none, none, none, none, none]) (st' := [.inl x1_250, .inr (some 112), .inl ((up2 (up2 I_250 96 27 (A_33 111 x1_250.toNatClampNeg)) 96 28 0) 96 28), .inr (some 96)]) (I' := up2 (up2 I_250 96 27 (A_33 111 x1_250.toNatClampNeg)) 96 28 0) rfl rfl ?_
                      obtain ⟨hi, hv⟩ := hv
                      refine g_iald hC dX9_findOrder_315 (rfl) hi ?_
                      clear hi
                      refine g_blk hC _ bX9_findOrder_316_323 (pc' := 323) (ls' := [some (.inr (some 96)), some (.inl (x1_250 + 1)), none, none, none, none, none]) (st' := []) (I' := up2 (up2 (up2 I_250 96 27 (A_33 111 x1_250.toNatClampNeg)) 96 28 0) 96 28 (((up2 (up2 I_250 96 27 (A_33 111 x1_250.toNatClampNeg)) 96 28 0) 96 28) + (A_33 112 x1_250.toNatClampNeg))) rfl rfl ?_
                      refine g_goto hC dX9_findOrder_323 (tgt := 250) (by decide) ?_
                      exact g_weak (ls1 := [some (.inr (some 96)), some (.inl (x1_250 + 1)), none, none, none, none, none]) rfl (And.intro rfl (And.intro rfl trivial)) (ih250 (x1_250 + 1) (up2 (up2 (up2 I_250 96 27 (A_33 111 x1_250.toNatClampNeg)) 96 28 0) 96 28 (((up2 (up2 I_250 96 27 (A_33 111 x1_250.toNatClampNeg)) 96 28 0) 96 28) + (A_33 112 x1_250.toNatClampNeg))) hv.1 (Nat.lt_of_lt_of_le hv.2 (Nat.le_of_lt_succ hn250)))
            exact g_weak (ls1 := [some (.inr (some 96)), some (.inl 0), none, none, none, none, none]) rfl (And.intro rfl (And.intro rfl trivial)) (L250 _ 0 (up2 I_33 96 27 1000000000) hi250 (Nat.lt_succ_self _))
          · have hv := hv2 hc
            clear hv1 hv2 hc
            exact g_retv hC hr dX9_findOrder_241 hv
        · have hv := hv2 hc
          clear hv1 hv2 hc
          refine g_blk hC _ bX9_findOrder_37_39 (pc' := 39) (ls' := [some (.inr (some 96)), some (.inl x1_33), some (.inl 0), none, none, none, none]) (st' := []) (I' := I_33) rfl rfl ?_
          obtain ⟨hi39, hb39⟩ := hv
          have L39 : ∀ (n : Nat) (x2_39 : Int32) (I_39 : HI) (A_39 : HI), Iv39 I2 A2 I4 A4 x1_33 I_33 A_33 x2_39 I_39 A_39 → mu39 I2 A2 I4 A4 x1_33 I_33 A_33 x2_39 I_39 A_39 < n → Gm p l e s m args below meth c D ads 3 72 7 po I_39 A_39 39 [some (.inr (some 96)), some (.inl x1_33), some (.inl x2_39), none, none, none, none] [] := by
            intro n
            induction n with
            | zero => intro x2_39 I_39 A_39 _ hn; exact absurd hn (Nat.not_lt_zero _)
            | succ n ih39 =>
              intro x2_39 I_39 A_39 hv hn39
              replace hv := hb39 x2_39 I_39 A_39 hv
              skip
              refine g_blk hC _ bX9_findOrder_39_46 (pc' := 46) (ls' := [some (.inr (some 96)), some (.inl x1_33), some (.inl x2_39), none, none, none, none]) (st' := [.inl x1_33, .inr (some 104), .inr (some 96), .inl x2_39]) (I' := I_39) rfl rfl ?_
              obtain ⟨hi, hv⟩ := hv
              refine g_iald hC dX9_findOrder_46 (rfl) hi ?_
              clear hi
              refine g_callV hC (c_X9_factorial l D ads I_39 A_39 (A_39 104 x1_33.toNatClampNeg)) dX9_findOrder_47 nm_X9_factorial rfl rfl wl_X9_124 wi_X9_factorial ws_X9_factorial wn_X9 wc_X9_factorial ⟨by decide, by decide⟩ (as := [.inl (A_39 104 x1_33.toNatClampNeg)]) (rest := [.inl x2_39]) rfl (Nat.le_of_ble_eq_true rfl) ⟨Nat.le_refl _, Nat.le_refl _⟩ (k_qI ?_)
              obtain ⟨hv1, hv2⟩ := hv
              refine g_cge hC dX9_findOrder_50 (tgt := 228) (by decide) (fun hc => ?_) (fun hc => ?_)
              · have hv := hv1 hc
                clear hv1 hv2 hc
                refine g_blk hC _ bX9_findOrder_228_231 (pc' := 231) (ls' := [some (.inr (some 96)), some (.inl (x1_33 + (-1))), some (.inl x2_39), none, none, none, none]) (st' := []) (I' := I_39) rfl rfl ?_
                refine g_goto hC dX9_findOrder_231 (tgt := 33) (by decide) ?_
                exact g_weak (ls1 := [some (.inr (some 96)), some (.inl (x1_33 + (-1))), none, none, none, none, none]) rfl (And.intro rfl (And.intro rfl trivial)) (ih33 (x1_33 + (-1)) I_39 A_39 hv.1 (Nat.lt_of_lt_of_le hv.2 (Nat.le_of_lt_succ hn33)))
              · have hv := hv2 hc
                clear hv1 hv2 hc
                obtain ⟨hj87, hv⟩ := hv
                have J87 : ∀ (x3_87 : Int32) (x4_87 : Int32), Jn87 I2 A2 I4 A4 x1_33 I_33 A_33 x2_39 I_39 A_39 x3_87 x4_87 → Gm p l e s m args below meth c D ads 3 72 7 po I_39 A_39 87 [some (.inr (some 96)), some (.inl x1_33), some (.inl x2_39), some (.inl x3_87), some (.inl x4_87), none, none] [] := by
                  intro x3_87 x4_87 hv
                  replace hv := hj87 x3_87 x4_87 hv
                  refine g_blk hC _ bX9_findOrder_87_90 (pc' := 90) (ls' := [some (.inr (some 96)), some (.inl x1_33), some (.inl x2_39), some (.inl x3_87), some (.inl x4_87), some (.inl 0), none]) (st' := []) (I' := I_39) rfl rfl ?_
                  obtain ⟨hi90, hb90⟩ := hv
                  have L90 : ∀ (n : Nat) (x3_90 : Int32) (x4_90 : Int32) (x5_90 : Int32) (I_90 : HI) (A_90 : HI), Iv90 I2 A2 I4 A4 x1_33 I_33 A_33 x2_39 I_39 A_39 x3_87 x4_87 x3_90 x4_90 x5_90 I_90 A_90 → mu90 I2 A2 I4 A4 x1_33 I_33 A_33 x2_39 I_39 A_39 x3_87 x4_87 x3_90 x4_90 x5_90 I_90 A_90 < n → Gm p l e s m args below meth c D ads 3 72 7 po I_90 A_90 90 [some (.inr (some 96)), some (.inl x1_33), some (.inl x2_39), some (.inl x3_90), some (.inl x4_90), some (.inl x5_90), none] [] := by
                    intro n
                    induction n with
                    | zero => intro x3_90 x4_90 x5_90 I_90 A_90 _ hn; exact absurd hn (Nat.not_lt_zero _)
                    | succ n ih90 =>
                      intro x3_90 x4_90 x5_90 I_90 A_90 hv hn90
                      replace hv := hb90 x3_90 x4_90 x5_90 I_90 A_90 hv
                      skip
                      refine g_blk hC _ bX9_findOrder_90_97 (pc' := 97) (ls' := [some (.inr (some 96)), some (.inl x1_33), some (.inl x2_39), some (.inl x3_90), some (.inl x4_90), some (.inl x5_90), none]) (st' := [.inl (I_90 96 12), .inl (x1_33 + 1)]) (I' := I_90) rfl rfl ?_
                      obtain ⟨hv1, hv2⟩ := hv
                      refine g_cge hC dX9_findOrder_97 (tgt := 185) (by decide) (fun hc => ?_) (fun hc => ?_)
                      · have hv := hv1 hc
                        clear hv1 hv2 hc
                        refine g_blk hC _ bX9_findOrder_185_203 (pc' := 203) (ls' := [some (.inr (some 96)), some (.inl x1_33), some (.inl x2_39), some (.inl x3_90), some (.inl x4_90), some (.inl x5_90), none]) (st' := [.inl x2_39, .inl x1_33, .inr (some 96), .inl (I_90 96 3), .inl x3_90, .inl ((120 * x1_33) + x2_39), .inr (some 111)]) (I' := I_90) rfl rfl ?_
                        obtain ⟨hp11, hv⟩ := hv
                        refine g_callV hC (c_X9_moves l D ads I_90 A_90 x1_33 x2_39 hp11) dX9_findOrder_203 nm_X9_moves rfl rfl wl_X9_149 wi_X9_moves ws_X9_moves wn_X9 wc_X9_moves ⟨by decide, by decide⟩ (as := [.inl x1_33, .inl x2_39]) (rest := [.inl (I_90 96 3), .inl x3_90, .inl ((120 * x1_33) + x2_39), .inr (some 111)]) rfl (Nat.le_of_ble_eq_true rfl) ⟨Nat.le_refl _, Nat.le_refl _⟩ (k_qI ?_)
                        refine g_blk hC _ bX9_findOrder_206_208 (pc' := 208) (ls' := [some (.inr (some 96)), some (.inl x1_33), some (.inl x2_39), some (.inl x3_90), some (.inl x4_90), some (.inl x5_90), none]) (st' := [.inl (x3_90 + ((I_90 96 3) * (mov A_90 x1_33 x2_39))), .inl ((120 * x1_33) + x2_39), .inr (some 111)]) (I' := I_90) rfl rfl ?_
                        obtain ⟨hi, hv⟩ := hv
                        refine g_iast hC dX9_findOrder_208 (rfl) hi ?_
                        clear hi
                        refine g_blk hC _ bX9_findOrder_209_221 (pc' := 221) (ls' := [some (.inr (some 96)), some (.inl x1_33), some (.inl x2_39), some (.inl x3_90), some (.inl x4_90), some (.inl x5_90), none]) (st' := [.inl x4_90, .inl ((120 * x1_33) + x2_39), .inr (some 112)]) (I' := I_90) rfl rfl ?_
                        obtain ⟨hi, hv⟩ := hv
                        refine g_iast hC dX9_findOrder_221 (rfl) hi ?_
                        clear hi
                        refine g_blk hC _ bX9_findOrder_222_225 (pc' := 225) (ls' := [some (.inr (some 96)), some (.inl x1_33), some (.inl (x2_39 + 1)), some (.inl x3_90), some (.inl x4_90), some (.inl x5_90), none]) (st' := []) (I' := I_90) rfl rfl ?_
                        refine g_goto hC dX9_findOrder_225 (tgt := 39) (by decide) ?_
                        exact g_weak (ls1 := [some (.inr (some 96)), some (.inl x1_33), some (.inl (x2_39 + 1)), none, none, none, none]) rfl (And.intro rfl (And.intro rfl (And.intro rfl trivial))) (ih39 (x2_39 + 1) I_90 (up2 (up2 A_90 111 ((120 * x1_33) + x2_39).toNatClampNeg (x3_90 + ((I_90 96 3) * (mov A_90 x1_33 x2_39)))) 112 ((120 * x1_33) + x2_39).toNatClampNeg x4_90) hv.1 (Nat.lt_of_lt_of_le hv.2 (Nat.le_of_lt_succ hn39)))
                      · have hv := hv2 hc
                        clear hv1 hv2 hc
                        refine g_blk hC _ bX9_findOrder_100_110 (pc' := 110) (ls' := [some (.inr (some 96)), some (.inl x1_33), some (.inl x2_39), some (.inl x3_90), some (.inl x4_90), some (.inl x5_90), none]) (st' := [.inl (x1_33 + 1), .inr (some 104), .inr (some 96), .inl x5_90]) (I' := I_90) rfl rfl ?_
                        obtain ⟨hi, hv⟩ := hv
                        refine g_iald hC dX9_findOrder_110 (rfl) hi ?_
                        clear hi
                        refine g_callV hC (c_X9_factorial l D ads I_90 A_90 (A_90 104 (x1_33 + 1).toNatClampNeg)) dX9_findOrder_111 nm_X9_factorial rfl rfl wl_X9_124 wi_X9_factorial ws_X9_factorial wn_X9 wc_X9_factorial ⟨by decide, by decide⟩ (as := [.inl (A_90 104 (x1_33 + 1).toNatClampNeg)]) (rest := [.inl x5_90]) rfl (Nat.le_of_ble_eq_true rfl) ⟨Nat.le_refl _, Nat.le_refl _⟩ (k_qI ?_)
                        obtain ⟨hv1, hv2⟩ := hv
                        refine g_cge hC dX9_findOrder_114 (tgt := 185) (by decide) (fun hc => ?_) (fun hc => ?_)
                        · have hv := hv1 hc
                          clear hv1 hv2 hc
                          refine g_blk hC _ bX9_findOrder_185_203 (pc' := 203) (ls' := [some (.inr (some 96)), some (.inl x1_33), some (.inl x2_39), some (.inl x3_90), some (.inl x4_90), some (.inl x5_90), none]) (st' := [.inl x2_39, .inl x1_33, .inr (some 96), .inl (I_90 96 3), .inl x3_90, .inl ((120 * x1_33) + x2_39), .inr (some 111)]) (I' := I_90) rfl rfl ?_
                          obtain ⟨hp13, hv⟩ := hv
                          refine g_callV hC (c_X9_moves l D ads I_90 A_90 x1_33 x2_39 hp13) dX9_findOrder_203 nm_X9_moves rfl rfl wl_X9_149 wi_X9_moves ws_X9_moves wn_X9 wc_X9_moves ⟨by decide, by decide⟩ (as := [.inl x1_33, .inl x2_39]) (rest := [.inl (I_90 96 3), .inl x3_90, .inl ((120 * x1_33) + x2_39), .inr (some 111)]) rfl (Nat.le_of_ble_eq_true rfl) ⟨Nat.le_refl _, Nat.le_refl _⟩ (k_qI ?_)
                          refine g_blk hC _ bX9_findOrder_206_208 (pc' := 208) (ls' := [some (.inr (some 96)), some (.inl x1_33), some (.inl x2_39), some (.inl x3_90), some (.inl x4_90), some (.inl x5_90), none]) (st' := [.inl (x3_90 + ((I_90 96 3) * (mov A_90 x1_33 x2_39))), .inl ((120 * x1_33) + x2_39), .inr (some 111)]) (I' := I_90) rfl rfl ?_
                          obtain ⟨hi, hv⟩ := hv
                          refine g_iast hC dX9_findOrder_208 (rfl) hi ?_
                          clear hi
                          refine g_blk hC _ bX9_findOrder_209_221 (pc' := 221) (ls' := [some (.inr (some 96)), some (.inl x1_33), some (.inl x2_39), some (.inl x3_90), some (.inl x4_90), some (.inl x5_90), none]) (st' := [.inl x4_90, .inl ((120 * x1_33) + x2_39), .inr (some 112)]) (I' := I_90) rfl rfl ?_
                          obtain ⟨hi, hv⟩ := hv
                          refine g_iast hC dX9_findOrder_221 (rfl) hi ?_
                          clear hi
                          refine g_blk hC _ bX9_findOrder_222_225 (pc' := 225) (ls' := [some (.inr (some 96)), some (.inl x1_33), some (.inl (x2_39 + 1)), some (.inl x3_90), some (.inl x4_90), some (.inl x5_90), none]) (st' := []) (I' := I_90) rfl rfl ?_
                          refine g_goto hC dX9_findOrder_225 (tgt := 39) (by decide) ?_
                          exact g_weak (ls1 := [some (.inr (some 96)), some (.inl x1_33), some (.inl (x2_39 + 1)), none, none, none, none]) rfl (And.intro rfl (And.intro rfl (And.intro rfl trivial))) (ih39 (x2_39 + 1) I_90 (up2 (up2 A_90 111 ((120 * x1_33) + x2_39).toNatClampNeg (x3_90 + ((I_90 96 3) * (mov A_90 x1_33 x2_39)))) 112 ((120 * x1_33) + x2_39).toNatClampNeg x4_90) hv.1 (Nat.lt_of_lt_of_le hv.2 (Nat.le_of_lt_succ hn39)))
                        · have hv := hv2 hc
                          clear hv1 hv2 hc
                          refine g_blk hC _ bX9_findOrder_117_122 (pc' := 122) (ls' := [some (.inr (some 96)), some (.inl x1_33), some (.inl x2_39), some (.inl x3_90), some (.inl x4_90), some (.inl x5_90), none]) (st' := [.inl x5_90, .inl x2_39, .inl x1_33, .inr (some 96)]) (I' := I_90) rfl rfl ?_
                          obtain ⟨hp14, hv⟩ := hv
                          refine g_callV hC (c_X9_crosses l D ads I_90 A_90 x1_33 x2_39 x5_90 hp14) dX9_findOrder_122 nm_X9_crosses rfl rfl wl_X9_146 wi_X9_crosses ws_X9_crosses wn_X9 wc_X9_crosses ⟨by decide, by decide⟩ (as := [.inl x1_33, .inl x2_39, .inl x5_90]) (rest := []) rfl (Nat.le_of_ble_eq_true rfl) ⟨Nat.le_refl _, Nat.le_refl _⟩ (k_qJ ?_)
                          intro r15 I15 A15 hq15
                          replace hv := hv r15 I15 A15 hq15
                          refine g_blk hC _ bX9_findOrder_125_138 (pc' := 138) (ls' := [some (.inr (some 96)), some (.inl x1_33), some (.inl x2_39), some (.inl x3_90), some (.inl x4_90), some (.inl x5_90), none]) (st' := [.inl ((120 * (x1_33 + 1)) + x5_90), .inr (some 111), .inl r15]) (I' := I15) rfl rfl ?_
                          obtain ⟨hi, hv⟩ := hv
                          refine g_iald hC dX9_findOrder_138 (rfl) hi ?_
                          clear hi
                          refine g_blk hC _ bX9_findOrder_139_145 (pc' := 145) (ls' := [some (.inr (some 96)), some (.inl x1_33), some (.inl x2_39), some (.inl x3_90), some (.inl x4_90), some (.inl x5_90), some (.inl (r15 + (A15 111 ((120 * (x1_33 + 1)) + x5_90).toNatClampNeg)))]) (st' := [.inl x3_90, .inl (r15 + (A15 111 ((120 * (x1_33 + 1)) + x5_90).toNatClampNeg))]) (I' := I15) rfl rfl ?_
                          obtain ⟨hv1, hv2⟩ := hv
                          refine g_cge hC dX9_findOrder_145 (tgt := 154) (by decide) (fun hc => ?_) (fun hc => ?_)
                          · have hv := hv1 hc
                            clear hv1 hv2 hc
                            refine g_blk hC _ bX9_findOrder_154_157 (pc' := 157) (ls' := [some (.inr (some 96)), some (.inl x1_33), some (.inl x2_39), some (.inl x3_90), some (.inl x4_90), some (.inl x5_90), some (.inl (r15 + (A15 111 ((120 * (x1_33 + 1)) + x5_90).toNatClampNeg)))]) (st' := [.inl x3_90, .inl (r15 + (A15 111 ((120 * (x1_33 + 1)) + x5_90).toNatClampNeg))]) (I' := I15) rfl rfl ?_
                            obtain ⟨hv1, hv2⟩ := hv
                            refine g_cne hC dX9_findOrder_157 (tgt := 179) (by decide) (fun hc => ?_) (fun hc => ?_)
                            · have hv := hv1 hc
                              clear hv1 hv2 hc
                              refine g_blk hC _ bX9_findOrder_179_182 (pc' := 182) (ls' := [some (.inr (some 96)), some (.inl x1_33), some (.inl x2_39), some (.inl x3_90), some (.inl x4_90), some (.inl (x5_90 + 1)), some (.inl (r15 + (A15 111 ((120 * (x1_33 + 1)) + x5_90).toNatClampNeg)))]) (st' := []) (I' := I15) rfl rfl ?_
                              refine g_goto hC dX9_findOrder_182 (tgt := 90) (by decide) ?_
                              exact g_weak (ls1 := [some (.inr (some 96)), some (.inl x1_33), some (.inl x2_39), some (.inl x3_90), some (.inl x4_90), some (.inl (x5_90 + 1)), none]) rfl (And.intro rfl (And.intro rfl (And.intro rfl (And.intro rfl (And.intro rfl (And.intro rfl trivial)))))) (ih90 x3_90 x4_90 (x5_90 + 1) I15 A15 hv.1 (Nat.lt_of_lt_of_le hv.2 (Nat.le_of_lt_succ hn90)))
                            · have hv := hv2 hc
                              clear hv1 hv2 hc
                              refine g_blk hC _ bX9_findOrder_160_175 (pc' := 175) (ls' := [some (.inr (some 96)), some (.inl x1_33), some (.inl x2_39), some (.inl x3_90), some (.inl x4_90), some (.inl x5_90), some (.inl (r15 + (A15 111 ((120 * (x1_33 + 1)) + x5_90).toNatClampNeg)))]) (st' := [.inl ((120 * (x1_33 + 1)) + x5_90), .inr (some 112), .inl x4_90]) (I' := I15) rfl rfl ?_
                              obtain ⟨hi, hv⟩ := hv
                              refine g_iald hC dX9_findOrder_175 (rfl) hi ?_
                              clear hi
                              refine g_blk hC _ bX9_findOrder_176_182 (pc' := 182) (ls' := [some (.inr (some 96)), some (.inl x1_33), some (.inl x2_39), some (.inl x3_90), some (.inl (x4_90 + (A15 112 ((120 * (x1_33 + 1)) + x5_90).toNatClampNeg))), some (.inl (x5_90 + 1)), some (.inl (r15 + (A15 111 ((120 * (x1_33 + 1)) + x5_90).toNatClampNeg)))]) (st' := []) (I' := I15) rfl rfl ?_
                              refine g_goto hC dX9_findOrder_182 (tgt := 90) (by decide) ?_
                              exact g_weak (ls1 := [some (.inr (some 96)), some (.inl x1_33), some (.inl x2_39), some (.inl x3_90), some (.inl (x4_90 + (A15 112 ((120 * (x1_33 + 1)) + x5_90).toNatClampNeg))), some (.inl (x5_90 + 1)), none]) rfl (And.intro rfl (And.intro rfl (And.intro rfl (And.intro rfl (And.intro rfl (And.intro rfl trivial)))))) (ih90 x3_90 (x4_90 + (A15 112 ((120 * (x1_33 + 1)) + x5_90).toNatClampNeg)) (x5_90 + 1) I15 A15 hv.1 (Nat.lt_of_lt_of_le hv.2 (Nat.le_of_lt_succ hn90)))
                          · have hv := hv2 hc
                            clear hv1 hv2 hc
                            refine g_blk hC _ bX9_findOrder_148_157 (pc' := 157) (ls' := [some (.inr (some 96)), some (.inl x1_33), some (.inl x2_39), some (.inl (r15 + (A15 111 ((120 * (x1_33 + 1)) + x5_90).toNatClampNeg))), some (.inl 0), some (.inl x5_90), some (.inl (r15 + (A15 111 ((120 * (x1_33 + 1)) + x5_90).toNatClampNeg)))]) (st' := [.inl (r15 + (A15 111 ((120 * (x1_33 + 1)) + x5_90).toNatClampNeg)), .inl (r15 + (A15 111 ((120 * (x1_33 + 1)) + x5_90).toNatClampNeg))]) (I' := I15) rfl rfl ?_
                            obtain ⟨hv1, hv2⟩ := hv
                            refine g_cne hC dX9_findOrder_157 (tgt := 179) (by decide) (fun hc => ?_) (fun hc => ?_)
                            · have hv := hv1 hc
                              clear hv1 hv2 hc
                              refine g_blk hC _ bX9_findOrder_179_182 (pc' := 182) (ls' := [some (.inr (some 96)), some (.inl x1_33), some (.inl x2_39), some (.inl (r15 + (A15 111 ((120 * (x1_33 + 1)) + x5_90).toNatClampNeg))), some (.inl 0), some (.inl (x5_90 + 1)), some (.inl (r15 + (A15 111 ((120 * (x1_33 + 1)) + x5_90).toNatClampNeg)))]) (st' := []) (I' := I15) rfl rfl ?_
                              refine g_goto hC dX9_findOrder_182 (tgt := 90) (by decide) ?_
                              exact g_weak (ls1 := [some (.inr (some 96)), some (.inl x1_33), some (.inl x2_39), some (.inl (r15 + (A15 111 ((120 * (x1_33 + 1)) + x5_90).toNatClampNeg))), some (.inl 0), some (.inl (x5_90 + 1)), none]) rfl (And.intro rfl (And.intro rfl (And.intro rfl (And.intro rfl (And.intro rfl (And.intro rfl trivial)))))) (ih90 (r15 + (A15 111 ((120 * (x1_33 + 1)) + x5_90).toNatClampNeg)) 0 (x5_90 + 1) I15 A15 hv.1 (Nat.lt_of_lt_of_le hv.2 (Nat.le_of_lt_succ hn90)))
                            · have hv := hv2 hc
                              clear hv1 hv2 hc
                              refine g_blk hC _ bX9_findOrder_160_175 (pc' := 175) (ls' := [some (.inr (some 96)), some (.inl x1_33), some (.inl x2_39), some (.inl (r15 + (A15 111 ((120 * (x1_33 + 1)) + x5_90).toNatClampNeg))), some (.inl 0), some (.inl x5_90), some (.inl (r15 + (A15 111 ((120 * (x1_33 + 1)) + x5_90).toNatClampNeg)))]) (st' := [.inl ((120 * (x1_33 + 1)) + x5_90), .inr (some 112), .inl 0]) (I' := I15) rfl rfl ?_
                              obtain ⟨hi, hv⟩ := hv
                              refine g_iald hC dX9_findOrder_175 (rfl) hi ?_
                              clear hi
                              refine g_blk hC _ bX9_findOrder_176_182 (pc' := 182) (ls' := [some (.inr (some 96)), some (.inl x1_33), some (.inl x2_39), some (.inl (r15 + (A15 111 ((120 * (x1_33 + 1)) + x5_90).toNatClampNeg))), some (.inl (0 + (A15 112 ((120 * (x1_33 + 1)) + x5_90).toNatClampNeg))), some (.inl (x5_90 + 1)), some (.inl (r15 + (A15 111 ((120 * (x1_33 + 1)) + x5_90).toNatClampNeg)))]) (st' := []) (I' := I15) rfl rfl ?_
                              refine g_goto hC dX9_findOrder_182 (tgt := 90) (by decide) ?_
                              exact g_weak (ls1 := [some (.inr (some 96)), some (.inl x1_33), some (.inl x2_39), some (.inl (r15 + (A15 111 ((120 * (x1_33 + 1)) + x5_90).toNatClampNeg))), some (.inl (0 + (A15 112 ((120 * (x1_33 + 1)) + x5_90).toNatClampNeg))), some (.inl (x5_90 + 1)), none]) rfl (And.intro rfl (And.intro rfl (And.intro rfl (And.intro rfl (And.intro rfl (And.intro rfl trivial)))))) (ih90 (r15 + (A15 111 ((120 * (x1_33 + 1)) + x5_90).toNatClampNeg)) (0 + (A15 112 ((120 * (x1_33 + 1)) + x5_90).toNatClampNeg)) (x5_90 + 1) I15 A15 hv.1 (Nat.lt_of_lt_of_le hv.2 (Nat.le_of_lt_succ hn90)))
                  exact g_weak (ls1 := [some (.inr (some 96)), some (.inl x1_33), some (.inl x2_39), some (.inl x3_87), some (.inl x4_87), some (.inl 0), none]) rfl (And.intro rfl (And.intro rfl (And.intro rfl (And.intro rfl (And.intro rfl (And.intro rfl trivial)))))) (L90 _ x3_87 x4_87 0 I_39 A_39 hi90 (Nat.lt_succ_self _))
                refine g_blk hC _ bX9_findOrder_53_60 (pc' := 60) (ls' := [some (.inr (some 96)), some (.inl x1_33), some (.inl x2_39), none, none, none, none]) (st' := [.inl ((I_39 96 12) - 1), .inl x1_33]) (I' := I_39) rfl rfl ?_
                obtain ⟨hv1, hv2⟩ := hv
                refine g_cne hC dX9_findOrder_60 (tgt := 67) (by decide) (fun hc => ?_) (fun hc => ?_)
                · have hv := hv1 hc
                  clear hv1 hv2 hc
                  refine g_blk hC _ bX9_findOrder_67_77 (pc' := 77) (ls' := [some (.inr (some 96)), some (.inl x1_33), some (.inl x2_39), some (.inl 1000000000), none, none, none]) (st' := [.inl ((I_39 96 12) - 1), .inl x1_33]) (I' := I_39) rfl rfl ?_
                  obtain ⟨hv1, hv2⟩ := hv
                  refine g_cne hC dX9_findOrder_77 (tgt := 84) (by decide) (fun hc => ?_) (fun hc => ?_)
                  · have hv := hv1 hc
                    clear hv1 hv2 hc
                    refine g_blk hC _ bX9_findOrder_84_87 (pc' := 87) (ls' := [some (.inr (some 96)), some (.inl x1_33), some (.inl x2_39), some (.inl 1000000000), some (.inl 0), none, none]) (st' := []) (I' := I_39) rfl rfl ?_
                    exact g_weak (ls1 := [some (.inr (some 96)), some (.inl x1_33), some (.inl x2_39), some (.inl 1000000000), some (.inl 0), none, none]) rfl (And.intro rfl (And.intro rfl (And.intro rfl (And.intro rfl (And.intro rfl trivial))))) (J87 1000000000 0 hv)
                  · have hv := hv2 hc
                    clear hv1 hv2 hc
                    refine g_blk hC _ bX9_findOrder_80_81 (pc' := 81) (ls' := [some (.inr (some 96)), some (.inl x1_33), some (.inl x2_39), some (.inl 1000000000), none, none, none]) (st' := [.inl 1]) (I' := I_39) rfl rfl ?_
                    refine g_goto hC dX9_findOrder_81 (tgt := 85) (by decide) ?_
                    refine g_blk hC _ bX9_findOrder_85_87 (pc' := 87) (ls' := [some (.inr (some 96)), some (.inl x1_33), some (.inl x2_39), some (.inl 1000000000), some (.inl 1), none, none]) (st' := []) (I' := I_39) rfl rfl ?_
                    exact g_weak (ls1 := [some (.inr (some 96)), some (.inl x1_33), some (.inl x2_39), some (.inl 1000000000), some (.inl 1), none, none]) rfl (And.intro rfl (And.intro rfl (And.intro rfl (And.intro rfl (And.intro rfl trivial))))) (J87 1000000000 1 hv)
                · have hv := hv2 hc
                  clear hv1 hv2 hc
                  refine g_blk hC _ bX9_findOrder_63_64 (pc' := 64) (ls' := [some (.inr (some 96)), some (.inl x1_33), some (.inl x2_39), none, none, none, none]) (st' := [.inl 0]) (I' := I_39) rfl rfl ?_
                  refine g_goto hC dX9_findOrder_64 (tgt := 69) (by decide) ?_
                  refine g_blk hC _ bX9_findOrder_69_77 (pc' := 77) (ls' := [some (.inr (some 96)), some (.inl x1_33), some (.inl x2_39), some (.inl 0), none, none, none]) (st' := [.inl ((I_39 96 12) - 1), .inl x1_33]) (I' := I_39) rfl rfl ?_
                  obtain ⟨hv1, hv2⟩ := hv
                  refine g_cne hC dX9_findOrder_77 (tgt := 84) (by decide) (fun hc => ?_) (fun hc => ?_)
                  · have hv := hv1 hc
                    clear hv1 hv2 hc
                    refine g_blk hC _ bX9_findOrder_84_87 (pc' := 87) (ls' := [some (.inr (some 96)), some (.inl x1_33), some (.inl x2_39), some (.inl 0), some (.inl 0), none, none]) (st' := []) (I' := I_39) rfl rfl ?_
                    exact g_weak (ls1 := [some (.inr (some 96)), some (.inl x1_33), some (.inl x2_39), some (.inl 0), some (.inl 0), none, none]) rfl (And.intro rfl (And.intro rfl (And.intro rfl (And.intro rfl (And.intro rfl trivial))))) (J87 0 0 hv)
                  · have hv := hv2 hc
                    clear hv1 hv2 hc
                    refine g_blk hC _ bX9_findOrder_80_81 (pc' := 81) (ls' := [some (.inr (some 96)), some (.inl x1_33), some (.inl x2_39), some (.inl 0), none, none, none]) (st' := [.inl 1]) (I' := I_39) rfl rfl ?_
                    refine g_goto hC dX9_findOrder_81 (tgt := 85) (by decide) ?_
                    refine g_blk hC _ bX9_findOrder_85_87 (pc' := 87) (ls' := [some (.inr (some 96)), some (.inl x1_33), some (.inl x2_39), some (.inl 0), some (.inl 1), none, none]) (st' := []) (I' := I_39) rfl rfl ?_
                    exact g_weak (ls1 := [some (.inr (some 96)), some (.inl x1_33), some (.inl x2_39), some (.inl 0), some (.inl 1), none, none]) rfl (And.intro rfl (And.intro rfl (And.intro rfl (And.intro rfl (And.intro rfl trivial))))) (J87 0 1 hv)
          exact g_weak (ls1 := [some (.inr (some 96)), some (.inl x1_33), some (.inl 0), none, none, none, none]) rfl (And.intro rfl (And.intro rfl (And.intro rfl trivial))) (L39 _ 0 I_33 A_33 hi39 (Nat.lt_succ_self _))
    exact g_weak (ls1 := [some (.inr (some 96)), some (.inl (((up2 (up2 I4 96 27 0) 96 28 1) 96 12) - 1)), none, none, none, none, none]) rfl (And.intro rfl (And.intro rfl trivial)) (L33 _ (((up2 (up2 I4 96 27 0) 96 28 1) 96 12) - 1) (up2 (up2 I4 96 27 0) 96 28 1) A4 hi33 (Nat.lt_succ_self _))
  · have hv := hv2 hc
    clear hv1 hv2 hc
    exact g_retv hC hr dX9_findOrder_11 hv
set_option maxHeartbeats 4000000 in
set_option maxRecDepth 100000 in
theorem c_X9_findOrder (l : Launch) (D : va_G) (ads : AD) (I A : HI) (hp : MOK I A) : Ct l yX9_findOrder cX9_findOrder 7 none 3 72 D ads shp [.inr (some 96)] I A (qV (fun I' A' => fOr I A I' A')) := by
  sorry
