theorem ok_240_0 : ((k_WFModel_total.drop 0).take 40).all (okB 240) = true := by decide +kernel
theorem ok_240_40 : (k_WFModel_total.drop 40).all (okB 240) = true := by decide +kernel
theorem ok_240 : (k_WFModel_total).all (okB 240) = true := all_dr 0 40 ok_240_0 (ok_240_40)
theorem ok_241 : (k_WFModel_lost).all (okB 241) = true := by decide +kernel
theorem ok_242 : (k_WFModel_isYes).all (okB 242) = true := by decide +kernel
theorem ok_243 : (k_WFModel_allSums).all (okB 243) = true := by decide +kernel
theorem ok_244 : (k_WFModel_allShort).all (okB 244) = true := by decide +kernel
theorem ok_245_0 : ((k_WFModel_bound.drop 0).take 40).all (okB 245) = true := by decide +kernel
theorem ok_245_40 : (k_WFModel_bound.drop 40).all (okB 245) = true := by decide +kernel
theorem ok_245 : (k_WFModel_bound).all (okB 245) = true := all_dr 0 40 ok_245_0 (ok_245_40)
theorem ok_246 : (k_WFModel_pairs).all (okB 246) = true := by decide +kernel
theorem ok_247 : (k_WFModel_isEnvying).all (okB 247) = true := by decide +kernel
theorem ok_248 : (k_WFModel_many).all (okB 248) = true := by decide +kernel
theorem ok_249 : (k_WFModel_borders).all (okB 249) = true := by decide +kernel
theorem ok_250 : (k_WFModel_bars).all (okB 250) = true := by decide +kernel
theorem ok_251_0 : ((k_WFModel_barsNow.drop 0).take 40).all (okB 251) = true := by decide +kernel
theorem ok_251_40 : ((k_WFModel_barsNow.drop 40).take 40).all (okB 251) = true := by decide +kernel
theorem ok_251_80 : ((k_WFModel_barsNow.drop 80).take 40).all (okB 251) = true := by decide +kernel
theorem ok_251_120 : (k_WFModel_barsNow.drop 120).all (okB 251) = true := by decide +kernel
theorem ok_251 : (k_WFModel_barsNow).all (okB 251) = true := all_dr 0 40 ok_251_0 (all_dr 40 40 ok_251_40 (all_dr 80 40 ok_251_80 (ok_251_120)))
theorem ok_252_0 : ((k_WFModel_hangs.drop 0).take 40).all (okB 252) = true := by decide +kernel
theorem ok_252_40 : ((k_WFModel_hangs.drop 40).take 40).all (okB 252) = true := by decide +kernel
theorem ok_252_80 : (k_WFModel_hangs.drop 80).all (okB 252) = true := by decide +kernel
theorem ok_252 : (k_WFModel_hangs).all (okB 252) = true := all_dr 0 40 ok_252_0 (all_dr 40 40 ok_252_40 (ok_252_80))
theorem ok_253_0 : ((k_WFModel_isSquare.drop 0).take 40).all (okB 253) = true := by decide +kernel
theorem ok_253_40 : ((k_WFModel_isSquare.drop 40).take 40).all (okB 253) = true := by decide +kernel
theorem ok_253_80 : (k_WFModel_isSquare.drop 80).all (okB 253) = true := by decide +kernel
theorem ok_253 : (k_WFModel_isSquare).all (okB 253) = true := all_dr 0 40 ok_253_0 (all_dr 40 40 ok_253_40 (ok_253_80))
theorem ok_254 : (k_WFModel_barred).all (okB 254) = true := by decide +kernel
theorem ok_255 : (k_WFModel_envies).all (okB 255) = true := by decide +kernel
theorem ok_256 : (k_WFModel_votes).all (okB 256) = true := by decide +kernel
theorem ok_257_0 : ((k_WFModel_grow.drop 0).take 40).all (okB 257) = true := by decide +kernel
theorem ok_257_40 : ((k_WFModel_grow.drop 40).take 40).all (okB 257) = true := by decide +kernel
theorem ok_257_80 : ((k_WFModel_grow.drop 80).take 40).all (okB 257) = true := by decide +kernel
theorem ok_257_120 : (k_WFModel_grow.drop 120).all (okB 257) = true := by decide +kernel
theorem ok_257 : (k_WFModel_grow).all (okB 257) = true := all_dr 0 40 ok_257_0 (all_dr 40 40 ok_257_40 (all_dr 80 40 ok_257_80 (ok_257_120)))
theorem ok_258_0 : ((k_WFModel_taken.drop 0).take 40).all (okB 258) = true := by decide +kernel
theorem ok_258_40 : (k_WFModel_taken.drop 40).all (okB 258) = true := by decide +kernel
theorem ok_258 : (k_WFModel_taken).all (okB 258) = true := all_dr 0 40 ok_258_0 (ok_258_40)
theorem ok_259 : (k_WFModel_better).all (okB 259) = true := by decide +kernel
theorem ok_260_0 : ((k_WFModel_isMoved.drop 0).take 40).all (okB 260) = true := by decide +kernel
theorem ok_260_40 : ((k_WFModel_isMoved.drop 40).take 40).all (okB 260) = true := by decide +kernel
theorem ok_260_80 : (k_WFModel_isMoved.drop 80).all (okB 260) = true := by decide +kernel
theorem ok_260 : (k_WFModel_isMoved).all (okB 260) = true := all_dr 0 40 ok_260_0 (all_dr 40 40 ok_260_40 (ok_260_80))
theorem ok_261 : (k_WFModel_looks).all (okB 261) = true := by decide +kernel
theorem ok_262 : (k_WFModel_exchanges).all (okB 262) = true := by decide +kernel
theorem ok_263 : (k_WFModel_can).all (okB 263) = true := by decide +kernel
theorem ok_264_0 : ((k_WFModel_best.drop 0).take 40).all (okB 264) = true := by decide +kernel
theorem ok_264_40 : ((k_WFModel_best.drop 40).take 40).all (okB 264) = true := by decide +kernel
theorem ok_264_80 : ((k_WFModel_best.drop 80).take 40).all (okB 264) = true := by decide +kernel
theorem ok_264_120 : ((k_WFModel_best.drop 120).take 40).all (okB 264) = true := by decide +kernel
theorem ok_264_160 : ((k_WFModel_best.drop 160).take 40).all (okB 264) = true := by decide +kernel
theorem ok_264_200 : (k_WFModel_best.drop 200).all (okB 264) = true := by decide +kernel
theorem ok_264 : (k_WFModel_best).all (okB 264) = true := all_dr 0 40 ok_264_0 (all_dr 40 40 ok_264_40 (all_dr 80 40 ok_264_80 (all_dr 120 40 ok_264_120 (all_dr 160 40 ok_264_160 (ok_264_200)))))
theorem ok_265 : (k_WFModel_stakes).all (okB 265) = true := by decide +kernel
theorem ok_266 : (k_WFModel_isField).all (okB 266) = true := by decide +kernel
theorem ok_267_0 : ((k_WFModel_walks.drop 0).take 40).all (okB 267) = true := by decide +kernel
theorem ok_267_40 : ((k_WFModel_walks.drop 40).take 40).all (okB 267) = true := by decide +kernel
theorem ok_267_80 : ((k_WFModel_walks.drop 80).take 40).all (okB 267) = true := by decide +kernel
theorem ok_267_120 : ((k_WFModel_walks.drop 120).take 40).all (okB 267) = true := by decide +kernel
theorem ok_267_160 : ((k_WFModel_walks.drop 160).take 40).all (okB 267) = true := by decide +kernel
theorem ok_267_200 : (k_WFModel_walks.drop 200).all (okB 267) = true := by decide +kernel
theorem ok_267 : (k_WFModel_walks).all (okB 267) = true := all_dr 0 40 ok_267_0 (all_dr 40 40 ok_267_40 (all_dr 80 40 ok_267_80 (all_dr 120 40 ok_267_120 (all_dr 160 40 ok_267_160 (ok_267_200)))))
theorem ok_268 : (k_WFModel_isIn).all (okB 268) = true := by decide +kernel
theorem ok_269 : (k_WFModel_stake).all (okB 269) = true := by decide +kernel
theorem ok_270_0 : ((k_WFModel_within.drop 0).take 40).all (okB 270) = true := by decide +kernel
theorem ok_270_40 : ((k_WFModel_within.drop 40).take 40).all (okB 270) = true := by decide +kernel
theorem ok_270_80 : (k_WFModel_within.drop 80).all (okB 270) = true := by decide +kernel
theorem ok_270 : (k_WFModel_within).all (okB 270) = true := all_dr 0 40 ok_270_0 (all_dr 40 40 ok_270_40 (ok_270_80))
theorem ok_271_0 : ((k_WFModel_split.drop 0).take 40).all (okB 271) = true := by decide +kernel
theorem ok_271_40 : ((k_WFModel_split.drop 40).take 40).all (okB 271) = true := by decide +kernel
theorem ok_271_80 : ((k_WFModel_split.drop 80).take 40).all (okB 271) = true := by decide +kernel
theorem ok_271_120 : ((k_WFModel_split.drop 120).take 40).all (okB 271) = true := by decide +kernel
theorem ok_271_160 : ((k_WFModel_split.drop 160).take 40).all (okB 271) = true := by decide +kernel
theorem ok_271_200 : (k_WFModel_split.drop 200).all (okB 271) = true := by decide +kernel
theorem ok_271 : (k_WFModel_split).all (okB 271) = true := all_dr 0 40 ok_271_0 (all_dr 40 40 ok_271_40 (all_dr 80 40 ok_271_80 (all_dr 120 40 ok_271_120 (all_dr 160 40 ok_271_160 (ok_271_200)))))
theorem ok_272 : (k_WFModel_bits).all (okB 272) = true := by decide +kernel
theorem ok_273 : (k_WFModel_part).all (okB 273) = true := by decide +kernel
theorem ok_274_0 : ((k_WFModel_corner.drop 0).take 40).all (okB 274) = true := by decide +kernel
theorem ok_274_40 : (k_WFModel_corner.drop 40).all (okB 274) = true := by decide +kernel
theorem ok_274 : (k_WFModel_corner).all (okB 274) = true := all_dr 0 40 ok_274_0 (ok_274_40)
theorem ok_275 : (k_WFModel_clear).all (okB 275) = true := by decide +kernel
theorem ok_276_0 : ((k_WFModel_ditches.drop 0).take 40).all (okB 276) = true := by decide +kernel
theorem ok_276_40 : ((k_WFModel_ditches.drop 40).take 40).all (okB 276) = true := by decide +kernel
theorem ok_276_80 : ((k_WFModel_ditches.drop 80).take 40).all (okB 276) = true := by decide +kernel
theorem ok_276_120 : (k_WFModel_ditches.drop 120).all (okB 276) = true := by decide +kernel
theorem ok_276 : (k_WFModel_ditches).all (okB 276) = true := all_dr 0 40 ok_276_0 (all_dr 40 40 ok_276_40 (all_dr 80 40 ok_276_80 (ok_276_120)))
theorem ok_277_0 : ((k_WFModel_spreads.drop 0).take 40).all (okB 277) = true := by decide +kernel
theorem ok_277_40 : ((k_WFModel_spreads.drop 40).take 40).all (okB 277) = true := by decide +kernel
theorem ok_277_80 : (k_WFModel_spreads.drop 80).all (okB 277) = true := by decide +kernel
theorem ok_277 : (k_WFModel_spreads).all (okB 277) = true := all_dr 0 40 ok_277_0 (all_dr 40 40 ok_277_40 (ok_277_80))
theorem ok_278_0 : ((k_WFModel_isBorder.drop 0).take 40).all (okB 278) = true := by decide +kernel
theorem ok_278_40 : ((k_WFModel_isBorder.drop 40).take 40).all (okB 278) = true := by decide +kernel
theorem ok_278_80 : (k_WFModel_isBorder.drop 80).all (okB 278) = true := by decide +kernel
theorem ok_278 : (k_WFModel_isBorder).all (okB 278) = true := all_dr 0 40 ok_278_0 (all_dr 40 40 ok_278_40 (ok_278_80))
theorem ok_279_0 : ((k_WFModel_count.drop 0).take 40).all (okB 279) = true := by decide +kernel
theorem ok_279_40 : ((k_WFModel_count.drop 40).take 40).all (okB 279) = true := by decide +kernel
theorem ok_279_80 : (k_WFModel_count.drop 80).all (okB 279) = true := by decide +kernel
theorem ok_279 : (k_WFModel_count).all (okB 279) = true := all_dr 0 40 ok_279_0 (all_dr 40 40 ok_279_40 (ok_279_80))
theorem ok_280 : (k_WFModel_trouble).all (okB 280) = true := by decide +kernel
