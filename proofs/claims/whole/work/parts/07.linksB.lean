theorem lkm_0 : ((mlP.drop 0).take 30).all mlB = true := by decide +kernel
theorem lkm_30 : ((mlP.drop 30).take 30).all mlB = true := by decide +kernel
theorem lkm_60 : ((mlP.drop 60).take 30).all mlB = true := by decide +kernel
theorem lkm_90 : ((mlP.drop 90).take 30).all mlB = true := by decide +kernel
theorem lkm_120 : ((mlP.drop 120).take 30).all mlB = true := by decide +kernel
theorem lkm_150 : ((mlP.drop 150).take 30).all mlB = true := by decide +kernel
theorem lkm_180 : ((mlP.drop 180).take 30).all mlB = true := by decide +kernel
theorem lkm_210 : ((mlP.drop 210).take 30).all mlB = true := by decide +kernel
theorem lkm_240 : ((mlP.drop 240).take 30).all mlB = true := by decide +kernel
theorem lkm_270 : ((mlP.drop 270).take 30).all mlB = true := by decide +kernel
theorem lkm_300 : ((mlP.drop 300).take 30).all mlB = true := by decide +kernel
theorem lkm_330 : (mlP.drop 330).all mlB = true := by decide +kernel
theorem lkm_all : mlP.all mlB = true := all_dr 0 30 lkm_0 (all_dr 30 30 lkm_30 (all_dr 60 30 lkm_60 (all_dr 90 30 lkm_90 (all_dr 120 30 lkm_120 (all_dr 150 30 lkm_150 (all_dr 180 30 lkm_180 (all_dr 210 30 lkm_210 (all_dr 240 30 lkm_240 (all_dr 270 30 lkm_270 (all_dr 300 30 lkm_300 (lkm_330)))))))))))
theorem lkf_0 : ((flP.drop 0).take 40).all flB = true := by decide +kernel
theorem lkf_40 : ((flP.drop 40).take 40).all flB = true := by decide +kernel
theorem lkf_80 : ((flP.drop 80).take 40).all flB = true := by decide +kernel
theorem lkf_120 : ((flP.drop 120).take 40).all flB = true := by decide +kernel
theorem lkf_160 : ((flP.drop 160).take 40).all flB = true := by decide +kernel
theorem lkf_200 : (flP.drop 200).all flB = true := by decide +kernel
theorem lkf_all : flP.all flB = true := all_dr 0 40 lkf_0 (all_dr 40 40 lkf_40 (all_dr 80 40 lkf_80 (all_dr 120 40 lkf_120 (all_dr 160 40 lkf_160 (lkf_200)))))
theorem lkc_all : clP.all clB = true := by decide +kernel
theorem lki_all : ciP.all ciB = true := by decide +kernel
theorem lkj_all : cjP.all cjB = true := by decide +kernel
