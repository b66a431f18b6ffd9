theorem la_c0 : la_cs [rc_k01_k, rc_m04_k] 0 0 = true := sorry
theorem la_c1 : la_cs [rc_k02_k, rc_m86_k] 1 1 = true := sorry
theorem la_c2 : la_cs [rc_k03_k, rc_m88_k] 2 2 = true := sorry
theorem la_c3 : la_cs [rc_k04_k, rc_m85_k] 3 3 = true := sorry
theorem la_c4 : la_cs [rc_k05_k, rc_m36_k] 4 4 = true := sorry
theorem la_c7 : la_cs [rc_k06_k, rc_m39_k] 7 7 = true := sorry
theorem la_c8 : la_cs [rc_k08_k, rc_m44_k] 8 8 = true := sorry
theorem la_c9 : la_cs [rc_k09_k, rc_m45_k] 9 9 = true := sorry
theorem la_c10 : la_cs [rc_k10_k, rc_m46_k] 10 10 = true := sorry
theorem la_c11 : la_cs [rc_k11_k, rc_m47_k] 11 11 = true := sorry
theorem la_c12 : la_cs [rc_k12_k, rc_m52_k] 12 12 = true := sorry
theorem la_c13 : la_cs [rc_k13_k, rc_m48_k] 13 13 = true := sorry
theorem la_c14 : la_cs [rc_k14_k, rc_m53_k] 14 14 = true := sorry
theorem la_c15 : la_cs [rc_k15_k, rc_m54_k] 15 15 = true := sorry
theorem la_c16 : la_cs [rc_k16_k, rc_fit_k] 16 16 = true := sorry
theorem la_c17 : la_cs [rc_k17_k, rc_m55_k] 17 17 = true := sorry
theorem la_c18 : la_cs [rc_k18_k, rc_m56_k] 18 18 = true := sorry
theorem la_c19 : la_cs [rc_k19_k, rc_m58_k] 19 19 = true := sorry
theorem la_c20 : la_cs [rc_k20_k, rc_m59_k] 20 20 = true := sorry
theorem la_c21 : la_cs [rc_k22_k, rc_m63_k] 21 21 = true := sorry
theorem la_c22 : la_cs [rc_k23_k, rc_way_k] 22 22 = true := sorry
theorem la_c23 : la_cs [rc_k24_k, rc_m64_k] 23 23 = true := sorry
theorem la_c24 : la_cs [rc_k26_k, rc_m68_k] 24 24 = true := sorry
theorem la_c25 : la_cs [rc_k27_k, rc_m69_k] 25 25 = true := sorry
theorem la_c26 : la_cs [rc_k28_k, rc_m70_k] 26 26 = true := sorry
theorem la_c27 : la_cs [rc_k29_k, rc_m71_k] 27 27 = true := sorry
theorem la_c28 : la_cs [rc_k30_k, rc_m74_k] 28 28 = true := sorry
theorem la_c29 : la_cs [rc_k31_k, rc_m72_k] 29 29 = true := sorry
theorem la_c30 : la_cs [rc_k32_k, rc_m80_k] 30 30 = true := sorry
theorem la_c31 : la_cs [rc_k33_k, rc_m81_k] 31 31 = true := sorry
theorem la_c32 : la_cs [rc_k34_k, rc_m95_k] 32 32 = true := sorry
theorem la_c33 : la_cs [rc_k35_k, rc_m96_k] 33 33 = true := sorry
theorem la_c34 : la_cs [rc_k36_k, rn_n80_k] 34 34 = true := sorry
theorem la_c35 : la_cs [rc_k37_k, rn_n83_k] 35 35 = true := sorry
theorem la_c36 : la_cs [rc_k41_k, rc_k38_k, rn_n84_k, rc_k39_k, rn_n85_k] 36 36 = true := sorry
theorem la_c37 : la_cs [rc_k39_k, rn_n85_k] 37 37 = true := sorry
theorem la_c38 : la_cs [rc_k40_k, rc_m84_k] 38 38 = true := sorry
theorem la_c39 : la_cs [] 39 63 = true := sorry
theorem la_c5 : la_k5 [rc_wc_k] [rc_m37_k] = true := sorry
theorem la_c6 : la_k6 [rc_s2_k, rc_s3_k] [rc_m38_k] = true := sorry
