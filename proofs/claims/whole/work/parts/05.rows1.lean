set_option maxRecDepth 100000 in
theorem zr_0 : ztb0.all (zrok 0) = true := by decide +kernel
set_option maxRecDepth 100000 in
theorem zr_1 : ztb1.all (zrok 1) = true := by decide +kernel
set_option maxRecDepth 100000 in
theorem zr_2 : ztb2.all (zrok 2) = true := by decide +kernel
set_option maxRecDepth 100000 in
theorem zr_3 : ztb3.all (zrok 3) = true := by decide +kernel
set_option maxRecDepth 100000 in
theorem zr_4 : ztb4.all (zrok 4) = true := by decide +kernel
set_option maxRecDepth 100000 in
theorem zr_5 : ztb5.all (zrok 5) = true := by decide +kernel
set_option maxRecDepth 100000 in
theorem zr_6 : ztb6.all (zrok 6) = true := by decide +kernel
set_option maxRecDepth 100000 in
theorem zr_7 : ztb7.all (zrok 7) = true := by decide +kernel
set_option maxRecDepth 100000 in
theorem zr_8 : ztb8.all (zrok 8) = true := by decide +kernel
set_option maxRecDepth 100000 in
theorem zr_9 : ztb9.all (zrok 9) = true := by decide +kernel
set_option maxRecDepth 100000 in
theorem zr_10 : ztb10.all (zrok 10) = true := by decide +kernel
set_option maxRecDepth 100000 in
theorem zr_11 : ztb11.all (zrok 11) = true := by decide +kernel
set_option maxRecDepth 100000 in
theorem zr_12 : ztb12.all (zrok 12) = true := by decide +kernel
set_option maxRecDepth 100000 in
theorem zr_13 : ztb13.all (zrok 13) = true := by decide +kernel
set_option maxRecDepth 100000 in
theorem zr_14 : ztb14.all (zrok 14) = true := by decide +kernel
set_option maxRecDepth 100000 in
theorem zr_15 : ztb15.all (zrok 15) = true := by decide +kernel
set_option maxRecDepth 100000 in
theorem zr_16 : ztb16.all (zrok 16) = true := by decide +kernel
set_option maxRecDepth 100000 in
theorem zr_17 : ztb17.all (zrok 17) = true := by decide +kernel
set_option maxRecDepth 100000 in
theorem zr_18 : ztb18.all (zrok 18) = true := by decide +kernel
set_option maxRecDepth 100000 in
theorem zr_19 : ztb19.all (zrok 19) = true := by decide +kernel
set_option maxRecDepth 100000 in
theorem zr_20 : ztb20.all (zrok 20) = true := by decide +kernel
set_option maxRecDepth 100000 in
theorem zr_21 : ztb21.all (zrok 21) = true := by decide +kernel
set_option maxRecDepth 100000 in
theorem zr_22 : ztb22.all (zrok 22) = true := by decide +kernel
set_option maxRecDepth 100000 in
theorem zr_23 : ztb23.all (zrok 23) = true := by decide +kernel
set_option maxRecDepth 100000 in
theorem zr_24 : ztb24.all (zrok 24) = true := by decide +kernel
set_option maxRecDepth 100000 in
theorem zr_25 : ztb25.all (zrok 25) = true := by decide +kernel
set_option maxRecDepth 100000 in
theorem zr_26 : ztb26.all (zrok 26) = true := by decide +kernel
set_option maxRecDepth 100000 in
theorem zr_27 : ztb27.all (zrok 27) = true := by decide +kernel
set_option maxRecDepth 100000 in
theorem zr_28 : ztb28.all (zrok 28) = true := by decide +kernel
set_option maxRecDepth 100000 in
theorem zr_29 : ztb29.all (zrok 29) = true := by decide +kernel
set_option maxRecDepth 100000 in
theorem zr_30 : ztb30.all (zrok 30) = true := by decide +kernel
set_option maxRecDepth 100000 in
theorem zr_31 : ztb31.all (zrok 31) = true := by decide +kernel
set_option maxRecDepth 100000 in
theorem zr_32 : ztb32.all (zrok 32) = true := by decide +kernel
set_option maxRecDepth 100000 in
theorem zr_33 : ztb33.all (zrok 33) = true := by decide +kernel
set_option maxRecDepth 100000 in
theorem zr_34 : ztb34.all (zrok 34) = true := by decide +kernel
set_option maxRecDepth 100000 in
theorem zr_35 : ztb35.all (zrok 35) = true := by decide +kernel
set_option maxRecDepth 100000 in
theorem zr_36 : ztb36.all (zrok 36) = true := by decide +kernel
set_option maxRecDepth 100000 in
theorem zr_37 : ztb37.all (zrok 37) = true := by decide +kernel
set_option maxRecDepth 100000 in
theorem zr_38 : ztb38.all (zrok 38) = true := by decide +kernel
set_option maxRecDepth 100000 in
theorem zr_39 : ztb39.all (zrok 39) = true := by decide +kernel
set_option maxRecDepth 100000 in
theorem zr_40 : ztb40.all (zrok 40) = true := by decide +kernel
set_option maxRecDepth 100000 in
theorem zr_41 : ztb41.all (zrok 41) = true := by decide +kernel
set_option maxRecDepth 100000 in
theorem zr_42 : ztb42.all (zrok 42) = true := by decide +kernel
set_option maxRecDepth 100000 in
theorem zr_43 : ztb43.all (zrok 43) = true := by decide +kernel
set_option maxRecDepth 100000 in
theorem zr_44 : ztb44.all (zrok 44) = true := by decide +kernel
set_option maxRecDepth 100000 in
theorem zr_45 : ztb45.all (zrok 45) = true := by decide +kernel
set_option maxRecDepth 100000 in
theorem zr_46 : ztb46.all (zrok 46) = true := by decide +kernel
set_option maxRecDepth 100000 in
theorem zr_47 : ztb47.all (zrok 47) = true := by decide +kernel
set_option maxRecDepth 100000 in
theorem zr_48 : ztb48.all (zrok 48) = true := by decide +kernel
set_option maxRecDepth 100000 in
theorem zr_49 : ztb49.all (zrok 49) = true := by decide +kernel
set_option maxRecDepth 100000 in
theorem zr_50 : ztb50.all (zrok 50) = true := by decide +kernel
set_option maxRecDepth 100000 in
theorem zr_51 : ztb51.all (zrok 51) = true := by decide +kernel
set_option maxRecDepth 100000 in
theorem zr_52 : ztb52.all (zrok 52) = true := by decide +kernel
set_option maxRecDepth 100000 in
theorem zr_53 : ztb53.all (zrok 53) = true := by decide +kernel
set_option maxRecDepth 100000 in
theorem zr_54 : ztb54.all (zrok 54) = true := by decide +kernel
set_option maxRecDepth 100000 in
theorem zr_55 : ztb55.all (zrok 55) = true := by decide +kernel
set_option maxRecDepth 100000 in
theorem zr_56 : ztb56.all (zrok 56) = true := by decide +kernel
set_option maxRecDepth 100000 in
theorem zr_57 : ztb57.all (zrok 57) = true := by decide +kernel
set_option maxRecDepth 100000 in
theorem zr_58 : ztb58.all (zrok 58) = true := by decide +kernel
set_option maxRecDepth 100000 in
theorem zr_59 : ztb59.all (zrok 59) = true := by decide +kernel
set_option maxRecDepth 100000 in
theorem zr_60 : ztb60.all (zrok 60) = true := by decide +kernel
set_option maxRecDepth 100000 in
theorem zr_61 : ztb61.all (zrok 61) = true := by decide +kernel
set_option maxRecDepth 100000 in
theorem zr_62 : ztb62.all (zrok 62) = true := by decide +kernel
set_option maxRecDepth 100000 in
theorem zr_63 : ztb63.all (zrok 63) = true := by decide +kernel
set_option maxRecDepth 100000 in
theorem zr_64 : ztb64.all (zrok 64) = true := by decide +kernel
set_option maxRecDepth 100000 in
theorem zr_65 : ztb65.all (zrok 65) = true := by decide +kernel
set_option maxRecDepth 100000 in
theorem zr_66 : ztb66.all (zrok 66) = true := by decide +kernel
set_option maxRecDepth 100000 in
theorem zr_67 : ztb67.all (zrok 67) = true := by decide +kernel
set_option maxRecDepth 100000 in
theorem zr_68 : ztb68.all (zrok 68) = true := by decide +kernel
set_option maxRecDepth 100000 in
theorem zr_69 : ztb69.all (zrok 69) = true := by decide +kernel
set_option maxRecDepth 100000 in
theorem zr_70 : ztb70.all (zrok 70) = true := by decide +kernel
set_option maxRecDepth 100000 in
theorem zr_71 : ztb71.all (zrok 71) = true := by decide +kernel
set_option maxRecDepth 100000 in
theorem zr_72 : ztb72.all (zrok 72) = true := by decide +kernel
set_option maxRecDepth 100000 in
theorem zr_73 : ztb73.all (zrok 73) = true := by decide +kernel
set_option maxRecDepth 100000 in
theorem zr_74 : ztb74.all (zrok 74) = true := by decide +kernel
set_option maxRecDepth 100000 in
theorem zr_75 : ztb75.all (zrok 75) = true := by decide +kernel
set_option maxRecDepth 100000 in
theorem zr_76 : ztb76.all (zrok 76) = true := by decide +kernel
set_option maxRecDepth 100000 in
theorem zr_77 : ztb77.all (zrok 77) = true := by decide +kernel
set_option maxRecDepth 100000 in
theorem zr_78 : ztb78.all (zrok 78) = true := by decide +kernel
set_option maxRecDepth 100000 in
theorem zr_79 : ztb79.all (zrok 79) = true := by decide +kernel
set_option maxRecDepth 100000 in
theorem zr_80 : ztb80.all (zrok 80) = true := by decide +kernel
set_option maxRecDepth 100000 in
theorem zr_81 : ztb81.all (zrok 81) = true := by decide +kernel
set_option maxRecDepth 100000 in
theorem zr_82 : ztb82.all (zrok 82) = true := by decide +kernel
set_option maxRecDepth 100000 in
theorem zr_83 : ztb83.all (zrok 83) = true := by decide +kernel
set_option maxRecDepth 100000 in
theorem zr_84 : ztb84.all (zrok 84) = true := by decide +kernel
set_option maxRecDepth 100000 in
theorem zr_85 : ztb85.all (zrok 85) = true := by decide +kernel
set_option maxRecDepth 100000 in
theorem zr_86 : ztb86.all (zrok 86) = true := by decide +kernel
set_option maxRecDepth 100000 in
theorem zr_87 : ztb87.all (zrok 87) = true := by decide +kernel
set_option maxRecDepth 100000 in
theorem zr_88 : ztb88.all (zrok 88) = true := by decide +kernel
set_option maxRecDepth 100000 in
theorem zr_89 : ztb89.all (zrok 89) = true := by decide +kernel
set_option maxRecDepth 100000 in
theorem zr_90 : ztb90.all (zrok 90) = true := by decide +kernel
set_option maxRecDepth 100000 in
theorem zr_91 : ztb91.all (zrok 91) = true := by decide +kernel
set_option maxRecDepth 100000 in
theorem zr_92 : ztb92.all (zrok 92) = true := by decide +kernel
set_option maxRecDepth 100000 in
theorem zr_93 : ztb93.all (zrok 93) = true := by decide +kernel
set_option maxRecDepth 100000 in
theorem zr_94 : ztb94.all (zrok 94) = true := by decide +kernel
set_option maxRecDepth 100000 in
theorem zr_95 : ztb95.all (zrok 95) = true := by decide +kernel
set_option maxRecDepth 100000 in
theorem zr_96 : ztb96.all (zrok 96) = true := by decide +kernel
set_option maxRecDepth 100000 in
theorem zr_97 : ztb97.all (zrok 97) = true := by decide +kernel
set_option maxRecDepth 100000 in
theorem zr_98 : ztb98.all (zrok 98) = true := by decide +kernel
set_option maxRecDepth 100000 in
theorem zr_99 : ztb99.all (zrok 99) = true := by decide +kernel
set_option maxRecDepth 100000 in
theorem zr_100 : ztb100.all (zrok 100) = true := by decide +kernel
set_option maxRecDepth 100000 in
theorem zr_101 : ztb101.all (zrok 101) = true := by decide +kernel
set_option maxRecDepth 100000 in
theorem zr_102 : ztb102.all (zrok 102) = true := by decide +kernel
set_option maxRecDepth 100000 in
theorem zr_103 : ztb103.all (zrok 103) = true := by decide +kernel
set_option maxRecDepth 100000 in
theorem zr_104 : ztb104.all (zrok 104) = true := by decide +kernel
set_option maxRecDepth 100000 in
theorem zr_105 : ztb105.all (zrok 105) = true := by decide +kernel
set_option maxRecDepth 100000 in
theorem zr_106 : ztb106.all (zrok 106) = true := by decide +kernel
set_option maxRecDepth 100000 in
theorem zr_107 : ztb107.all (zrok 107) = true := by decide +kernel
set_option maxRecDepth 100000 in
theorem zr_108 : ztb108.all (zrok 108) = true := by decide +kernel
set_option maxRecDepth 100000 in
theorem zr_109 : ztb109.all (zrok 109) = true := by decide +kernel
set_option maxRecDepth 100000 in
theorem zr_110 : ztb110.all (zrok 110) = true := by decide +kernel
set_option maxRecDepth 100000 in
theorem zr_111 : ztb111.all (zrok 111) = true := by decide +kernel
set_option maxRecDepth 100000 in
theorem zr_112 : ztb112.all (zrok 112) = true := by decide +kernel
set_option maxRecDepth 100000 in
theorem zr_113 : ztb113.all (zrok 113) = true := by decide +kernel
set_option maxRecDepth 100000 in
theorem zr_114 : ztb114.all (zrok 114) = true := by decide +kernel
set_option maxRecDepth 100000 in
theorem zr_115 : ztb115.all (zrok 115) = true := by decide +kernel
set_option maxRecDepth 100000 in
theorem zr_116 : ztb116.all (zrok 116) = true := by decide +kernel
set_option maxRecDepth 100000 in
theorem zr_117 : ztb117.all (zrok 117) = true := by decide +kernel
set_option maxRecDepth 100000 in
theorem zr_118 : ztb118.all (zrok 118) = true := by decide +kernel
set_option maxRecDepth 100000 in
theorem zr_119 : ztb119.all (zrok 119) = true := by decide +kernel
set_option maxRecDepth 100000 in
theorem zr_120 : ztb120.all (zrok 120) = true := by decide +kernel
set_option maxRecDepth 100000 in
theorem zr_121 : ztb121.all (zrok 121) = true := by decide +kernel
set_option maxRecDepth 100000 in
theorem zr_122 : ztb122.all (zrok 122) = true := by decide +kernel
set_option maxRecDepth 100000 in
theorem zr_123 : ztb123.all (zrok 123) = true := by decide +kernel
set_option maxRecDepth 100000 in
theorem zr_124 : ztb124.all (zrok 124) = true := by decide +kernel
set_option maxRecDepth 100000 in
theorem zr_125 : ztb125.all (zrok 125) = true := by decide +kernel
set_option maxRecDepth 100000 in
theorem zr_126 : ztb126.all (zrok 126) = true := by decide +kernel
set_option maxRecDepth 100000 in
theorem zr_127 : ztb127.all (zrok 127) = true := by decide +kernel
