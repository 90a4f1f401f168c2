def P93_0 : List En := (P93.drop 0).take 60
theorem dk_93_0 : P93_0.all (chkD cX6_readItem 93) = true := by decide +kernel
def P93_60 : List En := (P93.drop 60).take 60
theorem dk_93_60 : P93_60.all (chkD cX6_readItem 93) = true := by decide +kernel
def P93_120 : List En := (P93.drop 120).take 60
theorem dk_93_120 : P93_120.all (chkD cX6_readItem 93) = true := by decide +kernel
theorem dk_94 : P94.all (chkD cX6_figure 94) = true := by decide +kernel
theorem dk_95 : P95.all (chkD cX6_mayCome 95) = true := by decide +kernel
theorem dk_96 : P96.all (chkD cX6_shape 96) = true := by decide +kernel
theorem dk_97 : P97.all (chkD cX6_noMap 97) = true := by decide +kernel
theorem dk_98 : P98.all (chkD cX6_note 98) = true := by decide +kernel
theorem dk_99 : P99.all (chkD cX6_put 99) = true := by decide +kernel
theorem dk_100 : P100.all (chkD cX6_noKey 100) = true := by decide +kernel
theorem dk_101 : P101.all (chkD cX6_find 101) = true := by decide +kernel
theorem dk_102 : P102.all (chkD cX6_goPut 102) = true := by decide +kernel
theorem dk_103 : P103.all (chkD cX6_goNew 103) = true := by decide +kernel
theorem dk_104 : P104.all (chkD cX6_lesser 104) = true := by decide +kernel
theorem dk_105 : P105.all (chkD cX6_top 105) = true := by decide +kernel
theorem dk_106 : P106.all (chkD cX6_layGap 106) = true := by decide +kernel
theorem dk_107 : P107.all (chkD cX6_between 107) = true := by decide +kernel
theorem dk_108 : P108.all (chkD cX6_placeOf 108) = true := by decide +kernel
theorem dk_109 : P109.all (chkD cX6_move 109) = true := by decide +kernel
theorem dk_110 : P110.all (chkD cX6_remove 110) = true := by decide +kernel
theorem dk_111 : P111.all (chkD cX6_goRemove 111) = true := by decide +kernel
