theorem dk_130 : P130.all (chkD cX6_otherHeights 130) = true := by decide +kernel
theorem dk_131 : P131.all (chkD cX6_best 131) = true := by decide +kernel
theorem dk_132 : P132.all (chkD cX6_findBest 132) = true := by decide +kernel
theorem dk_133 : P133.all (chkD cX6_judge 133) = true := by decide +kernel
theorem dk_134 : P134.all (chkD cX6_longPower 134) = true := by decide +kernel
theorem dk_135 : P135.all (chkD cX6_does 135) = true := by decide +kernel
theorem dk_136 : P136.all (chkD cX6_removes 136) = true := by decide +kernel
theorem dk_137 : P137.all (chkD cX6_share 137) = true := by decide +kernel
theorem dk_138 : P138.all (chkD cX6_few 138) = true := by decide +kernel
theorem dk_139 : P139.all (chkD cX6_without 139) = true := by decide +kernel
theorem dk_140 : P140.all (chkD cX6_has 140) = true := by decide +kernel
theorem dk_141 : P141.all (chkD cX6_many 141) = true := by decide +kernel
theorem dk_142 : P142.all (chkD cX6_ways 142) = true := by decide +kernel
theorem dk_143 : P143.all (chkD cX6_fraction 143) = true := by decide +kernel
theorem dk_144 : P144.all (chkD cX6_divisor 144) = true := by decide +kernel
theorem dk_145 : P145.all (chkD cX6_seek 145) = true := by decide +kernel
theorem dk_146 : P146.all (chkD cX6_unseek 146) = true := by decide +kernel
theorem dk_147 : P147.all (chkD cX6_keys 147) = true := by decide +kernel
def P148_0 : List En := (P148.drop 0).take 60
theorem dk_148_0 : P148_0.all (chkD cX6_rests 148) = true := by decide +kernel
def P148_60 : List En := (P148.drop 60).take 60
theorem dk_148_60 : P148_60.all (chkD cX6_rests 148) = true := by decide +kernel
def P148_120 : List En := (P148.drop 120).take 60
theorem dk_148_120 : P148_120.all (chkD cX6_rests 148) = true := by decide +kernel
theorem dk_149 : P149.all (chkD cX6_layGains 149) = true := by decide +kernel
