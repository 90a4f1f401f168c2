theorem dk_150 : P150.all (chkD cX6_gain 150) = true := by decide +kernel
theorem dk_151 : P151.all (chkD cX6_lost 151) = true := by decide +kernel
theorem dk_152 : P152.all (chkD cX6_power 152) = true := by decide +kernel
theorem dk_153 : P153.all (chkD cX6_seed 153) = true := by decide +kernel
theorem dk_154 : P154.all (chkD cX6_rounds 154) = true := by decide +kernel
theorem dk_155 : P155.all (chkD cX6_keep 155) = true := by decide +kernel
theorem dk_156 : P156.all (chkD cX6_again 156) = true := by decide +kernel
theorem dk_157 : P157.all (chkD cX6_count 157) = true := by decide +kernel
theorem dk_158 : P158.all (chkD cJ6_bitCount_0f7a4 158) = true := by decide +kernel
def P159_0 : List En := (P159.drop 0).take 60
theorem dk_159_0 : P159_0.all (chkD code 159) = true := by decide +kernel
def P159_60 : List En := (P159.drop 60).take 60
theorem dk_159_60 : P159_60.all (chkD code 159) = true := by decide +kernel
def P159_120 : List En := (P159.drop 120).take 60
theorem dk_159_120 : P159_120.all (chkD code 159) = true := by decide +kernel
def P159_180 : List En := (P159.drop 180).take 60
theorem dk_159_180 : P159_180.all (chkD code 159) = true := by decide +kernel
def P159_240 : List En := (P159.drop 240).take 60
theorem dk_159_240 : P159_240.all (chkD code 159) = true := by decide +kernel
def P159_300 : List En := (P159.drop 300).take 60
theorem dk_159_300 : P159_300.all (chkD code 159) = true := by decide +kernel
def P159_360 : List En := (P159.drop 360).take 60
theorem dk_159_360 : P159_360.all (chkD code 159) = true := by decide +kernel
def P159_420 : List En := (P159.drop 420).take 60
theorem dk_159_420 : P159_420.all (chkD code 159) = true := by decide +kernel
def P159_480 : List En := (P159.drop 480).take 60
theorem dk_159_480 : P159_480.all (chkD code 159) = true := by decide +kernel
def P159_540 : List En := (P159.drop 540).take 60
theorem dk_159_540 : P159_540.all (chkD code 159) = true := by decide +kernel
def P159_600 : List En := (P159.drop 600).take 60
theorem dk_159_600 : P159_600.all (chkD code 159) = true := by decide +kernel
def P159_660 : List En := (P159.drop 660).take 60
theorem dk_159_660 : P159_660.all (chkD code 159) = true := by decide +kernel
def P159_720 : List En := (P159.drop 720).take 60
theorem dk_159_720 : P159_720.all (chkD code 159) = true := by decide +kernel
def P159_780 : List En := (P159.drop 780).take 60
theorem dk_159_780 : P159_780.all (chkD code 159) = true := by decide +kernel
def P159_840 : List En := (P159.drop 840).take 60
theorem dk_159_840 : P159_840.all (chkD code 159) = true := by decide +kernel
