section MKR2
theorem mk2_7_128 : mkr 2 7 16 128 = true := by decide +kernel
theorem mk2_7_144 : mkr 2 7 16 144 = true := by decide +kernel
theorem mk2_7_160 : mkr 2 7 16 160 = true := by decide +kernel
theorem mk2_7_176 : mkr 2 7 16 176 = true := by decide +kernel
theorem mk2_7_192 : mkr 2 7 16 192 = true := by decide +kernel
theorem mk2_7_208 : mkr 2 7 16 208 = true := by decide +kernel
theorem mk2_7_224 : mkr 2 7 16 224 = true := by decide +kernel
theorem mk2_7_240 : mkr 2 7 16 240 = true := by decide +kernel
end MKR2
