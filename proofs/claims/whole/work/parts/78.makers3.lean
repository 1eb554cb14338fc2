section MKR3
theorem mk5_3_125 : mkr 5 3 10 125 = true := by decide +kernel
theorem mk5_3_135 : mkr 5 3 10 135 = true := by decide +kernel
theorem mk5_3_145 : mkr 5 3 10 145 = true := by decide +kernel
theorem mk5_3_155 : mkr 5 3 10 155 = true := by decide +kernel
theorem mk5_3_165 : mkr 5 3 10 165 = true := by decide +kernel
theorem mk5_3_175 : mkr 5 3 10 175 = true := by decide +kernel
theorem mk5_3_185 : mkr 5 3 10 185 = true := by decide +kernel
theorem mk5_3_195 : mkr 5 3 10 195 = true := by decide +kernel
theorem mk5_3_205 : mkr 5 3 10 205 = true := by decide +kernel
theorem mk5_3_215 : mkr 5 3 10 215 = true := by decide +kernel
theorem mk5_3_225 : mkr 5 3 10 225 = true := by decide +kernel
theorem mk5_3_235 : mkr 5 3 10 235 = true := by decide +kernel
theorem mk5_3_245 : mkr 5 3 5 245 = true := by decide +kernel
end MKR3
