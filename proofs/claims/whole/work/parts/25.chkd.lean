/-! Every entry of every method's table, checked by the kernel -/
set_option maxRecDepth 100000 in
theorem jc0_ok : jchks 0 jc0 = true := by decide +kernel
set_option maxRecDepth 100000 in
theorem jc1_ok : jchks 1 jc1 = true := by decide +kernel
set_option maxRecDepth 100000 in
theorem jc2_ok : jchks 2 jc2 = true := by decide +kernel
set_option maxRecDepth 100000 in
theorem jc3_ok : jchks 3 jc3 = true := by decide +kernel
set_option maxRecDepth 100000 in
theorem jc4_ok : jchks 4 jc4 = true := by decide +kernel
set_option maxRecDepth 100000 in
theorem jc5_ok : jchks 5 jc5 = true := by decide +kernel
set_option maxRecDepth 100000 in
theorem jc6_ok : jchks 6 jc6 = true := by decide +kernel
set_option maxRecDepth 100000 in
theorem jc7_ok : jchks 7 jc7 = true := by decide +kernel
set_option maxRecDepth 100000 in
theorem jc8_ok : jchks 8 jc8 = true := by decide +kernel
set_option maxRecDepth 100000 in
theorem jc9_ok : jchks 9 jc9 = true := by decide +kernel
set_option maxRecDepth 100000 in
theorem jc10_ok : jchks 10 jc10 = true := by decide +kernel
set_option maxRecDepth 100000 in
theorem jc11_ok : jchks 11 jc11 = true := by decide +kernel
set_option maxRecDepth 100000 in
theorem jc12_ok : jchks 12 jc12 = true := by decide +kernel
set_option maxRecDepth 100000 in
theorem jc13_ok : jchks 13 jc13 = true := by decide +kernel
set_option maxRecDepth 100000 in
theorem jc14_ok : jchks 14 jc14 = true := by decide +kernel
set_option maxRecDepth 100000 in
theorem jc15_ok : jchks 15 jc15 = true := by decide +kernel
set_option maxRecDepth 100000 in
theorem jc16_ok : jchks 16 jc16 = true := by decide +kernel
set_option maxRecDepth 100000 in
theorem jc17_ok : jchks 17 jc17 = true := by decide +kernel
set_option maxRecDepth 100000 in
theorem jc18_ok : jchks 18 jc18 = true := by decide +kernel
set_option maxRecDepth 100000 in
theorem jc19_ok : jchks 19 jc19 = true := by decide +kernel
set_option maxRecDepth 100000 in
theorem jc20_ok : jchks 20 jc20 = true := by decide +kernel
set_option maxRecDepth 100000 in
theorem jc21_ok : jchks 21 jc21 = true := by decide +kernel
set_option maxRecDepth 100000 in
theorem jc22_ok : jchks 22 jc22 = true := by decide +kernel
set_option maxRecDepth 100000 in
theorem jc23_ok : jchks 23 jc23 = true := by decide +kernel
set_option maxRecDepth 100000 in
theorem jc24_ok : jchks 24 jc24 = true := by decide +kernel
set_option maxRecDepth 100000 in
theorem jc25_ok : jchks 25 jc25 = true := by decide +kernel
set_option maxRecDepth 100000 in
theorem jc26_ok : jchks 26 jc26 = true := by decide +kernel
set_option maxRecDepth 100000 in
theorem jc27_ok : jchks 27 jc27 = true := by decide +kernel
set_option maxRecDepth 100000 in
theorem jc28_ok : jchks 28 jc28 = true := by decide +kernel
set_option maxRecDepth 100000 in
theorem jc29_ok : jchks 29 jc29 = true := by decide +kernel
set_option maxRecDepth 100000 in
theorem jc30_ok : jchks 30 jc30 = true := by decide +kernel
set_option maxRecDepth 100000 in
theorem jc31_ok : jchks 31 jc31 = true := by decide +kernel
set_option maxRecDepth 100000 in
theorem jc32_ok : jchks 32 jc32 = true := by decide +kernel
set_option maxRecDepth 100000 in
theorem jc33_ok : jchks 33 jc33 = true := by decide +kernel
set_option maxRecDepth 100000 in
theorem jc34_ok : jchks 34 jc34 = true := by decide +kernel
set_option maxRecDepth 100000 in
theorem jc35_ok : jchks 35 jc35 = true := by decide +kernel
set_option maxRecDepth 100000 in
theorem jc36_ok : jchks 36 jc36 = true := by decide +kernel
set_option maxRecDepth 100000 in
theorem jc37_ok : jchks 37 jc37 = true := by decide +kernel
set_option maxRecDepth 100000 in
theorem jc38_ok : jchks 38 jc38 = true := by decide +kernel
set_option maxRecDepth 100000 in
theorem jc39_ok : jchks 39 jc39 = true := by decide +kernel
set_option maxRecDepth 100000 in
theorem jc40_ok : jchks 40 jc40 = true := by decide +kernel
set_option maxRecDepth 100000 in
theorem jc41_ok : jchks 41 jc41 = true := by decide +kernel
set_option maxRecDepth 100000 in
theorem jc42_ok : jchks 42 jc42 = true := by decide +kernel
set_option maxRecDepth 100000 in
theorem jc43_ok : jchks 43 jc43 = true := by decide +kernel
set_option maxRecDepth 100000 in
theorem jc44_ok : jchks 44 jc44 = true := by decide +kernel
set_option maxRecDepth 100000 in
theorem jc45_ok : jchks 45 jc45 = true := by decide +kernel
set_option maxRecDepth 100000 in
theorem jc46_ok : jchks 46 jc46 = true := by decide +kernel
set_option maxRecDepth 100000 in
theorem jc47_ok : jchks 47 jc47 = true := by decide +kernel
set_option maxRecDepth 100000 in
theorem jc48_ok : jchks 48 jc48 = true := by decide +kernel
set_option maxRecDepth 100000 in
theorem jc49_ok : jchks 49 jc49 = true := by decide +kernel
set_option maxRecDepth 100000 in
theorem jc50_ok : jchks 50 jc50 = true := by decide +kernel
set_option maxRecDepth 100000 in
theorem jc51_ok : jchks 51 jc51 = true := by decide +kernel
set_option maxRecDepth 100000 in
theorem jc52_ok : jchks 52 jc52 = true := by decide +kernel
set_option maxRecDepth 100000 in
theorem jc53_ok : jchks 53 jc53 = true := by decide +kernel
set_option maxRecDepth 100000 in
theorem jc54_ok : jchks 54 jc54 = true := by decide +kernel
set_option maxRecDepth 100000 in
theorem jc55_ok : jchks 55 jc55 = true := by decide +kernel
set_option maxRecDepth 100000 in
theorem jc56_ok : jchks 56 jc56 = true := by decide +kernel
set_option maxRecDepth 100000 in
theorem jc57_ok : jchks 57 jc57 = true := by decide +kernel
set_option maxRecDepth 100000 in
theorem jc58_ok : jchks 58 jc58 = true := by decide +kernel
set_option maxRecDepth 100000 in
theorem jc59_ok : jchks 59 jc59 = true := by decide +kernel
set_option maxRecDepth 100000 in
theorem jc60_ok : jchks 60 jc60 = true := by decide +kernel
set_option maxRecDepth 100000 in
theorem jc61_ok : jchks 61 jc61 = true := by decide +kernel
set_option maxRecDepth 100000 in
theorem jc62_ok : jchks 62 jc62 = true := by decide +kernel
set_option maxRecDepth 100000 in
theorem jc63_ok : jchks 63 jc63 = true := by decide +kernel
set_option maxRecDepth 100000 in
theorem jc64_ok : jchks 64 jc64 = true := by decide +kernel
set_option maxRecDepth 100000 in
theorem jc65_ok : jchks 65 jc65 = true := by decide +kernel
set_option maxRecDepth 100000 in
theorem jc66_ok : jchks 66 jc66 = true := by decide +kernel
set_option maxRecDepth 100000 in
theorem jc67_ok : jchks 67 jc67 = true := by decide +kernel
set_option maxRecDepth 100000 in
theorem jc68_ok : jchks 68 jc68 = true := by decide +kernel
set_option maxRecDepth 100000 in
theorem jc69_ok : jchks 69 jc69 = true := by decide +kernel
set_option maxRecDepth 100000 in
theorem jc70_ok : jchks 70 jc70 = true := by decide +kernel
set_option maxRecDepth 100000 in
theorem jc71_ok : jchks 71 jc71 = true := by decide +kernel
set_option maxRecDepth 100000 in
theorem jc72_ok : jchks 72 jc72 = true := by decide +kernel
set_option maxRecDepth 100000 in
theorem jc73_ok : jchks 73 jc73 = true := by decide +kernel
set_option maxRecDepth 100000 in
theorem jc74_ok : jchks 74 jc74 = true := by decide +kernel
set_option maxRecDepth 100000 in
theorem jc75_ok : jchks 75 jc75 = true := by decide +kernel
set_option maxRecDepth 100000 in
theorem jc76_ok : jchks 76 jc76 = true := by decide +kernel
set_option maxRecDepth 100000 in
theorem jc77_ok : jchks 77 jc77 = true := by decide +kernel
set_option maxRecDepth 100000 in
theorem jc78_ok : jchks 78 jc78 = true := by decide +kernel
set_option maxRecDepth 100000 in
theorem jc79_ok : jchks 79 jc79 = true := by decide +kernel
set_option maxRecDepth 100000 in
theorem jc80_ok : jchks 80 jc80 = true := by decide +kernel
set_option maxRecDepth 100000 in
theorem jc81_ok : jchks 81 jc81 = true := by decide +kernel
set_option maxRecDepth 100000 in
theorem jc82_ok : jchks 82 jc82 = true := by decide +kernel
set_option maxRecDepth 100000 in
theorem jc83_ok : jchks 83 jc83 = true := by decide +kernel
set_option maxRecDepth 100000 in
theorem jc84_ok : jchks 84 jc84 = true := by decide +kernel
set_option maxRecDepth 100000 in
theorem jc85_ok : jchks 85 jc85 = true := by decide +kernel
set_option maxRecDepth 100000 in
theorem jc86_ok : jchks 86 jc86 = true := by decide +kernel
set_option maxRecDepth 100000 in
theorem jc87_ok : jchks 87 jc87 = true := by decide +kernel
set_option maxRecDepth 100000 in
theorem jc88_ok : jchks 88 jc88 = true := by decide +kernel
set_option maxRecDepth 100000 in
theorem jc89_ok : jchks 89 jc89 = true := by decide +kernel
set_option maxRecDepth 100000 in
theorem jc90_ok : jchks 90 jc90 = true := by decide +kernel
set_option maxRecDepth 100000 in
theorem jc91_ok : jchks 91 jc91 = true := by decide +kernel
set_option maxRecDepth 100000 in
theorem jc92_ok : jchks 92 jc92 = true := by decide +kernel
set_option maxRecDepth 100000 in
theorem jc93_ok : jchks 93 jc93 = true := by decide +kernel
set_option maxRecDepth 100000 in
theorem jc94_ok : jchks 94 jc94 = true := by decide +kernel
set_option maxRecDepth 100000 in
theorem jc95_ok : jchks 95 jc95 = true := by decide +kernel
set_option maxRecDepth 100000 in
theorem jc96_ok : jchks 96 jc96 = true := by decide +kernel
set_option maxRecDepth 100000 in
theorem jc97_ok : jchks 97 jc97 = true := by decide +kernel
set_option maxRecDepth 100000 in
theorem jc98_ok : jchks 98 jc98 = true := by decide +kernel
set_option maxRecDepth 100000 in
theorem jc99_ok : jchks 99 jc99 = true := by decide +kernel
set_option maxRecDepth 100000 in
theorem jc100_ok : jchks 100 jc100 = true := by decide +kernel
set_option maxRecDepth 100000 in
theorem jc101_ok : jchks 101 jc101 = true := by decide +kernel
set_option maxRecDepth 100000 in
theorem jc102_ok : jchks 102 jc102 = true := by decide +kernel
set_option maxRecDepth 100000 in
theorem jc103_ok : jchks 103 jc103 = true := by decide +kernel
set_option maxRecDepth 100000 in
theorem jc104_ok : jchks 104 jc104 = true := by decide +kernel
set_option maxRecDepth 100000 in
theorem jc105_ok : jchks 105 jc105 = true := by decide +kernel
set_option maxRecDepth 100000 in
theorem jc106_ok : jchks 106 jc106 = true := by decide +kernel
set_option maxRecDepth 100000 in
theorem jc107_ok : jchks 107 jc107 = true := by decide +kernel
set_option maxRecDepth 100000 in
theorem jc108_ok : jchks 108 jc108 = true := by decide +kernel
set_option maxRecDepth 100000 in
theorem jc109_ok : jchks 109 jc109 = true := by decide +kernel
set_option maxRecDepth 100000 in
theorem jc110_ok : jchks 110 jc110 = true := by decide +kernel
set_option maxRecDepth 100000 in
theorem jc111_ok : jchks 111 jc111 = true := by decide +kernel
set_option maxRecDepth 100000 in
theorem jc112_ok : jchks 112 jc112 = true := by decide +kernel
set_option maxRecDepth 100000 in
theorem jc113_ok : jchks 113 jc113 = true := by decide +kernel
set_option maxRecDepth 100000 in
theorem jc114_ok : jchks 114 jc114 = true := by decide +kernel
set_option maxRecDepth 100000 in
theorem jc115_ok : jchks 115 jc115 = true := by decide +kernel
set_option maxRecDepth 100000 in
theorem jc116_ok : jchks 116 jc116 = true := by decide +kernel
set_option maxRecDepth 100000 in
theorem jc117_ok : jchks 117 jc117 = true := by decide +kernel
set_option maxRecDepth 100000 in
theorem jc118_ok : jchks 118 jc118 = true := by decide +kernel
set_option maxRecDepth 100000 in
theorem jc119_ok : jchks 119 jc119 = true := by decide +kernel
set_option maxRecDepth 100000 in
theorem jc120_ok : jchks 120 jc120 = true := by decide +kernel
set_option maxRecDepth 100000 in
theorem jc121_ok : jchks 121 jc121 = true := by decide +kernel
set_option maxRecDepth 100000 in
theorem jc122_ok : jchks 122 jc122 = true := by decide +kernel
set_option maxRecDepth 100000 in
theorem jc123_ok : jchks 123 jc123 = true := by decide +kernel
set_option maxRecDepth 100000 in
theorem jc124_ok : jchks 124 jc124 = true := by decide +kernel
set_option maxRecDepth 100000 in
theorem jc125_ok : jchks 125 jc125 = true := by decide +kernel
set_option maxRecDepth 100000 in
theorem jc126_ok : jchks 126 jc126 = true := by decide +kernel
set_option maxRecDepth 100000 in
theorem jc127_ok : jchks 127 jc127 = true := by decide +kernel
set_option maxRecDepth 100000 in
theorem jc128_ok : jchks 128 jc128 = true := by decide +kernel
set_option maxRecDepth 100000 in
theorem jc129_ok : jchks 129 jc129 = true := by decide +kernel
set_option maxRecDepth 100000 in
theorem jc130_ok : jchks 130 jc130 = true := by decide +kernel
set_option maxRecDepth 100000 in
theorem jc131_ok : jchks 131 jc131 = true := by decide +kernel
set_option maxRecDepth 100000 in
theorem jc132_ok : jchks 132 jc132 = true := by decide +kernel
set_option maxRecDepth 100000 in
theorem jc133_ok : jchks 133 jc133 = true := by decide +kernel
set_option maxRecDepth 100000 in
theorem jc134_ok : jchks 134 jc134 = true := by decide +kernel
set_option maxRecDepth 100000 in
theorem jc135_ok : jchks 135 jc135 = true := by decide +kernel
set_option maxRecDepth 100000 in
theorem jc136_ok : jchks 136 jc136 = true := by decide +kernel
set_option maxRecDepth 100000 in
theorem jc137_ok : jchks 137 jc137 = true := by decide +kernel
set_option maxRecDepth 100000 in
theorem jc138_ok : jchks 138 jc138 = true := by decide +kernel
set_option maxRecDepth 100000 in
theorem jc139_ok : jchks 139 jc139 = true := by decide +kernel
set_option maxRecDepth 100000 in
theorem jc140_ok : jchks 140 jc140 = true := by decide +kernel
set_option maxRecDepth 100000 in
theorem jc141_ok : jchks 141 jc141 = true := by decide +kernel
set_option maxRecDepth 100000 in
theorem jc142_ok : jchks 142 jc142 = true := by decide +kernel
set_option maxRecDepth 100000 in
theorem jc143_ok : jchks 143 jc143 = true := by decide +kernel
set_option maxRecDepth 100000 in
theorem jc144_ok : jchks 144 jc144 = true := by decide +kernel
set_option maxRecDepth 100000 in
theorem jc145_ok : jchks 145 jc145 = true := by decide +kernel
set_option maxRecDepth 100000 in
theorem jc146_ok : jchks 146 jc146 = true := by decide +kernel
set_option maxRecDepth 100000 in
theorem jc147_ok : jchks 147 jc147 = true := by decide +kernel
set_option maxRecDepth 100000 in
theorem jc148_ok : jchks 148 jc148 = true := by decide +kernel
set_option maxRecDepth 100000 in
theorem jc149_ok : jchks 149 jc149 = true := by decide +kernel
set_option maxRecDepth 100000 in
theorem jc150_ok : jchks 150 jc150 = true := by decide +kernel
set_option maxRecDepth 100000 in
theorem jc151_ok : jchks 151 jc151 = true := by decide +kernel
set_option maxRecDepth 100000 in
theorem jc152_ok : jchks 152 jc152 = true := by decide +kernel
set_option maxRecDepth 100000 in
theorem jc153_ok : jchks 153 jc153 = true := by decide +kernel
set_option maxRecDepth 100000 in
theorem jc154_ok : jchks 154 jc154 = true := by decide +kernel
set_option maxRecDepth 100000 in
theorem jc155_ok : jchks 155 jc155 = true := by decide +kernel
set_option maxRecDepth 100000 in
theorem jc156_ok : jchks 156 jc156 = true := by decide +kernel
set_option maxRecDepth 100000 in
theorem jc157_ok : jchks 157 jc157 = true := by decide +kernel
set_option maxRecDepth 100000 in
theorem jc158_ok : jchks 158 jc158 = true := by decide +kernel
set_option maxRecDepth 100000 in
theorem jc159_ok : jchks 159 jc159 = true := by decide +kernel
set_option maxRecDepth 100000 in
theorem jc160_ok : jchks 160 jc160 = true := by decide +kernel
set_option maxRecDepth 100000 in
theorem jc161_ok : jchks 161 jc161 = true := by decide +kernel
set_option maxRecDepth 100000 in
theorem jc162_ok : jchks 162 jc162 = true := by decide +kernel
set_option maxRecDepth 100000 in
theorem jc163_ok : jchks 163 jc163 = true := by decide +kernel
set_option maxRecDepth 100000 in
theorem jc164_ok : jchks 164 jc164 = true := by decide +kernel
set_option maxRecDepth 100000 in
theorem jc165_ok : jchks 165 jc165 = true := by decide +kernel
set_option maxRecDepth 100000 in
theorem jc166_ok : jchks 166 jc166 = true := by decide +kernel
set_option maxRecDepth 100000 in
theorem jc167_ok : jchks 167 jc167 = true := by decide +kernel
set_option maxRecDepth 100000 in
theorem jc168_ok : jchks 168 jc168 = true := by decide +kernel
set_option maxRecDepth 100000 in
theorem jc169_ok : jchks 169 jc169 = true := by decide +kernel
set_option maxRecDepth 100000 in
theorem jc170_ok : jchks 170 jc170 = true := by decide +kernel
set_option maxRecDepth 100000 in
theorem jc171_ok : jchks 171 jc171 = true := by decide +kernel
set_option maxRecDepth 100000 in
theorem jc172_ok : jchks 172 jc172 = true := by decide +kernel
set_option maxRecDepth 100000 in
theorem jc173_ok : jchks 173 jc173 = true := by decide +kernel
set_option maxRecDepth 100000 in
theorem jc174_ok : jchks 174 jc174 = true := by decide +kernel
set_option maxRecDepth 100000 in
theorem jc175_ok : jchks 175 jc175 = true := by decide +kernel
set_option maxRecDepth 100000 in
theorem jc176_ok : jchks 176 jc176 = true := by decide +kernel
set_option maxRecDepth 100000 in
theorem jc177_ok : jchks 177 jc177 = true := by decide +kernel
set_option maxRecDepth 100000 in
theorem jc178_ok : jchks 178 jc178 = true := by decide +kernel
set_option maxRecDepth 100000 in
theorem jc179_ok : jchks 179 jc179 = true := by decide +kernel
set_option maxRecDepth 100000 in
theorem jc180_ok : jchks 180 jc180 = true := by decide +kernel
set_option maxRecDepth 100000 in
theorem jc181_ok : jchks 181 jc181 = true := by decide +kernel
set_option maxRecDepth 100000 in
theorem jc182_ok : jchks 182 jc182 = true := by decide +kernel
set_option maxRecDepth 100000 in
theorem jc183_ok : jchks 183 jc183 = true := by decide +kernel
set_option maxRecDepth 100000 in
theorem jc184_ok : jchks 184 jc184 = true := by decide +kernel
set_option maxRecDepth 100000 in
theorem jc185_ok : jchks 185 jc185 = true := by decide +kernel
set_option maxRecDepth 100000 in
theorem jc186_ok : jchks 186 jc186 = true := by decide +kernel
set_option maxRecDepth 100000 in
theorem jc187_ok : jchks 187 jc187 = true := by decide +kernel
set_option maxRecDepth 100000 in
theorem jc188_ok : jchks 188 jc188 = true := by decide +kernel
set_option maxRecDepth 100000 in
theorem jc189_ok : jchks 189 jc189 = true := by decide +kernel
set_option maxRecDepth 100000 in
theorem jc190_ok : jchks 190 jc190 = true := by decide +kernel
set_option maxRecDepth 100000 in
theorem jc191_ok : jchks 191 jc191 = true := by decide +kernel
set_option maxRecDepth 100000 in
theorem jc192_ok : jchks 192 jc192 = true := by decide +kernel
set_option maxRecDepth 100000 in
theorem jc193_ok : jchks 193 jc193 = true := by decide +kernel
set_option maxRecDepth 100000 in
theorem jc194_ok : jchks 194 jc194 = true := by decide +kernel
set_option maxRecDepth 100000 in
theorem jc195_ok : jchks 195 jc195 = true := by decide +kernel
set_option maxRecDepth 100000 in
theorem jc196_ok : jchks 196 jc196 = true := by decide +kernel
set_option maxRecDepth 100000 in
theorem jc197_ok : jchks 197 jc197 = true := by decide +kernel
set_option maxRecDepth 100000 in
theorem jc198_ok : jchks 198 jc198 = true := by decide +kernel
set_option maxRecDepth 100000 in
theorem jc199_ok : jchks 199 jc199 = true := by decide +kernel
set_option maxRecDepth 100000 in
theorem jc200_ok : jchks 200 jc200 = true := by decide +kernel
set_option maxRecDepth 100000 in
theorem jc201_ok : jchks 201 jc201 = true := by decide +kernel
set_option maxRecDepth 100000 in
theorem jc202_ok : jchks 202 jc202 = true := by decide +kernel
set_option maxRecDepth 100000 in
theorem jc203_ok : jchks 203 jc203 = true := by decide +kernel
set_option maxRecDepth 100000 in
theorem jc204_ok : jchks 204 jc204 = true := by decide +kernel
set_option maxRecDepth 100000 in
theorem jc205_ok : jchks 205 jc205 = true := by decide +kernel
set_option maxRecDepth 100000 in
theorem jc206_ok : jchks 206 jc206 = true := by decide +kernel
set_option maxRecDepth 100000 in
theorem jc207_ok : jchks 207 jc207 = true := by decide +kernel
set_option maxRecDepth 100000 in
theorem jc208_ok : jchks 208 jc208 = true := by decide +kernel
set_option maxRecDepth 100000 in
theorem jc209_ok : jchks 209 jc209 = true := by decide +kernel
set_option maxRecDepth 100000 in
theorem jc210_ok : jchks 210 jc210 = true := by decide +kernel
set_option maxRecDepth 100000 in
theorem jc211_ok : jchks 211 jc211 = true := by decide +kernel
set_option maxRecDepth 100000 in
theorem jc212_ok : jchks 212 jc212 = true := by decide +kernel
set_option maxRecDepth 100000 in
theorem jc213_ok : jchks 213 jc213 = true := by decide +kernel
set_option maxRecDepth 100000 in
theorem jc214_ok : jchks 214 jc214 = true := by decide +kernel
set_option maxRecDepth 100000 in
theorem jc215_ok : jchks 215 jc215 = true := by decide +kernel
set_option maxRecDepth 100000 in
theorem jc216_ok : jchks 216 jc216 = true := by decide +kernel
set_option maxRecDepth 100000 in
theorem jc217_ok : jchks 217 jc217 = true := by decide +kernel
set_option maxRecDepth 100000 in
theorem jc218_ok : jchks 218 jc218 = true := by decide +kernel
set_option maxRecDepth 100000 in
theorem jc219_ok : jchks 219 jc219 = true := by decide +kernel
set_option maxRecDepth 100000 in
theorem jc220_ok : jchks 220 jc220 = true := by decide +kernel
set_option maxRecDepth 100000 in
theorem jc221_ok : jchks 221 jc221 = true := by decide +kernel
set_option maxRecDepth 100000 in
theorem jc222_ok : jchks 222 jc222 = true := by decide +kernel
set_option maxRecDepth 100000 in
theorem jc223_ok : jchks 223 jc223 = true := by decide +kernel
set_option maxRecDepth 100000 in
theorem jc224_ok : jchks 224 jc224 = true := by decide +kernel
set_option maxRecDepth 100000 in
theorem jc225_ok : jchks 225 jc225 = true := by decide +kernel
set_option maxRecDepth 100000 in
theorem jc226_ok : jchks 226 jc226 = true := by decide +kernel
set_option maxRecDepth 100000 in
theorem jc227_ok : jchks 227 jc227 = true := by decide +kernel
set_option maxRecDepth 100000 in
theorem jc228_ok : jchks 228 jc228 = true := by decide +kernel
set_option maxRecDepth 100000 in
theorem jc229_ok : jchks 229 jc229 = true := by decide +kernel
set_option maxRecDepth 100000 in
theorem jc230_ok : jchks 230 jc230 = true := by decide +kernel
set_option maxRecDepth 100000 in
theorem jc231_ok : jchks 231 jc231 = true := by decide +kernel
set_option maxRecDepth 100000 in
theorem jc232_ok : jchks 232 jc232 = true := by decide +kernel
set_option maxRecDepth 100000 in
theorem jc233_ok : jchks 233 jc233 = true := by decide +kernel
set_option maxRecDepth 100000 in
theorem jc234_ok : jchks 234 jc234 = true := by decide +kernel
set_option maxRecDepth 100000 in
theorem jc235_ok : jchks 235 jc235 = true := by decide +kernel
set_option maxRecDepth 100000 in
theorem jc236_ok : jchks 236 jc236 = true := by decide +kernel
set_option maxRecDepth 100000 in
theorem jc237_ok : jchks 237 jc237 = true := by decide +kernel
set_option maxRecDepth 100000 in
theorem jc238_ok : jchks 238 jc238 = true := by decide +kernel
set_option maxRecDepth 100000 in
theorem jc239_ok : jchks 239 jc239 = true := by decide +kernel
set_option maxRecDepth 100000 in
theorem jc240_ok : jchks 240 jc240 = true := by decide +kernel
set_option maxRecDepth 100000 in
theorem jc241_ok : jchks 241 jc241 = true := by decide +kernel
set_option maxRecDepth 100000 in
theorem jc242_ok : jchks 242 jc242 = true := by decide +kernel
set_option maxRecDepth 100000 in
theorem jc243_ok : jchks 243 jc243 = true := by decide +kernel
set_option maxRecDepth 100000 in
theorem jc244_ok : jchks 244 jc244 = true := by decide +kernel
set_option maxRecDepth 100000 in
theorem jc245_ok : jchks 245 jc245 = true := by decide +kernel
set_option maxRecDepth 100000 in
theorem jc246_ok : jchks 246 jc246 = true := by decide +kernel
set_option maxRecDepth 100000 in
theorem jc247_ok : jchks 247 jc247 = true := by decide +kernel
