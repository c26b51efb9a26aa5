set_option maxRecDepth 100000 in
theorem zr_128 : ztb128.all (zrok 128) = true := by decide +kernel
set_option maxRecDepth 100000 in
theorem zr_129 : ztb129.all (zrok 129) = true := by decide +kernel
set_option maxRecDepth 100000 in
theorem zr_130 : ztb130.all (zrok 130) = true := by decide +kernel
set_option maxRecDepth 100000 in
theorem zr_131 : ztb131.all (zrok 131) = true := by decide +kernel
set_option maxRecDepth 100000 in
theorem zr_132 : ztb132.all (zrok 132) = true := by decide +kernel
set_option maxRecDepth 100000 in
theorem zr_133 : ztb133.all (zrok 133) = true := by decide +kernel
set_option maxRecDepth 100000 in
theorem zr_134 : ztb134.all (zrok 134) = true := by decide +kernel
set_option maxRecDepth 100000 in
theorem zr_135 : ztb135.all (zrok 135) = true := by decide +kernel
set_option maxRecDepth 100000 in
theorem zr_136 : ztb136.all (zrok 136) = true := by decide +kernel
set_option maxRecDepth 100000 in
theorem zr_137 : ztb137.all (zrok 137) = true := by decide +kernel
set_option maxRecDepth 100000 in
theorem zr_138 : ztb138.all (zrok 138) = true := by decide +kernel
set_option maxRecDepth 100000 in
theorem zr_139 : ztb139.all (zrok 139) = true := by decide +kernel
set_option maxRecDepth 100000 in
theorem zr_140 : ztb140.all (zrok 140) = true := by decide +kernel
set_option maxRecDepth 100000 in
theorem zr_141 : ztb141.all (zrok 141) = true := by decide +kernel
set_option maxRecDepth 100000 in
theorem zr_142 : ztb142.all (zrok 142) = true := by decide +kernel
set_option maxRecDepth 100000 in
theorem zr_143 : ztb143.all (zrok 143) = true := by decide +kernel
set_option maxRecDepth 100000 in
theorem zr_144 : ztb144.all (zrok 144) = true := by decide +kernel
set_option maxRecDepth 100000 in
theorem zr_145 : ztb145.all (zrok 145) = true := by decide +kernel
set_option maxRecDepth 100000 in
theorem zr_146 : ztb146.all (zrok 146) = true := by decide +kernel
set_option maxRecDepth 100000 in
theorem zr_147 : ztb147.all (zrok 147) = true := by decide +kernel
set_option maxRecDepth 100000 in
theorem zr_148 : ztb148.all (zrok 148) = true := by decide +kernel
set_option maxRecDepth 100000 in
theorem zr_149 : ztb149.all (zrok 149) = true := by decide +kernel
set_option maxRecDepth 100000 in
theorem zr_150 : ztb150.all (zrok 150) = true := by decide +kernel
set_option maxRecDepth 100000 in
theorem zr_151 : ztb151.all (zrok 151) = true := by decide +kernel
set_option maxRecDepth 100000 in
theorem zr_152 : ztb152.all (zrok 152) = true := by decide +kernel
set_option maxRecDepth 100000 in
theorem zr_153 : ztb153.all (zrok 153) = true := by decide +kernel
set_option maxRecDepth 100000 in
theorem zr_154 : ztb154.all (zrok 154) = true := by decide +kernel
set_option maxRecDepth 100000 in
theorem zr_155 : ztb155.all (zrok 155) = true := by decide +kernel
set_option maxRecDepth 100000 in
theorem zr_156 : ztb156.all (zrok 156) = true := by decide +kernel
set_option maxRecDepth 100000 in
theorem zr_157 : ztb157.all (zrok 157) = true := by decide +kernel
set_option maxRecDepth 100000 in
theorem zr_158 : ztb158.all (zrok 158) = true := by decide +kernel
set_option maxRecDepth 100000 in
theorem zr_159 : ztb159.all (zrok 159) = true := by decide +kernel
set_option maxRecDepth 100000 in
theorem zr_160 : ztb160.all (zrok 160) = true := by decide +kernel
set_option maxRecDepth 100000 in
theorem zr_161 : ztb161.all (zrok 161) = true := by decide +kernel
set_option maxRecDepth 100000 in
theorem zr_162 : ztb162.all (zrok 162) = true := by decide +kernel
set_option maxRecDepth 100000 in
theorem zr_163 : ztb163.all (zrok 163) = true := by decide +kernel
set_option maxRecDepth 100000 in
theorem zr_164 : ztb164.all (zrok 164) = true := by decide +kernel
set_option maxRecDepth 100000 in
theorem zr_165 : ztb165.all (zrok 165) = true := by decide +kernel
set_option maxRecDepth 100000 in
theorem zr_166 : ztb166.all (zrok 166) = true := by decide +kernel
set_option maxRecDepth 100000 in
theorem zr_167 : ztb167.all (zrok 167) = true := by decide +kernel
set_option maxRecDepth 100000 in
theorem zr_168 : ztb168.all (zrok 168) = true := by decide +kernel
set_option maxRecDepth 100000 in
theorem zr_169 : ztb169.all (zrok 169) = true := by decide +kernel
set_option maxRecDepth 100000 in
theorem zr_170 : ztb170.all (zrok 170) = true := by decide +kernel
set_option maxRecDepth 100000 in
theorem zr_171 : ztb171.all (zrok 171) = true := by decide +kernel
set_option maxRecDepth 100000 in
theorem zr_172 : ztb172.all (zrok 172) = true := by decide +kernel
set_option maxRecDepth 100000 in
theorem zr_173 : ztb173.all (zrok 173) = true := by decide +kernel
set_option maxRecDepth 100000 in
theorem zr_174 : ztb174.all (zrok 174) = true := by decide +kernel
set_option maxRecDepth 100000 in
theorem zr_175 : ztb175.all (zrok 175) = true := by decide +kernel
set_option maxRecDepth 100000 in
theorem zr_176 : ztb176.all (zrok 176) = true := by decide +kernel
set_option maxRecDepth 100000 in
theorem zr_177 : ztb177.all (zrok 177) = true := by decide +kernel
set_option maxRecDepth 100000 in
theorem zr_178 : ztb178.all (zrok 178) = true := by decide +kernel
set_option maxRecDepth 100000 in
theorem zr_179 : ztb179.all (zrok 179) = true := by decide +kernel
set_option maxRecDepth 100000 in
theorem zr_180 : ztb180.all (zrok 180) = true := by decide +kernel
set_option maxRecDepth 100000 in
theorem zr_181 : ztb181.all (zrok 181) = true := by decide +kernel
set_option maxRecDepth 100000 in
theorem zr_182 : ztb182.all (zrok 182) = true := by decide +kernel
set_option maxRecDepth 100000 in
theorem zr_183 : ztb183.all (zrok 183) = true := by decide +kernel
set_option maxRecDepth 100000 in
theorem zr_184 : ztb184.all (zrok 184) = true := by decide +kernel
set_option maxRecDepth 100000 in
theorem zr_185 : ztb185.all (zrok 185) = true := by decide +kernel
set_option maxRecDepth 100000 in
theorem zr_186 : ztb186.all (zrok 186) = true := by decide +kernel
set_option maxRecDepth 100000 in
theorem zr_187 : ztb187.all (zrok 187) = true := by decide +kernel
set_option maxRecDepth 100000 in
theorem zr_188 : ztb188.all (zrok 188) = true := by decide +kernel
set_option maxRecDepth 100000 in
theorem zr_189 : ztb189.all (zrok 189) = true := by decide +kernel
set_option maxRecDepth 100000 in
theorem zr_190 : ztb190.all (zrok 190) = true := by decide +kernel
set_option maxRecDepth 100000 in
theorem zr_191 : ztb191.all (zrok 191) = true := by decide +kernel
set_option maxRecDepth 100000 in
theorem zr_192 : ztb192.all (zrok 192) = true := by decide +kernel
set_option maxRecDepth 100000 in
theorem zr_193 : ztb193.all (zrok 193) = true := by decide +kernel
set_option maxRecDepth 100000 in
theorem zr_194 : ztb194.all (zrok 194) = true := by decide +kernel
set_option maxRecDepth 100000 in
theorem zr_195 : ztb195.all (zrok 195) = true := by decide +kernel
set_option maxRecDepth 100000 in
theorem zr_196 : ztb196.all (zrok 196) = true := by decide +kernel
set_option maxRecDepth 100000 in
theorem zr_197 : ztb197.all (zrok 197) = true := by decide +kernel
set_option maxRecDepth 100000 in
theorem zr_198 : ztb198.all (zrok 198) = true := by decide +kernel
set_option maxRecDepth 100000 in
theorem zr_199 : ztb199.all (zrok 199) = true := by decide +kernel
set_option maxRecDepth 100000 in
theorem zr_200 : ztb200.all (zrok 200) = true := by decide +kernel
set_option maxRecDepth 100000 in
theorem zr_201 : ztb201.all (zrok 201) = true := by decide +kernel
set_option maxRecDepth 100000 in
theorem zr_202 : ztb202.all (zrok 202) = true := by decide +kernel
set_option maxRecDepth 100000 in
theorem zr_203 : ztb203.all (zrok 203) = true := by decide +kernel
set_option maxRecDepth 100000 in
theorem zr_204 : ztb204.all (zrok 204) = true := by decide +kernel
set_option maxRecDepth 100000 in
theorem zr_205 : ztb205.all (zrok 205) = true := by decide +kernel
set_option maxRecDepth 100000 in
theorem zr_206 : ztb206.all (zrok 206) = true := by decide +kernel
set_option maxRecDepth 100000 in
theorem zr_207 : ztb207.all (zrok 207) = true := by decide +kernel
set_option maxRecDepth 100000 in
theorem zr_208 : ztb208.all (zrok 208) = true := by decide +kernel
set_option maxRecDepth 100000 in
theorem zr_209 : ztb209.all (zrok 209) = true := by decide +kernel
set_option maxRecDepth 100000 in
theorem zr_210 : ztb210.all (zrok 210) = true := by decide +kernel
set_option maxRecDepth 100000 in
theorem zr_211 : ztb211.all (zrok 211) = true := by decide +kernel
set_option maxRecDepth 100000 in
theorem zr_212 : ztb212.all (zrok 212) = true := by decide +kernel
set_option maxRecDepth 100000 in
theorem zr_213 : ztb213.all (zrok 213) = true := by decide +kernel
set_option maxRecDepth 100000 in
theorem zr_214 : ztb214.all (zrok 214) = true := by decide +kernel
set_option maxRecDepth 100000 in
theorem zr_215 : ztb215.all (zrok 215) = true := by decide +kernel
set_option maxRecDepth 100000 in
theorem zr_216 : ztb216.all (zrok 216) = true := by decide +kernel
set_option maxRecDepth 100000 in
theorem zr_217 : ztb217.all (zrok 217) = true := by decide +kernel
set_option maxRecDepth 100000 in
theorem zr_218 : ztb218.all (zrok 218) = true := by decide +kernel
set_option maxRecDepth 100000 in
theorem zr_219 : ztb219.all (zrok 219) = true := by decide +kernel
set_option maxRecDepth 100000 in
theorem zr_220 : ztb220.all (zrok 220) = true := by decide +kernel
set_option maxRecDepth 100000 in
theorem zr_221 : ztb221.all (zrok 221) = true := by decide +kernel
set_option maxRecDepth 100000 in
theorem zr_222 : ztb222.all (zrok 222) = true := by decide +kernel
set_option maxRecDepth 100000 in
theorem zr_223 : ztb223.all (zrok 223) = true := by decide +kernel
set_option maxRecDepth 100000 in
theorem zr_224 : ztb224.all (zrok 224) = true := by decide +kernel
set_option maxRecDepth 100000 in
theorem zr_225 : ztb225.all (zrok 225) = true := by decide +kernel
set_option maxRecDepth 100000 in
theorem zr_226 : ztb226.all (zrok 226) = true := by decide +kernel
set_option maxRecDepth 100000 in
theorem zr_227 : ztb227.all (zrok 227) = true := by decide +kernel
set_option maxRecDepth 100000 in
theorem zr_228 : ztb228.all (zrok 228) = true := by decide +kernel
set_option maxRecDepth 100000 in
theorem zr_229 : ztb229.all (zrok 229) = true := by decide +kernel
set_option maxRecDepth 100000 in
theorem zr_230 : ztb230.all (zrok 230) = true := by decide +kernel
set_option maxRecDepth 100000 in
theorem zr_231 : ztb231.all (zrok 231) = true := by decide +kernel
set_option maxRecDepth 100000 in
theorem zr_232 : ztb232.all (zrok 232) = true := by decide +kernel
set_option maxRecDepth 100000 in
theorem zr_233 : ztb233.all (zrok 233) = true := by decide +kernel
set_option maxRecDepth 100000 in
theorem zr_234 : ztb234.all (zrok 234) = true := by decide +kernel
set_option maxRecDepth 100000 in
theorem zr_235 : ztb235.all (zrok 235) = true := by decide +kernel
set_option maxRecDepth 100000 in
theorem zr_236 : ztb236.all (zrok 236) = true := by decide +kernel
set_option maxRecDepth 100000 in
theorem zr_237 : ztb237.all (zrok 237) = true := by decide +kernel
set_option maxRecDepth 100000 in
theorem zr_238 : ztb238.all (zrok 238) = true := by decide +kernel
set_option maxRecDepth 100000 in
theorem zr_239 : ztb239.all (zrok 239) = true := by decide +kernel
set_option maxRecDepth 100000 in
theorem zr_240 : ztb240.all (zrok 240) = true := by decide +kernel
set_option maxRecDepth 100000 in
theorem zr_241 : ztb241.all (zrok 241) = true := by decide +kernel
set_option maxRecDepth 100000 in
theorem zr_242 : ztb242.all (zrok 242) = true := by decide +kernel
set_option maxRecDepth 100000 in
theorem zr_243 : ztb243.all (zrok 243) = true := by decide +kernel
set_option maxRecDepth 100000 in
theorem zr_244 : ztb244.all (zrok 244) = true := by decide +kernel
set_option maxRecDepth 100000 in
theorem zr_245 : ztb245.all (zrok 245) = true := by decide +kernel
set_option maxRecDepth 100000 in
theorem zr_246 : ztb246.all (zrok 246) = true := by decide +kernel
set_option maxRecDepth 100000 in
theorem zr_247 : ztb247.all (zrok 247) = true := by decide +kernel
set_option maxRecDepth 100000 in
theorem zr_248 : ztb248.all (zrok 248) = true := by decide +kernel
set_option maxRecDepth 100000 in
theorem zr_249 : ztb249.all (zrok 249) = true := by decide +kernel
set_option maxRecDepth 100000 in
theorem zr_250 : ztb250.all (zrok 250) = true := by decide +kernel
set_option maxRecDepth 100000 in
theorem zr_251 : ztb251.all (zrok 251) = true := by decide +kernel
set_option maxRecDepth 100000 in
theorem zr_252 : ztb252.all (zrok 252) = true := by decide +kernel
set_option maxRecDepth 100000 in
theorem zr_253 : ztb253.all (zrok 253) = true := by decide +kernel
set_option maxRecDepth 100000 in
theorem zr_254 : ztb254.all (zrok 254) = true := by decide +kernel
