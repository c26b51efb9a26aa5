set_option maxRecDepth 100000 in
theorem zme_all : ∀ n, n < znm → zmeOK (zm n) := lt_s (lt_s (lt_s (lt_s (lt_s (lt_s (lt_s (lt_s (lt_s (lt_s (lt_s (lt_s (lt_s (lt_s (lt_s (lt_s (lt_s (lt_s (lt_s (lt_s (lt_s (lt_s (lt_s (lt_s (lt_s (lt_s (lt_s (lt_s (lt_s (lt_s (lt_s (lt_s (lt_s (lt_s (lt_s (lt_s (lt_s (lt_s (lt_s (lt_s (lt_s (lt_s (lt_s (lt_s (lt_s (lt_s (lt_s (lt_s (lt_s (lt_s (lt_s (lt_s (lt_s (lt_s (lt_s (lt_s (lt_s (lt_s (lt_s (lt_s (lt_s (lt_s (lt_s (lt_s (lt_s (lt_s (lt_s (lt_s (lt_s (lt_s (lt_s (lt_s (lt_s (lt_s (lt_s (lt_s (lt_s (lt_s (lt_s (lt_s (lt_s (lt_s (lt_s (lt_s (lt_s (lt_s (lt_s (lt_s (lt_s (lt_s (lt_s (lt_s (lt_s (lt_s (lt_s (lt_s (lt_s (lt_s (lt_s (lt_s (lt_s (lt_s (lt_s (lt_s (lt_s (lt_s (lt_s (lt_s (lt_s (lt_s (lt_s (lt_s (lt_s (lt_s (lt_s (lt_s (lt_s (lt_s (lt_s (lt_s (lt_s (lt_s (lt_s (lt_s (lt_s (lt_s (lt_s (lt_s (lt_s (lt_s (lt_s (lt_s (lt_s (lt_s (lt_s (lt_s (lt_s (lt_s (lt_s (lt_s (lt_s (lt_s (lt_s (lt_s (lt_s (lt_s (lt_s (lt_s (lt_s (lt_s (lt_s (lt_s (lt_s (lt_s (lt_s (lt_s (lt_s (lt_s (lt_s (lt_s (lt_s (lt_s (lt_s (lt_s (lt_s (lt_s (lt_s (lt_s (lt_s (lt_s (lt_s (lt_s (lt_s (lt_s (lt_s (lt_s (lt_s (lt_s (lt_s (lt_s (lt_s (lt_s (lt_s (lt_s (lt_s (lt_s (lt_s (lt_s (lt_s (lt_s (lt_s (lt_s (lt_s (lt_s (lt_s (lt_s (lt_s (lt_s (lt_s (lt_s (lt_s (lt_s (lt_s (lt_s (lt_s (lt_s (lt_s (lt_s (lt_s (lt_s (lt_s (lt_s (lt_s (lt_s (lt_s (lt_s (lt_s (lt_s (lt_s (lt_s (lt_s (lt_s (lt_s (lt_s (lt_s (lt_s (lt_s (lt_s (lt_s (lt_s (lt_s (lt_s (lt_s (lt_s (lt_s (lt_s (lt_s (lt_s (lt_s (lt_s (lt_s (lt_s (lt_s (lt_s (lt_s (lt_s (lt_s (lt_s (lt_s (lt_s (lt_s (lt_s (lt_s (lt_s (lt_s (lt_0) zme_0) zme_1) zme_2) zme_3) zme_4) zme_5) zme_6) zme_7) zme_8) zme_9) zme_10) zme_11) zme_12) zme_13) zme_14) zme_15) zme_16) zme_17) zme_18) zme_19) zme_20) zme_21) zme_22) zme_23) zme_24) zme_25) zme_26) zme_27) zme_28) zme_29) zme_30) zme_31) zme_32) zme_33) zme_34) zme_35) zme_36) zme_37) zme_38) zme_39) zme_40) zme_41) zme_42) zme_43) zme_44) zme_45) zme_46) zme_47) zme_48) zme_49) zme_50) zme_51) zme_52) zme_53) zme_54) zme_55) zme_56) zme_57) zme_58) zme_59) zme_60) zme_61) zme_62) zme_63) zme_64) zme_65) zme_66) zme_67) zme_68) zme_69) zme_70) zme_71) zme_72) zme_73) zme_74) zme_75) zme_76) zme_77) zme_78) zme_79) zme_80) zme_81) zme_82) zme_83) zme_84) zme_85) zme_86) zme_87) zme_88) zme_89) zme_90) zme_91) zme_92) zme_93) zme_94) zme_95) zme_96) zme_97) zme_98) zme_99) zme_100) zme_101) zme_102) zme_103) zme_104) zme_105) zme_106) zme_107) zme_108) zme_109) zme_110) zme_111) zme_112) zme_113) zme_114) zme_115) zme_116) zme_117) zme_118) zme_119) zme_120) zme_121) zme_122) zme_123) zme_124) zme_125) zme_126) zme_127) zme_128) zme_129) zme_130) zme_131) zme_132) zme_133) zme_134) zme_135) zme_136) zme_137) zme_138) zme_139) zme_140) zme_141) zme_142) zme_143) zme_144) zme_145) zme_146) zme_147) zme_148) zme_149) zme_150) zme_151) zme_152) zme_153) zme_154) zme_155) zme_156) zme_157) zme_158) zme_159) zme_160) zme_161) zme_162) zme_163) zme_164) zme_165) zme_166) zme_167) zme_168) zme_169) zme_170) zme_171) zme_172) zme_173) zme_174) zme_175) zme_176) zme_177) zme_178) zme_179) zme_180) zme_181) zme_182) zme_183) zme_184) zme_185) zme_186) zme_187) zme_188) zme_189) zme_190) zme_191) zme_192) zme_193) zme_194) zme_195) zme_196) zme_197) zme_198) zme_199) zme_200) zme_201) zme_202) zme_203) zme_204) zme_205) zme_206) zme_207) zme_208) zme_209) zme_210) zme_211) zme_212) zme_213) zme_214) zme_215) zme_216) zme_217) zme_218) zme_219) zme_220) zme_221) zme_222) zme_223) zme_224) zme_225) zme_226) zme_227) zme_228) zme_229) zme_230) zme_231) zme_232) zme_233) zme_234) zme_235) zme_236) zme_237) zme_238) zme_239) zme_240) zme_241) zme_242) zme_243) zme_244) zme_245) zme_246) zme_247) zme_248) zme_249) zme_250) zme_251) zme_252) zme_253) zme_254
set_option maxRecDepth 100000 in
theorem zr_all : ∀ n, n < znm → (zt n).all (zrok n) = true := lt_s (lt_s (lt_s (lt_s (lt_s (lt_s (lt_s (lt_s (lt_s (lt_s (lt_s (lt_s (lt_s (lt_s (lt_s (lt_s (lt_s (lt_s (lt_s (lt_s (lt_s (lt_s (lt_s (lt_s (lt_s (lt_s (lt_s (lt_s (lt_s (lt_s (lt_s (lt_s (lt_s (lt_s (lt_s (lt_s (lt_s (lt_s (lt_s (lt_s (lt_s (lt_s (lt_s (lt_s (lt_s (lt_s (lt_s (lt_s (lt_s (lt_s (lt_s (lt_s (lt_s (lt_s (lt_s (lt_s (lt_s (lt_s (lt_s (lt_s (lt_s (lt_s (lt_s (lt_s (lt_s (lt_s (lt_s (lt_s (lt_s (lt_s (lt_s (lt_s (lt_s (lt_s (lt_s (lt_s (lt_s (lt_s (lt_s (lt_s (lt_s (lt_s (lt_s (lt_s (lt_s (lt_s (lt_s (lt_s (lt_s (lt_s (lt_s (lt_s (lt_s (lt_s (lt_s (lt_s (lt_s (lt_s (lt_s (lt_s (lt_s (lt_s (lt_s (lt_s (lt_s (lt_s (lt_s (lt_s (lt_s (lt_s (lt_s (lt_s (lt_s (lt_s (lt_s (lt_s (lt_s (lt_s (lt_s (lt_s (lt_s (lt_s (lt_s (lt_s (lt_s (lt_s (lt_s (lt_s (lt_s (lt_s (lt_s (lt_s (lt_s (lt_s (lt_s (lt_s (lt_s (lt_s (lt_s (lt_s (lt_s (lt_s (lt_s (lt_s (lt_s (lt_s (lt_s (lt_s (lt_s (lt_s (lt_s (lt_s (lt_s (lt_s (lt_s (lt_s (lt_s (lt_s (lt_s (lt_s (lt_s (lt_s (lt_s (lt_s (lt_s (lt_s (lt_s (lt_s (lt_s (lt_s (lt_s (lt_s (lt_s (lt_s (lt_s (lt_s (lt_s (lt_s (lt_s (lt_s (lt_s (lt_s (lt_s (lt_s (lt_s (lt_s (lt_s (lt_s (lt_s (lt_s (lt_s (lt_s (lt_s (lt_s (lt_s (lt_s (lt_s (lt_s (lt_s (lt_s (lt_s (lt_s (lt_s (lt_s (lt_s (lt_s (lt_s (lt_s (lt_s (lt_s (lt_s (lt_s (lt_s (lt_s (lt_s (lt_s (lt_s (lt_s (lt_s (lt_s (lt_s (lt_s (lt_s (lt_s (lt_s (lt_s (lt_s (lt_s (lt_s (lt_s (lt_s (lt_s (lt_s (lt_s (lt_s (lt_s (lt_s (lt_s (lt_s (lt_s (lt_s (lt_s (lt_s (lt_s (lt_s (lt_s (lt_s (lt_s (lt_s (lt_s (lt_s (lt_s (lt_s (lt_s (lt_s (lt_0) zr_0) zr_1) zr_2) zr_3) zr_4) zr_5) zr_6) zr_7) zr_8) zr_9) zr_10) zr_11) zr_12) zr_13) zr_14) zr_15) zr_16) zr_17) zr_18) zr_19) zr_20) zr_21) zr_22) zr_23) zr_24) zr_25) zr_26) zr_27) zr_28) zr_29) zr_30) zr_31) zr_32) zr_33) zr_34) zr_35) zr_36) zr_37) zr_38) zr_39) zr_40) zr_41) zr_42) zr_43) zr_44) zr_45) zr_46) zr_47) zr_48) zr_49) zr_50) zr_51) zr_52) zr_53) zr_54) zr_55) zr_56) zr_57) zr_58) zr_59) zr_60) zr_61) zr_62) zr_63) zr_64) zr_65) zr_66) zr_67) zr_68) zr_69) zr_70) zr_71) zr_72) zr_73) zr_74) zr_75) zr_76) zr_77) zr_78) zr_79) zr_80) zr_81) zr_82) zr_83) zr_84) zr_85) zr_86) zr_87) zr_88) zr_89) zr_90) zr_91) zr_92) zr_93) zr_94) zr_95) zr_96) zr_97) zr_98) zr_99) zr_100) zr_101) zr_102) zr_103) zr_104) zr_105) zr_106) zr_107) zr_108) zr_109) zr_110) zr_111) zr_112) zr_113) zr_114) zr_115) zr_116) zr_117) zr_118) zr_119) zr_120) zr_121) zr_122) zr_123) zr_124) zr_125) zr_126) zr_127) zr_128) zr_129) zr_130) zr_131) zr_132) zr_133) zr_134) zr_135) zr_136) zr_137) zr_138) zr_139) zr_140) zr_141) zr_142) zr_143) zr_144) zr_145) zr_146) zr_147) zr_148) zr_149) zr_150) zr_151) zr_152) zr_153) zr_154) zr_155) zr_156) zr_157) zr_158) zr_159) zr_160) zr_161) zr_162) zr_163) zr_164) zr_165) zr_166) zr_167) zr_168) zr_169) zr_170) zr_171) zr_172) zr_173) zr_174) zr_175) zr_176) zr_177) zr_178) zr_179) zr_180) zr_181) zr_182) zr_183) zr_184) zr_185) zr_186) zr_187) zr_188) zr_189) zr_190) zr_191) zr_192) zr_193) zr_194) zr_195) zr_196) zr_197) zr_198) zr_199) zr_200) zr_201) zr_202) zr_203) zr_204) zr_205) zr_206) zr_207) zr_208) zr_209) zr_210) zr_211) zr_212) zr_213) zr_214) zr_215) zr_216) zr_217) zr_218) zr_219) zr_220) zr_221) zr_222) zr_223) zr_224) zr_225) zr_226) zr_227) zr_228) zr_229) zr_230) zr_231) zr_232) zr_233) zr_234) zr_235) zr_236) zr_237) zr_238) zr_239) zr_240) zr_241) zr_242) zr_243) zr_244) zr_245) zr_246) zr_247) zr_248) zr_249) zr_250) zr_251) zr_252) zr_253) zr_254
section ZP
variable {Γ : zC} {μ : Nat} {Q : zQ} {K : zK} {pc len a b : Nat} {z : Int} {L : zL} {st : List zV} {M : zM}
theorem zs_ret {i : Instr} (hi : zPre Γ μ Q K pc len a b z i) (h : zstep i a b z pc L st M (zEv Γ) Q K) (hp : match i with
  | .ireturn | .lreturn | .areturn | .return_ => True
  | _ => False) : zGo Γ μ Q pc L st M := by
  intro p e s m args below meth c H locs ls hG hC hP hS hl hn hLo hst
  obtain ⟨hx, hb, hml, hown, hts, hr, hlocks, hK, hb0, hW0, hlow⟩ := hC
  have post : ∀ {r : Option zV} {t : State}, Q r M → (∀ v, r = some v → zok v) → t.heap = H → s.WarmedH t.vm → zQc Γ Q args s (.returned (r.map (ztv Γ))) t := fun hq hok ht hW => ⟨⟨_, M, rfl, hq, hok, zI_at hP hS hK hb0 hW0 hlow ht hW⟩, hS.F ht⟩
  have hk := (Bool.and_eq_true_iff.mp hi.lk).2
  cases i <;> (try exact hp.elim)
  case ireturn =>
    rcases st with _ | ⟨v, _ | ⟨w, r⟩⟩
    · exact h.elim
    · rcases v with x | x | x
      · have bo : (zm μ).2.2.2.1 = some .boolean → (zbl x ∧ Q (some (zi x)) M) → W p Γ.1 e (zrm μ) s m args below meth c H locs 0 0 (MQ below (zQc Γ Q) args s 0 0 (zA Γ)) (F0 m pc ls ([zi x].map (ztv Γ))) := fun hk h =>
          W.zret (v := x) (ty := .boolean) hx hb (hr.trans hk) (znar_b h.1).1 (fun t ht hW => post (r := some (zi x)) h.2 (fun v hv => by cases hv; exact zok_i x) ht hW) hS.2.2 (hi.d rfl (by decide)) hlocks
        rcases z with (_ | n) | n
        · exact W.iret (v := x) hx hb (hr.trans (of_decide_eq_true hk)) (fun t ht hW => post (r := some (zi x)) h (fun v hv => by cases hv; exact zok_i x) ht hW) hS.2.2 (hi.d rfl (by decide)) hlocks
        · exact bo (of_decide_eq_true hk) h
        · exact bo (of_decide_eq_true hk) h
      · exact h.elim
      · exact h.elim
    · rcases v with x | x | x <;> exact h.elim
  case lreturn =>
    rcases st with _ | ⟨v, _ | ⟨w, r⟩⟩
    · exact h.elim
    · rcases v with x | x | x
      · exact h.elim
      · exact W.lret (v := x) hx hb (hr.trans (of_decide_eq_true hk)) (fun t ht hW => post (r := some (zl x)) h (fun v hv => by cases hv; exact zok_l x) ht hW) hS.2.2 (hi.d rfl (by decide)) hlocks
      · exact h.elim
    · rcases v with x | x | x <;> exact h.elim
  case areturn =>
    rcases st with _ | ⟨v, _ | ⟨w, r⟩⟩
    · exact h.elim
    · rcases v with x | x | x
      · exact h.elim
      · exact h.elim
      · exact W.aret (v := ztv Γ (.inr (.inr x))) hx hb (hr.trans (of_decide_eq_true hk)) (Or.inl ⟨_, rfl⟩) (by cases x with
          | none => exact Or.inl rfl
          | some q => exact Or.inr ⟨_, rfl⟩) (fun t ht hW => post (r := some (.inr (.inr x))) h (fun v hv => by cases hv; exact zokh hst) ht hW) hS.2.2 (hi.d rfl (by decide)) hlocks
    · rcases v with x | x | x <;> exact h.elim
  case return_ =>
    rcases st with _ | ⟨v, r⟩
    · exact W.vret hx hb (hr.trans (of_decide_eq_true hk)) (fun t ht hW => post (r := none) h (fun v hv => by cases hv) ht hW) hS.2.2 (hi.d rfl (by decide)) hlocks
    · exact h.elim
theorem zstep_sound {i : Instr} (hi : zPre Γ μ Q K pc len a b z i) (h : zstep i a b z pc L st M (zEv Γ) Q K) : zGo Γ μ Q pc L st M := by
  cases i <;> first
    | exact zs_pure hi h trivial
    | exact zs_store hi h trivial
    | exact zs_read hi h trivial
    | exact zs_write hi h trivial
    | exact zs_call zme_all hi h trivial
    | exact zs_ret hi h trivial
    | exact h.elim
theorem zfind_mem : ∀ (tb : List zRow) (pc : Nat) {r : Instr × Nat × Nat × Nat × Int}, zfind tb pc = some r → (pc, r) ∈ tb
  | [], _, _, h => by cases h
  | x :: tb, pc, r, h => by
    unfold zfind at h
    cases hx : Nat.beq x.1 pc with
    | true =>
      rw [hx] at h
      have h1 : x.2 = r := Option.some.inj h
      have h2 : x.1 = pc := Nat.eq_of_beq_eq_true hx
      rw [← h1, ← h2]
      exact List.mem_cons_self
    | false =>
      rw [hx] at h
      exact List.mem_cons_of_mem _ (zfind_mem tb pc h)
theorem zwp_sound (hμ : μ < znm) (ss : List (Nat × List Bool)) (hK : ∀ pc L st M, K pc L st M → zGo Γ μ Q pc L st M) : ∀ (n : Nat) (pc : Nat) (L : zL) (st : List zV) (M : zM), zwp (zt μ) ss (zEv Γ) Q K n pc L st M → zGo Γ μ Q pc L st M
  | 0, _, _, _, _, h => by cases h
  | n + 1, pc, L, st, M, h => by
    unfold zwp at h
    cases hz : zfind (zt μ) pc with
    | none => rw [hz] at h; exact h.elim
    | some r =>
      obtain ⟨i, len, a, b, z⟩ := r
      rw [hz] at h
      refine zstep_sound (len := len) (a := a) (b := b) (z := z) (i := i) ⟨hμ, List.all_eq_true.mp (zr_all μ hμ) _ (zfind_mem _ _ hz), ?_⟩ h
      intro pc' L' st' M' hk
      cases hs : zstop ss pc' with
      | some bs =>
        rw [hs] at hk
        exact zGo_mask bs (hK _ _ _ _ hk)
      | none =>
        rw [hs] at hk
        exact zwp_sound hμ ss hK n pc' L' st' M' hk
/-- a stretch from pc, up to the stops or the end -/
theorem zgo (n : Nat) (ss : List (Nat × List Bool)) (hμ : Nat.blt μ znm = true) {tb : List zRow} (ht : zt μ = tb) (h : zwp tb ss (zEv Γ) Q (zGo Γ μ Q) n pc L st M) : zGo Γ μ Q pc L st M := by
  subst ht
  exact zwp_sound (zblt hμ) ss (fun _ _ _ _ h => h) n pc L st M h
/-! a method's entry -/
def zarg : List zV → zL
  | [] => []
  | .inr (.inl x) :: r => some (zl x) :: none :: zarg r
  | v :: r => some v :: zarg r
def zpad : Nat → zL → zL
  | 0, _ => []
  | n + 1, [] => none :: zpad n []
  | n + 1, x :: L => x :: zpad n L
theorem zpad_len : ∀ (n : Nat) (L : zL), (zpad n L).length = n
  | 0, _ => rfl
  | n + 1, [] => by show (zpad n []).length + 1 = _; rw [zpad_len n []]
  | n + 1, _ :: L => by show (zpad n L).length + 1 = _; rw [zpad_len n L]
theorem zld_nil (i : Nat) : zld [] i = none := rfl
theorem zpad_ld {v : zV} : ∀ (n : Nat) (L : zL) (i : Nat), zld (zpad n L) i = some v → zld L i = some v
  | 0, _, _, h => by cases h
  | n + 1, [], 0, h => by cases h
  | n + 1, [], i + 1, h => by
    have := zpad_ld n [] i h
    cases this
  | n + 1, x :: L, 0, h => h
  | n + 1, x :: L, i + 1, h => zpad_ld n L i h
theorem zarg_ld {Γ : zC} {v : zV} : ∀ (as : List zV) (off i : Nat), zld (zarg as) i = some v → (off + i, ztv Γ v) ∈ lv_args off (as.map (ztv Γ))
  | [], _, _, h => by cases h
  | .inr (.inl x) :: r, off, 0, h => by
    have h1 : zl x = v := Option.some.inj h
    subst h1
    exact List.mem_cons_self
  | .inr (.inl x) :: r, off, 1, h => by cases h
  | .inr (.inl x) :: r, off, i + 2, h => by
    have h2 : zld (zarg r) i = some v := h
    have := zarg_ld (Γ := Γ) r (off + 2) i h2
    rw [show off + (i + 2) = off + 2 + i by omega]
    exact List.mem_cons_of_mem _ this
  | .inl x :: r, off, 0, h => by
    have h1 : zi x = v := Option.some.inj h
    subst h1
    exact List.mem_cons_self
  | .inl x :: r, off, i + 1, h => by
    have h2 : zld (zarg r) i = some v := h
    have := zarg_ld (Γ := Γ) r (off + 1) i h2
    rw [show off + (i + 1) = off + 1 + i by omega]
    exact List.mem_cons_of_mem _ this
  | .inr (.inr x) :: r, off, 0, h => by
    have h1 : (.inr (.inr x) : zV) = v := Option.some.inj h
    subst h1
    exact List.mem_cons_self
  | .inr (.inr x) :: r, off, i + 1, h => by
    have h2 : zld (zarg r) i = some v := h
    have := zarg_ld (Γ := Γ) r (off + 1) i h2
    rw [show off + (i + 1) = off + 1 + i by omega]
    refine List.mem_cons_of_mem _ ?_
    rw [show (if (ztv Γ (.inr (.inr x))).category = 2 then off + 2 else off + 1) = off + 1 by cases x <;> rfl]
    exact this
theorem zarg_ok {v : zV} : ∀ (as : List zV), (∀ w ∈ as, zok w) → ∀ i, zld (zarg as) i = some v → zok v
  | [], _, _, h => by cases h
  | .inr (.inl x) :: r, ha, 0, h => by
    have h1 : zl x = v := Option.some.inj h
    subst h1
    exact zok_l x
  | .inr (.inl x) :: r, ha, 1, h => by cases h
  | .inr (.inl x) :: r, ha, i + 2, h => zarg_ok r (zokt ha) i h
  | .inl x :: r, ha, 0, h => by
    have h1 : zi x = v := Option.some.inj h
    subst h1
    exact zok_i x
  | .inl x :: r, ha, i + 1, h => zarg_ok r (zokt ha) i h
  | .inr (.inr x) :: r, ha, 0, h => by
    have h1 : (.inr (.inr x) : zV) = v := Option.some.inj h
    subst h1
    exact zokh ha
  | .inr (.inr x) :: r, ha, i + 1, h => zarg_ok r (zokt ha) i h
theorem zlgsl (Γ : zC) : ∀ as : List zV, (lg_sl (as.map (ztv Γ))).length = zwds as
  | [] => rfl
  | v :: r => by
    have := zlgsl Γ r
    unfold lg_sl at this ⊢
    rw [List.map_cons, List.flatMap_cons, List.length_append, this]
    show _ = zwd1 v + zwds r
    congr 1
    rw [ztv_cat]
    rcases v with x | x | x <;> rfl
theorem zev_in {as : List zV} (hμ : Nat.blt μ znm = true) (hw : Nat.ble (zwds as) (zm μ).2.2.1 = true) (h : zGo Γ μ Q 0 (zpad (zm μ).2.2.1 (zarg as)) [] M) : zEv Γ μ as M Q := by
  intro has hG
  obtain ⟨m1, m2, ⟨m3, m4, m5, m6⟩, m7, -⟩ := zme_all μ (zblt hμ)
  refine Met.ofW (cc := (zm μ).2.1) (maxL := (zm μ).2.2.1) (ret := (zm μ).2.2.2.1) (ws' := WS) m4 rfl ?_
  intro p e s m args below meth c s₁ B hml hv
  obtain ⟨rfl, hI⟩ := hv
  have hts := atoms_spec (ws := zws μ) B.pre
  have hown : s.vm.findClass (zR (zm μ).1) = some m.cls := by rw [← m3]; exact findClass_of_methodNamed B.named
  have hl := lv_entry (as.map (ztv Γ)) (n := (zm μ).2.2.1) (by rw [zlgsl]; exact Nat.le_of_ble_eq_true hw)
  rw [lg_entry_eq]
  generalize (lg_sl (as.map (ztv Γ)) ++ List.replicate ((zm μ).2.2.1 - (lg_sl (as.map (ztv Γ))).length) Slot.unset).toArray = ls at hl ⊢
  refine h p e s m _ below meth c s.heap [] ls hG ⟨B.exec, B.bytes, hml, hown, fun w hw => hts w (List.mem_cons_of_mem _ hw), B.returns, B.notSynchronized, hI.2.1, hI.2.2.1, hI.2.2.2.1, hI.2.2.2.2⟩ hI.1 va_S.rf ?_ (zpad_len _ _) ?_ (fun v hv => by cases hv)
  · refine ⟨by rw [zpad_len]; exact hl.1, hl.2.1, fun i v hv => ?_⟩
    have := zarg_ld (Γ := Γ) as 0 i (zpad_ld _ _ _ hv)
    rw [Nat.zero_add] at this
    exact hl.2.2 _ this
  · exact fun i v hv => zarg_ok as has i (zpad_ld _ _ _ hv)
end ZP
