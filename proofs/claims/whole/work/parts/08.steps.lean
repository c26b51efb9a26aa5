theorem zs1_spec {st : List zV} {k : Int32 → List zV → Prop} (h : zs1 st k) : ∃ x r, st = zi x :: r ∧ k x r := by
  unfold zs1 at h
  split at h
  next x r => exact ⟨x, r, rfl, h⟩
  next => exact h.elim
theorem zs2_spec {st : List zV} {k : Int32 → Int32 → List zV → Prop} (h : zs2 st k) : ∃ x y r, st = zi y :: zi x :: r ∧ k x y r := by
  unfold zs2 at h
  split at h
  next y x r => exact ⟨x, y, r, rfl, h⟩
  next => exact h.elim
theorem zsl2_spec {st : List zV} {k : Int64 → Int64 → List zV → Prop} (h : zsl2 st k) : ∃ x y r, st = zl y :: zl x :: r ∧ k x y r := by
  unfold zsl2 at h
  split at h
  next y x r => exact ⟨x, y, r, rfl, h⟩
  next => exact h.elim
theorem zsti_spec {L : zL} {i : Nat} {k : Int32 → Prop} (h : zsti L i k) : ∃ x, zld L i = some (zi x) ∧ k x := by
  unfold zsti at h
  split at h
  next x hx => exact ⟨x, hx, h⟩
  next => exact h.elim
theorem zstl_spec {L : zL} {i : Nat} {k : Int64 → Prop} (h : zstl L i k) : ∃ x, zld L i = some (zl x) ∧ k x := by
  unfold zstl at h
  split at h
  next x hx => exact ⟨x, hx, h⟩
  next => exact h.elim
theorem zsta_spec {L : zL} {i : Nat} {k : Option (Nat × Nat × Nat) → Prop} (h : zsta L i k) : ∃ x, zld L i = some (.inr (.inr x)) ∧ k x := by
  unfold zsta at h
  split at h
  next x hx => exact ⟨x, hx, h⟩
  next => exact h.elim
theorem zbif {b : Bool} {P : Prop} (h : bif b then P else False) : b = true ∧ P := by
  cases b with
  | true => exact ⟨rfl, h⟩
  | false => exact h.elim
theorem zblt {a b : Nat} (h : Nat.blt a b = true) : a < b := Nat.le_of_ble_eq_true h
theorem zokc {v : zV} {r : List zV} (hv : zok v) (hr : ∀ w ∈ r, zok w) : ∀ w ∈ v :: r, zok w := fun w hw => by
  rcases List.mem_cons.mp hw with h | h
  · rw [h]; exact hv
  · exact hr w h
theorem zokt {v : zV} {r : List zV} (h : ∀ w ∈ v :: r, zok w) : ∀ w ∈ r, zok w := fun w hw => h w (List.mem_cons_of_mem _ hw)
theorem zokh {v : zV} {r : List zV} (h : ∀ w ∈ v :: r, zok w) : zok v := h v List.mem_cons_self
theorem ztsw_at {x : Int32} {pc : Nat} {k : Nat → Prop} : ∀ (os : List Int) (lo : Int), ztsw x pc lo os k → ¬ x.toInt < lo → x.toInt < lo + os.length → ∃ o, os[(x.toInt - lo).toNat]? = some o ∧ k ((pc : Int) + o).toNat
  | [], lo, _, h1, h2 => by simp at h2; omega
  | o :: os, lo, h, h1, h2 => by
    obtain ⟨ha, hb⟩ := h
    by_cases he : x.toInt = lo
    · refine ⟨o, ?_, ha he⟩
      rw [show (x.toInt - lo).toNat = 0 by omega]
      rfl
    · obtain ⟨o', q1, q2⟩ := ztsw_at os (lo + 1) hb (by omega) (by simp at h2; omega)
      refine ⟨o', ?_, q2⟩
      rw [show (x.toInt - lo).toNat = (x.toInt - (lo + 1)).toNat + 1 by omega]
      exact q1
section ZS
variable {Γ : zC} {μ : Nat} {Q : zQ} {K : zK} {pc len a b : Nat} {z : Int} {L : zL} {st : List zV} {M : zM} {i : Instr}
/-- the row is right, and what is to come holds -/
def zPre (Γ : zC) (μ : Nat) (Q : zQ) (K : zK) (pc len a b : Nat) (z : Int) (i : Instr) : Prop := μ < znm ∧ zrok μ (pc, i, len, a, b, z) = true ∧ ∀ pc' L' st' M', K pc' L' st' M' → zGo Γ μ Q pc' L' st' M'
theorem zPre.dec (h : zPre Γ μ Q K pc len a b z i) : decode (zm μ).2.1 pc = .ok (i, len) := by
  have h1 := h.2.1
  unfold zrok at h1
  exact of_decide_eq_true (Bool.and_eq_true_iff.mp h1).1
theorem zPre.lk (h : zPre Γ μ Q K pc len a b z i) : zlk μ (pc, i, len, a, b, z) = true := (Bool.and_eq_true_iff.mp h.2.1).2
theorem zPre.ln (h : zPre Γ μ Q K pc len a b z i) (hz : zil i ≠ 0) : len = zil i := by
  have h1 := (Bool.and_eq_true_iff.mp h.lk).1
  rcases Bool.or_eq_true_iff.mp h1 with h2 | h2
  · exact absurd (Nat.eq_of_beq_eq_true h2) hz
  · exact Nat.eq_of_beq_eq_true h2
theorem zPre.d (h : zPre Γ μ Q K pc len a b z i) {n : Nat} (hz : zil i = n) (hn : n ≠ 0) : decode (zm μ).2.1 pc = .ok (i, n) := by
  have h1 := h.ln (by rw [hz]; exact hn)
  rw [hz] at h1
  rw [← h1]
  exact h.dec
end ZS
section ZT
variable {Γ : zC} {μ : Nat} {Q : zQ} {K : zK} {pc len a b : Nat} {z : Int} {L : zL} {st : List zV} {M : zM}
/-- no row of the tables: stack and locals alone -/
theorem zs_pure {i : Instr} (hi : zPre Γ μ Q K pc len a b z i) (h : zstep i a b z pc L st M (zEv Γ) Q K) (hp : match i with
  | .iload_n _ | .iload _ | .lload_n _ | .lload _ | .aload_n _ | .aload _ | .iconst _ | .bipush _ | .sipush _ | .lconst _ | .aconst_null | .iadd | .isub | .imul | .idiv | .irem | .iand | .ior | .ixor | .ishl | .ishr | .iushr | .ineg | .i2l | .i2b | .ladd | .lsub | .lmul | .lcmp | .dup | .dup2 | .pop | .goto _ | .ifCond _ _ | .if_icmp _ _ | .ifnull _ | .ifnonnull _ => True
  | _ => False) : zGo Γ μ Q pc L st M := by
  intro p e s m args below meth c H locs ls hG hC hP hS hl hn hLo hst
  have hCx := hC
  obtain ⟨hx, hb, -⟩ := hC
  have go : ∀ {pc' : Nat} {st' : List zV}, K pc' L st' M → (∀ v ∈ st', zok v) → W p Γ.1 e (zrm μ) s m args below meth c H locs 0 0 (MQ below (zQc Γ Q) args s 0 0 (zA Γ)) (F0 m pc' ls (st'.map (ztv Γ))) := fun hk hs => hi.2.2 _ _ _ _ hk p e s m args below meth c H locs ls hG hCx hP hS hl hn hLo hs
  cases i <;> (try exact hp.elim)
  case iload_n n =>
    obtain ⟨x, h1, h⟩ := zsti_spec h
    exact lv_iload_n hx hb (hi.d rfl (by decide)) rfl (hl.2.2 _ _ h1) (go h (zokc (zok_i x) hst))
  case iload n =>
    obtain ⟨x, h1, h⟩ := zsti_spec h
    exact lv_iload hx hb (hi.d rfl (by decide)) (hl.2.2 _ _ h1) (go h (zokc (zok_i x) hst))
  case lload_n n =>
    obtain ⟨x, h1, h⟩ := zstl_spec h
    exact lv_lload_n hx hb (hi.d rfl (by decide)) rfl (hl.2.2 _ _ h1) (go h (zokc (zok_l x) hst))
  case lload n =>
    obtain ⟨x, h1, h⟩ := zstl_spec h
    exact lv_lload hx hb (hi.d rfl (by decide)) (hl.2.2 _ _ h1) (go h (zokc (zok_l x) hst))
  case aload_n n =>
    obtain ⟨x, h1, h⟩ := zsta_spec h
    have ho := hLo _ _ h1
    cases x with
    | none => exact lv_aload_nN hx hb (hi.d rfl (by decide)) rfl (hl.2.2 _ _ h1) (go h (zokc ho hst))
    | some q => exact lv_aload_n hx hb (hi.d rfl (by decide)) rfl (hl.2.2 _ _ h1) (go h (zokc ho hst))
  case aload n =>
    obtain ⟨x, h1, h⟩ := zsta_spec h
    have ho := hLo _ _ h1
    cases x with
    | none => exact lv_aloadN hx hb (hi.d rfl (by decide)) (hl.2.2 _ _ h1) (go h (zokc ho hst))
    | some q => exact lv_aload hx hb (hi.d rfl (by decide)) (hl.2.2 _ _ h1) (go h (zokc ho hst))
  case iconst n => exact lv_iconst hx hb (hi.d rfl (by decide)) rfl (go h (zokc (zok_i _) hst))
  case bipush n =>
    have hk := (Bool.and_eq_true_iff.mp hi.lk).2
    exact lv_bipush hx hb (hi.d rfl (by decide)) (of_decide_eq_true hk) (go h (zokc (zok_i _) hst))
  case sipush n =>
    have hk := (Bool.and_eq_true_iff.mp hi.lk).2
    exact lv_sipush hx hb (hi.d rfl (by decide)) (of_decide_eq_true hk) (go h (zokc (zok_i _) hst))
  case lconst n => exact lv_lconst hx hb (hi.d rfl (by decide)) rfl (go h (zokc (zok_l _) hst))
  case aconst_null => exact lv_null hx hb (hi.d rfl (by decide)) (go h (zokc zok_n hst))
  case iadd =>
    obtain ⟨x, y, r, rfl, h⟩ := zs2_spec h
    exact lv_iadd hx hb (hi.d rfl (by decide)) (go h (zokc (zok_i _) (zokt (zokt hst))))
  case isub =>
    obtain ⟨x, y, r, rfl, h⟩ := zs2_spec h
    exact lv_isub hx hb (hi.d rfl (by decide)) (go h (zokc (zok_i _) (zokt (zokt hst))))
  case imul =>
    obtain ⟨x, y, r, rfl, h⟩ := zs2_spec h
    exact lv_imul hx hb (hi.d rfl (by decide)) (go h (zokc (zok_i _) (zokt (zokt hst))))
  case idiv =>
    obtain ⟨x, y, r, rfl, h0, h⟩ := zs2_spec h
    exact lv_idiv hx hb (hi.d rfl (by decide)) h0 (go h (zokc (zok_i _) (zokt (zokt hst))))
  case irem =>
    obtain ⟨x, y, r, rfl, h0, h⟩ := zs2_spec h
    exact lv_irem hx hb (hi.d rfl (by decide)) h0 (go h (zokc (zok_i _) (zokt (zokt hst))))
  case iand =>
    obtain ⟨x, y, r, rfl, h⟩ := zs2_spec h
    exact lv_iand hx hb (hi.d rfl (by decide)) (go h (zokc (zok_i _) (zokt (zokt hst))))
  case ior =>
    obtain ⟨x, y, r, rfl, h⟩ := zs2_spec h
    exact lv_ior hx hb (hi.d rfl (by decide)) (go h (zokc (zok_i _) (zokt (zokt hst))))
  case ixor =>
    obtain ⟨x, y, r, rfl, h⟩ := zs2_spec h
    exact lv_ixor hx hb (hi.d rfl (by decide)) (go h (zokc (zok_i _) (zokt (zokt hst))))
  case ishl =>
    obtain ⟨x, y, r, rfl, h⟩ := zs2_spec h
    exact lv_ishl hx hb (hi.d rfl (by decide)) (go h (zokc (zok_i _) (zokt (zokt hst))))
  case ishr =>
    obtain ⟨x, y, r, rfl, h⟩ := zs2_spec h
    exact lv_ishr hx hb (hi.d rfl (by decide)) (go h (zokc (zok_i _) (zokt (zokt hst))))
  case iushr =>
    obtain ⟨x, y, r, rfl, h⟩ := zs2_spec h
    exact lv_iushr hx hb (hi.d rfl (by decide)) rfl (go h (zokc (zok_i _) (zokt (zokt hst))))
  case ineg =>
    obtain ⟨x, r, rfl, h⟩ := zs1_spec h
    exact lv_ineg hx hb (hi.d rfl (by decide)) (go h (zokc (zok_i _) (zokt hst)))
  case i2l =>
    obtain ⟨x, r, rfl, h⟩ := zs1_spec h
    exact lv_i2l hx hb (hi.d rfl (by decide)) rfl (go h (zokc (zok_l _) (zokt hst)))
  case i2b =>
    obtain ⟨x, r, rfl, h⟩ := zs1_spec h
    exact lv_i2b hx hb (hi.d rfl (by decide)) rfl (go h (zokc (zok_i _) (zokt hst)))
  case ladd =>
    obtain ⟨x, y, r, rfl, h⟩ := zsl2_spec h
    exact lv_ladd hx hb (hi.d rfl (by decide)) (go h (zokc (zok_l _) (zokt (zokt hst))))
  case lsub =>
    obtain ⟨x, y, r, rfl, h⟩ := zsl2_spec h
    exact lv_lsub hx hb (hi.d rfl (by decide)) (go h (zokc (zok_l _) (zokt (zokt hst))))
  case lmul =>
    obtain ⟨x, y, r, rfl, h⟩ := zsl2_spec h
    exact lv_lmul hx hb (hi.d rfl (by decide)) (go h (zokc (zok_l _) (zokt (zokt hst))))
  case lcmp =>
    obtain ⟨x, y, r, rfl, h⟩ := zsl2_spec h
    exact W.lcmp hx hb (hi.d rfl (by decide)) (go h (zokc (zok_i _) (zokt (zokt hst))))
  case dup =>
    rcases st with _ | ⟨v, r⟩
    · exact h.elim
    · have hv := zokh hst
      rcases v with x | x | x
      · exact lv_dup hx hb (hi.d rfl (by decide)) rfl (go h (zokc hv hst))
      · exact h.elim
      · exact lv_dup hx hb (hi.d rfl (by decide)) (by cases x <;> rfl) (go h (zokc hv hst))
  case dup2 =>
    rcases st with _ | ⟨v, _ | ⟨w, r⟩⟩
    · exact h.elim
    · rcases v with x | x | x <;> exact h.elim
    · rcases v with x | x | x
      · rcases w with y | y | y
        · exact h.elim
        · exact h.elim
        · exact lv_dup2_11 hx hb (hi.d rfl (by decide)) rfl (by cases y <;> rfl) (go h (zokc (zok_i x) (zokc (zokh (zokt hst)) hst)))
      · exact h.elim
      · exact h.elim
  case pop =>
    rcases st with _ | ⟨v, r⟩
    · exact h.elim
    · rcases v with x | x | x
      · exact lv_pop hx hb (hi.d rfl (by decide)) rfl (go h (zokt hst))
      · exact h.elim
      · exact lv_pop hx hb (hi.d rfl (by decide)) (by cases x <;> rfl) (go h (zokt hst))
  case goto o =>
    have hk := (Bool.and_eq_true_iff.mp hi.lk).2
    exact lv_goto hx hb (hi.d rfl (by decide)) (of_decide_eq_true hk) (go h hst)
  case ifCond cc o =>
    have hk : (pc : Int) + o = (a : Int) := of_decide_eq_true (Bool.and_eq_true_iff.mp hi.lk).2
    cases cc <;> (obtain ⟨x, r, rfl, h1, h2⟩ := zs1_spec h; have ht := zokt hst)
    case eq => exact lv_if_eq hx hb (hi.d rfl (by decide)) hk (fun q => go (h1 q) ht) (fun q => go (h2 q) ht)
    case ne => exact lv_if_ne hx hb (hi.d rfl (by decide)) hk (fun q => go (h1 q) ht) (fun q => go (h2 q) ht)
    case lt => exact lv_if_lt hx hb (hi.d rfl (by decide)) hk (fun q => go (h1 q) ht) (fun q => go (h2 q) ht)
    case ge => exact lv_if_ge hx hb (hi.d rfl (by decide)) hk (fun q => go (h1 q) ht) (fun q => go (h2 q) ht)
    case gt => exact lv_if_gt hx hb (hi.d rfl (by decide)) hk (fun q => go (h1 q) ht) (fun q => go (h2 q) ht)
    case le => exact lv_if_le hx hb (hi.d rfl (by decide)) hk (fun q => go (h1 q) ht) (fun q => go (h2 q) ht)
  case if_icmp cc o =>
    have hk : (pc : Int) + o = (a : Int) := of_decide_eq_true (Bool.and_eq_true_iff.mp hi.lk).2
    cases cc <;> (obtain ⟨x, y, r, rfl, h1, h2⟩ := zs2_spec h; have ht := zokt (zokt hst))
    case eq => exact lv_icmp_eq hx hb (hi.d rfl (by decide)) hk (fun q => go (h1 q) ht) (fun q => go (h2 q) ht)
    case ne => exact lv_icmp_ne hx hb (hi.d rfl (by decide)) hk (fun q => go (h1 q) ht) (fun q => go (h2 q) ht)
    case lt => exact lv_icmp_lt hx hb (hi.d rfl (by decide)) hk (fun q => go (h1 q) ht) (fun q => go (h2 q) ht)
    case ge => exact lv_icmp_ge hx hb (hi.d rfl (by decide)) hk (fun q => go (h1 q) ht) (fun q => go (h2 q) ht)
    case gt => exact lv_icmp_gt hx hb (hi.d rfl (by decide)) hk (fun q => go (h1 q) ht) (fun q => go (h2 q) ht)
    case le => exact lv_icmp_le hx hb (hi.d rfl (by decide)) hk (fun q => go (h1 q) ht) (fun q => go (h2 q) ht)
  case ifnull o =>
    have hk : (pc : Int) + o = (a : Int) := of_decide_eq_true (Bool.and_eq_true_iff.mp hi.lk).2
    rcases st with _ | ⟨v, r⟩
    · exact h.elim
    · rcases v with x | x | x
      · exact h.elim
      · exact h.elim
      · cases x with
        | none => exact lv_ifnullN hx hb (hi.d rfl (by decide)) hk (go h (zokt hst))
        | some q => exact lv_ifnull hx hb (hi.d rfl (by decide)) (go h (zokt hst))
  case ifnonnull o =>
    have hk : (pc : Int) + o = (a : Int) := of_decide_eq_true (Bool.and_eq_true_iff.mp hi.lk).2
    rcases st with _ | ⟨v, r⟩
    · exact h.elim
    · rcases v with x | x | x
      · exact h.elim
      · exact h.elim
      · cases x with
        | none => exact lv_ifnonnullN hx hb (hi.d rfl (by decide)) (go h (zokt hst))
        | some q => exact lv_ifnonnull hx hb (hi.d rfl (by decide)) hk (go h (zokt hst))
end ZT
