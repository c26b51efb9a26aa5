def rRp (c t f i : Nat) : Prop := c = 10 ∧ t = 0 ∧ ((f = 0 ∧ (i = 18 ∨ i = 23)) ∨ f = 16 ∨ f = 20 ∨ f = 21)
theorem rRp_n {f i : Nat} (h : f ≠ 16) (h1 : f ≠ 20) (h' : f ≠ 21) (h2 : f ≠ 0 ∨ (i ≠ 18 ∧ i ≠ 23)) : ¬ rRp 10 0 f i := by
  rintro ⟨-, -, ⟨a, b⟩ | a | a | a⟩ <;> omega
theorem rLy_rp {c t f i : Nat} (h : rLy c t f i) : rRp c t f i := by
  obtain ⟨a, b, c⟩ := h
  exact ⟨a, b, by omega⟩
theorem rRp_sc {c t f i : Nat} (h : rRp c t f i) : rSc c t f i := by
  obtain ⟨a, b, c⟩ := h
  exact ⟨a, b, by omega, by omega, by omega⟩
/-- the line and its pays, as the reference holds them -/
def rLn (M : zM) (S : SB) (bd mk : Nat → Int) (bar : Int) (n : Nat) : Prop := rOr M (lin bd mk (fun _ => false) bar n) ∧ rPy M (S 0).toNat (payB S bd mk bar (lin bd mk (fun _ => false) bar n) (S 0).toNat)
section Z43
variable {Γ : zC} {Q : zQ} {M : zM} {b cnt t ts n : Nat} {S : SB} {SS : Nat → SB} {bd mk : Nat → Int} {lo : List Nat} {bar : Int}
theorem r_laysS (hS : SOK S) (hB : rB M b S) (hn : n ≤ 8) (hr : rng n bd mk) (hb : rBd M n bd mk (fun _ => false)) (hbar : 0 ≤ bar ∧ bar ≤ 99) (h : ∀ M', Off rLy M M' → rLn M' S bd mk bar n → Q none M') : zEv Γ 187 [zo 10 0 0, zi (iz (n : Int)), zi (iz bar)] M Q := by
  have h6 := hS.1
  refine r_lays (nb := (S 0).toNat) hS (by omega) hB hn hr hb hbar (fun M' ho hor hp => h M' ho ⟨hor, fun j hj => ?_⟩)
  rw [hp j hj]
  unfold payB
  congr 1
  by_cases c : j < (lin bd mk (fun _ => false) bar n).length
  · rw [if_pos c, if_pos (by omega)]
  · rw [if_neg c, if_neg (by omega)]
theorem rng_upd {i : Nat} {x : Int} (hr : rng n bd mk) (hx : 0 ≤ x ∧ x ≤ 99) : rng n (updB bd i x) mk := fun k hk => by
  refine ⟨?_, (hr k hk).2⟩
  unfold updB
  split
  · exact hx
  · exact (hr k hk).1
theorem rBd_upd {i : Nat} {x y : Int} (hb : rBd M n (updB bd i y) mk (fun _ => false)) : rBd (zw M 10 0 16 i (iz x)) n (updB bd i x) mk (fun _ => false) := fun k hk => by
  obtain ⟨h1, h2, h3⟩ := hb k hk
  simp only [zw_get]
  by_cases hki : k = i
  · subst hki
    rw [updB_eq]
    simp
    exact ⟨h2, by simpa using h3⟩
  · rw [updB_ne hki] at h1 ⊢
    simp [hki]
    exact ⟨h1, h2, by simpa using h3⟩
theorem updB_self {i : Nat} : updB bd i (bd i) = bd := by
  funext k
  unfold updB
  split
  · next h => rw [h]
  · rfl
theorem r_gainX (hS : SOK S) (hB : rB M b S) (hn : n ≤ 7) (hL : rLn M S bd mk bar n) (ht : M.1 10 0 0 21 = iz (-1)) {i : Nat} (hi : i < 7) (h : Q (some (zi (iz (gnS (worS S) (payB S bd mk bar (lin bd mk (fun _ => false) bar n) (S 0).toNat) (plc (lin bd mk (fun _ => false) bar n) (S 0).toNat i) i)))) M) : zEv Γ 192 [zo 10 0 0, zi (iz (i : Int))] M Q := by
  have h6 := hS.1
  have hlen := lin_len (bd := bd) (mk := mk) (ex := fun _ => false) (bar := bar) n
  refine r_gainOf (nb := (S 0).toNat) (tl := -1) (tg := 0) hS (by omega) hB hL.1 (fun x hx => by have := lin_lt n x hx; omega) (by omega) hL.2 ht (by omega) (Or.inr rfl) hi ?_
  have e : (fun i j => wor S (valO S (-1) 0 i) i j) = worS S := by
    funext i j
    unfold valO worS
    rw [if_neg (by omega)]
  rw [e]
  exact h
theorem r_replyOf {i top : Nat} (hS : SOK S) (hn : S 1 = (n : Int)) (hB : rB M b S) (ht : M.1 10 0 0 21 = iz (-1)) (hb : rBd M n bd mk (fun _ => false)) (hr : rng n bd mk) (hi : i < n) (htop : top ≤ 99)
    (h : ∀ M', Off rRp M M' → rBd M' n bd mk (fun _ => false) → rLn M' S bd mk (S 3) n → M'.1 10 0 0 23 = iz (gB S bd mk (linO bd mk i (S 3) n) i (S 3) ((amx (fun k => gB S bd mk (linO bd mk i (S 3) n) i (S 3) (k : Int)) top : Nat) : Int)) → Q (some (zi (iz ((amx (fun k => gB S bd mk (linO bd mk i (S 3) n) i (S 3) (k : Int)) top : Nat) : Int)))) M') : zEv Γ 203 [zo 10 0 0, zi (iz (i : Int)), zi (iz (top : Int))] M Q := by
  have h7 := hS.2.1
  have h6 := hS.1
  have hbar := hS.2.2.2.1
  have hri := (hr i hi).1
  have hl : ∀ y ∈ linO bd mk i (S 3) n, y < n := fun y hy => (linO_mem.mp hy).1
  have fb : ∀ k : Nat, k ≤ 99 → -100000 ≤ gB S bd mk (linO bd mk i (S 3) n) i (S 3) (k : Int) ∧ gB S bd mk (linO bd mk i (S 3) n) i (S 3) (k : Int) ≤ 100000 := fun k hk => gB_b hS hr hl hi (by omega) hbar (by omega)
  have i8 := iz_inN (i := i) (n := 8) (by omega) (by omega)
  have keep : ∀ {M' : zM}, Off rRp M M' → rB M' b S ∧ M'.1 10 0 0 21 = iz (-1) := fun {M'} ho => ⟨hB.off ho (fun i => rRp_n (by omega) (by omega) (by omega) (by omega)) (rRp_n (by omega) (by omega) (by omega) (by omega)) (rRp_n (by omega) (by omega) (by omega) (by omega)) (rRp_n (by omega) (by omega) (by omega) (by omega)), (ho.1 _ _ _ _ (rRp_n (by omega) (by omega) (by omega) (by omega))).trans ht⟩
  have try_ : ∀ {M1 : zM} {y : Int} {x : Int} {Q1 : zQ}, Off rRp M M1 → rBd M1 n (updB bd i y) mk (fun _ => false) → 0 ≤ x ∧ x ≤ 99 → (∀ M', Off rRp M M' → rBd M' n (updB bd i x) mk (fun _ => false) → rLn M' S (updB bd i x) mk (S 3) n → M'.1 10 0 0 23 = M1.1 10 0 0 23 → Q1 none M') → zEv Γ 187 [zo 10 0 0, zi ((zw M1 10 0 16 i (iz x)).1 10 0 0 14), zi (iz (S 3))] (zw M1 10 0 16 i (iz x)) Q1 := by
    intro M1 y x Q1 ho hb1 hx hq
    have o1 : Off rRp M (zw M1 10 0 16 i (iz x)) := ho.w _ ⟨rfl, rfl, Or.inr (Or.inl rfl)⟩
    have hB1 := (keep o1).1
    have hb2 := rBd_upd (x := x) hb1
    rw [hB1.2.2.1, hn]
    refine r_laysS hS hB1 (by omega) (rng_upd hr hx) hb2 hbar (fun M' ho2 hL => hq M' (o1.tr (ho2.wk fun _ _ _ _ => rLy_rp)) (hb2.off ho2 (fun i => rLy_n (by omega) (by omega) (by omega)) (fun i => rLy_n (by omega) (by omega) (by omega)) (fun i => rLy_n (by omega) (by omega) (by omega))) hL ?_)
    rw [ho2.1 _ _ _ _ (rLy_n (by omega) (by omega) (by omega)), zw_get, if_neg (by omega)]
  have loop : ∀ (d x : Nat) (best : Int) (M1 : zM), x + d = top + 1 → Off rRp M M1 → (∃ y : Int, rBd M1 n (updB bd i y) mk (fun _ => false)) → (x = 0 ∧ best = -1 ∨ 0 < x ∧ best = ((amx (fun k => gB S bd mk (linO bd mk i (S 3) n) i (S 3) (k : Int)) (x - 1) : Nat) : Int) ∧ M1.1 10 0 0 23 = iz (gB S bd mk (linO bd mk i (S 3) n) i (S 3) ((amx (fun k => gB S bd mk (linO bd mk i (S 3) n) i (S 3) (k : Int)) (x - 1) : Nat) : Int))) → zGo Γ 203 Q 13 [some (zo 10 0 0), some (zi (iz (i : Int))), some (zi (iz (top : Int))), some (zi (iz (bd i))), some (zi (iz best)), some (zi (iz (x : Int))), none] [] M1 := by
    intro d
    induction d with
    | zero =>
      intro x best M1 hx ho hb1 hbest
      obtain ⟨y, hb1⟩ := hb1
      have hbest : best = ((amx (fun k => gB S bd mk (linO bd mk i (S 3) n) i (S 3) (k : Int)) top : Nat) : Int) ∧ M1.1 10 0 0 23 = iz (gB S bd mk (linO bd mk i (S 3) n) i (S 3) ((amx (fun k => gB S bd mk (linO bd mk i (S 3) n) i (S 3) (k : Int)) top : Nat) : Int)) := by
        rcases hbest with ⟨e, -⟩ | ⟨-, e⟩
        · omega
        · rw [show x - 1 = top by omega] at e
          exact e
      refine bk_203_13 ⟨fun _ => ⟨i8, ?_⟩, fun q => ?_⟩
      · rw [iz_clN (by omega)]
        have o1 : Off rRp M (zw M1 10 0 16 i (iz (bd i))) := ho.w _ ⟨rfl, rfl, Or.inr (Or.inl rfl)⟩
        refine r_of (keep o1).1 3 (by omega) rfl ⟨_, rfl, try_ ho hb1 hri (fun M' o2 hb2 hL hg => ⟨rfl, ?_⟩)⟩
        rw [updB_self] at hb2 hL
        rw [hbest.1]
        exact h M' o2 hb2 hL (hg.trans hbest.2)
      · rw [iz_lt (by omega) (by omega) (by omega) (by omega)] at q
        omega
    | succ d ih =>
      intro x best M1 hx ho hb1 hbest
      obtain ⟨y, hb1⟩ := hb1
      have fx := fb x (by omega)
      refine bk_203_13 ⟨fun q => ?_, fun _ => ⟨i8, ?_⟩⟩
      · rw [iz_lt (by omega) (by omega) (by omega) (by omega)] at q
        omega
      rw [iz_clN (by omega)]
      have o1 : Off rRp M (zw M1 10 0 16 i (iz (x : Int))) := ho.w _ ⟨rfl, rfl, Or.inr (Or.inl rfl)⟩
      refine r_of (keep o1).1 3 (by omega) rfl ⟨_, rfl, try_ ho hb1 (x := (x : Int)) (by omega) (fun M2 o2 hb2 hL hg => ⟨rfl, ?_⟩)⟩
      refine r_gainX hS (keep o2).1 (by omega) hL (keep o2).2 (by omega) ⟨_, rfl, ?_⟩
      rw [gB_gain hS (nb := (S 0).toNat) (by omega) hbar.1 hi, iz_s]
      have nextN : amx (fun k => gB S bd mk (linO bd mk i (S 3) n) i (S 3) (k : Int)) x = x → zGo Γ 203 Q 13 [some (zo 10 0 0), some (zi (iz (i : Int))), some (zi (iz (top : Int))), some (zi (iz (bd i))), some (zi (iz (x : Int))), some (zi (iz ((x + 1 : Nat) : Int))), none] [] (zw M2 10 0 0 23 (iz (gB S bd mk (linO bd mk i (S 3) n) i (S 3) (x : Int)))) := by
        intro e
        refine ih (x + 1) _ _ (by omega) (o2.w _ ⟨rfl, rfl, Or.inl ⟨rfl, Or.inr rfl⟩⟩) ⟨(x : Int), fun k hk => ?_⟩ (Or.inr ⟨by omega, by rw [Nat.add_sub_cancel, e], ?_⟩)
        · have := hb2 k hk
          simp only [zw_get]
          simpa using this
        · rw [Nat.add_sub_cancel, e]; rfl
      rcases hbest with ⟨e1, e2⟩ | ⟨e1, e2, e3⟩
      · subst e1; subst e2
        exact ⟨fun _ => nextN rfl, fun q => absurd (by decide) q⟩
      · have ham := amx_le (f := fun k => gB S bd mk (linO bd mk i (S 3) n) i (S 3) (k : Int)) (x - 1)
        have fa := fb _ (show amx (fun k => gB S bd mk (linO bd mk i (S 3) n) i (S 3) (k : Int)) (x - 1) ≤ 99 by omega)
        have eax : amx (fun k => gB S bd mk (linO bd mk i (S 3) n) i (S 3) (k : Int)) x = if gB S bd mk (linO bd mk i (S 3) n) i (S 3) ((amx (fun k => gB S bd mk (linO bd mk i (S 3) n) i (S 3) (k : Int)) (x - 1) : Nat) : Int) < gB S bd mk (linO bd mk i (S 3) n) i (S 3) (x : Int) then x else amx (fun k => gB S bd mk (linO bd mk i (S 3) n) i (S 3) (k : Int)) (x - 1) := by
          obtain ⟨y, rfl⟩ : ∃ y, x = y + 1 := ⟨x - 1, by omega⟩
          rfl
        rw [e2, iz0, iz_lt (by omega) (by omega) (by omega) (by omega), hg, e3, iz_lt (by omega) (by omega) (by omega) (by omega)]
        refine ⟨fun q => by omega, fun _ => ⟨fun q => ?_, fun q => ?_⟩⟩
        · exact nextN (by rw [eax, if_pos q])
        · rw [if_neg q] at eax
          refine ih (x + 1) _ M2 (by omega) o2 ⟨(x : Int), hb2⟩ (Or.inr ⟨by omega, by rw [Nat.add_sub_cancel, eax], ?_⟩)
          rw [Nat.add_sub_cancel, eax, hg]
          exact e3
  refine en_203 (bk_203_0 ⟨i8, ?_⟩)
  rw [iz_clN (by omega), (hb i hi).1, iz_m1, iz0]
  exact loop (top + 1) 0 (-1) M (by omega) (Off.rf M) ⟨bd i, by rw [updB_self]; exact hb⟩ (Or.inl ⟨rfl, rfl⟩)
end Z43
