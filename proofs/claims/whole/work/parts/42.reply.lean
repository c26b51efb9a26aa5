theorem zcp_get (M : zM) (c0 t0 f0 c t f sp dp n : Nat) (c' t' f' i' : Nat) : (zcp M c0 t0 f0 c t f sp dp n).1 c' t' f' i' = if c' = c ∧ t' = t ∧ f' = f then va_cpy (M.1 c0 t0 f0) (M.1 c t f) sp dp n i' else M.1 c' t' f' i' := rfl
theorem Off.cp {P : Nat → Nat → Nat → Nat → Prop} {M M1 : zM} (h1 : Off P M M1) {c0 t0 f0 c t f sp dp n : Nat} (h : ∀ i, P c t f i) : Off P M (zcp M1 c0 t0 f0 c t f sp dp n) := ⟨fun c' t' f' i' q => by
  rw [zcp_get, if_neg (fun z => q (by rw [z.1, z.2.1, z.2.2]; exact h i'))]
  exact h1.1 c' t' f' i' q, fun c' t' f' i' q => h1.2 c' t' f' i' q⟩
def cRp (c t f i : Nat) : Prop := (c = 2 ∧ t = 1) ∨ (c = 6 ∧ t = 0 ∧ f = 0 ∧ i = 3)
theorem gB_b {S : SB} {bd mk : Nat → Int} {lo : List Nat} {i n : Nat} {bar x : Int} (hS : SOK S) (hr : rng n bd mk) (hl : ∀ y ∈ lo, y < n) (hi : i < n) (hn : n ≤ 7) (hbar : 0 ≤ bar ∧ bar ≤ 99) (hx : 0 ≤ x ∧ x ≤ 99) : -100000 ≤ gB S bd mk lo i bar x ∧ gB S bd mk lo i bar x ≤ 100000 := by
  have h6 := hS.1
  unfold gB
  generalize plf (gLe bd mk lo i (x * mk i)) lo.length = p
  split
  · omega
  · split
    · have hp := pas_b hS p
      have h1 := worS_b hS (show i < 7 by omega) (show p < 6 by omega)
      have h2 := askV_b hS (sco_b hr hl) hx (hr i hi).2.1 p p
      have h3 : 0 ≤ bar * pas S p ∧ bar * pas S p ≤ 99 * 99 := ⟨Int.mul_nonneg hbar.1 hp.1, Int.mul_le_mul hbar.2 hp.2 hp.1 (by omega)⟩
      omega
    · omega
theorem gB_st {S : SB} {bd mk : Nat → Int} {lo : List Nat} {i : Nat} {bar x : Int} (hx : ¬ (x < bar ∨ x = 0)) : gB S bd mk lo i bar x = (if ((plf (gLe bd mk lo i (x * mk i)) lo.length : Nat) : Int) < S 0 then worS S i (plf (gLe bd mk lo i (x * mk i)) lo.length) - max (bar * pas S (plf (gLe bd mk lo i (x * mk i)) lo.length)) (askV S (sco bd mk lo) x (mk i) (plf (gLe bd mk lo i (x * mk i)) lo.length) (plf (gLe bd mk lo i (x * mk i)) lo.length)) else 0) := by
  unfold gB
  rw [if_neg hx]
section Z42
variable {Γ : zC} {Q : zQ} {M : zM} {b cnt t ts n : Nat} {S : SB} {SS : Nat → SB} {bd mk : Nat → Int} {lo : List Nat} {bar : Int}
theorem c_lookAt (h : ∀ M', Off (fun c t f _ => c = 6 ∧ t = 0 ∧ f = 2) M M' → (∀ k, k < 7 → M'.1 6 0 2 k = M.1 7 ts 8 k) → Q none M') : zEv Γ 88 [zo 6 0 0, zo 7 ts 0] M Q := by
  refine en_88 (bk_88_0 ⟨by decide, by decide, by decide, by decide, by decide, h _ ((Off.rf M).cp (fun _ => ⟨rfl, rfl, rfl⟩)) (fun k hk => ?_)⟩)
  rw [zcp_get, if_pos ⟨rfl, rfl, rfl⟩]
  show va_cpy (M.1 7 ts 8) (M.1 6 0 2) 0 0 7 k = _
  unfold va_cpy
  rw [if_pos (by omega), show 0 + (k - 0) = k by omega]
theorem c_gainIfHe {i p : Nat} {x : Int} (hS : SOK S) (hC : cS M ts S) (hL : cL M t S bar bd mk lo) (hr : rng n bd mk) (hl : ∀ y ∈ lo, y < n) (hn : n ≤ 7) (hi : i < n) (hmk : mk i = S (24 + i)) (hbar : 0 ≤ bar ∧ bar ≤ 99) (hx : 0 ≤ x ∧ x ≤ 99) (hp : p < 100) (h : Q (some (zi (iz (if (p : Int) < S 0 then worS S i p - max (bar * pas S p) (askV S (sco bd mk lo) x (mk i) p p) else 0)))) M) : zEv Γ 35 [zo 2 t 0, zo 7 ts 0, zi (iz (i : Int)), zi (iz x), zi (iz (p : Int))] M Q := by
  have h6 := hS.1
  have hpa := pas_b hS p
  refine en_35 (bk_35_0 ?_)
  rw [iz0, iz_lt (by omega) (by omega) (by omega) (by omega), hL.1, iz_lt (by omega) (by omega) (by omega) (by omega), iz_clN (by omega), hC.2.2.2.2.2.1 i (by omega), ← hmk]
  refine ⟨fun q => by omega, fun _ => ⟨fun q => ⟨iz_inN (by omega) (by omega), ?_⟩, fun q => ?_⟩⟩
  · have hsc := sco_b hr hl
    have h2 := askV_b hS hsc hx (hr i hi).2.1 p p
    have h3 : 0 ≤ bar * pas S p ∧ bar * pas S p ≤ 99 * 99 := ⟨Int.mul_nonneg hbar.1 hpa.1, Int.mul_le_mul hbar.2 hpa.2 hpa.1 (by omega)⟩
    have hm := (hr i hi).2
    refine c_askFor (nb := (S 0).toNat) hS (by omega) hL hsc (by omega) (by omega) hx (by omega) ⟨_, rfl, c_worthTo hS hC (by omega) (by omega) ⟨_, rfl, iz_inN (by omega) (by omega), ?_⟩⟩
    rw [hL.2.2.1, iz_clN (by omega), hL.2.2.2.2.1 p (by omega), iz_mul, iz_max (by omega) (by omega) (by omega) (by omega), iz_sub]
    rw [if_pos q] at h
    exact h
  · rw [if_neg q] at h
    exact h
theorem c_gainNow {i : Nat} (hS : SOK S) (hC : cS M ts S) (hL : cL M 1 S bar bd mk lo) (hlen : lo.length ≤ 8) (hbd : M.1 6 0 2 i = iz (bd i)) (hr : rng n bd mk) (hl : ∀ y ∈ lo, y < n) (hn : n ≤ 7) (hi : i < n) (hmk : mk i = S (24 + i)) (hbar : 0 ≤ bar ∧ bar ≤ 99) (h : Q (some (zi (iz (gB S bd mk lo i bar (bd i))))) M) : zEv Γ 90 [zo 6 0 0, zo 7 ts 0, zi (iz (i : Int))] M Q := by
  obtain ⟨⟨r1, r2⟩, r3, r4⟩ := hr i hi
  have hpr : 0 ≤ bd i * mk i ∧ bd i * mk i ≤ 99 * 9 := ⟨Int.mul_nonneg r1 (by omega), Int.mul_le_mul r2 r4 (by omega) (by omega)⟩
  have hpl := plf_le (g := gLe bd mk lo i (bd i * mk i)) lo.length
  unfold gB at h
  refine en_90 (bk_90_0 ?_)
  rw [iz_clN (by omega), hbd]
  refine ⟨iz_inN (by omega) (by omega), c_admits hL ⟨r1, r2⟩ hbar (fun q => ⟨_, rfl, fun q' => absurd rfl q', fun _ => ?_⟩) (fun q => ⟨_, rfl, fun _ => ⟨iz_inN (by omega) (by omega), ?_⟩, fun q' => absurd q' (by decide)⟩)⟩
  · rw [if_pos q] at h
    exact h
  · rw [if_neg q] at h
    rw [hC.2.2.2.2.2.1 i (by omega), ← hmk, iz_mul, hL.2.2.2.1]
    refine c_placeFrom hL hlen hr hl (by omega) (by omega) (by omega) (by omega) ⟨_, rfl, ?_⟩
    rw [Nat.min_self]
    exact c_gainIfHe hS hC hL hr hl hn hi hmk hbar ⟨r1, r2⟩ (by omega) ⟨_, rfl, h⟩
theorem c_seekReply {i top : Nat} (hS : SOK S) (hn : S 1 = (n : Int)) (hC : cS M ts S) (hI : lI M 1) (hbd : ∀ k, k < n → M.1 6 0 2 k = iz (bd k)) (hmk : ∀ k, k < n → mk k = S (24 + k)) (hr : rng n bd mk) (hi : i < n) (htop : top ≤ 99)
    (h : ∀ M', Off cRp M M' → lI M' 1 → M'.1 6 0 0 3 = iz ((amx (fun k => gB S bd mk (linO bd mk i (S 3) n) i (S 3) (k : Int)) top : Nat) : Int) → Q (some (zi (iz (if gB S bd mk (linO bd mk i (S 3) n) i (S 3) (bd i) < gB S bd mk (linO bd mk i (S 3) n) i (S 3) ((amx (fun k => gB S bd mk (linO bd mk i (S 3) n) i (S 3) (k : Int)) top : Nat) : Int) then 1 else 0)))) M') : zEv Γ 89 [zo 6 0 0, zo 7 ts 0, zi (iz (i : Int)), zi (iz (top : Int))] M Q := by
  have h7 := hS.2.1
  have hbar := hS.2.2.2.1
  obtain ⟨⟨r1, r2⟩, r3, r4⟩ := hr i hi
  refine en_89 (bk_89_0 ?_)
  rw [hC.1 3 (by omega)]
  refine c_open hS hC hI (fun M1 ho1 hL1 => ⟨rfl, ?_⟩)
  have hC1 := hC.off ho1 (by rintro f i ⟨q, -⟩; omega)
  refine c_putOthers_6_2 (n := n) (e := (i : Int)) (bd := bd) (mk := mk) (by omega) hS hn hC1 (fun k hk => (ho1.1 _ _ _ _ (by rintro ⟨q, -⟩; omega)).trans (hbd k hk)) hmk hr hbar (hL1 _ _) (fun M2 ho2 hL2 => ⟨rfl, ?_⟩)
  have hL2 : cL M2 1 S (S 3) bd mk (linO bd mk i (S 3) n) := hL2
  have hl : ∀ y ∈ linO bd mk i (S 3) n, y < n := fun y hy => (linO_mem.mp hy).1
  have hlen : (linO bd mk i (S 3) n).length ≤ 7 := by
    have := lin_len (bd := bd) (mk := mk) (ex := fun k => decide ((k : Int) = (i : Int))) (bar := S 3) n
    unfold linO
    omega
  have ho : Off cRp M M2 := (ho1.wk fun c t f i q => Or.inl q).tr (ho2.wk fun c t f i q => Or.inl q)
  have fb : ∀ k : Nat, k ≤ 99 → -100000 ≤ gB S bd mk (linO bd mk i (S 3) n) i (S 3) (k : Int) ∧ gB S bd mk (linO bd mk i (S 3) n) i (S 3) (k : Int) ≤ 100000 := fun k hk => gB_b hS hr hl hi (by omega) hbar (by omega)
  have fnow := gB_b hS hr hl hi (by omega) hbar ⟨r1, r2⟩
  have rd : ∀ {M' : zM} {f j : Nat}, Off cRp M M' → (f ≠ 0 ∨ j ≠ 3) → M'.1 6 0 f j = M.1 6 0 f j := fun {M' f j} hq hj => hq.1 _ _ _ _ (by rintro (⟨q, -⟩ | ⟨-, -, q, q2⟩) <;> omega)
  have cs : ∀ {M' : zM}, Off cRp M M' → cS M' ts S := fun {M'} hq => hC.off hq (by rintro f i (⟨q, -⟩ | ⟨q, -⟩) <;> omega)
  -- the end
  have fin : ∀ (M' : zM) (x pl : Nat), Off cRp M M' → cL M' 1 S (S 3) bd mk (linO bd mk i (S 3) n) → top < x → x < 200 → M'.1 6 0 0 3 = iz ((amx (fun k => gB S bd mk (linO bd mk i (S 3) n) i (S 3) (k : Int)) top : Nat) : Int) → zGo Γ 89 Q 57 [some (zo 6 0 0), some (zo 7 ts 0), some (zi (iz (i : Int))), some (zi (iz (top : Int))), some (zi (iz (gB S bd mk (linO bd mk i (S 3) n) i (S 3) ((amx (fun k => gB S bd mk (linO bd mk i (S 3) n) i (S 3) (k : Int)) top : Nat) : Int)))), some (zi (iz (pl : Int))), some (zi (iz (x : Int))), none, none] [] M' := by
    intro M' x pl hq hL' hx hx2 hrep
    have ha := amx_le (f := fun k => gB S bd mk (linO bd mk i (S 3) n) i (S 3) (k : Int)) top
    have fa := fb _ (show amx (fun k => gB S bd mk (linO bd mk i (S 3) n) i (S 3) (k : Int)) top ≤ 99 by omega)
    refine bk_89_57 ⟨fun _ => ?_, fun q => ?_⟩
    · refine c_gainNow hS (cs hq) hL' (by omega) ((rd hq (by omega)).trans (hbd i hi)) hr hl (by omega) hi (hmk i hi) hbar ⟨_, rfl, ?_⟩
      have h2 := h M' hq (cL.inv hS hL' (by omega)) hrep
      rw [iz_le (by omega) (by omega) (by omega) (by omega)]
      refine ⟨fun q => ⟨Or.inl rfl, ?_⟩, fun q => ⟨Or.inr rfl, ?_⟩⟩
      · rw [if_neg (by omega)] at h2
        exact h2
      · rw [if_pos (by omega)] at h2
        exact h2
    · rw [iz_lt (by omega) (by omega) (by omega) (by omega)] at q
      omega
  -- those bids that stand nowhere
  have f0 : ∀ k : Nat, (k : Int) < max 1 (S 3) → gB S bd mk (linO bd mk i (S 3) n) i (S 3) (k : Int) = 0 := by
    intro k hk
    unfold gB
    rw [if_pos (by omega)]
  have a0 : ∀ m : Nat, (m : Int) < max 1 (S 3) → amx (fun k => gB S bd mk (linO bd mk i (S 3) n) i (S 3) (k : Int)) m = 0 := by
    intro m
    induction m with
    | zero => intro _; rfl
    | succ m ih =>
      intro hm
      simp only [amx]
      rw [ih (by omega), if_neg]
      have e1 := f0 0 (by omega)
      have e2 := f0 (m + 1) hm
      omega
  have loop : ∀ (d x pl : Nat) (M' : zM), x + d = top + 1 → max 1 (S 3) ≤ (x : Int) → Off cRp M M' → cL M' 1 S (S 3) bd mk (linO bd mk i (S 3) n) → ((x : Int) = max 1 (S 3) ∧ pl = (linO bd mk i (S 3) n).length + 1 ∨ max 1 (S 3) < (x : Int) ∧ pl = plf (gLe bd mk (linO bd mk i (S 3) n) i (((x - 1 : Nat) : Int) * mk i)) (linO bd mk i (S 3) n).length) → M'.1 6 0 0 3 = iz ((amx (fun k => gB S bd mk (linO bd mk i (S 3) n) i (S 3) (k : Int)) (x - 1) : Nat) : Int) → zGo Γ 89 Q 57 [some (zo 6 0 0), some (zo 7 ts 0), some (zi (iz (i : Int))), some (zi (iz (top : Int))), some (zi (iz (gB S bd mk (linO bd mk i (S 3) n) i (S 3) ((amx (fun k => gB S bd mk (linO bd mk i (S 3) n) i (S 3) (k : Int)) (x - 1) : Nat) : Int)))), some (zi (iz (pl : Int))), some (zi (iz (x : Int))), none, none] [] M' := by
    intro d
    induction d with
    | zero =>
      intro x pl M' hx hx1 hq hL' hpl hrep
      rw [show x - 1 = top by omega] at hrep ⊢
      exact fin M' x pl hq hL' (by omega) (by omega) hrep
    | succ d ih =>
      intro x pl M' hx hx1 hq hL' hpl hrep
      have hplen := plf_le (g := gLe bd mk (linO bd mk i (S 3) n) i (((x - 1 : Nat) : Int) * mk i)) (linO bd mk i (S 3) n).length
      have hxm : 0 ≤ (x : Int) * mk i ∧ (x : Int) * mk i ≤ 99 * 9 := ⟨Int.mul_nonneg (by omega) (by omega), Int.mul_le_mul (by omega) r4 (by omega) (by omega)⟩
      have hmono : ((x - 1 : Nat) : Int) * mk i ≤ (x : Int) * mk i := Int.mul_le_mul_of_nonneg_right (by omega) (by omega)
      -- his place at x
      have hcut : plf (gLe bd mk (linO bd mk i (S 3) n) i ((x : Int) * mk i)) (min pl (linO bd mk i (S 3) n).length) = plf (gLe bd mk (linO bd mk i (S 3) n) i ((x : Int) * mk i)) (linO bd mk i (S 3) n).length := by
        symm
        refine plf_cut _ (fun k h1 h2 => ?_)
        rcases hpl with ⟨-, e⟩ | ⟨-, e⟩
        · omega
        · subst e
          exact gLe_mono hmono k (plf_in _ k h1 h2)
      have hple := plf_le (g := gLe bd mk (linO bd mk i (S 3) n) i ((x : Int) * mk i)) (linO bd mk i (S 3) n).length
      have ham := amx_le (f := fun k => gB S bd mk (linO bd mk i (S 3) n) i (S 3) (k : Int)) (x - 1)
      have fa := fb _ (show amx (fun k => gB S bd mk (linO bd mk i (S 3) n) i (S 3) (k : Int)) (x - 1) ≤ 99 by omega)
      have fx := fb x (by omega)
      have eax : amx (fun k => gB S bd mk (linO bd mk i (S 3) n) i (S 3) (k : Int)) x = if gB S bd mk (linO bd mk i (S 3) n) i (S 3) ((amx (fun k => gB S bd mk (linO bd mk i (S 3) n) i (S 3) (k : Int)) (x - 1) : Nat) : Int) < gB S bd mk (linO bd mk i (S 3) n) i (S 3) (x : Int) then x else amx (fun k => gB S bd mk (linO bd mk i (S 3) n) i (S 3) (k : Int)) (x - 1) := by
        obtain ⟨y, rfl⟩ : ∃ y, x = y + 1 := ⟨x - 1, by omega⟩
        rfl
      have stay : ∀ M3 : zM, Off cRp M M3 → cL M3 1 S (S 3) bd mk (linO bd mk i (S 3) n) → M3.1 6 0 0 3 = M'.1 6 0 0 3 → gB S bd mk (linO bd mk i (S 3) n) i (S 3) (x : Int) ≤ gB S bd mk (linO bd mk i (S 3) n) i (S 3) ((amx (fun k => gB S bd mk (linO bd mk i (S 3) n) i (S 3) (k : Int)) (x - 1) : Nat) : Int) → zGo Γ 89 Q 57 [some (zo 6 0 0), some (zo 7 ts 0), some (zi (iz (i : Int))), some (zi (iz (top : Int))), some (zi (iz (gB S bd mk (linO bd mk i (S 3) n) i (S 3) ((amx (fun k => gB S bd mk (linO bd mk i (S 3) n) i (S 3) (k : Int)) (x - 1) : Nat) : Int)))), some (zi (iz ((plf (gLe bd mk (linO bd mk i (S 3) n) i ((x : Int) * mk i)) (linO bd mk i (S 3) n).length : Nat) : Int))), some (zi (iz ((x + 1 : Nat) : Int))), none, none] [] M3 := by
        intro M3 hq3 hL3 hr3 hle
        rw [if_neg (by omega)] at eax
        have := ih (x + 1) (plf (gLe bd mk (linO bd mk i (S 3) n) i ((x : Int) * mk i)) (linO bd mk i (S 3) n).length) M3 (by omega) (by omega) hq3 hL3 (Or.inr ⟨by omega, by rw [Nat.add_sub_cancel]⟩) (by rw [Nat.add_sub_cancel, eax, hr3]; exact hrep)
        rw [Nat.add_sub_cancel, eax] at this
        exact this
      refine bk_89_57 ⟨fun q => ?_, fun _ => ?_⟩
      · rw [iz_lt (by omega) (by omega) (by omega) (by omega)] at q
        omega
      rw [iz_clN (by omega), (cs hq).2.2.2.2.2.1 i (by omega), ← hmk i hi, iz_mul, iz_s]
      refine ⟨iz_inN (by omega) (by omega), c_placeFrom hL' (by omega) hr hl (by omega) (by omega) (by omega) (by omega) ⟨_, rfl, ?_⟩⟩
      rw [hcut, iz_le (by omega) (by omega) (by omega) (by omega)]
      refine ⟨fun q => stay M' hq hL' rfl ?_, fun q => ?_⟩
      · rcases hpl with ⟨-, e⟩ | ⟨e1, e⟩
        · omega
        · have hm2 := plf_mono (g := gLe bd mk (linO bd mk i (S 3) n) i (((x - 1 : Nat) : Int) * mk i)) (g' := gLe bd mk (linO bd mk i (S 3) n) i ((x : Int) * mk i)) (fun k hk => gLe_mono hmono k hk) (linO bd mk i (S 3) n).length
          have hs1 := gB_same (bd := bd) (mk := mk) (lo := linO bd mk i (S 3) n) (i := i) (bar := S 3) (x := ((x - 1 : Nat) : Int)) (y := (x : Int)) hS (by omega) (by omega) (by omega) (by omega)
          have hs2 := amx_max (f := fun k => gB S bd mk (linO bd mk i (S 3) n) i (S 3) (k : Int)) (x - 1) (x - 1) (Nat.le_refl _)
          omega
      · refine c_gainIfHe hS (cs hq) hL' hr hl (by omega) hi (hmk i hi) hbar (by omega) (by omega) ⟨_, rfl, ?_⟩
        rw [← gB_st (by omega), iz_le (by omega) (by omega) (by omega) (by omega)]
        refine ⟨fun q2 => stay M' hq hL' rfl q2, fun q2 => ?_⟩
        rw [if_pos (by omega)] at eax
        have := ih (x + 1) (plf (gLe bd mk (linO bd mk i (S 3) n) i ((x : Int) * mk i)) (linO bd mk i (S 3) n).length) (zw M' 6 0 0 3 (iz (x : Int))) (by omega) (by omega) (hq.w _ (Or.inr ⟨rfl, rfl, rfl, rfl⟩)) (by
          unfold cL at hL' ⊢
          simp only [zw_get]
          simpa using hL') (Or.inr ⟨by omega, by rw [Nat.add_sub_cancel]⟩) (by rw [Nat.add_sub_cancel, eax]; rfl)
        rw [Nat.add_sub_cancel, eax] at this
        exact this
  -- the beginning
  have e8 : (zw M2 6 0 0 3 0).1 2 1 0 8 + 1 = iz (((linO bd mk i (S 3) n).length + 1 : Nat) : Int) := by
    rw [zw_get, if_neg (by omega), hL2.2.2.2.1, iz_s]
  have e7 : (zw M2 6 0 0 3 0).1 2 1 0 7 = iz (S 3) := by
    rw [zw_get, if_neg (by omega), hL2.2.2.1]
  have hL3 : cL (zw M2 6 0 0 3 0) 1 S (S 3) bd mk (linO bd mk i (S 3) n) := by
    unfold cL at hL2 ⊢
    simp only [zw_get]
    simpa using hL2
  have ho3 : Off cRp M (zw M2 6 0 0 3 0) := ho.w _ (Or.inr ⟨rfl, rfl, rfl, rfl⟩)
  rw [e8, e7, iz1, iz_max (by omega) (by omega) (by omega) (by omega), iz0, show max 1 (S 3) = (((max 1 (S 3)).toNat : Nat) : Int) by omega]
  by_cases hx0 : (max 1 (S 3)).toNat ≤ top
  · have := loop (top + 1 - (max 1 (S 3)).toNat) (max 1 (S 3)).toNat ((linO bd mk i (S 3) n).length + 1) (zw M2 6 0 0 3 (iz 0)) (by omega) (by omega) ho3 hL3 (Or.inl ⟨by omega, rfl⟩) (by rw [a0 _ (by omega)]; rfl)
    rw [a0 _ (by omega), f0 0 (by omega)] at this
    exact this
  · have := fin (zw M2 6 0 0 3 (iz 0)) (max 1 (S 3)).toNat ((linO bd mk i (S 3) n).length + 1) ho3 hL3 (by omega) (by omega) (by rw [a0 _ (by omega)]; rfl)
    rw [a0 _ (by omega), f0 0 (by omega)] at this
    exact this
end Z42
