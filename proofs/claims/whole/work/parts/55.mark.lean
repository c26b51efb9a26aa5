/-! without, mark -/
theorem ins_congr {sc sc' : Nat → Int} {i : Nat} (hi : sc i = sc' i) : ∀ l : List Nat, (∀ x ∈ l, sc x = sc' x) → ins sc i l = ins sc' i l
  | [], _ => rfl
  | k :: r, h => by
    rw [ins, ins, hi, h k (by simp), ins_congr hi r (fun x hx => h x (by simp [hx]))]
theorem lin_congr {bd mk bd' mk' : Nat → Int} {ex : Nat → Bool} {bar : Int} : ∀ n : Nat, (∀ k, k < n → ex k = false → bd k = bd' k ∧ mk k = mk' k) → lin bd mk ex bar n = lin bd' mk' ex bar n
  | 0, _ => rfl
  | n + 1, h => by
    have ih := lin_congr (bar := bar) n (fun k hk => h k (by omega))
    rw [lin, lin]
    cases hx : ex n with
    | true => rw [if_pos (Or.inl rfl), if_pos (Or.inl rfl), ih]
    | false =>
      have e := h n (by omega) hx
      rw [e.1, ih]
      congr 1
      refine ins_congr (by rw [e.1, e.2]) _ (fun x hx' => ?_)
      have hm := (lin_mem n).mp hx'
      have := h x (by omega) (by cases z : ex x with | true => exact absurd (Or.inl z) hm.2 | false => rfl)
      rw [this.1, this.2]
theorem linO_congr {bd mk bd' mk' : Nat → Int} {i n : Nat} {bar : Int} (h : ∀ k, k < n → k ≠ i → bd k = bd' k ∧ mk k = mk' k) : linO bd mk i bar n = linO bd' mk' i bar n :=
  lin_congr n (fun k hk hx => h k hk (by intro e; rw [e] at hx; simp at hx))
theorem lin_ad {bd mk : Nat → Int} {i n : Nat} {bar : Int} (hi : i < n) (hx : ¬ (bd i < bar ∨ bd i = 0)) : lin bd mk (fun _ => false) bar n = ins2 (fun k => bd k * mk k) i (linO bd mk i bar n) := by
  have := lin_upd (bd := bd) (mk := mk) (i := i) (n := n) (bar := bar) (x := bd i) hi hx
  rw [updB_self] at this
  exact this
theorem lin_na {bd mk : Nat → Int} {i n : Nat} {bar : Int} (hx : bd i < bar ∨ bd i = 0) : lin bd mk (fun _ => false) bar n = linO bd mk i bar n := by
  refine srt_eq _ _ (lin_srt n) (lin_srt n) (fun x => ?_)
  rw [lin_mem, linO_mem]
  constructor
  · rintro ⟨h1, h2⟩
    refine ⟨h1, fun e => ?_, fun z => h2 (Or.inr z)⟩
    rw [e] at h2
    exact h2 (Or.inr hx)
  · rintro ⟨h1, -, h2⟩
    exact ⟨h1, fun z => h2 (z.resolve_left (by decide))⟩
theorem sco_congr {bd mk bd' mk' : Nat → Int} {l : List Nat} (h : ∀ x ∈ l, bd x = bd' x ∧ mk x = mk' x) (k : Nat) : sco bd mk l k = sco bd' mk' l k := by
  unfold sco
  split
  · rename_i q
    have := h _ (getD_mem q)
    rw [this.1, this.2]
  · rfl
theorem cL.congr {M : zM} {t : Nat} {S : SB} {bar : Int} {bd mk bd' mk' : Nat → Int} {l : List Nat} (hL : cL M t S bar bd mk l) (h : ∀ x ∈ l, bd x = bd' x ∧ mk x = mk' x) : cL M t S bar bd' mk' l := by
  obtain ⟨h1, h2, h3, h4, h5, h6, h7⟩ := hL
  refine ⟨h1, h2, h3, h4, h5, fun k hk => ?_, fun k hk => ?_⟩
  · have := h _ (getD_mem hk)
    rw [← this.1, ← this.2]
    exact h6 k hk
  · rw [← sco_congr h k]
    exact h7 k hk
/-- what is taken by a line -/
def tkL (S : SB) (bd mk : Nat → Int) (l : List Nat) : Int := sumTo (payB S bd mk (S 3) l (S 0).toNat) (S 0).toNat
def gWithout (S : SB) (y : Int32) : Int := if 0 ≤ y.toInt ∧ y.toInt < S 1 then tkL S (bdS S) (mkS S) (linO (bdS S) (mkS S) y.toInt.toNat (S 3) (S 1).toNat) else -1
def tkM (S : SB) (i k : Nat) : Int := tkL S (bdS S) (updB (mkS S) i ((k + 1 : Nat) : Int)) (lin (bdS S) (updB (mkS S) i ((k + 1 : Nat) : Int)) (fun _ => false) (S 3) (S 1).toNat)
def mst (f : Nat → Int) : Nat → Nat × Int
  | 0 => (1, -1)
  | k + 1 => if (mst f k).2 < f k then (k + 1, f k) else mst f k
def gMark (S : SB) (y : Int32) : Int := if 0 ≤ y.toInt ∧ y.toInt < S 1 then (((mst (tkM S y.toInt.toNat) 9).1 : Nat) : Int) else -1
theorem tkL_b {S : SB} (hS : SOK S) {bd mk : Nat → Int} {n : Nat} (hr : rng n bd mk) {l : List Nat} (hl : ∀ x ∈ l, x < n ∧ S 3 ≤ bd x) : 0 ≤ tkL S bd mk l ∧ tkL S bd mk l ≤ 600000 := by
  have := sumTo_b (f := payB S bd mk (S 3) l (S 0).toNat) (B := 88209) (fun j => payB_b hS hr (fun x hx => (hl x hx).1) hS.2.2.2.1 (fun x hx => (hl x hx).2) j) (S 0).toNat
  have h6 := hS.1
  unfold tkL
  omega
theorem mst_b {f : Nat → Int} (h : ∀ k, 0 ≤ f k ∧ f k ≤ 600000) : ∀ k, (1 ≤ (mst f k).1 ∧ (mst f k).1 ≤ k + 1) ∧ -1 ≤ (mst f k).2 ∧ (mst f k).2 ≤ 600000
  | 0 => by simp [mst]
  | k + 1 => by
    have := mst_b h k
    have := h k
    rw [mst]
    split <;> (try simp only) <;> omega
theorem rng_mk {n i m : Nat} {bd mk : Nat → Int} (hr : rng n bd mk) (hm : 1 ≤ m ∧ m ≤ 9) : rng n bd (updB mk i (m : Int)) := fun k hk => by
  refine ⟨(hr k hk).1, ?_⟩
  unfold updB
  split
  · omega
  · exact (hr k hk).2
theorem lin_bar {bd mk : Nat → Int} {ex : Nat → Bool} {bar : Int} {n x : Nat} (h : x ∈ lin bd mk ex bar n) : x < n ∧ bar ≤ bd x := by
  have := (lin_mem n).mp h
  refine ⟨this.1, ?_⟩
  have h2 := this.2
  simp only [not_or] at h2
  omega
theorem tkM_b {S : SB} (hS : SOK S) (i k : Nat) (hk : k < 9) : 0 ≤ tkM S i k ∧ tkM S i k ≤ 600000 := tkL_b hS (rng_mk (rngS hS) (by omega)) (fun _ hx => lin_bar hx)
section Z55
variable {Γ : zC} {Q : zQ} {M : zM} {b cnt t ts n : Nat} {S : SB} {SS : Nat → SB} {bd mk : Nat → Int} {ex : Nat → Bool} {bar : Int}
theorem r_laysE (hS : SOK S) (hB : rB M b S) (hn : n ≤ 8) (hr : rng n bd mk) (hb : rBd M n bd mk ex) (hbar : 0 ≤ bar ∧ bar ≤ 99) (h : ∀ M', Off rLy M M' → rOr M' (lin bd mk ex bar n) → rPy M' (S 0).toNat (payB S bd mk bar (lin bd mk ex bar n) (S 0).toNat) → Q none M') : zEv Γ 187 [zo 10 0 0, zi (iz (n : Int)), zi (iz bar)] M Q := by
  have h6 := hS.1
  refine r_lays (nb := (S 0).toNat) hS (by omega) hB hn hr hb hbar (fun M' ho hor hp => h M' ho hor (fun j hj => ?_))
  rw [hp j hj]
  unfold payB
  congr 1
  by_cases c : j < (lin bd mk ex bar n).length
  · rw [if_pos c, if_pos (by omega)]
  · rw [if_neg c, if_neg (by omega)]
theorem c_others {i : Nat} (hS : SOK S) (hC : cS M ts S) (hI : lI M 0) (hi : i < 7) (h : ∀ M', Off (cLn 0) M M' → cL M' 0 S (S 3) (bdS S) (mkS S) (linO (bdS S) (mkS S) i (S 3) (S 1).toNat) → Q none M') : zEv Γ 17 [zo 2 0 0, zo 7 ts 0, zi (M.1 7 ts 0 3)] M (fun o M1 => o = none ∧ zEv Γ 19 [zo 2 0 0, zo 7 ts 0, zo 7 ts 8, zi (iz (i : Int))] M1 Q) := by
  have h7 := hS.2.1
  rw [hC.1 3 (by omega)]
  refine c_open hS hC hI (fun M1 o1 L1 => ⟨rfl, ?_⟩)
  have hC1 := hC.off o1 (by intro f i; unfold cLn; omega)
  exact c_putOthers_7_8 (n := (S 1).toNat) (bd := bdS S) (mk := mkS S) (by omega) hS (by omega) hC1 (fun k hk => hC1.2.2.2.2.1 k (by omega)) (fun _ _ => rfl) (rngS hS) hS.2.2.2.1 (L1 _ _) (fun M2 o2 L2 => h M2 (o1.tr o2) L2)
theorem c_take0 (hS : SOK S) (hL : cL M t S (S 3) bd mk (lin bd mk ex (S 3) n)) (hn : n ≤ 8) (hr : rng n bd mk) (h : Q (some (zi (iz (tkL S bd mk (lin bd mk ex (S 3) n))))) M) : zEv Γ 31 [zo 2 t 0] M Q := by
  have h6 := hS.1
  have := lin_len (bd := bd) (mk := mk) (ex := ex) (bar := S 3) n
  exact c_allPays (nb := (S 0).toNat) hS (by omega) hL (by omega) hr (fun x hx => (lin_bar hx).1) hS.2.2.2.1 (fun x hx => (lin_bar hx).2) h
theorem c_without {x y : Int32} (hW : cW M cnt SS) (hI : ∀ t, t < 4 → lI M t) (h : ∀ M', Kp M M' → Q (some (zi (iz (fS cnt SS x (fun S => gWithout S y) (-1))))) M') : zEv Γ 140 [zo 9 0 0, zi x, zi y] M Q := by
  refine en_140 (bk_140_0 (c_saleAt hW (fun q => Or.inl ⟨rfl, ?_⟩) (fun s hs hx => Or.inr ⟨s, rfl, ?_⟩)))
  · have := h M (Kp.rf M)
    rw [fS_out q] at this
    exact this
  · obtain ⟨hC, hS⟩ := hW.2.2 s hs
    have h7 := hS.2.1
    rw [fS_in hs hW.2.1 hx] at h
    unfold gWithout at h
    refine c_hasBidder hS hC (fun q => ⟨_, rfl, fun q' => absurd rfl q', fun _ => ?_⟩) (fun i hi hy => ⟨_, rfl, fun _ => ?_, fun q' => absurd q' (by decide)⟩)
    · have h2 := h M (Kp.rf M)
      rw [if_neg (by omega)] at h2
      exact h2
    · subst hy
      rw [iz_toInt (by omega) (by omega), if_pos (by omega), show ((i : Int).toNat) = i by omega] at h
      refine c_others hS hC (hI 0 (by omega)) (by omega) (fun M1 o1 L1 => ⟨rfl, c_take0 hS L1 (by omega) (rngS hS) ⟨_, rfl, ?_⟩⟩)
      have := lin_len (bd := bdS (SS s)) (mk := mkS (SS s)) (ex := fun k => decide ((k : Int) = (i : Int))) (bar := SS s 3) (SS s 1).toNat
      exact h M1 (Kp.ofL o1 (cL.inv hS L1 (by unfold linO; omega)))
theorem r_without {x y : Int32} (hW : rW M cnt SS) (ht0 : M.1 10 0 0 21 = iz (-1)) (h : ∀ M', Kp M M' → Q (some (zi (iz (fS cnt SS x (fun S => gWithout S y) (-1))))) M') : zEv Γ 240 [zo 10 0 0, zi x, zi y] M Q := by
  refine en_240 (bk_240_0 (r_takesSale hW (fun q => ⟨_, rfl, fun _ => ?_, fun q' => absurd rfl q'⟩) (fun s n M1 hs hx hn ho hB hb => ⟨_, rfl, fun q' => absurd q' (by decide), fun _ => ?_⟩)))
  · have := h M (Kp.rf M)
    rw [fS_out q] at this
    exact this
  · have hS := (hW.2.2 s hs).2
    have h7 := hS.2.1
    have h6 := hS.1
    have en : n = (SS s 1).toNat := by omega
    subst en
    rw [fS_in hs hW.2.1 hx] at h
    unfold gWithout at h
    refine r_isBidder hS hB (fun q => ⟨_, rfl, fun q' => absurd rfl q', fun _ => ?_⟩) (fun i hi hy => ⟨_, rfl, fun _ => ?_, fun q' => absurd q' (by decide)⟩)
    · have h2 := h M1 (Kp.ofR ho)
      rw [if_neg (by omega)] at h2
      exact h2
    · subst hy
      rw [iz_toInt (by omega) (by omega), if_pos (by omega), show ((i : Int).toNat) = i by omega] at h
      rw [iz_clN (by omega)]
      have hB1 : rB (zw M1 10 0 18 i (vp_nar .boolean 1)) (510 + 260 * s) (SS s) := hB.w (by omega) (by omega)
      refine ⟨iz_inN (by omega) (by omega), r_of hB1 3 (by omega) rfl ⟨_, rfl, ?_⟩⟩
      rw [hB1.2.2.1, show SS s 1 = ((SS s 1).toNat : Int) by omega]
      refine r_laysE (ex := fun k => decide ((k : Int) = (i : Int))) hS hB1 (by omega) (rngS hS) (fun k hk => ⟨(zw_ne (by omega)).trans (hb k hk).1, (zw_ne (by omega)).trans (hb k hk).2.1, ?_⟩) hS.2.2.2.1 (fun M2 o2 ho2 hp2 => ⟨rfl, ?_⟩)
      · by_cases z : k = i
        · rw [z, zw_eq, if_pos (by simp)]; rfl
        · rw [zw_ne (by omega), if_neg (by simp; omega)]
          exact (hb k hk).2.2
      · have hB2 := hB1.off o2 (fun i => rLy_n (by omega) (by omega) (by omega)) (rLy_n (by omega) (by omega) (by omega)) (rLy_n (by omega) (by omega) (by omega)) (rLy_n (by omega) (by omega) (by omega))
        refine r_takeNow (nb := (SS s 0).toNat) hS (by omega) hB2 hp2 ⟨_, rfl, ?_⟩
        exact h M2 (Kp.ofR ((ho.w _ (by unfold rSc; omega)).tr (o2.wk fun _ _ _ _ => rLy_sc)))
theorem c_mark {x y : Int32} (hW : cW M cnt SS) (hI : ∀ t, t < 4 → lI M t) (h : ∀ M', Kp M M' → Q (some (zi (iz (fS cnt SS x (fun S => gMark S y) (-1))))) M') : zEv Γ 139 [zo 9 0 0, zi x, zi y] M Q := by
  refine en_139 (bk_139_0 (c_saleAt hW (fun q => Or.inl ⟨rfl, ?_⟩) (fun s hs hx => Or.inr ⟨s, rfl, ?_⟩)))
  · have := h M (Kp.rf M)
    rw [fS_out q] at this
    exact this
  · obtain ⟨hC, hS⟩ := hW.2.2 s hs
    have hcnt := hW.2.1
    have h7 := hS.2.1
    rw [fS_in hs hW.2.1 hx] at h
    unfold gMark at h
    refine c_hasBidder hS hC (fun q => ⟨_, rfl, fun q' => absurd rfl q', fun _ => ?_⟩) (fun i hi hy => ⟨_, rfl, fun _ => ?_, fun q' => absurd q' (by decide)⟩)
    · have h2 := h M (Kp.rf M)
      rw [if_neg (by omega)] at h2
      exact h2
    · subst hy
      rw [iz_toInt (by omega) (by omega), if_pos (by omega), show ((i : Int).toNat) = i by omega] at h
      refine zloop (P := fun k M1 => Kp M M1 ∧ Off (cLn 0) M M1) (G := fun k M1 => zGo Γ 139 Q 29 [some (zo 9 0 0), none, some (zi (iz (i : Int))), some (zo 7 s 0), some (zi (iz (((mst (tkM (SS s) i) k).1 : Nat) : Int))), some (zi (iz (mst (tkM (SS s) i) k).2)), some (zi (iz ((k + 1 : Nat) : Int))), none] [] M1) (n := 9) ?_ ?_ 9 0 M (by omega) ⟨Kp.rf M, Off.rf M⟩
      · rintro M1 ⟨k1, o1⟩
        exact bk_139_29 ⟨fun _ => h M1 k1, fun q => absurd (by decide) q⟩
      · rintro k M1 hk ⟨k1, o1⟩ ih
        have hC1 := hC.off o1 (by intro f i; unfold cLn; omega)
        refine bk_139_29 ⟨fun q => ?_, fun _ => ?_⟩
        · rw [show (9 : Int32) = iz 9 from rfl, iz_lt (by omega) (by omega) (by omega) (by omega)] at q
          omega
        refine c_others hS hC1 (k1.2 hI 0 (by omega)) (by omega) (fun M2 o2 L2 => ⟨rfl, ?_⟩)
        have hC2 := hC1.off o2 (by intro f i; unfold cLn; omega)
        rw [iz_clN (by omega), hC2.2.2.2.2.1 i (by omega)]
        have eO : linO (bdS (SS s)) (mkS (SS s)) i (SS s 3) (SS s 1).toNat = linO (bdS (SS s)) (updB (mkS (SS s)) i ((k + 1 : Nat) : Int)) i (SS s 3) (SS s 1).toNat := linO_congr (fun k' _ hne => ⟨rfl, (updB_ne hne).symm⟩)
        have hlen := lin_len (bd := bdS (SS s)) (mk := updB (mkS (SS s)) i ((k + 1 : Nat) : Int)) (ex := fun k => decide ((k : Int) = (i : Int))) (bar := SS s 3) (SS s 1).toNat
        have hmst := tkM_b hS i k hk
        have hb := mst_b (f := fun k => if k < 9 then tkM (SS s) i k else 0) (fun k => by by_cases z : k < 9 <;> simp only [z, if_true, if_false]; exact tkM_b hS i k z; omega) k
        have hb : (1 ≤ (mst (tkM (SS s) i) k).1 ∧ (mst (tkM (SS s) i) k).1 ≤ k + 1) ∧ -1 ≤ (mst (tkM (SS s) i) k).2 ∧ (mst (tkM (SS s) i) k).2 ≤ 600000 := by
          have e : ∀ k, k ≤ 9 → mst (fun k => if k < 9 then tkM (SS s) i k else 0) k = mst (tkM (SS s) i) k := by
            intro k
            induction k with
            | zero => intro _; rfl
            | succ k ihk =>
              intro hk
              rw [mst, mst, ihk (by omega), if_pos (show k < 9 by omega)]
          rw [← e k (by omega)]
          exact hb
        have L3 : cL M2 0 (SS s) (SS s 3) (bdS (SS s)) (updB (mkS (SS s)) i ((k + 1 : Nat) : Int)) (linO (bdS (SS s)) (updB (mkS (SS s)) i ((k + 1 : Nat) : Int)) i (SS s 3) (SS s 1).toNat) := by
          rw [← eO]
          exact L2.congr (fun x hx => ⟨rfl, (updB_ne (linO_mem.mp hx).2.1).symm⟩)
        have hr' := rng_mk (i := i) (m := k + 1) (rngS hS) (by omega)
        have goOn : ∀ M3, Off (cLn 0) M2 M3 → cL M3 0 (SS s) (SS s 3) (bdS (SS s)) (updB (mkS (SS s)) i ((k + 1 : Nat) : Int)) (lin (bdS (SS s)) (updB (mkS (SS s)) i ((k + 1 : Nat) : Int)) (fun _ => false) (SS s 3) (SS s 1).toNat) → zEv Γ 31 [zo 2 0 0] M3 (fun o M4 => ∃ r4, o = some (zi r4) ∧ ((r4 ≤ iz (mst (tkM (SS s) i) k).2 → zGo Γ 139 Q 29 [some (zo 9 0 0), none, some (zi (iz (i : Int))), some (zo 7 s 0), some (zi (iz (((mst (tkM (SS s) i) k).1 : Nat) : Int))), some (zi (iz (mst (tkM (SS s) i) k).2)), some (zi (iz ((k + 1 : Nat) : Int) + 1)), none] [] M4) ∧ (¬ r4 ≤ iz (mst (tkM (SS s) i) k).2 → zGo Γ 139 Q 29 [some (zo 9 0 0), none, some (zi (iz (i : Int))), some (zo 7 s 0), some (zi (iz ((k + 1 : Nat) : Int))), some (zi r4), some (zi (iz ((k + 1 : Nat) : Int) + 1)), none] [] M4))) := by
          intro M3 o3 L4
          have hlen4 := lin_len (bd := bdS (SS s)) (mk := updB (mkS (SS s)) i ((k + 1 : Nat) : Int)) (ex := fun _ => false) (bar := SS s 3) (SS s 1).toNat
          refine c_take0 hS L4 (by omega) hr' ⟨_, rfl, ?_⟩
          have nx := ih M3 ⟨k1.tr (Kp.ofL (o2.tr o3) (cL.inv hS L4 (by omega))), o1.tr (o2.tr o3)⟩
          have ht : tkL (SS s) (bdS (SS s)) (updB (mkS (SS s)) i ((k + 1 : Nat) : Int)) (lin (bdS (SS s)) (updB (mkS (SS s)) i ((k + 1 : Nat) : Int)) (fun _ => false) (SS s 3) (SS s 1).toNat) = tkM (SS s) i k := rfl
          rw [ht, iz_le (by omega) (by omega) (by omega) (by omega), iz_s]
          rw [mst] at nx
          refine ⟨fun q => ?_, fun q => ?_⟩
          · rw [if_neg (by omega)] at nx
            exact nx
          · rw [if_pos (by omega)] at nx
            exact nx
        refine ⟨iz_inN (by omega) (by omega), ?_⟩
        have pi := c_putIn (Γ := Γ) (i := i) (n := (SS s 1).toNat) L3 (by unfold linO; omega) (lin_srt _) hr' (fun x hx => (linO_mem.mp hx).1) (by omega) (by omega) (fun z => (linO_mem.mp z).2.1 rfl) hS.2.2.2.1 (Q := fun o M3 => ∃ r3, o = some (zi r3) ∧ zEv Γ 31 [zo 2 0 0] M3 (fun o M4 => ∃ r4, o = some (zi r4) ∧ ((r4 ≤ iz (mst (tkM (SS s) i) k).2 → zGo Γ 139 Q 29 [some (zo 9 0 0), none, some (zi (iz (i : Int))), some (zo 7 s 0), some (zi (iz (((mst (tkM (SS s) i) k).1 : Nat) : Int))), some (zi (iz (mst (tkM (SS s) i) k).2)), some (zi (iz ((k + 1 : Nat) : Int) + 1)), none] [] M4) ∧ (¬ r4 ≤ iz (mst (tkM (SS s) i) k).2 → zGo Γ 139 Q 29 [some (zo 9 0 0), none, some (zi (iz (i : Int))), some (zo 7 s 0), some (zi (iz ((k + 1 : Nat) : Int))), some (zi r4), some (zi (iz ((k + 1 : Nat) : Int) + 1)), none] [] M4)))) (fun q => ⟨_, rfl, goOn M2 (Off.rf M2) (by rw [lin_na q]; exact L3)⟩) (fun q p M3 o3 hp he L4 => ⟨_, rfl, goOn M3 o3 (by rw [lin_ad (by omega) q]; exact L4)⟩)
        rw [updB_eq] at pi
        exact pi
theorem r_mark {x y : Int32} (hW : rW M cnt SS) (ht0 : M.1 10 0 0 21 = iz (-1)) (h : ∀ M', Kp M M' → Q (some (zi (iz (fS cnt SS x (fun S => gMark S y) (-1))))) M') : zEv Γ 239 [zo 10 0 0, zi x, zi y] M Q := by
  refine en_239 (bk_239_0 (r_takesSale hW (fun q => ⟨_, rfl, fun _ => ?_, fun q' => absurd rfl q'⟩) (fun s n M1 hs hx hn ho hB hb => ⟨_, rfl, fun q' => absurd q' (by decide), fun _ => ?_⟩)))
  · have := h M (Kp.rf M)
    rw [fS_out q] at this
    exact this
  · have hS := (hW.2.2 s hs).2
    have h7 := hS.2.1
    have h6 := hS.1
    have en : n = (SS s 1).toNat := by omega
    subst en
    rw [fS_in hs hW.2.1 hx] at h
    unfold gMark at h
    refine r_isBidder hS hB (fun q => ⟨_, rfl, fun q' => absurd rfl q', fun _ => ?_⟩) (fun i hi hy => ⟨_, rfl, fun _ => ?_, fun q' => absurd q' (by decide)⟩)
    · have h2 := h M1 (Kp.ofR ho)
      rw [if_neg (by omega)] at h2
      exact h2
    · subst hy
      rw [iz_toInt (by omega) (by omega), if_pos (by omega), show ((i : Int).toNat) = i by omega] at h
      have hmb : ∀ k, k ≤ 9 → (1 ≤ (mst (tkM (SS s) i) k).1 ∧ (mst (tkM (SS s) i) k).1 ≤ k + 1) ∧ -1 ≤ (mst (tkM (SS s) i) k).2 ∧ (mst (tkM (SS s) i) k).2 ≤ 600000 := by
        intro k
        induction k with
        | zero => intro _; simp [mst]
        | succ k ihk =>
          intro hk
          have := ihk (by omega)
          have := tkM_b hS i k (by omega)
          rw [mst]
          split <;> (try simp only) <;> omega
      refine zloop (P := fun k M2 => Off rSc M M2 ∧ rB M2 (510 + 260 * s) (SS s) ∧ ∀ j, j < (SS s 1).toNat → M2.1 10 0 16 j = iz (bdS (SS s) j) ∧ M2.1 10 0 18 j = iz 0 ∧ (j ≠ i → M2.1 10 0 17 j = iz (mkS (SS s) j))) (G := fun k M2 => zGo Γ 239 Q 26 [some (zo 10 0 0), none, some (zi (iz (i : Int))), some (zi (iz (if k = 0 then 0 else (((mst (tkM (SS s) i) k).1 : Nat) : Int)))), some (zi (iz (if k = 0 then 0 else (mst (tkM (SS s) i) k).2))), some (zi (iz ((k + 1 : Nat) : Int))), none] [] M2) (n := 9) ?_ ?_ 9 0 M1 (by omega) ⟨ho, hB, fun j hj => ⟨(hb j hj).1, (hb j hj).2.2, fun _ => (hb j hj).2.1⟩⟩
      · rintro M2 ⟨o2, B2, b2⟩
        exact bk_239_26 ⟨fun _ => h M2 (Kp.ofR o2), fun q => absurd (by decide) q⟩
      · rintro k M2 hk ⟨o2, B2, b2⟩ ih
        refine bk_239_26 ⟨fun q => ?_, fun _ => ?_⟩
        · rw [show (10 : Int32) = iz 10 from rfl, iz_le (by omega) (by omega) (by omega) (by omega)] at q
          omega
        rw [iz_clN (by omega)]
        have hB1 : rB (zw M2 10 0 17 i (iz ((k + 1 : Nat) : Int))) (510 + 260 * s) (SS s) := B2.w (by omega) (by omega)
        refine ⟨iz_inN (by omega) (by omega), r_of hB1 3 (by omega) rfl ⟨_, rfl, ?_⟩⟩
        rw [hB1.2.2.1, show SS s 1 = ((SS s 1).toNat : Int) by omega]
        refine r_laysE (bd := bdS (SS s)) (mk := updB (mkS (SS s)) i ((k + 1 : Nat) : Int)) (ex := fun _ => false) hS hB1 (by omega) (rng_mk (i := i) (m := k + 1) (rngS hS) (by omega)) (fun j hj => ⟨(zw_ne (by omega)).trans (b2 j hj).1, ?_, (zw_ne (by omega)).trans (b2 j hj).2.1⟩) hS.2.2.2.1 (fun M3 o3 ho3 hp3 => ⟨rfl, ?_⟩)
        · by_cases z : j = i
          · rw [z, zw_eq, updB_eq]
          · rw [zw_ne (by omega), updB_ne z]
            exact (b2 j hj).2.2 z
        · have hB2 := hB1.off o3 (fun i => rLy_n (by omega) (by omega) (by omega)) (rLy_n (by omega) (by omega) (by omega)) (rLy_n (by omega) (by omega) (by omega)) (rLy_n (by omega) (by omega) (by omega))
          refine r_takeNow (nb := (SS s 0).toNat) hS (by omega) hB2 hp3 ⟨_, rfl, ?_⟩
          have hv := tkM_b hS i k hk
          have hm := hmb k (by omega)
          have nx := ih M3 ⟨(o2.w _ (by unfold rSc; omega)).tr (o3.wk fun _ _ _ _ => rLy_sc), hB2, fun j hj => ⟨?_, ?_, fun hne => ?_⟩⟩
          · rw [if_neg (by omega), if_neg (by omega), mst] at nx
            have ht : sumTo (payB (SS s) (bdS (SS s)) (updB (mkS (SS s)) i ((k + 1 : Nat) : Int)) (SS s 3) (lin (bdS (SS s)) (updB (mkS (SS s)) i ((k + 1 : Nat) : Int)) (fun _ => false) (SS s 3) (SS s 1).toNat) (SS s 0).toNat) (SS s 0).toNat = tkM (SS s) i k := rfl
            rw [ht, iz_s]
            by_cases hk0 : k = 0
            · subst hk0
              have : (mst (tkM (SS s) i) 0).2 = -1 := rfl
              rw [if_pos (by omega)] at nx
              exact ⟨fun _ => nx, fun q => absurd (by rw [if_pos rfl]; decide) q⟩
            · rw [if_neg hk0, if_neg hk0, iz0, iz_le (by omega) (by omega) (by omega) (by omega), iz_lt (by omega) (by omega) (by omega) (by omega)]
              refine ⟨fun q => by omega, fun _ => ⟨fun q => ?_, fun q => ?_⟩⟩
              · rw [if_pos q] at nx
                exact nx
              · rw [if_neg q] at nx
                exact nx
          · rw [o3.1 _ _ _ _ (rLy_n (by omega) (by omega) (by omega)), zw_ne (by omega)]; exact (b2 j hj).1
          · rw [o3.1 _ _ _ _ (rLy_n (by omega) (by omega) (by omega)), zw_ne (by omega)]; exact (b2 j hj).2.1
          · rw [o3.1 _ _ _ _ (rLy_n (by omega) (by omega) (by omega)), zw_ne (by omega)]; exact (b2 j hj).2.2 hne
end Z55
