/-! pair: the mathematics -/
def gnb (S : SB) (bd : Nat → Int) (i : Nat) : Int := gnS (worS S) (payB S bd (mkS S) (S 3) (lin bd (mkS S) (fun _ => false) (S 3) (S 1).toNat) (S 0).toNat) (plc (lin bd (mkS S) (fun _ => false) (S 3) (S 1).toNat) (S 0).toNat i) i
def bdP (S : SB) (u v : Nat) (x y : Int) : Nat → Int := updB (updB (bdS S) u x) v y
def pG (S : SB) (u v : Nat) (x y : Nat) : Int := gnb S (bdP S u v (x : Int) (y : Int)) u + gnb S (bdP S u v (x : Int) (y : Int)) v
def pst (f : Nat → Int) : Nat → Int × Nat
  | 0 => (0, 0)
  | k + 1 => if (pst f k).1 < f k then (f k, k) else pst f k
def pF (S : SB) (u v k : Nat) : Int := pG S u v (k / 100) (k % 100)
def gPair (S : SB) (a b w : Int32) : Int := if (0 ≤ a.toInt ∧ a.toInt < S 1) ∧ (0 ≤ b.toInt ∧ b.toInt < S 1) ∧ a.toInt ≠ b.toInt ∧ 0 ≤ w.toInt ∧ w.toInt ≤ 2 then (if w.toInt = 0 then (pst (pF S (min a.toInt b.toInt).toNat (max a.toInt b.toInt).toNat) 10000).1 else if w.toInt = 1 then (((pst (pF S (min a.toInt b.toInt).toNat (max a.toInt b.toInt).toNat) 10000).2 / 100 : Nat) : Int) else (((pst (pF S (min a.toInt b.toInt).toNat (max a.toInt b.toInt).toNat) 10000).2 % 100 : Nat) : Int)) else -100000
theorem pst_max {f : Nat → Int} : ∀ k j, j < k → f j ≤ (pst f k).1
  | 0, j, h => by omega
  | k + 1, j, h => by
    rw [pst]
    by_cases e : j = k
    · subst e
      split <;> (try simp only) <;> omega
    · have := pst_max (f := f) k j (by omega)
      split <;> (try simp only) <;> omega
theorem pst_skip {f : Nat → Int} {k j : Nat} (hj : j < k) (h : f k ≤ f j) : pst f (k + 1) = pst f k := by
  have := pst_max (f := f) k j hj
  rw [pst, if_neg (by omega)]
theorem pst_b {f : Nat → Int} {m : Nat} (hf : ∀ k, k < m → -400000 ≤ f k ∧ f k ≤ 400000) : ∀ k, k ≤ m → (-400000 ≤ (pst f k).1 ∧ (pst f k).1 ≤ 400000) ∧ ((pst f k).2 < k ∨ (pst f k).2 = 0)
  | 0, _ => by simp [pst]
  | k + 1, hk => by
    have := pst_b hf k (by omega)
    have := hf k (by omega)
    rw [pst]
    split <;> (try simp only) <;> omega
theorem payS_congr {S : SB} {bd bd' mk : Nat → Int} {bar : Int} {l : List Nat} {j : Nat} (hs : sco bd mk l = sco bd' mk l) (hb : bd (l.getD j 0) = bd' (l.getD j 0)) : payS S bd mk bar l j = payS S bd' mk bar l j := by
  have hh : ∀ d k, hsum S bd mk l k d = hsum S bd' mk l k d := fun d k => by rw [← hs2_hsum, ← hs2_hsum, hs]
  unfold payS
  rw [hs, hb]
  simp only [hh]
theorem upI_mono {a b m : Int} (h : a ≤ b) (hm : 1 ≤ m) : upI a m ≤ upI b m := by
  unfold upI
  exact Int.ediv_le_ediv (by omega) (by omega)
theorem hs2_mono {S : SB} (hS : SOK S) {sc sc' : Nat → Int} (h : ∀ k, sc k ≤ sc' k) : ∀ d k q, hs2 S sc k q d ≤ hs2 S sc' k q d
  | 0, _, _ => by rw [hs2, hs2]; omega
  | d + 1, k, q => by
    have ih := hs2_mono hS h d (k + 1) (q + 1)
    have hp := pas_m hS k
    have := Int.mul_le_mul_of_nonneg_left (h q) (show 0 ≤ pas S k - pas S (k + 1) by omega)
    rw [hs2, hs2]
    omega
theorem askV_mono {S : SB} (hS : SOK S) {sc sc' : Nat → Int} (h : ∀ k, sc k ≤ sc' k) {bid mark : Int} (hm : 1 ≤ mark) (j q : Nat) : askV S sc bid mark j q ≤ askV S sc' bid mark j q := by
  have hp := pas_b hS j
  unfold askV
  split
  · omega
  · split
    · have := upI_mono (h q) hm
      exact Int.mul_le_mul_of_nonneg_left (by omega) hp.1
    · exact upI_mono (hs2_mono hS h _ _ _) hm
theorem gnb_b {S : SB} (hS : SOK S) {bd : Nat → Int} (hr : rng (S 1).toNat bd (mkS S)) {i : Nat} (hi : i < 7) : -88209 ≤ gnb S bd i ∧ gnb S bd i ≤ 10800 := by
  have h6 := hS.1
  unfold gnb
  cases hp : plc (lin bd (mkS S) (fun _ => false) (S 3) (S 1).toNat) (S 0).toNat i with
  | none => simp [gnS]
  | some j =>
    have hj := plc_lt hp
    have h1 := worS_b hS hi (show j < 6 by omega)
    have h2 := payB_b (nb := (S 0).toNat) hS hr (fun x hx => (lin_bar (mk := mkS S) (ex := fun _ => false) (n := (S 1).toNat) hx).1) hS.2.2.2.1 (fun x hx => (lin_bar hx).2) j
    simp only [gnS]
    omega
theorem rngP {S : SB} (hS : SOK S) {u v : Nat} {x y : Int} (hx : 0 ≤ x ∧ x ≤ 99) (hy : 0 ≤ y ∧ y ≤ 99) : rng (S 1).toNat (bdP S u v x y) (mkS S) := rng_upd (rng_upd (rngS hS) hx) hy
theorem pG_b {S : SB} (hS : SOK S) {u v x y : Nat} (hu : u < 7) (hv : v < 7) (hx : x < 100) (hy : y < 100) : -400000 ≤ pG S u v x y ∧ pG S u v x y ≤ 400000 := by
  have hr := rngP hS (u := u) (v := v) (x := (x : Int)) (y := (y : Int)) (by omega) (by omega)
  have h1 := gnb_b hS hr hu
  have h2 := gnb_b hS hr hv
  unfold pG
  omega
theorem pF_b {S : SB} (hS : SOK S) {u v : Nat} (hu : u < 7) (hv : v < 7) : ∀ k, k < 10000 → -400000 ≤ pF S u v k ∧ pF S u v k ≤ 400000 := fun k hk => pG_b hS hu hv (by omega) (by omega)
theorem pF_at {S : SB} {u v x y : Nat} (hy : y < 100) : pF S u v (100 * x + y) = pG S u v x y := by
  unfold pF
  rw [show (100 * x + y) / 100 = x by omega, show (100 * x + y) % 100 = y by omega]
/-- a bid that is not admitted is as good as none -/
theorem pG_low {S : SB} {u v x y : Nat} (hv : v < (S 1).toNat) (huv : u ≠ v) (hy : (y : Int) < S 3 ∨ (y : Int) = 0) (h0 : 0 ≤ S 3) : pG S u v x y = pG S u v x 0 := by
  have key : ∀ z : Int, z < S 3 ∨ z = 0 → lin (bdP S u v (x : Int) z) (mkS S) (fun _ => false) (S 3) (S 1).toNat = linO (updB (bdS S) u (x : Int)) (mkS S) v (S 3) (S 1).toNat := fun z hz => by
    unfold bdP
    rw [lin_na (i := v) (by rw [updB_eq]; exact hz)]
    exact linO_congr (fun k _ hk => ⟨updB_ne hk, rfl⟩)
  have e1 := key (y : Int) hy
  have e2 := key ((0 : Nat) : Int) (Or.inr rfl)
  have pe : ∀ z : Int, ∀ j, payB S (bdP S u v (x : Int) z) (mkS S) (S 3) (linO (updB (bdS S) u (x : Int)) (mkS S) v (S 3) (S 1).toNat) (S 0).toNat j = payB S (updB (bdS S) u (x : Int)) (mkS S) (S 3) (linO (updB (bdS S) u (x : Int)) (mkS S) v (S 3) (S 1).toNat) (S 0).toNat j := fun z j => by
    unfold payB
    split
    · next hj =>
      have hmem : ∀ y ∈ linO (updB (bdS S) u (x : Int)) (mkS S) v (S 3) (S 1).toNat, bdP S u v (x : Int) z y = updB (bdS S) u (x : Int) y := fun y hy => updB_ne (linO_mem.mp hy).2.1
      have hs : sco (bdP S u v (x : Int) z) (mkS S) (linO (updB (bdS S) u (x : Int)) (mkS S) v (S 3) (S 1).toNat) = sco (updB (bdS S) u (x : Int)) (mkS S) (linO (updB (bdS S) u (x : Int)) (mkS S) v (S 3) (S 1).toNat) := funext (fun k => sco_congr (fun y hy => ⟨hmem y hy, rfl⟩) k)
      exact payS_congr hs (hmem _ (getD_mem (by omega)))
    · rfl
  have pe' : ∀ z : Int, payB S (bdP S u v (x : Int) z) (mkS S) (S 3) (linO (updB (bdS S) u (x : Int)) (mkS S) v (S 3) (S 1).toNat) (S 0).toNat = payB S (updB (bdS S) u (x : Int)) (mkS S) (S 3) (linO (updB (bdS S) u (x : Int)) (mkS S) v (S 3) (S 1).toNat) (S 0).toNat := fun z => funext (pe z)
  unfold pG gnb
  rw [e1, e2, pe', pe']
theorem lin_cut {S : SB} {bd0 : Nat → Int} {v : Nat} {z : Int} (hv : v < (S 1).toNat) (hz : ¬ (z < S 3 ∨ z = 0)) : lin (updB bd0 v z) (mkS S) (fun _ => false) (S 3) (S 1).toNat = (linO bd0 (mkS S) v (S 3) (S 1).toNat).take (plf (gLe bd0 (mkS S) (linO bd0 (mkS S) v (S 3) (S 1).toNat) v (z * mkS S v)) (linO bd0 (mkS S) v (S 3) (S 1).toNat).length) ++ v :: (linO bd0 (mkS S) v (S 3) (S 1).toNat).drop (plf (gLe bd0 (mkS S) (linO bd0 (mkS S) v (S 3) (S 1).toNat) v (z * mkS S v)) (linO bd0 (mkS S) v (S 3) (S 1).toNat).length) := by
  rw [lin_upd hv hz]
  exact ins2_plf (lin_srt _) (fun q => (linO_mem.mp q).2.1 rfl) (fun y hy => by show updB bd0 v z y * mkS S y = _; rw [updB_ne (linO_mem.mp hy).2.1]) (by show updB bd0 v z v * mkS S v = _; rw [updB_eq])
/-- a greater bid that has the same place never gains more -/
theorem pG_same {S : SB} (hS : SOK S) {u v x y : Nat} (hu : u < (S 1).toNat) (hv : v < (S 1).toNat) (huv : u ≠ v) (hx : x < 100) (hy : y + 1 < 100) (hz : ¬ ((y : Int) < S 3 ∨ (y : Int) = 0)) (hp : plf (gLe (updB (bdS S) u (x : Int)) (mkS S) (linO (updB (bdS S) u (x : Int)) (mkS S) v (S 3) (S 1).toNat) v ((y : Int) * mkS S v)) (linO (updB (bdS S) u (x : Int)) (mkS S) v (S 3) (S 1).toNat).length = plf (gLe (updB (bdS S) u (x : Int)) (mkS S) (linO (updB (bdS S) u (x : Int)) (mkS S) v (S 3) (S 1).toNat) v (((y + 1 : Nat) : Int) * mkS S v)) (linO (updB (bdS S) u (x : Int)) (mkS S) v (S 3) (S 1).toNat).length) : pG S u v x (y + 1) ≤ pG S u v x y := by
  have h7 := hS.2.1
  have h6 := hS.1
  have h3 := hS.2.2.2.1
  have hr := rng_upd (i := u) (x := (x : Int)) (rngS hS) (by omega)
  have hmk : ∀ i, i < (S 1).toNat → 1 ≤ mkS S i := fun i hi => (hr i hi).2.1
  have g1 := gB_gain (S := S) (bd := updB (bdS S) u (x : Int)) (mk := mkS S) (i := v) (n := (S 1).toNat) (nb := (S 0).toNat) (bar := S 3) (x := (y : Int)) hS (by omega) h3.1 hv
  have g2 := gB_gain (S := S) (bd := updB (bdS S) u (x : Int)) (mk := mkS S) (i := v) (n := (S 1).toNat) (nb := (S 0).toNat) (bar := S 3) (x := ((y + 1 : Nat) : Int)) hS (by omega) h3.1 hv
  have gs := gB_same (S := S) (bd := updB (bdS S) u (x : Int)) (mk := mkS S) (lo := linO (updB (bdS S) u (x : Int)) (mkS S) v (S 3) (S 1).toNat) (i := v) (bar := S 3) (x := (y : Int)) (y := ((y + 1 : Nat) : Int)) hS (by omega) hz (by omega) hp
  rw [← g1, ← g2] at gs
  have c1 := lin_cut (bd0 := updB (bdS S) u (x : Int)) hv hz
  have c2 := lin_cut (bd0 := updB (bdS S) u (x : Int)) (z := ((y + 1 : Nat) : Int)) hv (by omega)
  rw [← hp] at c2
  have hbar : ∀ x' ∈ lin (updB (updB (bdS S) u (x : Int)) v (y : Int)) (mkS S) (fun _ => false) (S 3) (S 1).toNat, x' < (S 1).toNat ∧ S 3 ≤ updB (updB (bdS S) u (x : Int)) v (y : Int) x' := fun x' hx' => lin_bar hx'
  have gu : gnb S (bdP S u v (x : Int) ((y + 1 : Nat) : Int)) u ≤ gnb S (bdP S u v (x : Int) (y : Int)) u := by
    unfold gnb bdP
    rw [c2, ← c1]
    generalize lin (updB (updB (bdS S) u (x : Int)) v (y : Int)) (mkS S) (fun _ => false) (S 3) (S 1).toNat = l at *
    cases hpl : plc l (S 0).toNat u with
    | none => simp [gnS]
    | some j =>
      obtain ⟨j1, j2, j3⟩ := plc_lt hpl
      simp only [gnS]
      have hb0 := (hbar _ (getD_mem j1)).2
      rw [j3] at hb0
      have b1 : updB (updB (bdS S) u (x : Int)) v (y : Int) u = (x : Int) := by rw [updB_ne huv, updB_eq]
      have b2 : updB (updB (bdS S) u (x : Int)) v ((y + 1 : Nat) : Int) u = (x : Int) := by rw [updB_ne huv, updB_eq]
      unfold payB
      rw [if_pos (by omega), if_pos (by omega), ← payS_ask hS h3.1 (by rw [j3, b2]; omega), ← payS_ask hS h3.1 (by rw [j3, b1]; omega), j3, b1, b2]
      have hsc : ∀ k, sco (updB (updB (bdS S) u (x : Int)) v (y : Int)) (mkS S) l k ≤ sco (updB (updB (bdS S) u (x : Int)) v ((y + 1 : Nat) : Int)) (mkS S) l k := fun k => by
        unfold sco
        split
        · next hk =>
          have hm := hmk _ (hbar _ (getD_mem hk)).1
          refine Int.mul_le_mul_of_nonneg_right ?_ (by omega)
          by_cases e : l.getD k 0 = v
          · rw [e, updB_eq, updB_eq]
            omega
          · rw [updB_ne e, updB_ne e]
            omega
        · omega
      have := askV_mono hS hsc (bid := (x : Int)) (hmk u hu) j (j + 1)
      omega
  have gv : gnb S (bdP S u v (x : Int) ((y + 1 : Nat) : Int)) v ≤ gnb S (bdP S u v (x : Int) (y : Int)) v := gs
  unfold pG
  omega
