/-! the class: best, even, truly, judged, tells, beside -/
def bW (S : SB) (W : Nat → Nat → Int) : Nat → Nat → Int := wR W (exR (-1)) (S 1).toNat
def mvA (S : SB) (B : Bool) (W : Nat → Nat → Int) : Int := mv S B (S 0).toNat (bW S W) (S 0).toNat 0 7
def rwA (S : SB) (B : Bool) (W : Nat → Nat → Int) (j : Nat) : Option Nat := row S B (S 0).toNat (bW S W) j
def plA (S : SB) (W : Nat → Nat → Int) (i : Nat) : Option Nat := fnd (fun j => decide (rwA S false W j = some i)) 0 (S 0).toNat
def mvG (S : SB) (W : Nat → Nat → Int) (i : Nat) : Int := mv S false (S 0).toNat (bW S W) (S 0).toNat (2 ^ i) 7
def two (S : SB) (b k : Nat) : Nat := if k = (S 0).toNat then b else k
def mv2 (S : SB) (W : Nat → Nat → Int) (b : Nat) : Int := mv S false ((S 0).toNat + 1) (wR W (two S b) (S 1).toNat) ((S 0).toNat + 1) 0 7
def mvO (S : SB) (W : Nat → Nat → Int) (b : Nat) : Int := mv S false (exN (b : Int) (S 0).toNat) (wR W (exR (b : Int)) (S 1).toNat) (exN (b : Int) (S 0).toNat) 0 7
def harm (S : SB) (W : Nat → Nat → Int) (i : Nat) : Int := match plA S W i with
  | none => 0
  | some p => mvG S W i - (mvA S false W - W i p)
def hasA (S : SB) (i : Nat) : Int := match plA S (worS S) i with
  | none => 0
  | some p => worS S i p - S (227 + p)
def mstP (S : SB) (i : Nat) : Nat → Int := mxI (fun j => worS S i j - S (227 + j)) (fun _ => true) 0
def jud (S : SB) (i : Nat) : Bool := decide (hasA S i < mstP S i (S 0).toNat)
def judE (S : SB) (j : Nat) : Bool := decide (rwA S false (worS S) j = none ∧ 0 < S (227 + j))
def gJudged (S : SB) : Int := match fnd (jud S) 0 (S 1).toNat with
  | some i => (i : Int)
  | none => match fnd (judE S) 0 (S 0).toNat with
    | some j => 100 + (j : Int)
    | none => -1
def gBest (S : SB) (w : Int32) : Int := if w.toInt = 1 then sumTo (fun j => worS S ((linS S).getD j 0) j) (stN S) else if w.toInt = 0 then mvA S false (worS S) else if 10 ≤ w.toInt ∧ w.toInt - 10 < S 0 then opI (rwA S false (worS S) (w.toInt - 10).toNat) else -1
def gEven (S : SB) (y m : Int32) : Int := if 0 ≤ y.toInt ∧ y.toInt < S 0 then (if m = 0 then mv2 S (worS S) y.toInt.toNat - mvA S false (worS S) else mvA S false (worS S) - mvO S (worS S) y.toInt.toNat) else -1
def gTruly (S : SB) (y : Int32) : Int := if 0 ≤ y.toInt ∧ y.toInt < S 1 then harm S (worS S) y.toInt.toNat else -1
def gTells (S : SB) (y v m : Int32) : Int := if (0 ≤ y.toInt ∧ y.toInt < S 1) ∧ 0 ≤ v.toInt ∧ v.toInt ≤ 99 then (if m = 0 then (match plA S (wT S y.toInt v.toInt) y.toInt.toNat with
  | none => 0
  | some p => worS S y.toInt.toNat p - harm S (wT S y.toInt v.toInt) y.toInt.toNat) else opI (plA S (wT S y.toInt v.toInt) y.toInt.toNat)) else -100000
def gBeside (S : SB) (w : Int32) : Int := if w.toInt = 0 then mvA S true (worS S) else if 10 ≤ w.toInt ∧ w.toInt - 10 < S 0 then (match rwA S true (worS S) (w.toInt - 10).toNat with
  | none => -100000
  | some i => (i : Int)) else -100000
def cWt (M : zM) (S : SB) (W : Nat → Nat → Int) : Prop := ∀ i j, i < (S 1).toNat → j < (S 0).toNat → M.1 3 0 1 (i * 6 + j) = iz (W i j) ∧ 0 ≤ W i j ∧ W i j ≤ 10800
def oMt (c t f i : Nat) : Prop := c = 3 ∧ t = 0 ∧ (f = 0 ∧ i = 2 ∨ f = 2 ∨ f = 4 ∨ f = 5)
def oMa (c t _f _i : Nat) : Prop := c = 3 ∧ t = 0
theorem Kp.ofM {M M' : zM} (h : Off oMa M M') : Kp M M' := ⟨fun c t f i hp => h.1 _ _ _ _ (by unfold Pst at hp; unfold oMa; omega), fun hI t ht => (hI t ht).off h (by unfold oMa; intro f i; omega)⟩
theorem row_b {S : SB} (hS : SOK S) {B : Bool} {W : Nat → Nat → Int} (j : Nat) : -1 ≤ opI (rwA S B W j) ∧ opI (rwA S B W j) < 7 := by
  have h7 := hS.2.1
  cases h : rwA S B W j with
  | none => simp [opI]
  | some i =>
    have := ch_lt h
    simp only [opI]
    omega
theorem row_is {S : SB} (hS : SOK S) {B : Bool} {W : Nat → Nat → Int} {j i : Nat} (hi : i < 7) : (iz (opI (rwA S B W j)) = iz (i : Int)) ↔ rwA S B W j = some i := by
  have hb := row_b hS (B := B) (W := W) j
  rw [iz_eq (by omega) (by omega) (by omega) (by omega)]
  cases h : rwA S B W j with
  | none => simp [opI]
  | some k => simp [opI]; omega
theorem row_no {S : SB} (hS : SOK S) {B : Bool} {W : Nat → Nat → Int} {j : Nat} : (iz (opI (rwA S B W j)) = iz (-1)) ↔ rwA S B W j = none := by
  have hb := row_b hS (B := B) (W := W) j
  rw [iz_eq (by omega) (by omega) (by omega) (by omega)]
  cases h : rwA S B W j with
  | none => simp [opI]
  | some k => simp [opI]
theorem plA_lt {S : SB} {W : Nat → Nat → Int} {i p : Nat} (h : plA S W i = some p) : p < (S 0).toNat := by
  obtain ⟨_, b, _⟩ := fnd_lt _ _ _ h
  omega
theorem mvA_b {S : SB} (hS : SOK S) {B : Bool} {W : Nat → Nat → Int} (hW : ∀ i j, i < (S 1).toNat → j < (S 0).toNat → 0 ≤ W i j ∧ W i j ≤ 10800) (s : Nat) : 0 ≤ mv S B (S 0).toNat (bW S W) (S 0).toNat s 7 ∧ mv S B (S 0).toNat (bW S W) (S 0).toNat s 7 ≤ 72000 := by
  have h6 := hS.1
  have := mv_b hS (B := B) (R := (S 0).toNat) (w := bW S W) (fun i j _ hj => by
    unfold bW wR exR
    split
    · rw [if_neg (by omega)]
      exact hW i j (by omega) hj
    · omega) (S 0).toNat (by omega) s 7 (by omega)
  omega
theorem worS_W {S : SB} (hS : SOK S) : ∀ i j, i < (S 1).toNat → j < (S 0).toNat → 0 ≤ worS S i j ∧ worS S i j ≤ 10800 := fun i j hi hj => by
  have h6 := hS.1
  have h7 := hS.2.1
  exact worS_b hS (by omega) (by omega)
theorem wT_W {S : SB} (hS : SOK S) {tl tg : Int} (hg : 0 ≤ tg ∧ tg ≤ 99 ∨ tl = -1) : ∀ i j, i < (S 1).toNat → j < (S 0).toNat → 0 ≤ wT S tl tg i j ∧ wT S tl tg i j ≤ 10800 := fun i j hi hj => by
  have h6 := hS.1
  have h7 := hS.2.1
  have hv := hS.2.2.2.2.2.1 i (by omega)
  unfold wT valO
  split
  · exact wor_b hS (by omega) (by omega) (by omega)
  · exact wor_b hS hv (by omega) (by omega)
theorem wT_no {S : SB} {tg : Int} : wT S (-1) tg = worS S := by
  funext i j
  unfold wT worS valO
  rw [if_neg (by omega)]
section Z60
variable {Γ : zC} {Q : zQ} {M : zM} {ts cnt : Nat} {S : SB} {B : Bool} {W : Nat → Nat → Int} {SS : Nat → SB}
theorem c_solveWithRow (hS : SOK S) (hC : cS M ts S) (hB : M.1 3 0 0 5 = iz (if B = true then 1 else 0)) (hW : cWt M S W)
    (h : ∀ M', Off oMt M M' → (∀ j, j < (S 0).toNat → M'.1 3 0 4 j = iz (opI (rwA S B W j))) → Q (some (zi (iz (mvA S B W)))) M') : zEv Γ 43 [zo 3 0 0, zo 7 ts 0] M Q := by
  have h6 := hS.1
  have e0 : exN (-1) (S 0).toNat = (S 0).toNat := by unfold exN; rw [if_neg (by omega)]
  refine en_43 (bk_43_0 (c_listBoards (x := -1) hS hC (by omega) (fun M1 o1 l1 k1 => ⟨rfl, ?_⟩)))
  rw [e0] at l1 k1
  have C1 := hC.off o1 (by unfold oLs; intro f i; omega)
  have T1 : cMt M1 S B (S 0).toNat (exR (-1)) W := ⟨l1, (o1.1 _ _ _ _ (by unfold oLs; omega)).trans hB, by omega, fun j hj => ⟨k1 j hj, by unfold exR; rw [if_neg (by omega)]; omega⟩, fun i j hi hj => ⟨(o1.1 _ _ _ _ (by unfold oLs; omega)).trans (hW i j hi hj).1, (hW i j hi hj).2⟩⟩
  refine c_solve (k := 7) hS C1 T1 (Or.inl rfl) (fun M2 o2 c2 => ⟨_, rfl, ?_⟩)
  have C2 := C1.off o2 (by unfold oSv; intro f i; omega)
  have T2 := T1.off o2 (by unfold oSv; omega) (by unfold oSv; omega) (by unfold oSv; omega) (by unfold oSv; omega)
  refine c_chooseRow hS C2 T2 c2 (fun M3 o3 r3 => ⟨rfl, ?_⟩)
  exact h M3 (((o1.wk (by unfold oLs oMt; intro c t f i; omega)).tr (o2.wk (by unfold oSv oMt; intro c t f i; omega))).tr (o3.wk (by unfold oRw oMt; intro c t f i; omega))) r3
theorem c_solveBest (hS : SOK S) (hC : cS M ts S) (h : ∀ M', Off oMa M M' → cWt M' S (worS S) → M'.1 3 0 0 5 = iz 0 → (∀ j, j < (S 0).toNat → M'.1 3 0 4 j = iz (opI (rwA S false (worS S) j))) → Q (some (zi (iz (mvA S false (worS S))))) M') : zEv Γ 39 [zo 3 0 0, zo 7 ts 0] M Q := by
  refine en_39 (bk_39_0 (c_weigh hS hC (fun M1 o1 w1 => ⟨rfl, Or.inl rfl, ?_⟩)))
  have C1 := (hC.off o1 (by intro f i; omega)).off (Off.w (P := oMa) (Off.rf M1) 0 (c := 3) (t := 0) (f := 0) (i := 5) ⟨rfl, rfl⟩) (by unfold oMa; intro f i; omega)
  have W1 : cWt (zw M1 3 0 0 5 0) S (worS S) := fun i j hi hj => ⟨(zw_ne (by omega)).trans (w1 i j hi hj), worS_W hS i j hi hj⟩
  refine c_solveWithRow (B := false) hS C1 (by rw [zw_eq]; rfl) W1 (fun M2 o2 r2 => ⟨_, rfl, ?_⟩)
  exact h M2 (((o1.wk (by unfold oMa; intro c t f i; omega)).w _ ⟨rfl, rfl⟩).tr (o2.wk (by unfold oMt oMa; intro c t f i; omega))) (fun i j hi hj => ⟨(o2.1 _ _ _ _ (by unfold oMt; omega)).trans (W1 i j hi hj).1, (W1 i j hi hj).2⟩) ((o2.1 _ _ _ _ (by unfold oMt; omega)).trans zw_eq) r2
theorem c_solveBeside (hS : SOK S) (hC : cS M ts S) (h : ∀ M', Off oMa M M' → (∀ j, j < (S 0).toNat → M'.1 3 0 4 j = iz (opI (rwA S true (worS S) j))) → Q (some (zi (iz (mvA S true (worS S))))) M') : zEv Γ 41 [zo 3 0 0, zo 7 ts 0] M Q := by
  refine en_41 (bk_41_0 (c_weigh hS hC (fun M1 o1 w1 => ⟨rfl, Or.inr rfl, ?_⟩)))
  have C1 := (hC.off o1 (by intro f i; omega)).off (Off.w (P := oMa) (Off.rf M1) 1 (c := 3) (t := 0) (f := 0) (i := 5) ⟨rfl, rfl⟩) (by unfold oMa; intro f i; omega)
  have W1 : cWt (zw M1 3 0 0 5 1) S (worS S) := fun i j hi hj => ⟨(zw_ne (by omega)).trans (w1 i j hi hj), worS_W hS i j hi hj⟩
  refine c_solveWithRow (B := true) hS C1 (by rw [zw_eq]; rfl) W1 (fun M2 o2 r2 => ⟨_, rfl, ?_⟩)
  exact h M2 (((o1.wk (by unfold oMa; intro c t f i; omega)).w _ ⟨rfl, rfl⟩).tr (o2.wk (by unfold oMt oMa; intro c t f i; omega))) r2
theorem c_solveTold {i : Nat} {v : Int} (hS : SOK S) (hC : cS M ts S) (hi : i < (S 1).toNat) (hv : 0 ≤ v ∧ v ≤ 99) (h : ∀ M', Off oMa M M' → cWt M' S (wT S (i : Int) v) → M'.1 3 0 0 5 = iz 0 → (∀ j, j < (S 0).toNat → M'.1 3 0 4 j = iz (opI (rwA S false (wT S (i : Int) v) j))) → Q (some (zi (iz (mvA S false (wT S (i : Int) v))))) M') : zEv Γ 40 [zo 3 0 0, zo 7 ts 0, zi (iz (i : Int)), zi (iz v)] M Q := by
  have h6 := hS.1
  have h7 := hS.2.1
  refine en_40 (bk_40_0 (c_weigh hS hC (fun M1 o1 w1 => ⟨rfl, ?_⟩)))
  have o1' : Off oMa M M1 := o1.wk (by unfold oMa; intro c t f i; omega)
  refine zloop (P := fun j M2 => Off oMa M M2 ∧ (∀ i' j', i' < (S 1).toNat → i' ≠ i → j' < (S 0).toNat → M2.1 3 0 1 (i' * 6 + j') = iz (worS S i' j')) ∧ ∀ j', j' < j → M2.1 3 0 1 (i * 6 + j') = iz (wor S v i j')) (G := fun j M2 => zGo Γ 40 Q 8 [some (zo 3 0 0), some (zo 7 ts 0), some (zi (iz (i : Int))), some (zi (iz v)), some (zi (iz (j : Int)))] [] M2) (n := (S 0).toNat) ?_ ?_ (S 0).toNat 0 M1 (by omega) ⟨o1', fun i' j' h1 _ h2 => w1 i' j' h1 h2, fun j' h1 => by omega⟩
  · rintro M2 ⟨o2, w2, v2⟩
    have C2 := hC.off o2 (by unfold oMa; intro f i; omega)
    refine bk_40_8 ⟨fun _ => ⟨Or.inl rfl, ?_⟩, fun q => ?_⟩
    · have C3 := C2.off (Off.w (P := oMa) (Off.rf M2) 0 (c := 3) (t := 0) (f := 0) (i := 5) ⟨rfl, rfl⟩) (by unfold oMa; intro f i; omega)
      have W3 : cWt (zw M2 3 0 0 5 0) S (wT S (i : Int) v) := fun i' j hi' hj => by
        refine ⟨(zw_ne (by omega)).trans ?_, wT_W hS (Or.inl hv) i' j hi' hj⟩
        unfold wT valO
        by_cases e : i' = i
        · rw [e, if_pos rfl]
          exact v2 j hj
        · rw [if_neg (by omega)]
          exact w2 i' j hi' e hj
      refine c_solveWithRow (B := false) hS C3 (by rw [zw_eq]; rfl) W3 (fun M4 o4 r4 => ⟨_, rfl, ?_⟩)
      exact h M4 ((o2.w _ ⟨rfl, rfl⟩).tr (o4.wk (by unfold oMt oMa; intro c t f i; omega))) (fun i j hi hj => ⟨(o4.1 _ _ _ _ (by unfold oMt; omega)).trans (W3 i j hi hj).1, (W3 i j hi hj).2⟩) ((o4.1 _ _ _ _ (by unfold oMt; omega)).trans zw_eq) r4
    · rw [C2.1 0 (by omega), iz_le (by omega) (by omega) (by omega) (by omega)] at q
      omega
  · rintro j M2 hj ⟨o2, w2, v2⟩ ih
    have C2 := hC.off o2 (by unfold oMa; intro f i; omega)
    refine bk_40_8 ⟨fun q => ?_, fun _ => c_worthBy hS C2 hv (by omega) (by omega) ⟨_, rfl, ?_⟩⟩
    · rw [C2.1 0 (by omega), iz_le (by omega) (by omega) (by omega) (by omega)] at q
      omega
    · rw [show (6 : Int32) = iz 6 from rfl, iz_mul, iz_add, show (i : Int) * 6 + (j : Int) = ((i * 6 + j : Nat) : Int) by omega, iz_clN (by omega), iz_s]
      refine ⟨iz_inN (by omega) (by omega), ih _ ⟨o2.w _ ⟨rfl, rfl⟩, fun i' j' h1 h2 h3 => ?_, fun j' h1 => ?_⟩⟩
      · rw [zw_ne (by omega)]
        exact w2 i' j' h1 h2 h3
      · by_cases e : j' = j
        · rw [e, zw_eq]
        · rw [zw_ne (by omega)]
          exact v2 j' (by omega)
theorem c_boardOfB {i : Nat} (hS : SOK S) (hC : cS M ts S) (hr : ∀ j, j < (S 0).toNat → M.1 3 0 4 j = iz (opI (rwA S false W j))) (hi : i < 7) (h : Q (some (zi (iz (opI (plA S W i))))) M) : zEv Γ 47 [zo 3 0 0, zo 7 ts 0, zi (iz (i : Int))] M Q := by
  have h6 := hS.1
  refine en_47 (bk_47_0 ?_)
  refine nloop (G := fun j => fnd (fun j => decide (rwA S false W j = some i)) j ((S 0).toNat - j) = plA S W i → zGo Γ 47 Q 2 [some (zo 3 0 0), some (zo 7 ts 0), some (zi (iz (i : Int))), some (zi (iz (j : Int)))] [] M) (n := (S 0).toNat) (fun e => ?_) (fun j hj ih e => ?_) (S 0).toNat 0 (by omega) rfl
  · rw [Nat.sub_self] at e
    rw [← e] at h
    refine bk_47_2 ⟨fun _ => h, fun q => ?_⟩
    rw [hC.1 0 (by omega), iz_le (by omega) (by omega) (by omega) (by omega)] at q
    omega
  · rw [show (S 0).toNat - j = ((S 0).toNat - (j + 1)) + 1 by omega, fnd_s j] at e
    refine bk_47_2 ⟨fun q => ?_, fun _ => ⟨iz_inN (by omega) (by omega), ?_⟩⟩
    · rw [hC.1 0 (by omega), iz_le (by omega) (by omega) (by omega) (by omega)] at q
      omega
    · rw [iz_clN (by omega), hr j hj, row_is hS hi, iz_s]
      refine ⟨fun q => ih ?_, fun q => ?_⟩
      · rw [if_neg (by simpa using q)] at e
        exact e
      · rw [if_pos (by simpa using q)] at e
        rw [← e] at h
        exact h
theorem c_harm {i : Nat} (hS : SOK S) (hC : cS M ts S) (hB : M.1 3 0 0 5 = iz 0) (hW : cWt M S W) (hr : ∀ j, j < (S 0).toNat → M.1 3 0 4 j = iz (opI (rwA S false W j))) (hi : i < (S 1).toNat) (h : ∀ M', Off oMa M M' → Q (some (zi (iz (harm S W i)))) M') : zEv Γ 46 [zo 3 0 0, zo 7 ts 0, zi (iz (i : Int)), zi (iz (mvA S false W))] M Q := by
  have h6 := hS.1
  have h7 := hS.2.1
  refine en_46 (bk_46_0 (c_boardOfB hS hC hr (by omega) ⟨_, rfl, ?_⟩))
  unfold harm at h
  cases hp : plA S W i with
  | none =>
    rw [hp] at h
    exact ⟨fun q => absurd rfl q, fun _ => h M (Off.rf M)⟩
  | some p =>
    rw [hp] at h
    have hpl := plA_lt hp
    refine ⟨fun _ => ?_, fun q => ?_⟩
    · have e0 : exN (-1) (S 0).toNat = (S 0).toNat := by unfold exN; rw [if_neg (by omega)]
      refine c_listBoards (x := -1) hS hC (by omega) ?_
      intro M1 o1 l1 k1
      refine ⟨rfl, ?_⟩
      rw [e0] at l1 k1
      have C1 := hC.off o1 (by unfold oLs; intro f i; omega)
      have T1 : cMt M1 S false (S 0).toNat (exR (-1)) W := ⟨l1, (o1.1 _ _ _ _ (by unfold oLs; omega)).trans hB, by omega, fun j hj => ⟨k1 j hj, by unfold exR; rw [if_neg (by omega)]; omega⟩, fun i j hi hj => ⟨(o1.1 _ _ _ _ (by unfold oLs; omega)).trans (hW i j hi hj).1, (hW i j hi hj).2⟩⟩
      have eg : gn i = 2 ^ i := by unfold gn; rw [if_neg (by omega)]
      rw [bit_sh i (by omega), ← eg]
      refine c_solve (k := i) hS C1 T1 (Or.inr hi) (fun M2 o2 c2 => ⟨_, rfl, ?_⟩)
      have T2 := T1.off o2 (by unfold oSv; omega) (by unfold oSv; omega) (by unfold oSv; omega) (by unfold oSv; omega)
      show vp_in (iz (i : Int) * 6 + iz (p : Int)) 42 ∧ Q (some (zi (_ - (_ - M2.1 3 0 1 (iz (i : Int) * 6 + iz (p : Int)).toNatClampNeg)))) M2
      rw [show (6 : Int32) = iz 6 from rfl, iz_mul, iz_add, show (i : Int) * 6 + (p : Int) = ((i * 6 + p : Nat) : Int) by omega, iz_clN (by omega), (T2.2.2.2.2 i p hi hpl).1, iz_sub, iz_sub, eg]
      exact ⟨iz_inN (by omega) (by omega), h M2 ((o1.wk (by unfold oLs oMa; intro c t f i; omega)).tr (o2.wk (by unfold oSv oMa; intro c t f i; omega)))⟩
    · have q : iz (p : Int) = iz (-1) := q
      rw [iz_eq (by omega) (by omega) (by omega) (by omega)] at q
      omega
theorem c_two {j : Nat} (hS : SOK S) (hC : cS M ts S) (hB : M.1 3 0 0 5 = iz 0) (hW : cWt M S W) (hj : j < (S 0).toNat) (h : ∀ M', Off oMa M M' → Q (some (zi (iz (mv2 S W j)))) M') : zEv Γ 44 [zo 3 0 0, zo 7 ts 0, zi (iz (j : Int))] M Q := by
  have h6 := hS.1
  have e0 : exN (-1) (S 0).toNat = (S 0).toNat := by unfold exN; rw [if_neg (by omega)]
  refine en_44 (bk_44_0 (c_listBoards (x := -1) hS hC (by omega) (fun M1 o1 l1 k1 => ⟨rfl, ?_⟩)))
  rw [e0] at l1 k1
  rw [l1, iz_clN (by omega)]
  have z2 : (zw M1 3 0 2 (S 0).toNat (iz (j : Int))).1 3 0 0 2 = iz ((S 0).toNat : Int) := (zw_ne (by omega)).trans l1
  rw [z2, iz_s]
  have o2 : Off oLs M (zw (zw M1 3 0 2 (S 0).toNat (iz (j : Int))) 3 0 0 2 (iz (((S 0).toNat + 1 : Nat) : Int))) := (o1.w _ (by unfold oLs; omega)).w _ (by unfold oLs; omega)
  have C2 := hC.off o2 (by unfold oLs; intro f i; omega)
  have T2 : cMt (zw (zw M1 3 0 2 (S 0).toNat (iz (j : Int))) 3 0 0 2 (iz (((S 0).toNat + 1 : Nat) : Int))) S false ((S 0).toNat + 1) (two S j) W := by
    refine ⟨zw_eq, (o2.1 _ _ _ _ (by unfold oLs; omega)).trans hB, by omega, fun k hk => ?_, fun i j hi hj => ⟨(o2.1 _ _ _ _ (by unfold oLs; omega)).trans (hW i j hi hj).1, (hW i j hi hj).2⟩⟩
    unfold two
    rw [zw_ne (by omega)]
    by_cases e : k = (S 0).toNat
    · rw [if_pos e, e, zw_eq]
      exact ⟨rfl, hj⟩
    · rw [if_neg e, zw_ne (by omega), k1 k (by omega)]
      unfold exR
      rw [if_neg (by omega)]
      exact ⟨rfl, by omega⟩
  refine ⟨iz_inN (by omega) (by omega), c_solve (k := 7) hS C2 T2 (Or.inl rfl) (fun M3 o3 c3 => ⟨_, rfl, ?_⟩)⟩
  exact h M3 ((o2.wk (by unfold oLs oMa; intro c t f i; omega)).tr (o3.wk (by unfold oSv oMa; intro c t f i; omega)))
theorem exR_lt {x : Int} {n k : Nat} (hk : k < exN x n) : exR x k < n := by
  unfold exN at hk
  unfold exR
  split at hk <;> split <;> omega
theorem c_wo {j : Nat} (hS : SOK S) (hC : cS M ts S) (hB : M.1 3 0 0 5 = iz 0) (hW : cWt M S W) (hj : j < (S 0).toNat) (h : ∀ M', Off oMa M M' → Q (some (zi (iz (mvO S W j)))) M') : zEv Γ 45 [zo 3 0 0, zo 7 ts 0, zi (iz (j : Int))] M Q := by
  have h6 := hS.1
  refine en_45 (bk_45_0 (c_listBoards (x := (j : Int)) hS hC (by omega) (fun M1 o1 l1 k1 => ⟨rfl, ?_⟩)))
  have C1 := hC.off o1 (by unfold oLs; intro f i; omega)
  have T1 : cMt M1 S false (exN (j : Int) (S 0).toNat) (exR (j : Int)) W := ⟨l1, (o1.1 _ _ _ _ (by unfold oLs; omega)).trans hB, by unfold exN; split <;> omega, fun k hk => ⟨k1 k hk, exR_lt hk⟩, fun i j hi hj => ⟨(o1.1 _ _ _ _ (by unfold oLs; omega)).trans (hW i j hi hj).1, (hW i j hi hj).2⟩⟩
  refine c_solve (k := 7) hS C1 T1 (Or.inl rfl) (fun M2 o2 c2 => ⟨_, rfl, ?_⟩)
  exact h M2 ((o1.wk (by unfold oLs oMa; intro c t f i; omega)).tr (o2.wk (by unfold oSv oMa; intro c t f i; omega)))
theorem mstP_b (hS : SOK S) {i : Nat} (hi : i < 7) : ∀ n : Nat, n ≤ 6 → 0 ≤ mstP S i n ∧ mstP S i n ≤ 10800 := fun n hn => mxI_b (by omega) (by omega) n (fun j hj => by
  have := worS_b hS hi (show j < 6 by omega)
  have := hS.2.2.2.2.2.2.2.2.2.2.2.2.2.2.1 j (by omega)
  omega)
theorem c_mostAt {i : Nat} (hS : SOK S) (hC : cS M ts S) (hi : i < 7) (h : Q (some (zi (iz (mstP S i (S 0).toNat)))) M) : zEv Γ 49 [zo 7 ts 0, zi (iz (i : Int))] M Q := by
  have h6 := hS.1
  refine en_49 (bk_49_0 ?_)
  refine nloop (G := fun j => zGo Γ 49 Q 4 [some (zo 7 ts 0), some (zi (iz (i : Int))), some (zi (iz (mstP S i j))), some (zi (iz (j : Int)))] [] M) (n := (S 0).toNat) ?_ (fun j hj ih => ?_) (S 0).toNat 0 (by omega)
  · refine bk_49_4 ⟨fun _ => h, fun q => ?_⟩
    rw [hC.1 0 (by omega), iz_le (by omega) (by omega) (by omega) (by omega)] at q
    omega
  · have hm := mstP_b hS hi j (by omega)
    have h1 := worS_b hS hi (show j < 6 by omega)
    have h2 := hS.2.2.2.2.2.2.2.2.2.2.2.2.2.2.1 j (by omega)
    refine bk_49_4 ⟨fun q => ?_, fun _ => c_worthTo hS hC hi (by omega) ⟨_, rfl, iz_inN (by omega) (by omega), ?_⟩⟩
    · rw [hC.1 0 (by omega), iz_le (by omega) (by omega) (by omega) (by omega)] at q
      omega
    · have e : wor S (S (10 + i)) i j = worS S i j := rfl
      rw [iz_clN (by omega), hC.2.2.1 j (by omega), e, iz_sub, iz_max (by omega) (by omega) (by omega) (by omega), iz_s]
      exact ih
theorem hasA_b (hS : SOK S) {i : Nat} (hi : i < 7) : -9999 ≤ hasA S i ∧ hasA S i ≤ 10800 := by
  have h6 := hS.1
  unfold hasA
  cases h : plA S (worS S) i with
  | none => simp
  | some p =>
    have := plA_lt h
    have := worS_b hS hi (show p < 6 by omega)
    have := hS.2.2.2.2.2.2.2.2.2.2.2.2.2.2.1 p (by omega)
    simp only
    omega
theorem c_judge (hS : SOK S) (hC : cS M ts S) (hr : ∀ j, j < (S 0).toNat → M.1 3 0 4 j = iz (opI (rwA S false (worS S) j))) (h : Q (some (zi (iz (gJudged S)))) M) : zEv Γ 48 [zo 3 0 0, zo 7 ts 0] M Q := by
  have h6 := hS.1
  have h7 := hS.2.1
  unfold gJudged at h
  have second : fnd (jud S) 0 (S 1).toNat = none → zGo Γ 48 Q 61 [some (zo 3 0 0), some (zo 7 ts 0), some (zi 0), none, none] [] M := by
    intro hn
    rw [hn] at h
    refine nloop (G := fun j => fnd (judE S) 0 (S 0).toNat = fnd (judE S) j ((S 0).toNat - j) → zGo Γ 48 Q 61 [some (zo 3 0 0), some (zo 7 ts 0), some (zi (iz (j : Int))), none, none] [] M) (n := (S 0).toNat) (fun e => ?_) (fun j hj ih e => ?_) (S 0).toNat 0 (by omega) rfl
    · rw [Nat.sub_self] at e
      rw [e] at h
      refine bk_48_61 ⟨fun _ => h, fun q => ?_⟩
      rw [hC.1 0 (by omega), iz_le (by omega) (by omega) (by omega) (by omega)] at q
      omega
    · have h2 := hS.2.2.2.2.2.2.2.2.2.2.2.2.2.2.1 j (by omega)
      rw [show (S 0).toNat - j = ((S 0).toNat - (j + 1)) + 1 by omega, fnd_s j] at e
      refine bk_48_61 ⟨fun q => ?_, fun _ => ⟨iz_inN (by omega) (by omega), ?_⟩⟩
      · rw [hC.1 0 (by omega), iz_le (by omega) (by omega) (by omega) (by omega)] at q
        omega
      rw [iz_clN (by omega), hr j hj, iz_m1, row_no hS, hC.2.2.1 j (by omega), iz0, iz_le (by omega) (by omega) (by omega) (by omega), iz_s]
      refine ⟨fun q => ih ?_, fun q => ⟨iz_inN (by omega) (by omega), fun q2 => ih ?_, fun q2 => ?_⟩⟩
      · rw [if_neg (by unfold judE; simp [q])] at e
        exact e
      · rw [if_neg (by unfold judE; simp; omega)] at e
        exact e
      · rw [if_pos (by unfold judE; simp [q]; omega)] at e
        rw [e] at h
        rw [show (100 : Int32) = iz 100 from rfl, iz_add]
        exact h
  refine en_48 (bk_48_0 ?_)
  refine nloop (G := fun i => fnd (jud S) 0 (S 1).toNat = fnd (jud S) i ((S 1).toNat - i) → zGo Γ 48 Q 2 [some (zo 3 0 0), some (zo 7 ts 0), some (zi (iz (i : Int))), none, none] [] M) (n := (S 1).toNat) (fun e => ?_) (fun i hi ih e => ?_) (S 1).toNat 0 (by omega) rfl
  · rw [Nat.sub_self] at e
    refine bk_48_2 ⟨fun _ => second e, fun q => ?_⟩
    rw [hC.1 1 (by omega), iz_le (by omega) (by omega) (by omega) (by omega)] at q
    omega
  · rw [show (S 1).toNat - i = ((S 1).toNat - (i + 1)) + 1 by omega, fnd_s i] at e
    have hm := mstP_b hS (i := i) (by omega) (S 0).toNat (by omega)
    have hh := hasA_b hS (i := i) (by omega)
    have yes : hasA S i < mstP S i (S 0).toNat → Q (some (zi (iz (i : Int)))) M := fun q => by
      rw [if_pos (by unfold jud; simpa using q)] at e
      rw [e] at h
      exact h
    have no : ¬ hasA S i < mstP S i (S 0).toNat → zGo Γ 48 Q 2 [some (zo 3 0 0), some (zo 7 ts 0), some (zi (iz (i : Int) + 1)), none, none] [] M := fun q => by
      rw [if_neg (by unfold jud; simpa using q)] at e
      rw [iz_s]
      exact ih e
    refine bk_48_2 ⟨fun q => ?_, fun _ => c_boardOfB hS hC hr (by omega) ⟨_, rfl, ?_⟩⟩
    · rw [hC.1 1 (by omega), iz_le (by omega) (by omega) (by omega) (by omega)] at q
      omega
    cases hp : plA S (worS S) i with
    | none =>
      have eh : hasA S i = 0 := by unfold hasA; rw [hp]
      refine ⟨fun q => absurd rfl q, fun _ => c_mostAt hS hC (by omega) ⟨_, rfl, ?_⟩⟩
      rw [iz0, iz_le (by omega) (by omega) (by omega) (by omega)]
      exact ⟨fun q => no (by omega), fun q => yes (by omega)⟩
    | some p =>
      have hpl := plA_lt hp
      have eh : hasA S i = worS S i p - S (227 + p) := by unfold hasA; rw [hp]
      refine ⟨fun _ => c_worthTo hS hC (by omega) (show p < 6 by omega) ⟨_, rfl, iz_inN (i := p) (by omega) (by omega), c_mostAt hS hC (by omega) ⟨_, rfl, ?_⟩⟩, fun q => ?_⟩
      · have e1 : wor S (S (10 + i)) i p = worS S i p := rfl
        show (_ ≤ iz (wor S (S (10 + i)) i p) - M.1 7 ts 6 (iz (p : Int)).toNatClampNeg → _) ∧ (¬ _ ≤ iz (wor S (S (10 + i)) i p) - M.1 7 ts 6 (iz (p : Int)).toNatClampNeg → _)
        rw [iz_clN (by omega), hC.2.2.1 p (by omega), e1, iz_sub, ← eh, iz_le (by omega) (by omega) (by omega) (by omega)]
        exact ⟨fun q => no (by omega), fun q => yes (by omega)⟩
      · have q : iz (p : Int) = iz (-1) := q
        rw [iz_eq (by omega) (by omega) (by omega) (by omega)] at q
        omega
theorem c_allWorths {t : Nat} (hS : SOK S) (hC : cS M ts S) (hL : cL M t S (S 3) (fun i => S (17 + i)) (fun i => S (24 + i)) (linS S)) (h : Q (some (zi (iz (sumTo (fun j => worS S ((linS S).getD j 0) j) (stN S))))) M) : zEv Γ 33 [zo 2 t 0, zo 7 ts 0] M Q := by
  have h6 := hS.1
  have h7 := hS.2.1
  have hlen := linS_len hS
  have hN := stN_le hS
  have hNl : stN S ≤ (linS S).length := by unfold stN; omega
  refine en_33 (bk_33_0 (c_count (nb := (S 0).toNat) hS (by omega) hL (by omega) ⟨_, rfl, ?_⟩))
  refine nloop (G := fun j => zGo Γ 33 Q 10 [some (zo 2 t 0), some (zo 7 ts 0), some (zi (iz ((stN S : Nat) : Int))), some (zi (iz (sumTo (fun j => worS S ((linS S).getD j 0) j) j))), some (zi (iz (j : Int)))] [] M) (n := stN S) ?_ (fun j hj ih => ?_) (stN S) 0 (by omega)
  · refine bk_33_10 ⟨fun _ => h, fun q => ?_⟩
    rw [iz_le (by omega) (by omega) (by omega) (by omega)] at q
    omega
  · have hx := linS_lt hS (getD_mem (show j < (linS S).length by omega))
    have ex : M.1 2 t 2 j = iz (((linS S).getD j 0 : Nat) : Int) := (hL.2.2.2.2.2.1 j (by omega)).1
    refine bk_33_10 ⟨fun q => ?_, fun _ => ⟨iz_inN (by omega) (by omega), ?_⟩⟩
    · rw [iz_le (by omega) (by omega) (by omega) (by omega)] at q
      omega
    rw [iz_clN (by omega), ex]
    refine c_hasBidder hS hC (fun q => ?_) (fun i hi hxi => ⟨_, rfl, fun z => absurd z (by decide), fun _ => ⟨iz_inN (by omega) (by omega), ?_⟩⟩)
    · rw [iz_toInt (by omega) (by omega)] at q
      omega
    · rw [ex]
      refine c_worthTo hS hC (by omega) (by omega) ⟨_, rfl, ?_⟩
      rw [iz_add, iz_s]
      rw [sumTo] at ih
      exact ih
end Z60
