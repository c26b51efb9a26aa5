/-! the class's high: what is taken, by all bars at once -/
def addF (f : Nat → Int) (i : Nat) (v : Int) : Nat → Int := fun k => if k = i then f k + v else f k
def vF2 (fl st : Nat → Int) (b : Nat) : Int := sumTo fl (b + 1) + sumTo st (b + 1) * (b : Int)
def fG (M : zM) (fl st : Nat → Int) : Prop := ∀ k, k < 101 → M.2 0 0 5 k = lz (fl k) ∧ M.2 0 0 6 k = lz (st k)
def oFs (c t f _i : Nat) : Prop := c = 0 ∧ t = 0 ∧ (f = 5 ∨ f = 6)
def oFl (c t f _i : Nat) : Prop := (c = 0 ∧ t = 0 ∧ (f = 5 ∨ f = 6)) ∨ (c = 2 ∧ t = 2)
def mxP (S : SB) (bd mk : Nat → Int) (l : List Nat) (b p : Nat) : Int := max ((b : Int) * pas S p) (askV S (sco bd mk l) (bd (l.getD p 0)) (mk (l.getD p 0)) p (p + 1))
theorem sumTo_addF {f : Nat → Int} {i : Nat} {v : Int} : ∀ m, sumTo (addF f i v) m = sumTo f m + (if i < m then v else 0)
  | 0 => by simp [sumTo]
  | m + 1 => by
    rw [sumTo, sumTo, sumTo_addF m]
    unfold addF
    by_cases e : m = i
    · rw [if_pos e, if_neg (by omega), if_pos (by omega)]
      omega
    · rw [if_neg e]
      by_cases z : i < m
      · rw [if_pos z, if_pos (by omega)]
        omega
      · rw [if_neg z, if_neg (by omega)]
        omega
theorem v_step {fl st : Nat → Int} {fr tn to b : Nat} {w ask ps : Int} (h1 : fr ≤ tn) (h2 : tn ≤ to) (k1 : fr ≤ b → b < tn → max ((b : Int) * ps) ask = ask) (k2 : tn ≤ b → b < to → max ((b : Int) * ps) ask = (b : Int) * ps) : vF2 (addF (addF fl fr (w * ask)) tn (-(w * ask))) (addF (addF st tn (w * ps)) to (-(w * ps))) b = vF2 fl st b + (if fr ≤ b ∧ b < to then w * max ((b : Int) * ps) ask else 0) := by
  unfold vF2
  rw [sumTo_addF, sumTo_addF, sumTo_addF, sumTo_addF]
  generalize sumTo fl (b + 1) = A
  generalize sumTo st (b + 1) = C
  by_cases q1 : fr ≤ b
  · rw [if_pos (show fr < b + 1 by omega)]
    by_cases q2 : tn ≤ b
    · rw [if_pos (show tn < b + 1 by omega), if_pos (show tn < b + 1 by omega)]
      by_cases q3 : to ≤ b
      · rw [if_pos (show to < b + 1 by omega), if_neg (by omega), Int.add_neg_cancel_right, Int.add_neg_cancel_right]
        omega
      · rw [if_neg (show ¬ to < b + 1 by omega), if_pos (by omega), k2 q2 (by omega), Int.add_neg_cancel_right, Int.add_zero, Int.add_mul, Int.mul_assoc, Int.mul_comm ps, Int.add_assoc]
    · rw [if_neg (show ¬ tn < b + 1 by omega), if_neg (show ¬ tn < b + 1 by omega), if_neg (show ¬ to < b + 1 by omega), if_pos (by omega), k1 q1 (by omega)]
      simp only [Int.add_zero]
      omega
  · rw [if_neg (show ¬ fr < b + 1 by omega), if_neg (show ¬ tn < b + 1 by omega), if_neg (show ¬ tn < b + 1 by omega), if_neg (show ¬ to < b + 1 by omega), if_neg (by omega)]
    simp only [Int.add_zero]
theorem fG_a5 {M : zM} {fl st : Nat → Int} {k : Nat} {v : Int} (h : fG M fl st) (hk : k < 101) : fG (zwl M 0 0 5 k (M.2 0 0 5 k + lz v)) (addF fl k v) st := fun i hi => by
  unfold addF
  rw [zwl_get, zwl_get, if_neg (show ¬ (0 = 0 ∧ 0 = 0 ∧ 6 = 5 ∧ i = k) by omega)]
  by_cases e : i = k
  · subst e
    rw [if_pos ⟨rfl, rfl, rfl, rfl⟩, if_pos rfl, (h i hi).1, lz_add]
    exact ⟨rfl, (h i hi).2⟩
  · rw [if_neg (by omega), if_neg e]
    exact h i hi
theorem fG_s5 {M : zM} {fl st : Nat → Int} {k : Nat} {v : Int} (h : fG M fl st) (hk : k < 101) : fG (zwl M 0 0 5 k (M.2 0 0 5 k - lz v)) (addF fl k (-v)) st := fun i hi => by
  unfold addF
  rw [zwl_get, zwl_get, if_neg (show ¬ (0 = 0 ∧ 0 = 0 ∧ 6 = 5 ∧ i = k) by omega)]
  by_cases e : i = k
  · subst e
    rw [if_pos ⟨rfl, rfl, rfl, rfl⟩, if_pos rfl, (h i hi).1, lz_sub]
    exact ⟨congrArg lz (by omega), (h i hi).2⟩
  · rw [if_neg (by omega), if_neg e]
    exact h i hi
theorem fG_a6 {M : zM} {fl st : Nat → Int} {k : Nat} {v : Int} (h : fG M fl st) (hk : k < 101) : fG (zwl M 0 0 6 k (M.2 0 0 6 k + lz v)) fl (addF st k v) := fun i hi => by
  unfold addF
  rw [zwl_get, zwl_get, if_neg (show ¬ (0 = 0 ∧ 0 = 0 ∧ 5 = 6 ∧ i = k) by omega)]
  by_cases e : i = k
  · subst e
    rw [if_pos ⟨rfl, rfl, rfl, rfl⟩, if_pos rfl, (h i hi).2, lz_add]
    exact ⟨(h i hi).1, rfl⟩
  · rw [if_neg (by omega), if_neg e]
    exact h i hi
theorem fG_s6 {M : zM} {fl st : Nat → Int} {k : Nat} {v : Int} (h : fG M fl st) (hk : k < 101) : fG (zwl M 0 0 6 k (M.2 0 0 6 k - lz v)) fl (addF st k (-v)) := fun i hi => by
  unfold addF
  rw [zwl_get, zwl_get, if_neg (show ¬ (0 = 0 ∧ 0 = 0 ∧ 5 = 6 ∧ i = k) by omega)]
  by_cases e : i = k
  · subst e
    rw [if_pos ⟨rfl, rfl, rfl, rfl⟩, if_pos rfl, (h i hi).2, lz_sub]
    exact ⟨(h i hi).1, congrArg lz (by omega)⟩
  · rw [if_neg (by omega), if_neg e]
    exact h i hi
theorem fG.off {P : Nat → Nat → Nat → Nat → Prop} {M M' : zM} {fl st : Nat → Int} (h : fG M fl st) (ho : Off P M M') (h5 : ∀ i, ¬ P 0 0 5 i) (h6 : ∀ i, ¬ P 0 0 6 i) : fG M' fl st := fun k hk => ⟨(ho.2 _ _ _ _ (h5 k)).trans (h k hk).1, (ho.2 _ _ _ _ (h6 k)).trans (h k hk).2⟩
section Z69
variable {Γ : zC} {Q : zQ} {M : zM} {b ts n nb : Nat} {S : SB} {bar : Int} {bd mk : Nat → Int} {l : List Nat} {fl st : Nat → Int}
theorem c_addPays {fr to : Nat} {w : Int} (hS : SOK S) (hnb : S 0 = (nb : Int)) (hL : cL M 2 S bar bd mk l) (hlen : l.length ≤ 8) (hr : rng n bd mk) (hl : ∀ x ∈ l, x < n) (hft : fr ≤ to ∧ to ≤ 100) (hg : fG M fl st)
    (h : ∀ (M' : zM) (fl' st' : Nat → Int), Off oFs M M' → fG M' fl' st' → (∀ b, b < 100 → vF2 fl' st' b = vF2 fl st b + (if fr ≤ b ∧ b < to then w * sumTo (mxP S bd mk l b) (min l.length nb) else 0)) → Q none M') : zEv Γ 4 [zo 0 0 0, zi (iz (fr : Int)), zi (iz (to : Int)), zl (lz w)] M Q := by
  have h6 := hS.1
  refine en_4 (bk_4_0 (c_count hS hnb hL hlen ⟨_, rfl, ?_⟩))
  refine zloop (P := fun p M2 => ∃ fl' st' : Nat → Int, Off oFs M M2 ∧ fG M2 fl' st' ∧ ∀ b, b < 100 → vF2 fl' st' b = vF2 fl st b + (if fr ≤ b ∧ b < to then w * sumTo (mxP S bd mk l b) p else 0)) (G := fun p M2 => zGo Γ 4 Q 12 [some (zo 0 0 0), some (zi (iz (fr : Int))), some (zi (iz (to : Int))), some (zl (lz w)), none, some (zi (iz ((min l.length nb : Nat) : Int))), some (zi (iz (p : Int))), none, none, none] [] M2) (n := min l.length nb) ?_ ?_ (min l.length nb) 0 M (by omega) ⟨fl, st, Off.rf M, hg, fun b hb => by simp [sumTo]⟩
  · rintro M2 ⟨fl', st', o2, g2, v2⟩
    refine bk_4_12 ⟨fun _ => h M2 fl' st' o2 g2 v2, fun q => ?_⟩
    rw [iz_le (by omega) (by omega) (by omega) (by omega)] at q
    omega
  · rintro p M2 hp ⟨fl', st', o2, g2, v2⟩ ih
    have L2 : cL M2 2 S bar bd mk l := by
      have oo : ∀ f i, M2.1 2 2 f i = M.1 2 2 f i := fun f i => o2.1 _ _ _ _ (by unfold oFs; omega)
      obtain ⟨l1, l2, l3, l4, l5, l6, l7⟩ := hL
      exact ⟨(oo _ _).trans l1, (oo _ _).trans l2, (oo _ _).trans l3, (oo _ _).trans l4, fun j hj => (oo _ _).trans (l5 j hj), fun k hk => ⟨(oo _ _).trans (l6 k hk).1, (oo _ _).trans (l6 k hk).2.1, (oo _ _).trans (l6 k hk).2.2⟩, fun k hk => (oo _ _).trans (l7 k hk)⟩
    have hx := hr _ (hl _ (getD_mem (show p < l.length by omega)))
    have hab := askV_b hS (sco_b hr hl) hx.1 hx.2.1 p (p + 1)
    have hps := pas_b hS p
    refine bk_4_12 ⟨fun q => ?_, fun _ => c_askAt hS hnb L2 hlen hr hl hp ⟨_, rfl, ?_⟩⟩
    · rw [iz_le (by omega) (by omega) (by omega) (by omega)] at q
      omega
    refine ⟨iz_inN (by omega) (by omega), ?_⟩
    rw [iz_clN (show p < 2147483648 by omega), L2.2.2.2.2.1 p (by omega), iz_lz (by omega) (by omega), iz_lz (by omega) (by omega), lz_mul, lz_mul]
    have emx : ∀ b, mxP S bd mk l b p = max ((b : Int) * pas S p) (askV S (sco bd mk l) (bd (l.getD p 0)) (mk (l.getD p 0)) p (p + 1)) := fun b => rfl
    generalize askV S (sco bd mk l) (bd (l.getD p 0)) (mk (l.getD p 0)) p (p + 1) = ask at *
    generalize pas S p = ps at *
    have v1 := iz_inN (i := fr) (n := 101) (by omega) (by omega)
    have v3 := iz_inN (i := to) (n := 101) (by omega) (by omega)
    -- whichever the turn is
    have step : ∀ tn : Nat, fr ≤ tn → tn ≤ to → (∀ b : Nat, fr ≤ b → b < tn → max ((b : Int) * ps) ask = ask) → (∀ b : Nat, tn ≤ b → b < to → max ((b : Int) * ps) ask = (b : Int) * ps) → ∀ M3 : zM, Off oFs M M3 → fG M3 (addF (addF fl' fr (w * ask)) tn (-(w * ask))) (addF (addF st' tn (w * ps)) to (-(w * ps))) → zGo Γ 4 Q 12 [some (zo 0 0 0), some (zi (iz (fr : Int))), some (zi (iz (to : Int))), some (zl (lz w)), none, some (zi (iz ((min l.length nb : Nat) : Int))), some (zi (iz (p : Int) + 1)), none, none, none] [] M3 := by
      intro tn t1 t2 k1 k2 M3 o3 g3
      rw [iz_s]
      refine ih M3 ⟨_, _, o3, g3, fun b hb => ?_⟩
      rw [v_step t1 t2 (k1 b) (k2 b), v2 b hb, sumTo, emx]
      by_cases z : fr ≤ b ∧ b < to
      · rw [if_pos z, if_pos z, if_pos z, Int.mul_add]
        omega
      · rw [if_neg z, if_neg z, if_neg z]
        omega
    have mem : ∀ tn : Nat, tn ≤ 100 → Off oFs M (zwl (zwl (zwl (zwl M2 0 0 5 fr (M2.2 0 0 5 fr + lz (w * ask))) 0 0 5 tn ((zwl M2 0 0 5 fr (M2.2 0 0 5 fr + lz (w * ask))).2 0 0 5 tn - lz (w * ask))) 0 0 6 tn ((zwl (zwl M2 0 0 5 fr (M2.2 0 0 5 fr + lz (w * ask))) 0 0 5 tn ((zwl M2 0 0 5 fr (M2.2 0 0 5 fr + lz (w * ask))).2 0 0 5 tn - lz (w * ask))).2 0 0 6 tn + lz (w * ps))) 0 0 6 to ((zwl (zwl (zwl M2 0 0 5 fr (M2.2 0 0 5 fr + lz (w * ask))) 0 0 5 tn ((zwl M2 0 0 5 fr (M2.2 0 0 5 fr + lz (w * ask))).2 0 0 5 tn - lz (w * ask))) 0 0 6 tn ((zwl (zwl M2 0 0 5 fr (M2.2 0 0 5 fr + lz (w * ask))) 0 0 5 tn ((zwl M2 0 0 5 fr (M2.2 0 0 5 fr + lz (w * ask))).2 0 0 5 tn - lz (w * ask))).2 0 0 6 tn + lz (w * ps))).2 0 0 6 to - lz (w * ps))) ∧ fG (zwl (zwl (zwl (zwl M2 0 0 5 fr (M2.2 0 0 5 fr + lz (w * ask))) 0 0 5 tn ((zwl M2 0 0 5 fr (M2.2 0 0 5 fr + lz (w * ask))).2 0 0 5 tn - lz (w * ask))) 0 0 6 tn ((zwl (zwl M2 0 0 5 fr (M2.2 0 0 5 fr + lz (w * ask))) 0 0 5 tn ((zwl M2 0 0 5 fr (M2.2 0 0 5 fr + lz (w * ask))).2 0 0 5 tn - lz (w * ask))).2 0 0 6 tn + lz (w * ps))) 0 0 6 to ((zwl (zwl (zwl M2 0 0 5 fr (M2.2 0 0 5 fr + lz (w * ask))) 0 0 5 tn ((zwl M2 0 0 5 fr (M2.2 0 0 5 fr + lz (w * ask))).2 0 0 5 tn - lz (w * ask))) 0 0 6 tn ((zwl (zwl M2 0 0 5 fr (M2.2 0 0 5 fr + lz (w * ask))) 0 0 5 tn ((zwl M2 0 0 5 fr (M2.2 0 0 5 fr + lz (w * ask))).2 0 0 5 tn - lz (w * ask))).2 0 0 6 tn + lz (w * ps))).2 0 0 6 to - lz (w * ps))) (addF (addF fl' fr (w * ask)) tn (-(w * ask))) (addF (addF st' tn (w * ps)) to (-(w * ps))) := fun tn ht => ⟨(((o2.wl _ ⟨rfl, rfl, Or.inl rfl⟩).wl _ ⟨rfl, rfl, Or.inl rfl⟩).wl _ ⟨rfl, rfl, Or.inr rfl⟩).wl _ ⟨rfl, rfl, Or.inr rfl⟩, fG_s6 (fG_a6 (fG_s5 (fG_a5 g2 (by omega)) (by omega)) (by omega)) (by omega)⟩
    refine ⟨fun q => ⟨?_, ?_⟩, fun q => ?_⟩
    · rw [iz1, iz_le (by omega) (by omega) (by omega) (by omega)] at q
      rw [iz0, iz_eq (by omega) (by omega) (by omega) (by omega)]
      omega
    · rw [iz1, iz_le (by omega) (by omega) (by omega) (by omega)] at q
      have hd : 0 ≤ ask / ps ∧ ask / ps ≤ ask := ⟨Int.ediv_nonneg hab.1 (by omega), Int.ediv_le_self _ hab.1⟩
      have hde := Int.mul_ediv_add_emod ask ps
      have hmd := Int.emod_lt_of_pos ask (show 0 < ps by omega)
      have hm0 := Int.emod_nonneg ask (show ps ≠ 0 by omega)
      rw [iz_div (by omega) (by omega) (by omega) (by omega), iz1, iz_add]
      have eT : (if iz (to : Int) < (if iz (fr : Int) < iz (ask / ps + 1) then iz (ask / ps + 1) else iz (fr : Int)) then iz (to : Int) else (if iz (fr : Int) < iz (ask / ps + 1) then iz (ask / ps + 1) else iz (fr : Int))) = iz ((min to (max fr (ask / ps + 1).toNat) : Nat) : Int) := by
        rw [iz_max (by omega) (by omega) (by omega) (by omega), iz_min (by omega) (by omega) (by omega) (by omega)]
        exact congrArg iz (by omega)
      rw [eT, iz_clN (by omega), iz_clN (show to < 2147483648 by omega), iz_clN (by omega)]
      have hv := iz_inN (i := min to (max fr (ask / ps + 1).toNat)) (n := 101) (by omega) (by omega)
      obtain ⟨mo, mg⟩ := mem (min to (max fr (ask / ps + 1).toNat)) (by omega)
      refine ⟨v1, v1, hv, hv, hv, hv, v3, v3, step (min to (max fr (ask / ps + 1).toNat)) (by omega) (by omega) (fun b b1 b2 => ?_) (fun b b1 b2 => ?_) _ mo mg⟩
      · have hb : (b : Int) ≤ ask / ps := by omega
        have : (b : Int) * ps ≤ ask / ps * ps := Int.mul_le_mul_of_nonneg_right hb (by omega)
        rw [Int.mul_comm (ask / ps)] at this
        omega
      · have hb : ask / ps + 1 ≤ (b : Int) := by omega
        have : (ask / ps + 1) * ps ≤ (b : Int) * ps := Int.mul_le_mul_of_nonneg_right hb (by omega)
        rw [Int.add_mul, Int.mul_comm (ask / ps)] at this
        omega
    · rw [iz1, iz_le (by omega) (by omega) (by omega) (by omega)] at q
      have eT : (if iz (to : Int) < (if iz (fr : Int) < iz (to : Int) then iz (to : Int) else iz (fr : Int)) then iz (to : Int) else (if iz (fr : Int) < iz (to : Int) then iz (to : Int) else iz (fr : Int))) = iz (to : Int) := by
        rw [iz_max (by omega) (by omega) (by omega) (by omega), iz_min (by omega) (by omega) (by omega) (by omega)]
        exact congrArg iz (by omega)
      rw [eT, iz_clN (show to < 2147483648 by omega), iz_clN (by omega)]
      obtain ⟨mo, mg⟩ := mem to (by omega)
      refine ⟨v1, v1, v3, v3, v3, v3, v3, v3, step to (by omega) (by omega) (fun b b1 b2 => ?_) (fun b b1 b2 => by omega) _ mo mg⟩
      have : ps = 0 := by omega
      rw [this, Int.mul_zero]
      omega
end Z69
