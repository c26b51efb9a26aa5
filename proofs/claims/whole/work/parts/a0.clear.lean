/-! the class clears what it makes; bytes and their kinds -/
def gv (f i : Nat) : Int := if f = 0 then (if i = 2 then 1 else 0) else if f = 9 then 1 else if f = 10 then 9999 else 0
def clr (P : Nat → Nat → Prop) (M : zM) : Prop := ∀ f i, P f i → M.1 7 12 f i = iz (gv f i)
def PX (a b c d f i : Nat) : Prop := (f = 0 ∧ i < 4) ∨ ((f = 5 ∨ f = 6) ∧ i < a) ∨ (7 ≤ f ∧ f ≤ 11 ∧ i < b) ∨ (f = 14 ∧ i < c) ∨ ((f = 15 ∨ f = 16) ∧ i < d)
theorem clr_w {P : Nat → Nat → Prop} {M : zM} {f i : Nat} {x : Int32} (h : clr P M) (hx : x = iz (gv f i)) : clr (fun f' i' => P f' i' ∨ (f' = f ∧ i' = i)) (zw M 7 12 f i x) := fun f' i' q => by
  by_cases e : f' = f ∧ i' = i
  · rw [e.1, e.2, hx]
    exact zw_eq
  · rw [zw_ne (fun z => e ⟨z.2.2.1, z.2.2.2⟩)]
    exact h f' i' (q.resolve_right e)
theorem px_B {j f i : Nat} (z : PX 6 (j + 1) 0 0 f i) : ((((PX 6 j 0 0 f i ∨ (f = 7 ∧ i = j)) ∨ (f = 8 ∧ i = j)) ∨ (f = 9 ∧ i = j)) ∨ (f = 10 ∧ i = j)) ∨ (f = 11 ∧ i = j) := by
  by_cases e : i < j ∨ ¬ (7 ≤ f ∧ f ≤ 11)
  · refine Or.inl (Or.inl (Or.inl (Or.inl (Or.inl ?_))))
    unfold PX at z ⊢
    omega
  · have e2 : i = j := by
      unfold PX at z
      omega
    have e3 : f = 7 ∨ f = 8 ∨ f = 9 ∨ f = 10 ∨ f = 11 := by omega
    rcases e3 with e3 | e3 | e3 | e3 | e3
    · exact Or.inl (Or.inl (Or.inl (Or.inl (Or.inr ⟨e3, e2⟩))))
    · exact Or.inl (Or.inl (Or.inl (Or.inr ⟨e3, e2⟩)))
    · exact Or.inl (Or.inl (Or.inr ⟨e3, e2⟩))
    · exact Or.inl (Or.inr ⟨e3, e2⟩)
    · exact Or.inr ⟨e3, e2⟩
theorem clr_m {P P' : Nat → Nat → Prop} {M : zM} (h : clr P M) (hp : ∀ f i, P' f i → P f i) : clr P' M := fun f i q => h f i (hp f i q)
theorem I0_0 {k : Nat} (h : k ≠ 2 ∧ ¬ (24 ≤ k ∧ k < 38)) : I0 k = 0 := by
  unfold I0
  rw [if_neg h.1, if_neg (by omega), if_neg (by omega)]
theorem clr_cS {M : zM} (h : clr (PX 6 7 42 49) M) : cS M 12 I0 := by
  refine ⟨fun k hk => ?_, fun k hk => ?_, fun k hk => ?_, fun k hk => ?_, fun k hk => ?_, fun k hk => ?_, fun k hk => ?_, fun k hk => ?_, fun k hk q => ?_, fun k hk q => ?_, fun k hk => ?_, fun k hk => ?_, fun k hk => ?_⟩
  · rw [h 0 k (by unfold PX; omega)]
    rcases (by omega : k = 0 ∨ k = 1 ∨ k = 2 ∨ k = 3) with rfl | rfl | rfl | rfl <;> rfl
  · rw [h 5 k (by unfold PX; omega), I0_0 (by omega)]
    rfl
  · rw [h 6 k (by unfold PX; omega), I0_0 (by omega)]
    rfl
  · rw [h 7 k (by unfold PX; omega), I0_0 (by omega)]
    rfl
  · rw [h 8 k (by unfold PX; omega), I0_0 (by omega)]
    rfl
  · rw [h 9 k (by unfold PX; omega)]
    unfold I0
    rw [if_neg (by omega), if_pos (by omega)]
    rfl
  · rw [h 10 k (by unfold PX; omega)]
    unfold I0
    rw [if_neg (by omega), if_neg (by omega), if_pos (by omega)]
    rfl
  · rw [h 11 k (by unfold PX; omega), I0_0 (by omega)]
    rfl
  · rw [I0_0 (by omega)] at q
    omega
  · rw [I0_0 (by omega)] at q
    omega
  · rw [h 14 k (by unfold PX; omega), I0_0 (by omega)]
    rfl
  · rw [h 15 k (by unfold PX; omega), I0_0 (by omega)]
    rfl
  · rw [h 16 k (by unfold PX; omega), I0_0 (by omega)]
    rfl
theorem WK_I0 : WK I0 := by
  refine ⟨fun k hk => ?_, fun i k h1 h2 h3 => ?_, fun j hj => ?_⟩
  · have e : I0 k = 0 ∨ (I0 k = 1 ∧ (k = 2 ∨ (24 ≤ k ∧ k < 31))) ∨ (I0 k = 9999 ∧ 31 ≤ k ∧ k < 38) := by
      unfold I0
      split
      · omega
      · split
        · omega
        · split <;> omega
    have e0 : k = 2 ∨ (24 ≤ k ∧ k < 38) ∨ I0 k = 0 := by omega
    rcases e0 with rfl | e0 | e0
    · exact ⟨by decide, by decide⟩
    · by_cases q : k < 31
      · have e1 : I0 k = 1 := by
          unfold I0
          rw [if_neg (by omega), if_pos (by omega)]
        rw [e1, (lh24 (by omega)).1, (lh24 (by omega)).2]
        omega
      · have e1 : I0 k = 9999 := by
          unfold I0
          rw [if_neg (by omega), if_neg (by omega), if_pos (by omega)]
        rw [e1, (lh31 (by omega)).1, (lh31 (by omega)).2]
        omega
    · rw [e0]
      by_cases q : 24 ≤ k ∧ k < 31
      · unfold I0 at e0
        rw [if_neg (by omega), if_pos q] at e0
        omega
      · refine ⟨?_, ?_⟩
        · unfold loS
          (repeat' split) <;> omega
        · unfold hiS
          (repeat' split) <;> omega
  · rw [I0_0 (by omega)] at h3
    omega
  · rw [I0_0 (by omega), I0_0 (by omega)]
    exact Or.inl (Int.le_refl 0)
theorem RB_I0 : RB I0 := by
  refine ⟨by rw [I0_0 (by omega)]; omega, by rw [I0_0 (by omega)]; omega, fun j hj => by rw [I0_0 (by omega)]; omega, fun i hi => by rw [I0_0 (by omega)]; omega⟩
def sb (c : Int) : Int := if c < 128 then c else c - 256
theorem byt_all : ∀ k : Fin 256, (iz (sb (k.val : Int))) &&& 255 = iz (k.val : Int) := by decide +kernel
theorem byt {x : Int32} (h : fits .byte (.int x) = true) : ∃ c : Int, 0 ≤ c ∧ c ≤ 255 ∧ x = iz (sb c) ∧ x &&& 255 = iz c := by
  obtain ⟨a, h1, h2, rfl⟩ := iz_ex x
  have h3 : (-128 : Int32) ≤ iz a ∧ iz a ≤ 127 := by simpa [fits] using h
  rw [show (-128 : Int32) = iz (-128) from rfl, show (127 : Int32) = iz 127 from rfl, iz_le (by omega) (by omega) (by omega) (by omega), iz_le (by omega) (by omega) (by omega) (by omega)] at h3
  have key : ∀ k : Nat, k < 256 → a = sb (k : Int) → ∃ c : Int, 0 ≤ c ∧ c ≤ 255 ∧ iz a = iz (sb c) ∧ iz a &&& 255 = iz c := fun k hk e => ⟨(k : Int), by omega, by omega, by rw [e], by rw [e]; exact byt_all ⟨k, hk⟩⟩
  by_cases q : a < 0
  · exact key (a + 256).toNat (by omega) (by unfold sb; rw [if_neg (by omega)]; omega)
  · exact key a.toNat (by omega) (by unfold sb; rw [if_pos (by omega)]; omega)
section Za0
variable {Γ : zC} {Q : zQ} {M : zM}
theorem c_clearSale (h : ∀ M', Off (oSale 12) M M' → cS M' 12 I0 → Q none M') : zEv Γ 100 [zo 7 12 0] M Q := by
  have og : ∀ f i, oSale 12 7 12 f i := fun _ _ => ⟨rfl, rfl⟩
  have lD : ∀ M1 : zM, Off (oSale 12) M M1 → clr (PX 6 7 42 0) M1 → zGo Γ 100 Q 122 [some (zo 7 12 0), some (zi (iz ((0 : Nat) : Int)))] [] M1 := by
    intro M1 o1 c1
    refine zloop (P := fun j M2 => Off (oSale 12) M M2 ∧ clr (PX 6 7 42 j) M2) (G := fun j M2 => zGo Γ 100 Q 122 [some (zo 7 12 0), some (zi (iz (j : Int)))] [] M2) (n := 49) ?_ ?_ 49 0 M1 (by omega) ⟨o1, c1⟩
    · rintro M2 ⟨o2, c2⟩
      refine bk_100_122 ⟨fun _ => h M2 o2 (clr_cS c2), fun q => ?_⟩
      rw [show (49 : Int32) = iz 49 from rfl, iz_le (by omega) (by omega) (by omega) (by omega)] at q
      omega
    · rintro j M2 hj ⟨o2, c2⟩ ih
      refine bk_100_122 ⟨fun q => ?_, fun _ => ?_⟩
      · rw [show (49 : Int32) = iz 49 from rfl, iz_le (by omega) (by omega) (by omega) (by omega)] at q
        omega
      · rw [iz_clN (by omega), iz_s]
        have ij := iz_inN (i := j) (n := 49) (by omega) (by omega)
        exact ⟨ij, ij, ih _ ⟨(o2.w _ (og _ _)).w _ (og _ _), clr_m (clr_w (clr_w c2 rfl) rfl) (by unfold PX; intro f i; omega)⟩⟩
  have lC : ∀ M1 : zM, Off (oSale 12) M M1 → clr (PX 6 7 0 0) M1 → zGo Γ 100 Q 101 [some (zo 7 12 0), some (zi (iz ((0 : Nat) : Int)))] [] M1 := by
    intro M1 o1 c1
    refine zloop (P := fun j M2 => Off (oSale 12) M M2 ∧ clr (PX 6 7 j 0) M2) (G := fun j M2 => zGo Γ 100 Q 101 [some (zo 7 12 0), some (zi (iz (j : Int)))] [] M2) (n := 42) ?_ ?_ 42 0 M1 (by omega) ⟨o1, c1⟩
    · rintro M2 ⟨o2, c2⟩
      refine bk_100_101 ⟨fun _ => lD M2 o2 c2, fun q => ?_⟩
      rw [show (42 : Int32) = iz 42 from rfl, iz_le (by omega) (by omega) (by omega) (by omega)] at q
      omega
    · rintro j M2 hj ⟨o2, c2⟩ ih
      refine bk_100_101 ⟨fun q => ?_, fun _ => ?_⟩
      · rw [show (42 : Int32) = iz 42 from rfl, iz_le (by omega) (by omega) (by omega) (by omega)] at q
        omega
      · rw [iz_clN (by omega), iz_s]
        have ij := iz_inN (i := j) (n := 42) (by omega) (by omega)
        exact ⟨ij, ih _ ⟨o2.w _ (og _ _), clr_m (clr_w c2 rfl) (by unfold PX; intro f i; omega)⟩⟩
  have lB : ∀ M1 : zM, Off (oSale 12) M M1 → clr (PX 6 0 0 0) M1 → zGo Γ 100 Q 50 [some (zo 7 12 0), some (zi (iz ((0 : Nat) : Int)))] [] M1 := by
    intro M1 o1 c1
    refine zloop (P := fun j M2 => Off (oSale 12) M M2 ∧ clr (PX 6 j 0 0) M2) (G := fun j M2 => zGo Γ 100 Q 50 [some (zo 7 12 0), some (zi (iz (j : Int)))] [] M2) (n := 7) ?_ ?_ 7 0 M1 (by omega) ⟨o1, c1⟩
    · rintro M2 ⟨o2, c2⟩
      refine bk_100_50 ⟨fun _ => lC M2 o2 c2, fun q => ?_⟩
      rw [show (7 : Int32) = iz 7 from rfl, iz_le (by omega) (by omega) (by omega) (by omega)] at q
      omega
    · rintro j M2 hj ⟨o2, c2⟩ ih
      refine bk_100_50 ⟨fun q => ?_, fun _ => ?_⟩
      · rw [show (7 : Int32) = iz 7 from rfl, iz_le (by omega) (by omega) (by omega) (by omega)] at q
        omega
      · rw [iz_clN (by omega), iz_s]
        have ij := iz_inN (i := j) (n := 7) (by omega) (by omega)
        exact ⟨ij, ij, ij, ij, ij, ih _ ⟨((((o2.w _ (og _ _)).w _ (og _ _)).w _ (og _ _)).w _ (og _ _)).w _ (og _ _), clr_m (clr_w (clr_w (clr_w (clr_w (clr_w c2 rfl) rfl) rfl) rfl) rfl) (fun f i z => px_B z)⟩⟩
  have lA : ∀ M1 : zM, Off (oSale 12) M M1 → clr (PX 0 0 0 0) M1 → zGo Γ 100 Q 22 [some (zo 7 12 0), some (zi (iz ((0 : Nat) : Int)))] [] M1 := by
    intro M1 o1 c1
    refine zloop (P := fun j M2 => Off (oSale 12) M M2 ∧ clr (PX j 0 0 0) M2) (G := fun j M2 => zGo Γ 100 Q 22 [some (zo 7 12 0), some (zi (iz (j : Int)))] [] M2) (n := 6) ?_ ?_ 6 0 M1 (by omega) ⟨o1, c1⟩
    · rintro M2 ⟨o2, c2⟩
      refine bk_100_22 ⟨fun _ => lB M2 o2 c2, fun q => ?_⟩
      rw [show (6 : Int32) = iz 6 from rfl, iz_le (by omega) (by omega) (by omega) (by omega)] at q
      omega
    · rintro j M2 hj ⟨o2, c2⟩ ih
      refine bk_100_22 ⟨fun q => ?_, fun _ => ?_⟩
      · rw [show (6 : Int32) = iz 6 from rfl, iz_le (by omega) (by omega) (by omega) (by omega)] at q
        omega
      · rw [iz_clN (by omega), iz_s]
        have ij := iz_inN (i := j) (n := 6) (by omega) (by omega)
        exact ⟨ij, ij, ih _ ⟨(o2.w _ (og _ _)).w _ (og _ _), clr_m (clr_w (clr_w c2 rfl) rfl) (by unfold PX; intro f i; omega)⟩⟩
  refine en_100 (bk_100_0 (lA _ (((((Off.rf M).w _ (og _ _)).w _ (og _ _)).w _ (og _ _)).w _ (og _ _)) ?_))
  refine clr_m (clr_w (clr_w (clr_w (clr_w (P := fun _ _ => False) (fun f i z => z.elim) rfl) rfl) rfl) rfl) ?_
  unfold PX
  intro f i
  omega
theorem c_kindOf {c : Int} (hc : 0 ≤ c ∧ c ≤ 255) (h : Q (some (zi (iz ((ck c : Nat) : Int)))) M) : zEv Γ 67 [zi (iz (sb c))] M Q := by
  have hs : (c < 128 ∧ sb c = c) ∨ (128 ≤ c ∧ sb c = c - 256) := by
    unfold sb
    split <;> omega
  have key : ∀ k : Nat, ck c = k → Q (some (zi (iz (k : Int)))) M := fun k hk => by
    rw [← hk]
    exact h
  refine en_67 (bk_67_0 ?_)
  generalize sb c = s at *
  rw [show (97 : Int32) = iz 97 from rfl, show (48 : Int32) = iz 48 from rfl, show (10 : Int32) = iz 10 from rfl, show (32 : Int32) = iz 32 from rfl, show (59 : Int32) = iz 59 from rfl, show (57 : Int32) = iz 57 from rfl, show (122 : Int32) = iz 122 from rfl]
  rw [iz_lt (a := s) (b := 97) (by omega) (by omega) (by omega) (by omega), iz_lt (a := s) (b := 48) (by omega) (by omega) (by omega) (by omega), iz_eq (a := s) (b := 10) (by omega) (by omega) (by omega) (by omega), iz_eq (a := s) (b := 32) (by omega) (by omega) (by omega) (by omega), iz_eq (a := s) (b := 59) (by omega) (by omega) (by omega) (by omega), iz_lt (a := 57) (b := s) (by omega) (by omega) (by omega) (by omega), iz_lt (a := 122) (b := s) (by omega) (by omega) (by omega) (by omega)]
  have bB : ¬ (97 ≤ s ∧ s ≤ 122) → ¬ (48 ≤ s ∧ s ≤ 57) → ((s = 10 → Q (some (zi (4 : Int32))) M) ∧ (¬ s = 10 → ((¬ s = 32 → ((¬ s = 59 → Q (some (zi (3 : Int32))) M) ∧ (s = 59 → Q (some (zi (2 : Int32))) M))) ∧ (s = 32 → Q (some (zi (4 : Int32))) M)))) := fun h1 h2 => by
    refine ⟨fun z => key 4 ?_, fun z => ⟨fun z2 => ⟨fun z3 => key 3 ?_, fun z3 => key 2 ?_⟩, fun z2 => key 4 ?_⟩⟩ <;> (unfold ck; (repeat' split) <;> omega)
  have bA : ¬ (97 ≤ s ∧ s ≤ 122) → ((s < 48 → ((s = 10 → Q (some (zi (4 : Int32))) M) ∧ (¬ s = 10 → ((¬ s = 32 → ((¬ s = 59 → Q (some (zi (3 : Int32))) M) ∧ (s = 59 → Q (some (zi (2 : Int32))) M))) ∧ (s = 32 → Q (some (zi (4 : Int32))) M))))) ∧ (¬ s < 48 → ((57 < s → ((s = 10 → Q (some (zi (4 : Int32))) M) ∧ (¬ s = 10 → ((¬ s = 32 → ((¬ s = 59 → Q (some (zi (3 : Int32))) M) ∧ (s = 59 → Q (some (zi (2 : Int32))) M))) ∧ (s = 32 → Q (some (zi (4 : Int32))) M))))) ∧ (¬ 57 < s → Q (some (zi (1 : Int32))) M)))) := fun h1 => ⟨fun z => bB h1 (by omega), fun z => ⟨fun z2 => bB h1 (by omega), fun z2 => key 1 (by unfold ck; (repeat' split) <;> omega)⟩⟩
  exact ⟨fun z => bA (by omega), fun z => ⟨fun z2 => bA (by omega), fun z2 => key 5 (by unfold ck; (repeat' split) <;> omega)⟩⟩
end Za0
