/-! the first memory (first.py) -/
def zM0 : zM := (fun c _ f i => bif Nat.beq c 8 && (Nat.beq f 0 && Nat.beq i 3) then -1 else bif Nat.beq c 10 && ((Nat.beq f 0 && Nat.beq i 21) || (Nat.beq f 1 && Nat.beq i 3)) then -1 else 0, fun _ _ _ _ => 0)
/-- where a part lies, by steps -/
def kpB (c t : Nat) : List Nat := match c with
  | 0 => [0, 208]
  | 1 => [0, 229]
  | 2 => [[0, 188], [0, 194, 1], [0, 208, 1], [0, 220, 1]].getD t []
  | 3 => [0, 203]
  | 4 => [0, 220]
  | 5 => [0, 171]
  | 6 => [0, 194]
  | 7 => [[0, 1, 3], [0, 1, 16], [0, 1, 29], [0, 44, 3], [0, 44, 16], [0, 44, 29], [0, 86, 3], [0, 86, 16], [0, 86, 29], [0, 128, 3], [0, 128, 16], [0, 128, 29], [0, 171, 1]].getD t []
  | 8 => [[0, 1], [0, 44], [0, 86], [0, 128]].getD t []
  | 9 => [0]
  | _ => [232]
def kpA (c f : Nat) : Nat := ([[0, 0, 7, 8, 9, 10, 11], [0, 1, 2], [0, 1, 2, 3, 4, 5, 0, 0, 0, 0], [0, 1, 2, 0, 3, 4, 0], [0, 0, 7, 8], [0, 0, 0, 0, 0, 14, 15, 16, 0, 0], [0, 0, 7, 8, 0, 0, 0, 0, 0, 0], [0, 0, 0, 0, 0, 1, 2, 3, 4, 5, 6, 7, 8, 9, 10, 11, 12], [0, 1, 0, 0, 0, 0, 2], [0, 0, 43, 170, 0, 0, 0, 0, 0, 0, 0], [0, 1, 2, 0, 0, 0, 0, 0, 0, 0, 0, 3, 0, 0, 0, 0, 4, 5, 6, 0, 7, 8, 0, 0, 0, 9, 0, 0, 10, 0, 11, 12, 13, 0, 14, 15, 16, 17, 0, 18, 19]].getD c []).getD f 0
def kpath (p : Nat × Nat × Nat) : List Nat := match p.2.2 with
  | 0 => kpB p.1 p.2.1
  | f + 1 => kpB p.1 p.2.1 ++ [kpA p.1 (f + 1)]
def kad (h : Nat) (p : Nat × Nat × Nat) : Nat := (kpath p).foldl (· + ·) h
def kidx (p : Nat × Nat × Nat) : Nat := (kpath p).foldl (· + ·) 0
theorem kfold (l : List Nat) (h a : Nat) : l.foldl (· + ·) (h + a) = h + l.foldl (· + ·) a := by
  induction l generalizing a with
  | nil => rfl
  | cons x l ih => simp only [List.foldl_cons, Nat.add_assoc]; exact ih (a + x)
theorem kad_idx (h : Nat) (p : Nat × Nat × Nat) : kad h p = h + kidx p := kfold (kpath p) h 0
def kinv : List (Nat × Nat × Nat) := [(9, 0, 0), (8, 0, 0), (8, 0, 1), (8, 0, 6), (7, 0, 0), (7, 0, 5), (7, 0, 6), (7, 0, 7), (7, 0, 8), (7, 0, 9), (7, 0, 10), (7, 0, 11), (7, 0, 12), (7, 0, 13), (7, 0, 14), (7, 0, 15), (7, 0, 16), (7, 1, 0), (7, 1, 5), (7, 1, 6), (7, 1, 7), (7, 1, 8), (7, 1, 9), (7, 1, 10), (7, 1, 11), (7, 1, 12), (7, 1, 13), (7, 1, 14), (7, 1, 15), (7, 1, 16), (7, 2, 0), (7, 2, 5), (7, 2, 6), (7, 2, 7), (7, 2, 8), (7, 2, 9), (7, 2, 10), (7, 2, 11), (7, 2, 12), (7, 2, 13), (7, 2, 14), (7, 2, 15), (7, 2, 16), (9, 0, 2), (8, 1, 0), (8, 1, 1), (8, 1, 6), (7, 3, 0), (7, 3, 5), (7, 3, 6), (7, 3, 7), (7, 3, 8), (7, 3, 9), (7, 3, 10), (7, 3, 11), (7, 3, 12), (7, 3, 13), (7, 3, 14), (7, 3, 15), (7, 3, 16), (7, 4, 0), (7, 4, 5), (7, 4, 6), (7, 4, 7), (7, 4, 8), (7, 4, 9), (7, 4, 10), (7, 4, 11), (7, 4, 12), (7, 4, 13), (7, 4, 14), (7, 4, 15), (7, 4, 16), (7, 5, 0), (7, 5, 5), (7, 5, 6), (7, 5, 7), (7, 5, 8), (7, 5, 9), (7, 5, 10), (7, 5, 11), (7, 5, 12), (7, 5, 13), (7, 5, 14), (7, 5, 15), (7, 5, 16), (8, 2, 0), (8, 2, 1), (8, 2, 6), (7, 6, 0), (7, 6, 5), (7, 6, 6), (7, 6, 7), (7, 6, 8), (7, 6, 9), (7, 6, 10), (7, 6, 11), (7, 6, 12), (7, 6, 13), (7, 6, 14), (7, 6, 15), (7, 6, 16), (7, 7, 0), (7, 7, 5), (7, 7, 6), (7, 7, 7), (7, 7, 8), (7, 7, 9), (7, 7, 10), (7, 7, 11), (7, 7, 12), (7, 7, 13), (7, 7, 14), (7, 7, 15), (7, 7, 16), (7, 8, 0), (7, 8, 5), (7, 8, 6), (7, 8, 7), (7, 8, 8), (7, 8, 9), (7, 8, 10), (7, 8, 11), (7, 8, 12), (7, 8, 13), (7, 8, 14), (7, 8, 15), (7, 8, 16), (8, 3, 0), (8, 3, 1), (8, 3, 6), (7, 9, 0), (7, 9, 5), (7, 9, 6), (7, 9, 7), (7, 9, 8), (7, 9, 9), (7, 9, 10), (7, 9, 11), (7, 9, 12), (7, 9, 13), (7, 9, 14), (7, 9, 15), (7, 9, 16), (7, 10, 0), (7, 10, 5), (7, 10, 6), (7, 10, 7), (7, 10, 8), (7, 10, 9), (7, 10, 10), (7, 10, 11), (7, 10, 12), (7, 10, 13), (7, 10, 14), (7, 10, 15), (7, 10, 16), (7, 11, 0), (7, 11, 5), (7, 11, 6), (7, 11, 7), (7, 11, 8), (7, 11, 9), (7, 11, 10), (7, 11, 11), (7, 11, 12), (7, 11, 13), (7, 11, 14), (7, 11, 15), (7, 11, 16), (9, 0, 3), (5, 0, 0), (7, 12, 0), (7, 12, 5), (7, 12, 6), (7, 12, 7), (7, 12, 8), (7, 12, 9), (7, 12, 10), (7, 12, 11), (7, 12, 12), (7, 12, 13), (7, 12, 14), (7, 12, 15), (7, 12, 16), (5, 0, 5), (5, 0, 6), (5, 0, 7), (2, 0, 0), (2, 0, 1), (2, 0, 2), (2, 0, 3), (2, 0, 4), (2, 0, 5), (6, 0, 0), (2, 1, 0), (2, 1, 1), (2, 1, 2), (2, 1, 3), (2, 1, 4), (2, 1, 5), (6, 0, 2), (6, 0, 3), (3, 0, 0), (3, 0, 1), (3, 0, 2), (3, 0, 4), (3, 0, 5), (0, 0, 0), (2, 2, 0), (2, 2, 1), (2, 2, 2), (2, 2, 3), (2, 2, 4), (2, 2, 5), (0, 0, 2), (0, 0, 3), (0, 0, 4), (0, 0, 5), (0, 0, 6), (4, 0, 0), (2, 3, 0), (2, 3, 1), (2, 3, 2), (2, 3, 3), (2, 3, 4), (2, 3, 5), (4, 0, 2), (4, 0, 3), (1, 0, 0), (1, 0, 1), (1, 0, 2), (10, 0, 0), (10, 0, 1), (10, 0, 2), (10, 0, 11), (10, 0, 16), (10, 0, 17), (10, 0, 18), (10, 0, 20), (10, 0, 21), (10, 0, 25), (10, 0, 28), (10, 0, 30), (10, 0, 31), (10, 0, 32), (10, 0, 34), (10, 0, 35), (10, 0, 36), (10, 0, 37), (10, 0, 39), (10, 0, 40)]
theorem kinv_at : ∀ p ∈ zparts, kinv.getD (kidx p) (99, 0, 0) = p ∧ kidx p < 252 := by decide +kernel
theorem kad_inj {h : Nat} {p q : Nat × Nat × Nat} (hp : p ∈ zparts) (hq : q ∈ zparts) (e : kad h p = kad h q) : p = q := by
  rw [kad_idx, kad_idx] at e
  have e2 : kidx p = kidx q := Nat.add_left_cancel e
  rw [← (kinv_at p hp).1, ← (kinv_at q hq).1, e2]
theorem kInv0 : Inv zM0 := by
  refine ⟨⟨0, 0, fun _ _ => 0, ?_⟩, fun k hk => Or.inl ⟨rfl, rfl⟩, fun t ht => ⟨rfl, fun k _ _ => rfl⟩, rfl⟩
  exact ⟨⟨rfl, rfl, Nat.zero_le _⟩, ⟨rfl, rfl, Nat.zero_le _⟩, rfl, rfl, fun i hi => absurd hi (Nat.not_lt_zero _), fun i _ => rfl, fun s hs => absurd hs (Nat.not_lt_zero _)⟩
def kF (Γ : zC) (h : Nat) : Nat → va_E := kcat (kup (kcat (kup (k0 9) 0 (.inr (9, zdf 9))) 0 (kE9 Γ (h + 0))) 232 (.inr (10, zdf 10))) 232 (kE10 Γ (h + 232))
theorem kat {D : va_G} {h n i : Nat} {F : Nat → va_E} {x : va_E} {H : Heap} (hW : kW D h n F H) (hi : i < n) (e : F i = x) : va_at D vwCl (h + i, x) H := e ▸ hW.at hi
theorem kat_i {D : va_G} {h n i N : Nat} {cA : ClassId} {f g : Nat → Int32} {F : Nat → va_E} {H : Heap} (hW : kW D h n F H) (hi : i < n) (e : F i = .inl (cA, N, .inl f)) (hfg : ∀ j, f j = g j) : va_at D vwCl (h + i, .inl (cA, N, .inl g)) H := by
  have h1 : f = g := funext hfg
  subst h1
  exact kat hW hi e
theorem karr {cA : ClassId} {N : Nat} {f g : Nat → Value} (h : ∀ j, j < N → f j = g j) : arrV cA N f = arrV cA N g := by
  have e : (fun j : Fin N => f j.val) = (fun j : Fin N => g j.val) := funext fun j => h j.val j.isLt
  unfold arrV
  rw [e]
theorem kat_q {D : va_G} {h n i : Nat} {cA : ClassId} {f g : Nat → Option Nat} {F : Nat → va_E} {H : Heap} (hW : kW D h n F H) (hi : i < n) (e : F i = .inl (cA, 3, .inr (.inr (.inr (.inr f))))) (h0 : f 0 = g 0) (h1 : f 1 = g 1) (h2 : f 2 = g 2) : va_at D vwCl (h + i, .inl (cA, 3, .inr (.inr (.inr (.inr g))))) H := by
  have h3 : H[h + i]? = some (vp_cell cA (3, .inr (.inr (.inr (.inr f))))) := kat hW hi e
  show H[h + i]? = some (vp_cell cA (3, .inr (.inr (.inr (.inr g)))))
  rw [h3, vp_cell_q, vp_cell_q]
  refine congrArg some (karr (fun j hj => ?_))
  match j, hj with
  | 0, _ => rw [h0]
  | 1, _ => rw [h1]
  | 2, _ => rw [h2]
section Zc9
variable {l : Launch} {D : va_G} {ac : Nat → ClassId} {s : State} {h : Nat} {H : Heap}
theorem kat_A (j : Nat) : upd (fun _ => 0) (3 : Int32).toNatClampNeg (-1) j = zM0.1 10 0 1 j := by
  show (if j = (3 : Int32).toNatClampNeg then (-1 : Int32) else 0) = bif Nat.beq j 3 then -1 else 0
  rw [show (3 : Int32).toNatClampNeg = 3 by decide]
  by_cases e : j = 3
  · subst e
    rfl
  · have e2 : Nat.beq j 3 = false := by
      cases e3 : Nat.beq j 3 with
      | false => rfl
      | true => exact absurd (Nat.eq_of_beq_eq_true e3) e
    rw [if_neg e, e2]
    rfl
theorem kzfs {Γ : zC} {M : zM} {c t k : Nat} (hk : k < zN c) : vp_V (zfs Γ M c t) k = ztv Γ (zfv c t k M) := by
  unfold vp_V
  rw [List.getD_eq_getElem?_getD, zfs_at hk]
  rfl
theorem kzdf10 : zdf 10 = [.null, .null, .int 0, .int 0, .int 0, .int 0, .int 0, .int 0, .int 0, .int 0, .null, .int 0, .int 0, .int 0, .int 0, .null, .null, .null, .int 0, .null, .null, .int 0, .int 0, .int 0, .null, .int 0, .int 0, .null, .int 0, .null, .null, .null, .int 0, .null, .null, .null, .null, .long 0, .null, .null] := rfl
set_option maxHeartbeats 4000000 in
theorem kat_M (hW : kW D h 252 (kF (l, D, ac, kad h, s) h) H) : va_at D vwCl (h + kidx (10, 0, 0), zent (l, D, ac, kad h, s) zM0 (10, 0, 0)) H := by
  have h1 := hW.at (k := 232) (by decide)
  obtain ⟨r, hr, hob⟩ := h1
  cases (zcl (c := 10) (by decide)).symm.trans hr
  rw [kzdf10] at hob
  simp only [List.set_cons_succ, List.set_cons_zero] at hob
  refine ⟨(zR 10, zT 10, zN 10), zcl (c := 10) (by decide), t_OB.to hob (fun k hk => ?_)⟩
  refine Eq.trans ?_ (kzfs (Γ := (l, D, ac, kad h, s)) (M := zM0) (c := 10) (t := 0) hk).symm
  have hk : k < 40 := hk
  match k, hk with
  | 0, _ => rfl
  | 1, _ => rfl
  | 2, _ => rfl
  | 3, _ => rfl
  | 4, _ => rfl
  | 5, _ => rfl
  | 6, _ => rfl
  | 7, _ => rfl
  | 8, _ => rfl
  | 9, _ => rfl
  | 10, _ => rfl
  | 11, _ => rfl
  | 12, _ => rfl
  | 13, _ => rfl
  | 14, _ => rfl
  | 15, _ => rfl
  | 16, _ => rfl
  | 17, _ => rfl
  | 18, _ => rfl
  | 19, _ => rfl
  | 20, _ => rfl
  | 21, _ => rfl
  | 22, _ => rfl
  | 23, _ => rfl
  | 24, _ => rfl
  | 25, _ => rfl
  | 26, _ => rfl
  | 27, _ => rfl
  | 28, _ => rfl
  | 29, _ => rfl
  | 30, _ => rfl
  | 31, _ => rfl
  | 32, _ => rfl
  | 33, _ => rfl
  | 34, _ => rfl
  | 35, _ => rfl
  | 36, _ => rfl
  | 37, _ => rfl
  | 38, _ => rfl
  | 39, _ => rfl
  | n + 40, h9 => exact absurd h9 (by omega)
theorem kall0 (hW : kW D h 252 (kF (l, D, ac, kad h, s) h) H) : ∀ p ∈ zp0, va_at D vwCl (h + kidx p, zent (l, D, ac, kad h, s) zM0 p) H := by
  unfold zp0
  refine List.forall_mem_cons.mpr ⟨kat hW (i := 208) (by decide) rfl, ?_⟩
  refine List.forall_mem_cons.mpr ⟨kat hW (i := 215) (by decide) rfl, ?_⟩
  refine List.forall_mem_cons.mpr ⟨kat hW (i := 216) (by decide) rfl, ?_⟩
  refine List.forall_mem_cons.mpr ⟨kat hW (i := 217) (by decide) rfl, ?_⟩
  refine List.forall_mem_cons.mpr ⟨kat hW (i := 218) (by decide) rfl, ?_⟩
  refine List.forall_mem_cons.mpr ⟨kat hW (i := 219) (by decide) rfl, ?_⟩
  refine List.forall_mem_cons.mpr ⟨kat hW (i := 229) (by decide) rfl, ?_⟩
  refine List.forall_mem_cons.mpr ⟨kat hW (i := 230) (by decide) rfl, ?_⟩
  refine List.forall_mem_cons.mpr ⟨kat hW (i := 231) (by decide) rfl, ?_⟩
  refine List.forall_mem_cons.mpr ⟨kat hW (i := 188) (by decide) rfl, ?_⟩
  refine List.forall_mem_cons.mpr ⟨kat hW (i := 189) (by decide) rfl, ?_⟩
  refine List.forall_mem_cons.mpr ⟨kat hW (i := 190) (by decide) rfl, ?_⟩
  refine List.forall_mem_cons.mpr ⟨kat hW (i := 191) (by decide) rfl, ?_⟩
  refine List.forall_mem_cons.mpr ⟨kat hW (i := 192) (by decide) rfl, ?_⟩
  refine List.forall_mem_cons.mpr ⟨kat hW (i := 193) (by decide) rfl, ?_⟩
  refine List.forall_mem_cons.mpr ⟨kat hW (i := 195) (by decide) rfl, ?_⟩
  refine List.forall_mem_cons.mpr ⟨kat hW (i := 196) (by decide) rfl, ?_⟩
  refine List.forall_mem_cons.mpr ⟨kat hW (i := 197) (by decide) rfl, ?_⟩
  refine List.forall_mem_cons.mpr ⟨kat hW (i := 198) (by decide) rfl, ?_⟩
  refine List.forall_mem_cons.mpr ⟨kat hW (i := 199) (by decide) rfl, ?_⟩
  refine List.forall_mem_cons.mpr ⟨kat hW (i := 200) (by decide) rfl, ?_⟩
  refine List.forall_mem_cons.mpr ⟨kat hW (i := 209) (by decide) rfl, ?_⟩
  refine List.forall_mem_cons.mpr ⟨kat hW (i := 210) (by decide) rfl, ?_⟩
  refine List.forall_mem_cons.mpr ⟨kat hW (i := 211) (by decide) rfl, ?_⟩
  refine List.forall_mem_cons.mpr ⟨kat hW (i := 212) (by decide) rfl, ?_⟩
  refine List.forall_mem_cons.mpr ⟨kat hW (i := 213) (by decide) rfl, ?_⟩
  refine List.forall_mem_cons.mpr ⟨kat hW (i := 214) (by decide) rfl, ?_⟩
  refine List.forall_mem_cons.mpr ⟨kat hW (i := 221) (by decide) rfl, ?_⟩
  refine List.forall_mem_cons.mpr ⟨kat hW (i := 222) (by decide) rfl, ?_⟩
  refine List.forall_mem_cons.mpr ⟨kat hW (i := 223) (by decide) rfl, ?_⟩
  refine List.forall_mem_cons.mpr ⟨kat hW (i := 224) (by decide) rfl, ?_⟩
  refine List.forall_mem_cons.mpr ⟨kat hW (i := 225) (by decide) rfl, ?_⟩
  refine List.forall_mem_cons.mpr ⟨kat hW (i := 226) (by decide) rfl, ?_⟩
  refine List.forall_mem_cons.mpr ⟨kat hW (i := 203) (by decide) rfl, ?_⟩
  refine List.forall_mem_cons.mpr ⟨kat hW (i := 204) (by decide) rfl, ?_⟩
  refine List.forall_mem_cons.mpr ⟨kat hW (i := 205) (by decide) rfl, ?_⟩
  refine List.forall_mem_cons.mpr ⟨kat hW (i := 206) (by decide) rfl, ?_⟩
  refine List.forall_mem_cons.mpr ⟨kat hW (i := 207) (by decide) rfl, ?_⟩
  refine List.forall_mem_cons.mpr ⟨kat hW (i := 220) (by decide) rfl, ?_⟩
  refine List.forall_mem_cons.mpr ⟨kat hW (i := 227) (by decide) rfl, ?_⟩
  refine List.forall_mem_cons.mpr ⟨kat hW (i := 228) (by decide) rfl, ?_⟩
  refine List.forall_mem_cons.mpr ⟨kat hW (i := 171) (by decide) rfl, ?_⟩
  refine List.forall_mem_cons.mpr ⟨kat hW (i := 185) (by decide) rfl, ?_⟩
  refine List.forall_mem_cons.mpr ⟨kat hW (i := 186) (by decide) rfl, ?_⟩
  refine List.forall_mem_cons.mpr ⟨kat hW (i := 187) (by decide) rfl, ?_⟩
  refine List.forall_mem_cons.mpr ⟨kat hW (i := 194) (by decide) rfl, ?_⟩
  refine List.forall_mem_cons.mpr ⟨kat hW (i := 201) (by decide) rfl, ?_⟩
  refine List.forall_mem_cons.mpr ⟨kat hW (i := 202) (by decide) rfl, ?_⟩
  refine List.forall_mem_cons.mpr ⟨kat hW (i := 4) (by decide) rfl, ?_⟩
  refine List.forall_mem_cons.mpr ⟨kat hW (i := 5) (by decide) rfl, ?_⟩
  exact fun _ h9 => absurd h9 List.not_mem_nil
theorem kall1 (hW : kW D h 252 (kF (l, D, ac, kad h, s) h) H) : ∀ p ∈ zp1, va_at D vwCl (h + kidx p, zent (l, D, ac, kad h, s) zM0 p) H := by
  unfold zp1
  refine List.forall_mem_cons.mpr ⟨kat hW (i := 6) (by decide) rfl, ?_⟩
  refine List.forall_mem_cons.mpr ⟨kat hW (i := 7) (by decide) rfl, ?_⟩
  refine List.forall_mem_cons.mpr ⟨kat hW (i := 8) (by decide) rfl, ?_⟩
  refine List.forall_mem_cons.mpr ⟨kat hW (i := 9) (by decide) rfl, ?_⟩
  refine List.forall_mem_cons.mpr ⟨kat hW (i := 10) (by decide) rfl, ?_⟩
  refine List.forall_mem_cons.mpr ⟨kat hW (i := 11) (by decide) rfl, ?_⟩
  refine List.forall_mem_cons.mpr ⟨kat hW (i := 12) (by decide) rfl, ?_⟩
  refine List.forall_mem_cons.mpr ⟨kat hW (i := 13) (by decide) rfl, ?_⟩
  refine List.forall_mem_cons.mpr ⟨kat hW (i := 14) (by decide) rfl, ?_⟩
  refine List.forall_mem_cons.mpr ⟨kat hW (i := 15) (by decide) rfl, ?_⟩
  refine List.forall_mem_cons.mpr ⟨kat hW (i := 16) (by decide) rfl, ?_⟩
  refine List.forall_mem_cons.mpr ⟨kat hW (i := 17) (by decide) rfl, ?_⟩
  refine List.forall_mem_cons.mpr ⟨kat hW (i := 18) (by decide) rfl, ?_⟩
  refine List.forall_mem_cons.mpr ⟨kat hW (i := 19) (by decide) rfl, ?_⟩
  refine List.forall_mem_cons.mpr ⟨kat hW (i := 20) (by decide) rfl, ?_⟩
  refine List.forall_mem_cons.mpr ⟨kat hW (i := 21) (by decide) rfl, ?_⟩
  refine List.forall_mem_cons.mpr ⟨kat hW (i := 22) (by decide) rfl, ?_⟩
  refine List.forall_mem_cons.mpr ⟨kat hW (i := 23) (by decide) rfl, ?_⟩
  refine List.forall_mem_cons.mpr ⟨kat hW (i := 24) (by decide) rfl, ?_⟩
  refine List.forall_mem_cons.mpr ⟨kat hW (i := 25) (by decide) rfl, ?_⟩
  refine List.forall_mem_cons.mpr ⟨kat hW (i := 26) (by decide) rfl, ?_⟩
  refine List.forall_mem_cons.mpr ⟨kat hW (i := 27) (by decide) rfl, ?_⟩
  refine List.forall_mem_cons.mpr ⟨kat hW (i := 28) (by decide) rfl, ?_⟩
  refine List.forall_mem_cons.mpr ⟨kat hW (i := 29) (by decide) rfl, ?_⟩
  refine List.forall_mem_cons.mpr ⟨kat hW (i := 30) (by decide) rfl, ?_⟩
  refine List.forall_mem_cons.mpr ⟨kat hW (i := 31) (by decide) rfl, ?_⟩
  refine List.forall_mem_cons.mpr ⟨kat hW (i := 32) (by decide) rfl, ?_⟩
  refine List.forall_mem_cons.mpr ⟨kat hW (i := 33) (by decide) rfl, ?_⟩
  refine List.forall_mem_cons.mpr ⟨kat hW (i := 34) (by decide) rfl, ?_⟩
  refine List.forall_mem_cons.mpr ⟨kat hW (i := 35) (by decide) rfl, ?_⟩
  refine List.forall_mem_cons.mpr ⟨kat hW (i := 36) (by decide) rfl, ?_⟩
  refine List.forall_mem_cons.mpr ⟨kat hW (i := 37) (by decide) rfl, ?_⟩
  refine List.forall_mem_cons.mpr ⟨kat hW (i := 38) (by decide) rfl, ?_⟩
  refine List.forall_mem_cons.mpr ⟨kat hW (i := 39) (by decide) rfl, ?_⟩
  refine List.forall_mem_cons.mpr ⟨kat hW (i := 40) (by decide) rfl, ?_⟩
  refine List.forall_mem_cons.mpr ⟨kat hW (i := 41) (by decide) rfl, ?_⟩
  refine List.forall_mem_cons.mpr ⟨kat hW (i := 42) (by decide) rfl, ?_⟩
  refine List.forall_mem_cons.mpr ⟨kat hW (i := 47) (by decide) rfl, ?_⟩
  refine List.forall_mem_cons.mpr ⟨kat hW (i := 48) (by decide) rfl, ?_⟩
  refine List.forall_mem_cons.mpr ⟨kat hW (i := 49) (by decide) rfl, ?_⟩
  refine List.forall_mem_cons.mpr ⟨kat hW (i := 50) (by decide) rfl, ?_⟩
  refine List.forall_mem_cons.mpr ⟨kat hW (i := 51) (by decide) rfl, ?_⟩
  refine List.forall_mem_cons.mpr ⟨kat hW (i := 52) (by decide) rfl, ?_⟩
  refine List.forall_mem_cons.mpr ⟨kat hW (i := 53) (by decide) rfl, ?_⟩
  refine List.forall_mem_cons.mpr ⟨kat hW (i := 54) (by decide) rfl, ?_⟩
  refine List.forall_mem_cons.mpr ⟨kat hW (i := 55) (by decide) rfl, ?_⟩
  refine List.forall_mem_cons.mpr ⟨kat hW (i := 56) (by decide) rfl, ?_⟩
  refine List.forall_mem_cons.mpr ⟨kat hW (i := 57) (by decide) rfl, ?_⟩
  refine List.forall_mem_cons.mpr ⟨kat hW (i := 58) (by decide) rfl, ?_⟩
  refine List.forall_mem_cons.mpr ⟨kat hW (i := 59) (by decide) rfl, ?_⟩
  exact fun _ h9 => absurd h9 List.not_mem_nil
theorem kall2 (hW : kW D h 252 (kF (l, D, ac, kad h, s) h) H) : ∀ p ∈ zp2, va_at D vwCl (h + kidx p, zent (l, D, ac, kad h, s) zM0 p) H := by
  unfold zp2
  refine List.forall_mem_cons.mpr ⟨kat hW (i := 60) (by decide) rfl, ?_⟩
  refine List.forall_mem_cons.mpr ⟨kat hW (i := 61) (by decide) rfl, ?_⟩
  refine List.forall_mem_cons.mpr ⟨kat hW (i := 62) (by decide) rfl, ?_⟩
  refine List.forall_mem_cons.mpr ⟨kat hW (i := 63) (by decide) rfl, ?_⟩
  refine List.forall_mem_cons.mpr ⟨kat hW (i := 64) (by decide) rfl, ?_⟩
  refine List.forall_mem_cons.mpr ⟨kat hW (i := 65) (by decide) rfl, ?_⟩
  refine List.forall_mem_cons.mpr ⟨kat hW (i := 66) (by decide) rfl, ?_⟩
  refine List.forall_mem_cons.mpr ⟨kat hW (i := 67) (by decide) rfl, ?_⟩
  refine List.forall_mem_cons.mpr ⟨kat hW (i := 68) (by decide) rfl, ?_⟩
  refine List.forall_mem_cons.mpr ⟨kat hW (i := 69) (by decide) rfl, ?_⟩
  refine List.forall_mem_cons.mpr ⟨kat hW (i := 70) (by decide) rfl, ?_⟩
  refine List.forall_mem_cons.mpr ⟨kat hW (i := 71) (by decide) rfl, ?_⟩
  refine List.forall_mem_cons.mpr ⟨kat hW (i := 72) (by decide) rfl, ?_⟩
  refine List.forall_mem_cons.mpr ⟨kat hW (i := 73) (by decide) rfl, ?_⟩
  refine List.forall_mem_cons.mpr ⟨kat hW (i := 74) (by decide) rfl, ?_⟩
  refine List.forall_mem_cons.mpr ⟨kat hW (i := 75) (by decide) rfl, ?_⟩
  refine List.forall_mem_cons.mpr ⟨kat hW (i := 76) (by decide) rfl, ?_⟩
  refine List.forall_mem_cons.mpr ⟨kat hW (i := 77) (by decide) rfl, ?_⟩
  refine List.forall_mem_cons.mpr ⟨kat hW (i := 78) (by decide) rfl, ?_⟩
  refine List.forall_mem_cons.mpr ⟨kat hW (i := 79) (by decide) rfl, ?_⟩
  refine List.forall_mem_cons.mpr ⟨kat hW (i := 80) (by decide) rfl, ?_⟩
  refine List.forall_mem_cons.mpr ⟨kat hW (i := 81) (by decide) rfl, ?_⟩
  refine List.forall_mem_cons.mpr ⟨kat hW (i := 82) (by decide) rfl, ?_⟩
  refine List.forall_mem_cons.mpr ⟨kat hW (i := 83) (by decide) rfl, ?_⟩
  refine List.forall_mem_cons.mpr ⟨kat hW (i := 84) (by decide) rfl, ?_⟩
  refine List.forall_mem_cons.mpr ⟨kat hW (i := 85) (by decide) rfl, ?_⟩
  refine List.forall_mem_cons.mpr ⟨kat hW (i := 89) (by decide) rfl, ?_⟩
  refine List.forall_mem_cons.mpr ⟨kat hW (i := 90) (by decide) rfl, ?_⟩
  refine List.forall_mem_cons.mpr ⟨kat hW (i := 91) (by decide) rfl, ?_⟩
  refine List.forall_mem_cons.mpr ⟨kat hW (i := 92) (by decide) rfl, ?_⟩
  refine List.forall_mem_cons.mpr ⟨kat hW (i := 93) (by decide) rfl, ?_⟩
  refine List.forall_mem_cons.mpr ⟨kat hW (i := 94) (by decide) rfl, ?_⟩
  refine List.forall_mem_cons.mpr ⟨kat hW (i := 95) (by decide) rfl, ?_⟩
  refine List.forall_mem_cons.mpr ⟨kat hW (i := 96) (by decide) rfl, ?_⟩
  refine List.forall_mem_cons.mpr ⟨kat hW (i := 97) (by decide) rfl, ?_⟩
  refine List.forall_mem_cons.mpr ⟨kat hW (i := 98) (by decide) rfl, ?_⟩
  refine List.forall_mem_cons.mpr ⟨kat hW (i := 99) (by decide) rfl, ?_⟩
  refine List.forall_mem_cons.mpr ⟨kat hW (i := 100) (by decide) rfl, ?_⟩
  refine List.forall_mem_cons.mpr ⟨kat hW (i := 101) (by decide) rfl, ?_⟩
  refine List.forall_mem_cons.mpr ⟨kat hW (i := 102) (by decide) rfl, ?_⟩
  refine List.forall_mem_cons.mpr ⟨kat hW (i := 103) (by decide) rfl, ?_⟩
  refine List.forall_mem_cons.mpr ⟨kat hW (i := 104) (by decide) rfl, ?_⟩
  refine List.forall_mem_cons.mpr ⟨kat hW (i := 105) (by decide) rfl, ?_⟩
  refine List.forall_mem_cons.mpr ⟨kat hW (i := 106) (by decide) rfl, ?_⟩
  refine List.forall_mem_cons.mpr ⟨kat hW (i := 107) (by decide) rfl, ?_⟩
  refine List.forall_mem_cons.mpr ⟨kat hW (i := 108) (by decide) rfl, ?_⟩
  refine List.forall_mem_cons.mpr ⟨kat hW (i := 109) (by decide) rfl, ?_⟩
  refine List.forall_mem_cons.mpr ⟨kat hW (i := 110) (by decide) rfl, ?_⟩
  refine List.forall_mem_cons.mpr ⟨kat hW (i := 111) (by decide) rfl, ?_⟩
  refine List.forall_mem_cons.mpr ⟨kat hW (i := 112) (by decide) rfl, ?_⟩
  exact fun _ h9 => absurd h9 List.not_mem_nil
theorem kall3 (hW : kW D h 252 (kF (l, D, ac, kad h, s) h) H) : ∀ p ∈ zp3, va_at D vwCl (h + kidx p, zent (l, D, ac, kad h, s) zM0 p) H := by
  unfold zp3
  refine List.forall_mem_cons.mpr ⟨kat hW (i := 113) (by decide) rfl, ?_⟩
  refine List.forall_mem_cons.mpr ⟨kat hW (i := 114) (by decide) rfl, ?_⟩
  refine List.forall_mem_cons.mpr ⟨kat hW (i := 115) (by decide) rfl, ?_⟩
  refine List.forall_mem_cons.mpr ⟨kat hW (i := 116) (by decide) rfl, ?_⟩
  refine List.forall_mem_cons.mpr ⟨kat hW (i := 117) (by decide) rfl, ?_⟩
  refine List.forall_mem_cons.mpr ⟨kat hW (i := 118) (by decide) rfl, ?_⟩
  refine List.forall_mem_cons.mpr ⟨kat hW (i := 119) (by decide) rfl, ?_⟩
  refine List.forall_mem_cons.mpr ⟨kat hW (i := 120) (by decide) rfl, ?_⟩
  refine List.forall_mem_cons.mpr ⟨kat hW (i := 121) (by decide) rfl, ?_⟩
  refine List.forall_mem_cons.mpr ⟨kat hW (i := 122) (by decide) rfl, ?_⟩
  refine List.forall_mem_cons.mpr ⟨kat hW (i := 123) (by decide) rfl, ?_⟩
  refine List.forall_mem_cons.mpr ⟨kat hW (i := 124) (by decide) rfl, ?_⟩
  refine List.forall_mem_cons.mpr ⟨kat hW (i := 125) (by decide) rfl, ?_⟩
  refine List.forall_mem_cons.mpr ⟨kat hW (i := 126) (by decide) rfl, ?_⟩
  refine List.forall_mem_cons.mpr ⟨kat hW (i := 127) (by decide) rfl, ?_⟩
  refine List.forall_mem_cons.mpr ⟨kat hW (i := 131) (by decide) rfl, ?_⟩
  refine List.forall_mem_cons.mpr ⟨kat hW (i := 132) (by decide) rfl, ?_⟩
  refine List.forall_mem_cons.mpr ⟨kat hW (i := 133) (by decide) rfl, ?_⟩
  refine List.forall_mem_cons.mpr ⟨kat hW (i := 134) (by decide) rfl, ?_⟩
  refine List.forall_mem_cons.mpr ⟨kat hW (i := 135) (by decide) rfl, ?_⟩
  refine List.forall_mem_cons.mpr ⟨kat hW (i := 136) (by decide) rfl, ?_⟩
  refine List.forall_mem_cons.mpr ⟨kat hW (i := 137) (by decide) rfl, ?_⟩
  refine List.forall_mem_cons.mpr ⟨kat hW (i := 138) (by decide) rfl, ?_⟩
  refine List.forall_mem_cons.mpr ⟨kat hW (i := 139) (by decide) rfl, ?_⟩
  refine List.forall_mem_cons.mpr ⟨kat hW (i := 140) (by decide) rfl, ?_⟩
  refine List.forall_mem_cons.mpr ⟨kat hW (i := 141) (by decide) rfl, ?_⟩
  refine List.forall_mem_cons.mpr ⟨kat hW (i := 142) (by decide) rfl, ?_⟩
  refine List.forall_mem_cons.mpr ⟨kat hW (i := 143) (by decide) rfl, ?_⟩
  refine List.forall_mem_cons.mpr ⟨kat hW (i := 144) (by decide) rfl, ?_⟩
  refine List.forall_mem_cons.mpr ⟨kat hW (i := 145) (by decide) rfl, ?_⟩
  refine List.forall_mem_cons.mpr ⟨kat hW (i := 146) (by decide) rfl, ?_⟩
  refine List.forall_mem_cons.mpr ⟨kat hW (i := 147) (by decide) rfl, ?_⟩
  refine List.forall_mem_cons.mpr ⟨kat hW (i := 148) (by decide) rfl, ?_⟩
  refine List.forall_mem_cons.mpr ⟨kat hW (i := 149) (by decide) rfl, ?_⟩
  refine List.forall_mem_cons.mpr ⟨kat hW (i := 150) (by decide) rfl, ?_⟩
  refine List.forall_mem_cons.mpr ⟨kat hW (i := 151) (by decide) rfl, ?_⟩
  refine List.forall_mem_cons.mpr ⟨kat hW (i := 152) (by decide) rfl, ?_⟩
  refine List.forall_mem_cons.mpr ⟨kat hW (i := 153) (by decide) rfl, ?_⟩
  refine List.forall_mem_cons.mpr ⟨kat hW (i := 154) (by decide) rfl, ?_⟩
  refine List.forall_mem_cons.mpr ⟨kat hW (i := 155) (by decide) rfl, ?_⟩
  refine List.forall_mem_cons.mpr ⟨kat hW (i := 156) (by decide) rfl, ?_⟩
  refine List.forall_mem_cons.mpr ⟨kat hW (i := 157) (by decide) rfl, ?_⟩
  refine List.forall_mem_cons.mpr ⟨kat hW (i := 158) (by decide) rfl, ?_⟩
  refine List.forall_mem_cons.mpr ⟨kat hW (i := 159) (by decide) rfl, ?_⟩
  refine List.forall_mem_cons.mpr ⟨kat hW (i := 160) (by decide) rfl, ?_⟩
  refine List.forall_mem_cons.mpr ⟨kat hW (i := 161) (by decide) rfl, ?_⟩
  refine List.forall_mem_cons.mpr ⟨kat hW (i := 162) (by decide) rfl, ?_⟩
  refine List.forall_mem_cons.mpr ⟨kat hW (i := 163) (by decide) rfl, ?_⟩
  refine List.forall_mem_cons.mpr ⟨kat hW (i := 164) (by decide) rfl, ?_⟩
  refine List.forall_mem_cons.mpr ⟨kat hW (i := 165) (by decide) rfl, ?_⟩
  exact fun _ h9 => absurd h9 List.not_mem_nil
theorem kall4 (hW : kW D h 252 (kF (l, D, ac, kad h, s) h) H) : ∀ p ∈ zp4, va_at D vwCl (h + kidx p, zent (l, D, ac, kad h, s) zM0 p) H := by
  unfold zp4
  refine List.forall_mem_cons.mpr ⟨kat hW (i := 166) (by decide) rfl, ?_⟩
  refine List.forall_mem_cons.mpr ⟨kat hW (i := 167) (by decide) rfl, ?_⟩
  refine List.forall_mem_cons.mpr ⟨kat hW (i := 168) (by decide) rfl, ?_⟩
  refine List.forall_mem_cons.mpr ⟨kat hW (i := 169) (by decide) rfl, ?_⟩
  refine List.forall_mem_cons.mpr ⟨kat hW (i := 172) (by decide) rfl, ?_⟩
  refine List.forall_mem_cons.mpr ⟨kat hW (i := 173) (by decide) rfl, ?_⟩
  refine List.forall_mem_cons.mpr ⟨kat hW (i := 174) (by decide) rfl, ?_⟩
  refine List.forall_mem_cons.mpr ⟨kat hW (i := 175) (by decide) rfl, ?_⟩
  refine List.forall_mem_cons.mpr ⟨kat hW (i := 176) (by decide) rfl, ?_⟩
  refine List.forall_mem_cons.mpr ⟨kat hW (i := 177) (by decide) rfl, ?_⟩
  refine List.forall_mem_cons.mpr ⟨kat hW (i := 178) (by decide) rfl, ?_⟩
  refine List.forall_mem_cons.mpr ⟨kat hW (i := 179) (by decide) rfl, ?_⟩
  refine List.forall_mem_cons.mpr ⟨kat hW (i := 180) (by decide) rfl, ?_⟩
  refine List.forall_mem_cons.mpr ⟨kat hW (i := 181) (by decide) rfl, ?_⟩
  refine List.forall_mem_cons.mpr ⟨kat hW (i := 182) (by decide) rfl, ?_⟩
  refine List.forall_mem_cons.mpr ⟨kat hW (i := 183) (by decide) rfl, ?_⟩
  refine List.forall_mem_cons.mpr ⟨kat hW (i := 184) (by decide) rfl, ?_⟩
  refine List.forall_mem_cons.mpr ⟨kat hW (i := 1) (by decide) rfl, ?_⟩
  refine List.forall_mem_cons.mpr ⟨kat hW (i := 2) (by decide) rfl, ?_⟩
  refine List.forall_mem_cons.mpr ⟨kat_q hW (i := 3) (by decide) rfl rfl rfl rfl, ?_⟩
  refine List.forall_mem_cons.mpr ⟨kat hW (i := 44) (by decide) rfl, ?_⟩
  refine List.forall_mem_cons.mpr ⟨kat hW (i := 45) (by decide) rfl, ?_⟩
  refine List.forall_mem_cons.mpr ⟨kat_q hW (i := 46) (by decide) rfl rfl rfl rfl, ?_⟩
  refine List.forall_mem_cons.mpr ⟨kat hW (i := 86) (by decide) rfl, ?_⟩
  refine List.forall_mem_cons.mpr ⟨kat hW (i := 87) (by decide) rfl, ?_⟩
  refine List.forall_mem_cons.mpr ⟨kat_q hW (i := 88) (by decide) rfl rfl rfl rfl, ?_⟩
  refine List.forall_mem_cons.mpr ⟨kat hW (i := 128) (by decide) rfl, ?_⟩
  refine List.forall_mem_cons.mpr ⟨kat hW (i := 129) (by decide) rfl, ?_⟩
  refine List.forall_mem_cons.mpr ⟨kat_q hW (i := 130) (by decide) rfl rfl rfl rfl, ?_⟩
  refine List.forall_mem_cons.mpr ⟨kat hW (i := 0) (by decide) rfl, ?_⟩
  refine List.forall_mem_cons.mpr ⟨kat_q hW (i := 43) (by decide) rfl rfl rfl rfl, ?_⟩
  refine List.forall_mem_cons.mpr ⟨kat hW (i := 170) (by decide) rfl, ?_⟩
  refine List.forall_mem_cons.mpr ⟨kat_M hW, ?_⟩
  refine List.forall_mem_cons.mpr ⟨kat_i hW (i := 233) (by decide) rfl kat_A, ?_⟩
  refine List.forall_mem_cons.mpr ⟨kat hW (i := 234) (by decide) rfl, ?_⟩
  refine List.forall_mem_cons.mpr ⟨kat hW (i := 235) (by decide) rfl, ?_⟩
  refine List.forall_mem_cons.mpr ⟨kat hW (i := 236) (by decide) rfl, ?_⟩
  refine List.forall_mem_cons.mpr ⟨kat hW (i := 237) (by decide) rfl, ?_⟩
  refine List.forall_mem_cons.mpr ⟨kat hW (i := 238) (by decide) rfl, ?_⟩
  refine List.forall_mem_cons.mpr ⟨kat hW (i := 239) (by decide) rfl, ?_⟩
  refine List.forall_mem_cons.mpr ⟨kat hW (i := 240) (by decide) rfl, ?_⟩
  refine List.forall_mem_cons.mpr ⟨kat hW (i := 241) (by decide) rfl, ?_⟩
  refine List.forall_mem_cons.mpr ⟨kat hW (i := 242) (by decide) rfl, ?_⟩
  refine List.forall_mem_cons.mpr ⟨kat hW (i := 243) (by decide) rfl, ?_⟩
  refine List.forall_mem_cons.mpr ⟨kat hW (i := 244) (by decide) rfl, ?_⟩
  refine List.forall_mem_cons.mpr ⟨kat hW (i := 245) (by decide) rfl, ?_⟩
  refine List.forall_mem_cons.mpr ⟨kat hW (i := 246) (by decide) rfl, ?_⟩
  refine List.forall_mem_cons.mpr ⟨kat hW (i := 247) (by decide) rfl, ?_⟩
  refine List.forall_mem_cons.mpr ⟨kat hW (i := 248) (by decide) rfl, ?_⟩
  refine List.forall_mem_cons.mpr ⟨kat hW (i := 249) (by decide) rfl, ?_⟩
  exact fun _ h9 => absurd h9 List.not_mem_nil
theorem kall5 (hW : kW D h 252 (kF (l, D, ac, kad h, s) h) H) : ∀ p ∈ zp5, va_at D vwCl (h + kidx p, zent (l, D, ac, kad h, s) zM0 p) H := by
  unfold zp5
  refine List.forall_mem_cons.mpr ⟨kat hW (i := 250) (by decide) rfl, ?_⟩
  refine List.forall_mem_cons.mpr ⟨kat hW (i := 251) (by decide) rfl, ?_⟩
  exact fun _ h9 => absurd h9 List.not_mem_nil
theorem kall (hW : kW D h 252 (kF (l, D, ac, kad h, s) h) H) : va_P D vwCl (zwd (l, D, ac, kad h, s) zM0) H := by
  intro k q hq
  unfold zwd at hq
  rw [List.getElem?_map] at hq
  cases hp : zparts[k]? with
  | none => rw [hp] at hq; cases hq
  | some p =>
    rw [hp] at hq
    cases hq
    have hm : p ∈ zparts := List.mem_of_getElem? hp
    show va_at D vwCl (kad h p, zent (l, D, ac, kad h, s) zM0 p) H
    rw [kad_idx]
    unfold zparts at hm
    simp only [List.mem_append] at hm
    rcases hm with ((((hm | hm) | hm) | hm) | hm) | hm
    · exact kall0 hW p hm
    · exact kall1 hW p hm
    · exact kall2 hW p hm
    · exact kall3 hW p hm
    · exact kall4 hW p hm
    · exact kall5 hW p hm
end Zc9
