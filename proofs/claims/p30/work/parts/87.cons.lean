/-! pieces and metal that are kept: over rows -/
/-- all pieces of a sort -/
def tS (ρ : Row) (nj s : Nat) : Int32 := sm 6 (fun c => ρ (8 + 29 * c + s)) + sm nj (fun j => sm 6 (fun c => fm ρ j c s)) + ρ (182 + s)
def XC (ρ : Row) (nj : Nat) : Prop := ρ 6 - ρ 7 = sm 29 (tS ρ nj) ∧ ρ 4 = ρ 2 + sm 29 (fun s => tS ρ nj s * wd s) + ρ 5
theorem XC.mk' {ρ ρ' : Row} {nj nj' : Nat} (X : XC ρ nj) (δ : Nat → Int32) (e : ∀ s, s < 29 → tS ρ' nj' s = tS ρ nj s + δ s) (e1 : ρ' 6 - ρ' 7 = ρ 6 - ρ 7 + sm 29 δ) (e2 : ρ' 4 - ρ' 2 - ρ' 5 = ρ 4 - ρ 2 - ρ 5 + sm 29 (fun s => δ s * wd s)) : XC ρ' nj' := by
  obtain ⟨x1, x2⟩ := X
  refine ⟨?_, ?_⟩
  · rw [e1, x1, sm_congr e, sm_add]
  · rw [sm_congr (g := fun s => tS ρ nj s * wd s + δ s * wd s) (fun s hs => by rw [e s hs, Int32.add_mul]), sm_add]
    grind
theorem XC.same {ρ ρ' : Row} {nj nj' : Nat} (X : XC ρ nj) (e : ∀ s, s < 29 → tS ρ' nj' s = tS ρ nj s) (e1 : ρ' 6 - ρ' 7 = ρ 6 - ρ 7) (e2 : ρ' 4 - ρ' 2 - ρ' 5 = ρ 4 - ρ 2 - ρ 5) : XC ρ' nj' := by
  refine X.mk' (fun _ => 0) (fun s hs => by rw [e s hs, Int32.add_zero]) ?_ ?_
  · rw [e1, sm_zero (fun _ _ => rfl), Int32.add_zero]
  · rw [e2, sm_zero (fun _ _ => by rw [Int32.zero_mul]), Int32.add_zero]
theorem tS_same {ρ ρ' : Row} {nj s : Nat} (hs : s < 29) (e : ∀ y, 8 ≤ y → y < 182 → ρ' y = ρ y) (e2 : ∀ s, s < 29 → ρ' (182 + s) = ρ (182 + s)) (e3 : ∀ j c s, j < nj → c < 6 → s < 29 → fm ρ' j c s = fm ρ j c s) : tS ρ' nj s = tS ρ nj s := by
  unfold tS
  rw [e2 s hs, sm_congr (fun c hc => e (8 + 29 * c + s) (by omega) (by omega)), sm_congr (fun j hj => sm_congr (fun c hc => e3 j c s hj hc hs))]
section CONS
variable {ρ ρ' : Row} {nc nj : Nat}
theorem xc_buy (X : XC ρ nj) {a : Int32} (e : ρ' = ur (ur ρ 2 (ρ 2 + a)) 4 (ρ 4 + a)) : XC ρ' nj := by
  subst e
  refine X.same (fun s hs => tS_same hs (fun y a b => by rw [ur_n (by omega), ur_n (by omega)]) (fun s hs => by rw [ur_n (by omega), ur_n (by omega)]) (fun j c s a b d => by unfold fm; rw [ur_n (by omega), ur_n (by omega)])) ?_ ?_
  · rw [ur_n (by decide), ur_n (by decide), ur_n (by decide), ur_n (by decide)]
  · rw [ur_s, ur_n (by decide), ur_s, ur_n (by decide), ur_n (by decide)]; grind
theorem xc_at (X : XC ρ nj) {y : Nat} {v : Int32} (h : y = 0 ∨ y = 3) : XC (ur ρ y v) nj := by
  refine X.same (fun s hs => tS_same hs (fun z a b => ur_n (by omega)) (fun s hs => ur_n (by omega)) (fun j c s a b d => ur_n (by omega))) ?_ ?_
  · rw [ur_n (by omega), ur_n (by omega)]
  · rw [ur_n (by omega), ur_n (by omega), ur_n (by omega)]
theorem castA_h {c : Nat} {w : Nat → Int32} {s : Nat} (hs : s < 29) : castA ρ c w (8 + 29 * c + s) = ρ (8 + 29 * c + s) + w s := by
  unfold castA
  rw [if_pos (by omega), show 8 + 29 * c + s - (8 + 29 * c) = s by omega]
theorem castA_o {c : Nat} {w : Nat → Int32} {y : Nat} (h : ¬ (8 + 29 * c ≤ y ∧ y < 8 + 29 * c + 29)) (h2 : y ≠ 2) (h6 : y ≠ 6) : castA ρ c w y = ρ y := by
  unfold castA
  rw [if_neg h, if_neg h2, if_neg h6]
theorem sm_upd {n k : Nat} {f g : Nat → Int32} {v : Int32} (hk : k < n) (e : g k = f k + v) (h : ∀ i, i < n → i ≠ k → g i = f i) : sm n g = sm n f + v := by
  rw [sm_but hk g, sm_but hk f, e, sm_congr (g := fun c => if c = k then 0 else f c) (fun i hi => by
    by_cases z : i = k
    · rw [if_pos z, if_pos z]
    · rw [if_neg z, if_neg z, h i hi z])]
  grind
theorem xc_cast (X : XC ρ nj) {c : Nat} (hc : c < 6) {w : Nat → Int32} : XC (castA ρ c w) nj := by
  refine X.mk' w (fun s hs => ?_) ?_ ?_
  · unfold tS
    rw [castA_o (by omega) (by omega) (by omega), sm_congr (f := fun j => sm 6 (fun c_1 => fm (castA ρ c w) j c_1 s)) (g := fun j => sm 6 (fun c => fm ρ j c s)) (fun j hj => sm_congr (fun q hq => castA_o (by omega) (by omega) (by omega))), sm_upd (f := fun c => ρ (8 + 29 * c + s)) (v := w s) hc (castA_h hs) (fun i hi z => castA_o (by omega) (by omega) (by omega))]
    grind
  · rw [castA_o (y := 7) (by omega) (by decide) (by decide), show castA ρ c w 6 = ρ 6 + sm 29 w from by unfold castA; rw [if_neg (by omega), if_neg (by decide), if_pos rfl]]
    grind
  · rw [castA_o (y := 4) (by omega) (by decide) (by decide), castA_o (y := 5) (by omega) (by decide) (by decide), show castA ρ c w 2 = ρ 2 - sm 29 (fun s => w s * wd s) from by unfold castA; rw [if_neg (by omega), if_pos rfl]]
    grind
theorem xc_melt (X : XC ρ nj) {c u : Nat} (hc : c < 6) (hu : u < 29) {n : Int32} (e : ρ' = ur (ur (ur ρ (8 + 29 * c + u) (ρ (8 + 29 * c + u) - n)) 2 (ρ 2 + n * wd u)) 7 (ρ 7 + n)) : XC ρ' nj := by
  have eo : ∀ y, y ≠ 8 + 29 * c + u → y ≠ 2 → y ≠ 7 → ρ' y = ρ y := fun y a b d => by rw [e, ur_n d, ur_n b, ur_n a]
  have eh : ρ' (8 + 29 * c + u) = ρ (8 + 29 * c + u) - n := by rw [e, ur_n (by omega), ur_n (by omega), ur_s]
  have e2 : ρ' 2 = ρ 2 + n * wd u := by rw [e, ur_n (by decide), ur_s]
  have e7 : ρ' 7 = ρ 7 + n := by rw [e, ur_s]
  refine X.mk' (fun s => if s = u then -n else 0) (fun s hs => ?_) ?_ ?_
  · unfold tS
    rw [eo _ (by omega) (by omega) (by omega), sm_congr (f := fun j => sm 6 (fun c => fm ρ' j c s)) (g := fun j => sm 6 (fun c => fm ρ j c s)) (fun j hj => sm_congr (fun q hq => eo _ (by omega) (by omega) (by omega)))]
    by_cases z : s = u
    · subst z
      rw [if_pos rfl, sm_upd (f := fun c => ρ (8 + 29 * c + s)) (v := -n) hc (by rw [eh]; grind) (fun i hi z => eo _ (by omega) (by omega) (by omega))]
      grind
    · rw [if_neg z, sm_congr (f := fun c => ρ' (8 + 29 * c + s)) (g := fun c => ρ (8 + 29 * c + s)) (fun i hi => eo _ (by omega) (by omega) (by omega))]
      grind
  · rw [sm_one (k := u) hu (fun i _ z => if_neg z), if_pos rfl, e7, eo 6 (by omega) (by decide) (by decide)]
    grind
  · rw [sm_one (k := u) hu (fun i _ z => by rw [if_neg z, Int32.zero_mul]), if_pos rfl, e2, eo 4 (by omega) (by decide) (by decide), eo 5 (by omega) (by decide) (by decide)]
    grind
theorem xc_meltBox (X : XC ρ nj) (e : ρ' = fun x => if 182 ≤ x ∧ x < 211 then 0 else if x = 5 then ρ 5 + boxM ρ / 50 else if x = 2 then ρ 2 + (boxM ρ - boxM ρ / 50) else if x = 7 then ρ 7 + boxN ρ else ρ x) : XC ρ' nj := by
  have eo : ∀ y, ¬ (182 ≤ y ∧ y < 211) → y ≠ 5 → y ≠ 2 → y ≠ 7 → ρ' y = ρ y := fun y a b d f => by rw [e]; show (if _ then _ else _) = _; rw [if_neg a, if_neg b, if_neg d, if_neg f]
  have e0 : ∀ s, s < 29 → ρ' (182 + s) = 0 := fun s hs => by rw [e]; show (if _ then _ else _) = _; rw [if_pos (by omega)]
  have e5 : ρ' 5 = ρ 5 + boxM ρ / 50 := by rw [e]; show (if _ then _ else _) = _; rw [if_neg (by omega), if_pos rfl]
  have e2 : ρ' 2 = ρ 2 + (boxM ρ - boxM ρ / 50) := by rw [e]; show (if _ then _ else _) = _; rw [if_neg (by omega), if_neg (by decide), if_pos rfl]
  have e7 : ρ' 7 = ρ 7 + boxN ρ := by rw [e]; show (if _ then _ else _) = _; rw [if_neg (by omega), if_neg (by decide), if_neg (by decide), if_pos rfl]
  refine X.mk' (fun s => -ρ (182 + s)) (fun s hs => ?_) ?_ ?_
  · unfold tS
    rw [e0 s hs, sm_congr (f := fun j => sm 6 (fun c => fm ρ' j c s)) (g := fun j => sm 6 (fun c => fm ρ j c s)) (fun j hj => sm_congr (fun q hq => eo _ (by omega) (by omega) (by omega) (by omega))), sm_congr (f := fun c => ρ' (8 + 29 * c + s)) (g := fun c => ρ (8 + 29 * c + s)) (fun i hi => eo _ (by omega) (by omega) (by omega) (by omega))]
    grind
  · have : sm 29 (fun s => -ρ (182 + s)) + boxN ρ = 0 := by
      unfold boxN
      rw [← sm_add]; exact sm_zero (fun i _ => by grind)
    rw [e7, eo 6 (by omega) (by decide) (by decide) (by decide)]
    grind
  · have : sm 29 (fun s => -ρ (182 + s) * wd s) + boxM ρ = 0 := by
      unfold boxM
      rw [← sm_add]; exact sm_zero (fun i _ => by grind)
    rw [e2, e5, eo 4 (by omega) (by decide) (by decide) (by decide)]
    grind
theorem xc_jobs (X : XC ρ nj) (e : ∀ y, y < 211 → ρ' y = ρ y) (e3 : ∀ j c s, j < nj → c < 6 → s < 29 → fm ρ' j c s = fm ρ j c s) : XC ρ' nj :=
  X.same (fun s hs => tS_same hs (fun y a b => e y (by omega)) (fun s hs => e _ (by omega)) e3) (by rw [e 6 (by decide), e 7 (by decide)]) (by rw [e 4 (by decide), e 2 (by decide), e 5 (by decide)])
theorem xc_order (X : XC ρ nj) (e : ∀ y, y ≠ 1 → y < 211 → ρ' y = ρ y) (e3 : ∀ j c s, j < nj → c < 6 → s < 29 → fm ρ' j c s = fm ρ j c s) (e4 : ∀ c s, c < 6 → s < 29 → fm ρ' nj c s = 0) : XC ρ' (nj + 1) := by
  refine X.same (fun s hs => ?_) (by rw [e 6 (by decide) (by decide), e 7 (by decide) (by decide)]) (by rw [e 4 (by decide) (by decide), e 2 (by decide) (by decide), e 5 (by decide) (by decide)])
  unfold tS
  rw [smS nj, sm_zero (f := fun c => fm ρ' nj c s) (fun c hc => e4 c s hc hs), Int32.add_zero, e _ (by omega) (by omega), sm_congr (f := fun j => sm 6 (fun c => fm ρ' j c s)) (g := fun j => sm 6 (fun c => fm ρ j c s)) (fun j hj => sm_congr (fun q hq => e3 j q s hj hq hs)), sm_congr (f := fun c => ρ' (8 + 29 * c + s)) (g := fun c => ρ (8 + 29 * c + s)) (fun i hi => e _ (by omega) (by omega))]
/-- pieces move between cases, box and one forme -/
theorem xc_move (X : XC ρ nj) {j : Nat} (hj : j < nj) (eo : ∀ y, y < 8 → ρ' y = ρ y) (e3 : ∀ i c s, i < nj → i ≠ j → c < 6 → s < 29 → fm ρ' i c s = fm ρ i c s)
    (e : ∀ s, s < 29 → sm 6 (fun c => ρ' (8 + 29 * c + s)) + sm 6 (fun c => fm ρ' j c s) + ρ' (182 + s) = sm 6 (fun c => ρ (8 + 29 * c + s)) + sm 6 (fun c => fm ρ j c s) + ρ (182 + s)) : XC ρ' nj := by
  refine X.same (fun s hs => ?_) (by rw [eo 6 (by decide), eo 7 (by decide)]) (by rw [eo 4 (by decide), eo 2 (by decide), eo 5 (by decide)])
  unfold tS
  have := e s hs
  rw [sm_but hj (fun j => sm 6 (fun c => fm ρ' j c s)), sm_but hj (fun j => sm 6 (fun c => fm ρ j c s)), sm_congr (f := fun c => if c = j then 0 else sm 6 (fun q => fm ρ' c q s)) (g := fun c => if c = j then 0 else sm 6 (fun q => fm ρ c q s)) (fun i hi => by
    by_cases z : i = j
    · rw [if_pos z, if_pos z]
    · rw [if_neg z, if_neg z]; exact sm_congr (fun q hq => e3 i q s hi z hq hs))]
  grind
theorem xc_set (X : XC ρ nj) {j hm : Nat} (hj : j < nj) (hg : (jL ρ j).1.2.2.1 ≤ 30) (hP : SetP ρ nc j hm ρ') : XC ρ' nj := by
  obtain ⟨p1, p2, p3, p4, p5⟩ := hP
  have po : ∀ y, (y < 8 ∨ (182 ≤ y ∧ (y < 211 + 272 * j + 3 ∨ 211 + 272 * j + 241 + (jL ρ j).1.2.2.1 ≤ y ))) → ρ' y = ρ y := fun y hy => p5 y (fun c s a b => by omega) (fun g hg => by omega) (by omega)
  have pf : ∀ i c s, i ≠ j → c < 6 → s < 29 → fm ρ' i c s = fm ρ i c s := fun i c s z a b => by
    unfold fm
    rcases Nat.lt_or_gt_of_ne z with w | w
    · exact po _ (by omega)
    · exact po _ (by omega)
  refine xc_move X hj (fun y hy => po y (by omega)) (fun i c s _ z a b => pf i c s z a b) (fun s hs => ?_)
  rw [po (182 + s) (by omega), ← sm_add, ← sm_add]
  congr 1
  refine sm_congr (fun c hc => ?_)
  rw [p1 c s hc hs, p2 c s hc hs]
  by_cases z : c = hm ∨ c < nc
  · rw [if_pos z, if_pos z]; grind
  · rw [if_neg z, if_neg z]
theorem xc_gone (X : XC ρ nj) {j : Nat} (hj : j < nj) {w v : Int32} (h6 : nc ≤ 6) (z2 : ∀ c s, nc ≤ c → c < 6 → s < 29 → fm ρ j c s = 0) (hG : Gone (ur ρ (211 + 272 * j + 3) v) nc j w ρ') : XC ρ' nj := by
  obtain ⟨p1, p2, p3, p4⟩ := hG
  refine xc_move X hj (fun y hy => by rw [p4 y (by omega), ur_n (by omega)]) (fun i c s _ z a b => ?_) (fun s hs => ?_)
  · unfold fm
    rcases Nat.lt_or_gt_of_ne z with u | u
    · rw [p4 _ (by omega), ur_n (by omega)]
    · rw [p4 _ (by omega), ur_n (by omega)]
  · have e1 : sm nc (fun c => tobox (ur ρ (211 + 272 * j + 3) v) j w c s) = sm 6 (fun c => if c < nc then tobox ρ j w c s else 0) := by
      rw [sm_ext (f := fun c => if c < nc then tobox ρ j w c s else 0) h6 (fun i a b => if_neg (by omega))]
      refine sm_congr (fun c hc => ?_)
      rw [if_pos hc]
      unfold tobox
      rw [back_ur (by omega) hs]
      congr 1
      exact ur_n (by omega)
    rw [p2 s hs, e1, ur_n (by omega), Int32.add_comm (ρ (182 + s)), ← Int32.add_assoc, ← sm_add, ← sm_add, ← sm_add]
    congr 1
    refine sm_congr (fun c hc => ?_)
    rw [p1 c s hc hs, p3 c s hc hs, back_ur hc hs, ur_n (by omega)]
    by_cases z : c < nc
    · rw [if_pos z, if_pos z, if_pos z]
      unfold tobox; grind
    · rw [if_neg z, if_neg z, if_neg z, z2 c s (by omega) hc hs, show fm (ur ρ (211 + 272 * j + 3) v) j c s = fm ρ j c s from ur_n (by omega), z2 c s (by omega) hc hs]
      grind
end CONS
