/-! lines and gaps of a layout: pure -/
abbrev lnB (tx : Nat → Int32) (L : LySt) (l : Nat) : Nat := cB tx (L.2.1 l) (L.2.2.1 l - L.2.1 l)
abbrev lnR (tx : Nat → Int32) (meas : Int32) (L : LySt) (l : Nat) : Int32 := meas - sW tx (L.2.1 l) (L.2.2.1 l - L.2.1 l)
/-- what holds of the lines that are laid -/
def LI (tx : Nat → Int32) (meas : Int32) (L : LySt) : Prop :=
  L.2.2.2.1 0 = 0 ∧ L.2.2.2.1 L.1.1 = L.1.2.2.1 ∧ (∀ l, l ≤ L.1.1 → L.2.2.2.1 l ≤ L.1.2.2.1) ∧ (∀ l, l < L.1.1 → L.2.1 l ≤ L.2.2.1 l ∧ L.2.2.2.1 (l + 1) = L.2.2.2.1 l + gc (lnB tx L l) ∧
    (∀ k, k < gc (lnB tx L l) → L.2.2.2.2 (L.2.2.2.1 l + k) = gw (lnR tx meas L l) (gc (lnB tx L l)) k) ∧ (L.1.2.2.2 = false → ¬ lnR tx meas L l < nI (lnB tx L l))) ∧ L.1.2.1 = sN L.1.1 (fun l => cL tx (L.2.1 l) (L.2.2.1 l - L.2.1 l))
theorem LI.z (tx : Nat → Int32) (meas : Int32) : LI tx meas ly0 := ⟨rfl, rfl, fun _ _ => Nat.le_refl _, fun l hl => absurd hl (Nat.not_lt_zero _), rfl⟩
theorem sN_congr {n : Nat} {f g : Nat → Nat} (h : ∀ i, i < n → f i = g i) : sN n f = sN n g := by
  induction n with
  | zero => rfl
  | succ n ih => show sN n f + f n = sN n g + g n; rw [ih (fun i hi => h i (by omega)), h n (by omega)]
theorem LI.add {tx : Nat → Int32} {meas : Int32} {L : LySt} (h : LI tx meas L) {a b : Nat} (hab : a ≤ b) : LI tx meas (lyL tx meas a b L) := by
  obtain ⟨h1, h2, h3, h4, h5⟩ := h
  obtain ⟨⟨nL, nLet, nG, tw⟩, ST, EN, FG, W⟩ := L
  simp only at h1 h2 h3 h4 h5
  have eST : ∀ l, l < nL → (if l = nL then a else ST l) = ST l := fun l hl => if_neg (by omega)
  have eEN : ∀ l, l < nL → (if l = nL then b else EN l) = EN l := fun l hl => if_neg (by omega)
  have eFG : ∀ l, l ≤ nL → (if l = nL + 1 then nG + gc (cB tx a (b - a)) else if l = nL then nG else FG l) = FG l := fun l hl => by
    rw [if_neg (by omega)]
    by_cases e : l = nL
    · rw [if_pos e, e]; exact h2.symm
    · rw [if_neg e]
  refine ⟨?_, ?_, fun l hl => ?_, fun l hl => ?_, ?_⟩
  · show (if 0 = nL + 1 then nG + gc (cB tx a (b - a)) else if 0 = nL then nG else FG 0) = 0
    rw [eFG 0 (by omega)]; exact h1
  · show (if nL + 1 = nL + 1 then nG + gc (cB tx a (b - a)) else _) = nG + gc (cB tx a (b - a))
    rw [if_pos rfl]
  · show (if l = nL + 1 then nG + gc (cB tx a (b - a)) else if l = nL then nG else FG l) ≤ nG + gc (cB tx a (b - a))
    by_cases e : l = nL + 1
    · rw [if_pos e]; exact Nat.le_refl _
    · have : l ≤ nL + 1 := hl
      rw [eFG l (by omega)]
      have := h3 l (by omega)
      omega
  · have hl' : l < nL + 1 := hl
    show (if l = nL then a else ST l) ≤ (if l = nL then b else EN l) ∧ (if l + 1 = nL + 1 then nG + gc (cB tx a (b - a)) else if l + 1 = nL then nG else FG (l + 1)) = (if l = nL + 1 then nG + gc (cB tx a (b - a)) else if l = nL then nG else FG l) + gc (cB tx (if l = nL then a else ST l) ((if l = nL then b else EN l) - (if l = nL then a else ST l))) ∧
      (∀ k, k < gc (cB tx (if l = nL then a else ST l) ((if l = nL then b else EN l) - (if l = nL then a else ST l))) → (if nG ≤ (if l = nL + 1 then nG + gc (cB tx a (b - a)) else if l = nL then nG else FG l) + k ∧ (if l = nL + 1 then nG + gc (cB tx a (b - a)) else if l = nL then nG else FG l) + k < nG + gc (cB tx a (b - a)) then gw (meas - sW tx a (b - a)) (gc (cB tx a (b - a))) ((if l = nL + 1 then nG + gc (cB tx a (b - a)) else if l = nL then nG else FG l) + k - nG) else W ((if l = nL + 1 then nG + gc (cB tx a (b - a)) else if l = nL then nG else FG l) + k)) = gw (meas - sW tx (if l = nL then a else ST l) ((if l = nL then b else EN l) - (if l = nL then a else ST l))) (gc (cB tx (if l = nL then a else ST l) ((if l = nL then b else EN l) - (if l = nL then a else ST l)))) k) ∧
      ((tw || decide (meas - sW tx a (b - a) < nI (cB tx a (b - a)))) = false → ¬ meas - sW tx (if l = nL then a else ST l) ((if l = nL then b else EN l) - (if l = nL then a else ST l)) < nI (cB tx (if l = nL then a else ST l) ((if l = nL then b else EN l) - (if l = nL then a else ST l))))
    by_cases e : l = nL
    · subst e
      rw [if_pos rfl, if_pos rfl, if_pos rfl, if_neg (by omega), if_pos rfl]
      refine ⟨hab, rfl, fun k hk => ?_, fun z => ?_⟩
      · rw [if_pos (by omega), show nG + k - nG = k by omega]
      · rw [Bool.or_eq_false_iff] at z
        exact of_decide_eq_false z.2
    · have hl2 : l < nL := by omega
      obtain ⟨g1, g2, g3, g4⟩ := h4 l hl2
      rw [eST l hl2, eEN l hl2, eFG l (by omega), eFG (l + 1) (by omega)]
      refine ⟨g1, g2, fun k hk => ?_, fun z => ?_⟩
      · have h3' : FG (l + 1) ≤ nG := h3 (l + 1) (by omega)
        have g2' : FG (l + 1) = FG l + gc (cB tx (ST l) (EN l - ST l)) := g2
        rw [if_neg (by omega)]
        exact g3 k hk
      · rw [Bool.or_eq_false_iff] at z
        exact g4 z.1
  · show nLet + cL tx a (b - a) = sN nL (fun l => cL tx (if l = nL then a else ST l) ((if l = nL then b else EN l) - (if l = nL then a else ST l))) + cL tx (if nL = nL then a else ST nL) ((if nL = nL then b else EN nL) - (if nL = nL then a else ST nL))
    rw [if_pos rfl, if_pos rfl, h5]
    congr 1
    exact sN_congr (fun l hl => by rw [eST l hl, eEN l hl])
theorem cL_app (tx : Nat → Int32) (a n k : Nat) : cL tx a (n + k) = cL tx a n + cL tx (a + n) k := by
  induction k with
  | zero => rfl
  | succ k ih =>
    show cL tx a (n + k) + (if isL (tx (a + (n + k))) then 1 else 0) = cL tx a n + (cL tx (a + n) k + (if isL (tx (a + n + k)) then 1 else 0))
    rw [ih, show a + (n + k) = a + n + k by omega]
    omega
theorem lyI_LI {tx : Nat → Int32} {meas : Int32} {len : Nat} : ∀ i, i ≤ len → (lyI tx meas len i).1 ≤ i ∧ LI tx meas (lyI tx meas len i).2 ∧ (lyI tx meas len i).2.1.2.1 + cL tx (lyI tx meas len i).1 (i - (lyI tx meas len i).1) = cL tx 0 i := by
  intro i
  induction i with
  | zero => intro _; exact ⟨Nat.le_refl _, LI.z tx meas, rfl⟩
  | succ i ih =>
    intro hi
    obtain ⟨h1, h2, h3⟩ := ih (by omega)
    have e1 : cL tx 0 (i + 1) = cL tx 0 i + (if isL (tx i) then 1 else 0) := by
      show cL tx 0 i + (if isL (tx (0 + i)) then 1 else 0) = _
      rw [Nat.zero_add]
    unfold lyI
    by_cases e : i = len ∨ tx i = 47
    · rw [if_pos e]
      have h47 : tx i = 47 := e.elim (fun q => by omega) id
      refine ⟨Nat.le_refl _, h2.add h1, ?_⟩
      show (lyI tx meas len i).2.1.2.1 + cL tx (lyI tx meas len i).1 (i - (lyI tx meas len i).1) + cL tx (i + 1) (i + 1 - (i + 1)) = _
      rw [h3, e1, if_neg (by rw [h47]; exact isL47), show i + 1 - (i + 1) = 0 by omega]
      rfl
    · rw [if_neg e]
      refine ⟨by omega, h2, ?_⟩
      rw [e1, ← h3, show i + 1 - (lyI tx meas len i).1 = (i - (lyI tx meas len i).1) + 1 by omega]
      show _ + (cL tx _ (i - (lyI tx meas len i).1) + (if isL (tx ((lyI tx meas len i).1 + (i - (lyI tx meas len i).1))) then 1 else 0)) = _
      rw [show (lyI tx meas len i).1 + (i - (lyI tx meas len i).1) = i by omega]
      omega
theorem lay_LI (tx : Nat → Int32) (meas : Int32) (len : Nat) : LI tx meas (lay tx meas len) ∧ (lay tx meas len).1.2.1 = cL tx 0 len := by
  obtain ⟨h1, h2, h3⟩ := lyI_LI (tx := tx) (meas := meas) (len := len) len (Nat.le_refl _)
  rw [lay_last]
  exact ⟨h2.add h1, h3⟩
/-! sums of what is filled in -/
theorem smS' (n : Nat) (f : Nat → Int32) : sm (n + 1) f = f 0 + sm n (fun i => f (i + 1)) := by
  rw [show n + 1 = 1 + n by omega, sm_app, show sm 1 f = f 0 from by rw [smS, sm0, Int32.zero_add]]
  congr 1
  exact sm_congr (fun i _ => by rw [show 1 + i = i + 1 by omega])
theorem gw_N {r G k : Nat} (hr : r < 2 ^ 20) (hG : 0 < G) (hG2 : G < 2 ^ 20) (hk : k < 2 ^ 20) : gw (nI r) G k = nI (r / G + if r % G ≤ k then 0 else 1) := by
  unfold gw
  rw [pk_div (by omega) hG (by omega), pk_mul, pk_sub (Nat.div_mul_le_self r G)]
  have e : r - r / G * G = r % G := by have := Nat.div_add_mod r G; rw [Nat.mul_comm] at this; omega
  have := Nat.mod_lt r hG
  rw [e]
  by_cases z : r % G ≤ k
  · rw [if_pos ((nle (by omega) (by omega)).mpr z), if_pos z]; exact nI_add _ 0
  · rw [if_neg (fun w => z ((nle (by omega) (by omega)).mp w)), if_neg z, nI_1]
theorem gw_sum {r G : Nat} (hr : r < 2 ^ 20) (hG : 0 < G) (hG2 : G < 2 ^ 20) : sm G (fun k => gw (nI r) G k) = nI r := by
  have key : ∀ n, n ≤ G → sm n (fun k => gw (nI r) G k) = nI (n * (r / G) + min n (r % G)) := by
    intro n
    induction n with
    | zero => intro _; rw [sm0, Nat.zero_mul, Nat.zero_min]; rfl
    | succ n ih =>
      intro hn
      rw [smS, ih (by omega), gw_N hr hG hG2 (by omega), nI_add]
      congr 1
      rw [Nat.succ_mul]
      by_cases z : r % G ≤ n
      · rw [if_pos z]; omega
      · rw [if_neg z]; omega
  have := Nat.mod_lt r hG
  rw [key G (Nat.le_refl _), show min G (r % G) = r % G by omega]
  congr 1
  exact Nat.div_add_mod r G
/-- the pieces of a gap, of a line -/
def gpl (p4 p2 p1 : Nat → Nat) (g : Nat) : List Nat := List.replicate (p4 g) 52 ++ (List.replicate (p2 g) 50 ++ List.replicate (p1 g) 49)
def pl (tx : Nat → Int32) (p4 p2 p1 : Nat → Nat) (G : Nat) : Nat → Nat → Nat → List Nat
  | 0, g, _ => if G ≤ g then [] else gpl p4 p2 p1 g
  | d + 1, g, i => if isL (tx i) then ix (tx i) :: pl tx p4 p2 p1 G d g (i + 1) else gpl p4 p2 p1 g ++ pl tx p4 p2 p1 G d (g + 1) (i + 1)
def pr (o : Option Nat) : Int32 := match o with
  | none => -5
  | some v => nI v
theorem gpl_get (p4 p2 p1 : Nat → Nat) (g : Nat) (l : List Nat) (p : Nat) : (gpl p4 p2 p1 g ++ l)[p]? = if p < p4 g then some 52 else if p < p4 g + p2 g then some 50 else if p < p4 g + p2 g + p1 g then some 49 else l[p - (p4 g + p2 g + p1 g)]? := by
  unfold gpl
  rw [List.append_assoc, List.append_assoc]
  by_cases h1 : p < p4 g
  · rw [if_pos h1, List.getElem?_append_left (by rw [List.length_replicate]; exact h1), List.getElem?_replicate, if_pos h1]
  · rw [if_neg h1, List.getElem?_append_right (by rw [List.length_replicate]; omega), List.length_replicate]
    by_cases h2 : p < p4 g + p2 g
    · rw [if_pos h2, List.getElem?_append_left (by rw [List.length_replicate]; omega), List.getElem?_replicate, if_pos (by omega)]
    · rw [if_neg h2, List.getElem?_append_right (by rw [List.length_replicate]; omega), List.length_replicate]
      by_cases h3 : p < p4 g + p2 g + p1 g
      · rw [if_pos h3, List.getElem?_append_left (by rw [List.length_replicate]; omega), List.getElem?_replicate, if_pos (by omega)]
      · rw [if_neg h3, List.getElem?_append_right (by rw [List.length_replicate]; omega), List.length_replicate]
        congr 1
        omega
theorem cB_head (tx : Nat → Int32) (i d : Nat) : cB tx i (d + 1) = (if isL (tx i) then 0 else 1) + cB tx (i + 1) d := by
  rw [show d + 1 = 1 + d by omega, cB_app]
  congr 1
  show 0 + (if isL (tx (i + 0)) then 0 else 1) = _
  rw [Nat.zero_add, Nat.add_zero]
theorem pc_pl {tx F : Nat → Int32} {p4 p2 p1 : Nat → Nat} {G : Nat} (hF : ∀ g, g < G → F g = nI (1000000 * p4 g + 1000 * p2 g + p1 g) ∧ p4 g < 1000 ∧ p2 g < 1000 ∧ p1 g < 1000) : ∀ (d p g i : Nat), p < 2 ^ 31 → g + cB tx i d ≤ G → pcW tx F G d (nI p) g i = pr ((pl tx p4 p2 p1 G d g i)[p]?) := by
  intro d
  induction d with
  | zero =>
    intro p g i hp hg
    unfold pcW pl
    by_cases z : G ≤ g
    · rw [if_pos z, if_pos z]; rfl
    · rw [if_neg z, if_neg z]
      obtain ⟨f0, f1, f2, f3⟩ := hF g (by omega)
      rw [f0, (sp_parts f1 f2 f3).2 p hp, ← List.append_nil (gpl p4 p2 p1 g), gpl_get]
      by_cases h1 : p < p4 g
      · rw [if_pos h1, if_neg (by omega)]; rfl
      · rw [if_neg h1, if_pos (by omega)]
        by_cases h2 : p < p4 g + p2 g
        · rw [if_pos h2, if_neg (by omega)]; rfl
        · rw [if_neg h2, if_pos (by omega)]
          by_cases h3 : p < p4 g + p2 g + p1 g
          · rw [if_pos h3, if_neg (by omega)]; rfl
          · rw [if_neg h3, if_pos (by omega)]; rfl
  | succ d ih =>
    intro p g i hp hg
    rw [cB_head] at hg
    unfold pcW pl
    by_cases e : isL (tx i)
    · rw [if_pos e, if_pos e]
      rw [if_pos e] at hg
      cases p with
      | zero =>
        rw [if_pos (show nI 0 = 0 from rfl)]
        obtain ⟨s, s1, s2, s3⟩ := isL_of e
        rw [s3, ix_nI (by omega)]; rfl
      | succ p =>
        rw [if_neg (nI_ne0 (by omega) hp), pk_m1, ih p g (i + 1) (by omega) (by omega)]
        rfl
    · rw [if_neg e, if_neg e]
      rw [if_neg e] at hg
      obtain ⟨f0, f1, f2, f3⟩ := hF g (by omega)
      rw [f0, (sp_parts f1 f2 f3).1, gpl_get]
      by_cases h3 : p4 g + p2 g + p1 g ≤ p
      · rw [if_pos ((nle (by omega) hp).mpr h3), if_neg (by omega), if_neg (by omega), if_neg (by omega), pk_sub h3]
        exact ih _ (g + 1) (i + 1) (by omega) (by omega)
      · rw [if_neg (fun w => h3 ((nle (by omega) hp).mp w)), (sp_parts f1 f2 f3).2 p hp]
        by_cases h1 : p < p4 g
        · rw [if_pos h1, if_neg (by omega)]; rfl
        · rw [if_neg h1, if_pos (by omega)]
          by_cases h2 : p < p4 g + p2 g
          · rw [if_pos h2, if_neg (by omega)]; rfl
          · rw [if_neg h2, if_pos (show p4 g + p2 g ≤ p by omega), if_neg h3, if_pos (show p < p4 g + p2 g + p1 g by omega)]; rfl
/-- sums over a list -/
def lsm (φ : Nat → Int32) : List Nat → Int32
  | [] => 0
  | v :: l => φ v + lsm φ l
theorem lsm_app (φ : Nat → Int32) (a b : List Nat) : lsm φ (a ++ b) = lsm φ a + lsm φ b := by
  induction a with
  | nil => show lsm φ b = 0 + _; rw [Int32.zero_add]
  | cons v a ih => show φ v + lsm φ (a ++ b) = φ v + lsm φ a + lsm φ b; rw [ih, Int32.add_assoc]
theorem lsm_rep (φ : Nat → Int32) (n v : Nat) : lsm φ (List.replicate n v) = nI n * φ v := by
  induction n with
  | zero => show (0 : Int32) = nI 0 * φ v; rw [show nI 0 = 0 from rfl, Int32.zero_mul]
  | succ n ih => rw [List.replicate_succ]; show φ v + lsm φ (List.replicate n v) = _; rw [ih, ← nI_1]; grind
theorem lsm_sm (φ : Nat → Int32) : ∀ l : List Nat, sm l.length (fun q => φ (l.getD q 0)) = lsm φ l := by
  intro l
  induction l with
  | nil => rfl
  | cons v l ih =>
    rw [List.length_cons, smS']
    show φ v + sm l.length (fun i => φ (l.getD i 0)) = φ v + lsm φ l
    rw [ih]
abbrev lt1 (tx : Nat → Int32) (φ : Nat → Int32) (i : Nat) : Nat → Int32 := fun q => if isL (tx (i + q)) then φ (ix (tx (i + q))) else 0
theorem lsm_pl {tx : Nat → Int32} {p4 p2 p1 : Nat → Nat} {G : Nat} (φ : Nat → Int32) : ∀ (d g i : Nat), g + cB tx i d ≤ G → lsm φ (pl tx p4 p2 p1 G d g i) = sm d (lt1 tx φ i) + sm (cB tx i d + if G ≤ g + cB tx i d then 0 else 1) (fun q => lsm φ (gpl p4 p2 p1 (g + q))) := by
  intro d
  induction d with
  | zero =>
    intro g i hg
    unfold pl
    have e0 : cB tx i 0 = 0 := rfl
    rw [e0, sm0, Int32.zero_add, Nat.add_zero, Nat.zero_add]
    by_cases z : G ≤ g
    · rw [if_pos z, if_pos z]; rfl
    · rw [if_neg z, if_neg z, smS, sm0, Int32.zero_add, Nat.add_zero]
  | succ d ih =>
    intro g i hg
    have ee : sm d (fun q => lt1 tx φ i (q + 1)) = sm d (lt1 tx φ (i + 1)) := sm_congr (fun q _ => by show (if isL (tx (i + (q + 1))) then _ else _) = _; rw [show i + (q + 1) = i + 1 + q by omega])
    rw [smS', ee]
    rw [cB_head] at hg ⊢
    unfold pl
    by_cases e : isL (tx i)
    · rw [if_pos e] at hg
      rw [if_pos e, if_pos e, Nat.zero_add, show lt1 tx φ i 0 = φ (ix (tx i)) from if_pos e]
      show φ (ix (tx i)) + lsm φ (pl tx p4 p2 p1 G d g (i + 1)) = _
      rw [ih g (i + 1) (by omega), Int32.add_assoc]
    · rw [if_neg e] at hg
      rw [if_neg e, if_neg e, show lt1 tx φ i 0 = 0 from if_neg e, Int32.zero_add, lsm_app, ih (g + 1) (i + 1) (by omega), show g + (1 + cB tx (i + 1) d) = g + 1 + cB tx (i + 1) d by omega, show 1 + cB tx (i + 1) d + (if G ≤ g + 1 + cB tx (i + 1) d then 0 else 1) = (cB tx (i + 1) d + if G ≤ g + 1 + cB tx (i + 1) d then 0 else 1) + 1 by omega, smS', sm_congr (f := fun q => lsm φ (gpl p4 p2 p1 (g + 1 + q))) (g := fun q => lsm φ (gpl p4 p2 p1 (g + (q + 1)))) (fun q _ => by rw [show g + 1 + q = g + (q + 1) by omega])]
      rw [Nat.add_zero]
      grind
/-- a line's sums: its letters', its gaps' -/
theorem lsm_line {tx : Nat → Int32} {p4 p2 p1 : Nat → Nat} (φ : Nat → Int32) (a n g : Nat) : lsm φ (pl tx p4 p2 p1 (g + gc (cB tx a n)) n g a) = sm n (lt1 tx φ a) + sm (gc (cB tx a n)) (fun q => lsm φ (gpl p4 p2 p1 (g + q))) := by
  have h : cB tx a n ≤ gc (cB tx a n) := by unfold gc; split <;> omega
  rw [lsm_pl φ n g a (by omega)]
  congr 2
  unfold gc
  by_cases z : cB tx a n = 0
  · rw [if_pos z, if_neg (by omega)]; omega
  · rw [if_neg z, if_pos (by omega)]; omega
