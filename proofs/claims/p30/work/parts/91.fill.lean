/-! a job: its lines, its gaps, the pieces of its forme -/
theorem sW_sm (tx : Nat → Int32) (a n : Nat) : sW tx a n = sm n (fun q => if isL (tx (a + q)) then lw (tx (a + q)) else 0) := by
  induction n with
  | zero => rfl
  | succ n ih => unfold sW; rw [ih]; rfl
theorem cL_sm (tx : Nat → Int32) (a n : Nat) : nI (cL tx a n) = sm n (fun q => if isL (tx (a + q)) then 1 else 0) := by
  induction n with
  | zero => rfl
  | succ n ih =>
    unfold cL
    rw [← nI_add, ih, smS]
    congr 1
    split <;> rfl
/-- a line: its rest, its gaps -/
theorem line_facts {ρ : Row} {j : Nat} (hJ : JW ρ j) {l : Nat} (hl : l < (jL ρ j).1.1) : ∃ r, r ≤ 150 ∧ FGl ρ j (l + 1) = FGl ρ j l + gc (lnB (jtx ρ j) (jL ρ j) l) ∧ FGl ρ j (l + 1) ≤ (jL ρ j).1.2.2.1 ∧
    (∀ k, k < gc (lnB (jtx ρ j) (jL ρ j) l) → (jL ρ j).2.2.2.2 (FGl ρ j l + k) = nI (r / gc (lnB (jtx ρ j) (jL ρ j) l) + if r % gc (lnB (jtx ρ j) (jL ρ j) l) ≤ k then 0 else 1)) ∧
    sW (jtx ρ j) ((jL ρ j).2.1 l) ((jL ρ j).2.2.1 l - (jL ρ j).2.1 l) + nI r = jb ρ j 1 ∧ sm (gc (lnB (jtx ρ j) (jL ρ j) l)) (fun q => (jL ρ j).2.2.2.2 (FGl ρ j l + q)) = nI r ∧ 0 < gc (lnB (jtx ρ j) (jL ρ j) l) := by
  obtain ⟨hT, ⟨m, m1, m2⟩, tw⟩ := hJ
  obtain ⟨⟨l1, l2, l3, l4, l5⟩, -⟩ := lay_LI (jtx ρ j) (jb ρ j 1) (jlen ρ j)
  obtain ⟨g1, g2, g3, g4⟩ := l4 l hl
  have g4' := g4 tw
  have hG := l3 (l + 1) (by have : l < (lay (jtx ρ j) (jb ρ j 1) (jlen ρ j)).1.1 := hl; omega)
  have h30 : (jL ρ j).1.2.2.1 ≤ 30 := (lay_bound (meas := jb ρ j 1) hT.2).2
  have hgp : 0 < gc (lnB (jtx ρ j) (jL ρ j) l) := by unfold gc; split <;> omega
  have hg30 : gc (lnB (jtx ρ j) (jL ρ j) l) ≤ 30 := by
    have e1 : FGl ρ j (l + 1) = FGl ρ j l + gc (lnB (jtx ρ j) (jL ρ j) l) := g2
    have e2 : FGl ρ j (l + 1) ≤ (jL ρ j).1.2.2.1 := hG
    omega
  obtain ⟨s, s1, s2⟩ := sW_nI (jtx ρ j) ((jL ρ j).2.1 l) ((jL ρ j).2.2.1 l - (jL ρ j).2.1 l)
  have hlen : (jL ρ j).2.2.1 l - (jL ρ j).2.1 l ≤ 2 ^ 20 := by
    by_cases z : (jL ρ j).2.2.1 l - (jL ρ j).2.1 l ≤ 2 ^ 20
    · exact z
    · exfalso
      have c1 := cLB (jtx ρ j) ((jL ρ j).2.1 l) ((jL ρ j).2.2.1 l - (jL ρ j).2.1 l)
      have c2 : lnB (jtx ρ j) (jL ρ j) l ≤ 30 := by unfold gc at hg30; split at hg30 <;> omega
      have c3 : (lay (jtx ρ j) (jb ρ j 1) (jlen ρ j)).1.2.1 = cL (jtx ρ j) 0 (jlen ρ j) := (lay_LI (jtx ρ j) (jb ρ j 1) (jlen ρ j)).2
      have c4 := cLB (jtx ρ j) 0 (jlen ρ j)
      have c5 : ∀ n, l < n → cL (jtx ρ j) ((jL ρ j).2.1 l) ((jL ρ j).2.2.1 l - (jL ρ j).2.1 l) ≤ sN n (fun l => cL (jtx ρ j) ((jL ρ j).2.1 l) ((jL ρ j).2.2.1 l - (jL ρ j).2.1 l)) := by
        intro n
        induction n with
        | zero => intro h; omega
        | succ n ih =>
          intro h
          show _ ≤ sN n _ + cL _ ((jL ρ j).2.1 n) _
          by_cases e : l = n
          · subst e; exact Nat.le_add_left _ _
          · exact Nat.le_trans (ih (by omega)) (Nat.le_add_right _ _)
      have c6 := c5 _ hl
      have c7 : (jL ρ j).1.2.1 = sN (jL ρ j).1.1 (fun l => cL (jtx ρ j) ((jL ρ j).2.1 l) ((jL ρ j).2.2.1 l - (jL ρ j).2.1 l)) := l5
      have c8 : (jL ρ j).1.2.1 = cL (jtx ρ j) 0 (jlen ρ j) := c3
      have c9 := hT.2.2.1
      have c10 : cB (jtx ρ j) ((jL ρ j).2.1 l) ((jL ρ j).2.2.1 l - (jL ρ j).2.1 l) ≤ 30 := c2
      rw [← c7, c8] at c6
      omega
  have hb : lnB (jtx ρ j) (jL ρ j) l ≤ 30 := by unfold gc at hg30; split at hg30 <;> omega
  have hlr : lnR (jtx ρ j) (jb ρ j 1) (jL ρ j) l = nI m - nI s := by unfold lnR; rw [m2, s2]
  have hsm : s + lnB (jtx ρ j) (jL ρ j) l ≤ m := by
    have z : ¬ nI m - nI s < nI (lnB (jtx ρ j) (jL ρ j) l) := by rw [← hlr]; exact g4'
    rw [Int32.lt_iff_toInt_lt, pk_sub_toInt (by omega) (by omega), nI_toInt (by omega)] at z
    omega
  have hr : lnR (jtx ρ j) (jb ρ j 1) (jL ρ j) l = nI (m - s) := by rw [hlr, pk_sub (by omega)]
  refine ⟨m - s, by omega, g2, hG, fun k hk => ?_, ?_, ?_, hgp⟩
  · rw [← gw_N (by omega) hgp (by omega) (by omega), ← hr]; exact g3 k hk
  · rw [m2, s2, nI_add]; congr 1; omega
  · rw [← gw_sum (r := m - s) (by omega) hgp (by omega), ← hr]
    exact sm_congr (fun k hk => g3 k hk)
theorem sm_nd (tx : Nat → Int32) : ∀ n, sm 26 (fun s => nd tx s n) = nI (cL tx 0 n) := by
  intro n
  induction n with
  | zero => exact sm_zero (fun _ _ => rfl)
  | succ n ih =>
    have e : (fun s => nd tx s (n + 1)) = fun s => nd tx s n + (if isL (tx n) ∧ ix (tx n - 97) = s then 1 else 0) := rfl
    have key : sm 26 (fun s => if isL (tx n) ∧ ix (tx n - 97) = s then 1 else 0) = nI (if isL (tx n) then 1 else 0) := by
      by_cases z : isL (tx n)
      · obtain ⟨s, s1, s2, s3⟩ := isL_of z
        rw [if_pos z, sm_one (k := s) s1 (fun i _ hi => if_neg (fun w => hi (by rw [← w.2, s2, ix_nI (by omega)]))), if_pos ⟨z, by rw [s2, ix_nI (by omega)]⟩]
        rfl
      · rw [if_neg z, sm_zero (fun i _ => if_neg (fun w => z w.1))]
        rfl
    rw [e, sm_add, ih, key, nI_add, show cL tx 0 (n + 1) = cL tx 0 n + (if isL (tx (0 + n)) then 1 else 0) from rfl, Nat.zero_add]
theorem fN_sm (w : Nat → Nat) (A B : Nat) : ∀ g, nI (fN w A B g).1 = sm g (fun g => nI (n4 w A B g)) ∧ nI (fN w A B g).2.1 = sm g (fun g => nI (n2 w A B g)) ∧ nI (fN w A B g).2.2 = sm g (fun g => nI (n1 w A B g)) := by
  intro g
  induction g with
  | zero => exact ⟨rfl, rfl, rfl⟩
  | succ g ih =>
    obtain ⟨h1, h2, h3⟩ := ih
    rw [fN_S]
    exact ⟨by rw [← nI_add, h1]; rfl, by rw [← nI_add, h2]; rfl, by rw [← nI_add, h3]; rfl⟩
/-- a forme that has what is needed -/
theorem fill_facts {ρ : Row} {j : Nat} (hJ : JW ρ j) (hF : FX ρ j) : ∃ p4 p2 p1 : Nat → Nat, (∀ g, g < (jL ρ j).1.2.2.1 → jb ρ j (241 + g) = nI (1000000 * p4 g + 1000 * p2 g + p1 g) ∧ p4 g < 1000 ∧ p2 g < 1000 ∧ p1 g < 1000) ∧ (∀ g, g < (jL ρ j).1.2.2.1 → (jL ρ j).2.2.2.2 g = nI (4 * p4 g + 2 * p2 g + p1 g)) ∧
    sm 29 (fun s => sm 6 (fun c => fm ρ j c s)) = nI (cL (jtx ρ j) 0 (jlen ρ j)) + sm (jL ρ j).1.2.2.1 (fun g => nI (p4 g + p2 g + p1 g)) := by
  obtain ⟨w, hw⟩ := hJ.wide
  obtain ⟨A, B, hA, hB, f1, f2⟩ := hF
  have fl := fl_N (W := (jL ρ j).2.2.2.2) (w := w) (A := A) (B := B) (by omega) (by omega) hw
  have hn : ∀ g, 4 * n4 w A B g + 2 * n2 w A B g + n1 w A B g = w g := fun g => n_le
  refine ⟨n4 w A B, n2 w A B, n1 w A B, fun g hg => ?_, fun g hg => ?_, ?_⟩
  · obtain ⟨-, z⟩ := fl g (by omega)
    obtain ⟨z4, z2, z1⟩ := z hg
    have := hn g
    have := (hw g hg).2
    rw [f1 g hg, z4, z2, z1, filV_nI]
    exact ⟨rfl, by omega, by omega, by omega⟩
  · rw [hn g]; exact (hw g hg).1
  · obtain ⟨z, -⟩ := fl (jL ρ j).1.2.2.1 (Nat.le_refl _)
    obtain ⟨y1, y2, y3⟩ := fN_sm w A B (jL ρ j).1.2.2.1
    rw [sm_congr f2, smS 28, smS 27, smS 26, sm_congr (f := fun s => ndC ρ j (nI A) (nI B) s) (g := fun s => nd (jtx ρ j) s (jlen ρ j)) (fun s hs => if_pos hs), sm_nd,
      show ndC ρ j (nI A) (nI B) 26 = nI (fN w A B (jL ρ j).1.2.2.1).1 from by unfold ndC; rw [if_neg (by decide), if_pos rfl, z],
      show ndC ρ j (nI A) (nI B) 27 = nI (fN w A B (jL ρ j).1.2.2.1).2.1 from by unfold ndC; rw [if_neg (by decide), if_neg (by decide), if_pos rfl, z],
      show ndC ρ j (nI A) (nI B) 28 = nI (fN w A B (jL ρ j).1.2.2.1).2.2 from by unfold ndC; rw [if_neg (by decide), if_neg (by decide), if_neg (by decide), z], y1, y2, y3, Int32.add_assoc, Int32.add_assoc, ← sm_add, ← sm_add]
    congr 1
    exact sm_congr (fun g _ => by rw [nI_add, nI_add]; congr 1; omega)
/-! what the law adds up over a line -/
def phW (v : Nat) : Int32 := if 97 ≤ v then wd (v - 97) else nI (v - 48)
def phL (v : Nat) : Int32 := if 97 ≤ v then 1 else 0
theorem ln_let {tx : Nat → Int32} {φ : Nat → Int32} {c : Int32} (h : ∀ s, s < 26 → φ (97 + s) = c) (a n : Nat) : sm n (lt1 tx φ a) = nI (cL tx a n) * c := by
  rw [cL_sm, ← sm_mul]
  refine sm_congr (fun q _ => ?_)
  show (if isL (tx (a + q)) then φ (ix (tx (a + q))) else 0) = _
  by_cases z : isL (tx (a + q))
  · obtain ⟨s, s1, s2, s3⟩ := isL_of z
    rw [if_pos z, if_pos z, s3, ix_nI (by omega), h s s1, Int32.one_mul]
  · rw [if_neg z, if_neg z, Int32.zero_mul]
theorem ln_W (tx : Nat → Int32) (a n : Nat) : sm n (lt1 tx phW a) = sW tx a n := by
  rw [sW_sm]
  refine sm_congr (fun q _ => ?_)
  show (if isL (tx (a + q)) then phW (ix (tx (a + q))) else 0) = _
  by_cases z : isL (tx (a + q))
  · obtain ⟨s, s1, s2, s3⟩ := isL_of z
    rw [if_pos z, if_pos z]
    unfold lw phW
    rw [s2, s3, ix_nI (by omega), ix_nI (by omega), if_pos (by omega), show 97 + s - 97 = s by omega]
  · rw [if_neg z, if_neg z]
theorem gp_sum (φ : Nat → Int32) (p4 p2 p1 : Nat → Nat) (g : Nat) : lsm φ (gpl p4 p2 p1 g) = nI (p4 g) * φ 52 + (nI (p2 g) * φ 50 + nI (p1 g) * φ 49) := by
  unfold gpl
  rw [lsm_app, lsm_app, lsm_rep, lsm_rep, lsm_rep]
theorem lsm_1 (l : List Nat) : lsm (fun _ => 1) l = nI l.length := by
  induction l with
  | nil => rfl
  | cons v l ih => show 1 + lsm (fun _ => 1) l = nI (l.length + 1); rw [ih, ← nI_1, Int32.add_comm]
theorem pl_mem {tx : Nat → Int32} {p4 p2 p1 : Nat → Nat} {G : Nat} : ∀ (d g i : Nat) (v : Nat), v ∈ pl tx p4 p2 p1 G d g i → v = 49 ∨ v = 50 ∨ v = 52 ∨ ∃ s, s < 26 ∧ v = 97 + s := by
  have hg : ∀ g v, v ∈ gpl p4 p2 p1 g → v = 49 ∨ v = 50 ∨ v = 52 ∨ ∃ s, s < 26 ∧ v = 97 + s := fun g v hv => by
    unfold gpl at hv
    rcases List.mem_append.mp hv with z | z
    · exact Or.inr (Or.inr (Or.inl (List.eq_of_mem_replicate z)))
    · rcases List.mem_append.mp z with z | z
      · exact Or.inr (Or.inl (List.eq_of_mem_replicate z))
      · exact Or.inl (List.eq_of_mem_replicate z)
  intro d
  induction d with
  | zero =>
    intro g i v hv
    unfold pl at hv
    by_cases z : G ≤ g
    · rw [if_pos z] at hv; cases hv
    · rw [if_neg z] at hv; exact hg g v hv
  | succ d ih =>
    intro g i v hv
    unfold pl at hv
    by_cases z : isL (tx i)
    · rw [if_pos z] at hv
      rcases List.mem_cons.mp hv with e | e
      · obtain ⟨s, s1, s2, s3⟩ := isL_of z
        exact Or.inr (Or.inr (Or.inr ⟨s, s1, by rw [e, s3, ix_nI (by omega)]⟩))
      · exact ih g (i + 1) v e
    · rw [if_neg z] at hv
      rcases List.mem_append.mp hv with e | e
      · exact hg g v e
      · exact ih (g + 1) (i + 1) v e
theorem pl_len {tx : Nat → Int32} {p4 p2 p1 : Nat → Nat} {G : Nat} (hp : ∀ g, g < G → p4 g < 1000 ∧ p2 g < 1000 ∧ p1 g < 1000) : ∀ (d g i : Nat), g + cB tx i d ≤ G → (pl tx p4 p2 p1 G d g i).length ≤ 3000 * d + 3000 := by
  have hg : ∀ g, g < G → (gpl p4 p2 p1 g).length ≤ 3000 := fun g h => by
    unfold gpl
    rw [List.length_append, List.length_append, List.length_replicate, List.length_replicate, List.length_replicate]
    obtain ⟨a, b, c⟩ := hp g h
    omega
  intro d
  induction d with
  | zero =>
    intro g i h
    unfold pl
    by_cases z : G ≤ g
    · rw [if_pos z]; exact Nat.zero_le _
    · rw [if_neg z]; have := hg g (by omega); omega
  | succ d ih =>
    intro g i h
    rw [cB_head] at h
    unfold pl
    by_cases z : isL (tx i)
    · rw [if_pos z] at h ⊢
      have := ih g (i + 1) (by omega)
      rw [List.length_cons]; omega
    · rw [if_neg z] at h ⊢
      have := ih (g + 1) (i + 1) (by omega)
      have := hg g (by omega)
      rw [List.length_append]; omega
