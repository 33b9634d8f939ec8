/-! the law's method sound -/
section SOUND
variable {hh : Hp} {x k t nc nj d : Nat} {σ : Nat → Nat → Int32} {K : Int32 → Hp → Prop}
/-- the pieces of a line -/
abbrev PLn (ρ : Row) (j : Nat) (p4 p2 p1 : Nat → Nat) (l : Nat) : List Nat := pl (jtx ρ j) p4 p2 p1 (FGl ρ j (l + 1)) ((jL ρ j).2.2.1 l - (jL ρ j).2.1 l) (FGl ρ j l) ((jL ρ j).2.1 l)
theorem getD_some {l : List Nat} {k : Nat} (h : k < l.length) : l[k]? = some (l.getD k 0) := by
  rw [List.getD_eq_getElem?_getD, List.getElem?_eq_getElem h]; rfl
theorem so_133 (B : BN (σ 0) t nc nj d) {C : Nat → Int32 → Int32 → Int32 → Int32 → Int32 → Int32 → Int32 → Hp → Prop} {a2 a4 a5 a6 : Int32} {j l : Nat} (hj : j < nj) (hs : jb (σ 0) j 3 = 1 ∨ jb (σ 0) j 3 = 2) (hl : l < (jL (σ 0) j).1.1) (h30 : (jL (σ 0) j).1.1 ≤ 30) {p4 p2 p1 : Nat → Nat}
    (hF : ∀ g, g < FGl (σ 0) j (l + 1) → jb (σ 0) j (241 + g) = nI (1000000 * p4 g + 1000 * p2 g + p1 g) ∧ p4 g < 1000 ∧ p2 g < 1000 ∧ p1 g < 1000) (hB : FGl (σ 0) j l + lnB (jtx (σ 0) j) (jL (σ 0) j) l ≤ FGl (σ 0) j (l + 1)) (hlen : (PLn (σ 0) j p4 p2 p1 l).length < 2 ^ 30)
    (hW : lsm phW (PLn (σ 0) j p4 p2 p1 l) = jb (σ 0) j 1) (hC : ∀ h', Qh hh x σ k h' → C x (nI j) a2 1 a4 (a5 + nI (PLn (σ 0) j p4 p2 p1 l).length) (a6 + lsm phL (PLn (σ 0) j p4 p2 p1 l)) (nI (l + 1)) h') :
    ∀ (d i n : Nat) (h : Hp), i + d = (PLn (σ 0) j p4 p2 p1 l).length → d < n → Qh hh x σ k h → V_L_sound_133 K C n x (nI j) a2 1 a4 (a5 + nI i) (a6 + sm i (fun q => phL ((PLn (σ 0) j p4 p2 p1 l).getD q 0))) (nI l) (sm i (fun q => phW ((PLn (σ 0) j p4 p2 p1 l).getD q 0))) (nI i) h := by
  intro d
  induction d with
  | zero =>
    intro i n h h1 h2 q
    obtain ⟨n, rfl⟩ : ∃ m, n = m + 1 := ⟨n - 1, by omega⟩
    obtain rfl : i = (PLn (σ 0) j p4 p2 p1 l).length := by omega
    refine ⟨fun z => absurd z (by decide), fun _ => u_piece q B hj hs hl h30 (by omega) (fun h1 q1 => ?_)⟩
    rw [pc_pl hF _ _ _ _ (by omega) hB, List.getElem?_eq_none (Nat.le_refl _)]
    refine ⟨fun _ => ⟨fun z => absurd z (by decide), fun _ => u_job q1 B hj 1 (fun h2 q2 => ?_)⟩, fun z => absurd (by decide) z⟩
    rw [jv_1, lsm_sm, lsm_sm]
    refine ⟨fun z => absurd hW z, fun _ => ⟨fun _ => ?_, fun z => absurd z (by decide)⟩⟩
    unfold V_L_sound_230
    rw [nI_1]; exact hC h2 q2
  | succ d ih =>
    intro i n h h1 h2 q
    obtain ⟨n, rfl⟩ : ∃ m, n = m + 1 := ⟨n - 1, by omega⟩
    have go := ih (i + 1) n
    have hi : i < (PLn (σ 0) j p4 p2 p1 l).length := by omega
    have hm : (PLn (σ 0) j p4 p2 p1 l).getD i 0 ∈ PLn (σ 0) j p4 p2 p1 l := List.mem_of_getElem? (getD_some hi)
    have hv := pl_mem _ _ _ _ hm
    refine ⟨fun z => absurd z (by decide), fun _ => u_piece q B hj hs hl h30 (by omega) (fun h1 q1 => ?_)⟩
    rw [pc_pl hF _ _ _ _ (by omega) hB, getD_some hi]
    have hb : (PLn (σ 0) j p4 p2 p1 l).getD i 0 < 2 ^ 20 := by
      rcases hv with e | e | e | ⟨s, e1, e2⟩ <;> omega
    refine ⟨fun z => absurd z (cn0 (by omega)), fun _ => u_piece q1 B hj hs hl h30 (by omega) (fun h2 q2 => ?_)⟩
    rw [pc_pl hF _ _ _ _ (by omega) hB, getD_some hi]
    have go2 : ∀ h', Qh hh x σ k h' → ∀ v w : Int32, v = phW ((PLn (σ 0) j p4 p2 p1 l).getD i 0) → w = phL ((PLn (σ 0) j p4 p2 p1 l).getD i 0) → V_L_sound_187 K C (V_L_sound_133 K C n) x (nI j) a2 1 a4 ((a5 + nI i) + 1) (nI l) (sm i (fun q => phW ((PLn (σ 0) j p4 p2 p1 l).getD q 0)) + v) (nI i) (a6 + sm i (fun q => phL ((PLn (σ 0) j p4 p2 p1 l).getD q 0))) w h' := fun h' q' v w ev ew => by
      subst ev; subst ew
      unfold V_L_sound_187
      rw [nI_1, Int32.add_assoc, nI_1, Int32.add_assoc]
      exact go h' (by omega) (by omega) q'
    show V_L_wide (nI ((PLn (σ 0) j p4 p2 p1 l).getD i 0)) h2 _
    have l97 : ∀ v : Nat, v < 2 ^ 31 → (nI v < (97 : Int32) ↔ v < 97) := fun v hv => nI_ltI (b := 97) hv (by decide)
    generalize (PLn (σ 0) j p4 p2 p1 l).getD i 0 = v at hv go2 hb ⊢
    rcases hv with e | e | e | ⟨s, e1, e2⟩
    · subst e
      exact w_wideD (w := nI 1) (by decide) (by decide) ⟨fun _ => go2 h2 q2 _ _ (by decide) (by decide), fun z => absurd (by decide) z⟩
    · subst e
      exact w_wideD (w := nI 2) (by decide) (by decide) ⟨fun _ => go2 h2 q2 _ _ (by decide) (by decide), fun z => absurd (by decide) z⟩
    · subst e
      exact w_wideD (w := nI 4) (by decide) (by decide) ⟨fun _ => go2 h2 q2 _ _ (by decide) (by decide), fun z => absurd (by decide) z⟩
    · subst e2
      refine w_wideL e1 ⟨fun z => absurd ((l97 _ (by omega)).mp z) (by omega), fun _ => go2 h2 q2 _ _ ?_ ?_⟩
      · unfold phW; rw [if_pos (by omega), show 97 + s - 97 = s by omega]
      · unfold phL; rw [if_pos (by omega)]
theorem so_133N (B : BN (σ 0) t nc nj d) {C : Nat → Int32 → Int32 → Int32 → Int32 → Int32 → Int32 → Int32 → Hp → Prop} {a2 a4 a5 a6 a10 : Int32} {j l : Nat} (hj : j < nj) (hs : ¬ (jb (σ 0) j 3 = 1 ∨ jb (σ 0) j 3 = 2))
    (hC : ∀ h', Qh hh x σ k h' → C x (nI j) a2 0 a4 a5 a6 (nI (l + 1)) h') {n : Nat} {h : Hp} (q : Qh hh x σ k h) : V_L_sound_133 K C (n + 1) x (nI j) a2 0 a4 a5 a6 (nI l) a10 0 h := by
  refine ⟨fun _ => ⟨fun _ => ⟨fun z => absurd rfl z, fun _ => u_pieceN q B hj hs _ _ (fun h1 q1 => ⟨fun _ => ?_, fun z => absurd rfl z⟩)⟩, fun z => absurd rfl z⟩, fun z => absurd rfl z⟩
  unfold V_L_sound_230
  rw [nI_1]; exact hC h1 q1
theorem so_66 (B : BN (σ 0) t nc nj d) {C : Nat → Int32 → Int32 → Int32 → Int32 → Int32 → Int32 → Int32 → Hp → Prop} {a2 a3 a5 a6 : Int32} {j l r G : Nat} (hj : j < nj) (hl : l < (jL (σ 0) j).1.1) (h30 : (jL (σ 0) j).1.1 ≤ 30) (hb : FGl (σ 0) j (l + 1) ≤ 30) (hr : r ≤ 150) (hG : FGl (σ 0) j (l + 1) = FGl (σ 0) j l + G)
    (hW : ∀ i, i < G → (jL (σ 0) j).2.2.2.2 (FGl (σ 0) j l + i) = nI (r / G + if r % G ≤ i then 0 else 1)) (hC : ∀ h', Qh hh x σ k h' → ∃ n9, V_L_sound_133 K C n9 x (nI j) a2 a3 (nI (FGl (σ 0) j (l + 1))) a5 a6 (nI l) 0 0 h') :
    ∀ (d g n : Nat) (h : Hp), g + d = G → d < n → Qh hh x σ k h → V_L_sound_66 K C n x (nI j) a2 a3 (nI (FGl (σ 0) j l + g)) a5 a6 (nI l) (nI (r / G + if r % G ≤ 0 then 0 else 1)) (nI (r / G + if r % G ≤ g - 1 then 0 else 1)) 0 (nI g) h := by
  have hv : ∀ i, r / G + (if r % G ≤ i then 0 else 1) ≤ 151 := fun i => by
    have := Nat.div_le_self r G
    split <;> omega
  intro d
  induction d with
  | zero =>
    intro g n h h1 h2 q
    obtain ⟨n, rfl⟩ : ∃ m, n = m + 1 := ⟨n - 1, by omega⟩
    obtain rfl : g = G := by omega
    refine u_gap q B hj hl h30 (by omega) hb (by omega) (fun h1 q1 => ?_)
    rw [if_neg (by omega), ← hG]
    exact ⟨fun _ => hC h1 q1, fun z => absurd (by decide) z⟩
  | succ d ih =>
    intro g n h h1 h2 q
    obtain ⟨n, rfl⟩ : ∃ m, n = m + 1 := ⟨n - 1, by omega⟩
    have e : (if FGl (σ 0) j l + g < FGl (σ 0) j (l + 1) then (jL (σ 0) j).2.2.2.2 (FGl (σ 0) j l + g) else -5) = nI (r / G + if r % G ≤ g then 0 else 1) := by rw [if_pos (by omega)]; exact hW g (by omega)
    have b1 := hv g
    have b2 := hv (g - 1)
    have b3 := hv 0
    refine u_gap q B hj hl h30 (by omega) hb (by omega) (fun h1 q1 => ?_)
    rw [e]
    refine ⟨fun z => absurd z (cn0 (by omega)), fun _ => u_gap q1 B hj hl h30 (by omega) hb (by omega) (fun h2 q2 => ?_)⟩
    rw [e, nI_ltI (by omega) (by omega)]
    refine ⟨fun z => ?_, fun _ => u_gap q2 B hj hl h30 (by omega) hb (by omega) (fun h3 q3 => ?_)⟩
    · exfalso
      revert z
      by_cases c1 : r % G ≤ g - 1
      · rw [if_pos c1, if_pos (show r % G ≤ g by omega)]; omega
      · rw [if_neg c1]; split <;> omega
    · rw [e]
      refine ⟨fun _ => u_gap q3 B hj hl h30 (by omega) hb (by omega) (fun h4 q4 => ?_), fun z => ?_⟩
      · rw [e, nI_1, nI_1]
        exact ih (g + 1) n h4 (by omega) (by omega) q4
      · exfalso
        refine z ?_
        rw [Int32.le_iff_toInt_le, show (1 : Int32) = nI 1 from rfl, pk_sub_toInt (by omega) (by decide), nI_toInt (by omega)]
        have : (r / G + if r % G ≤ 0 then 0 else 1) ≤ (r / G + if r % G ≤ g then 0 else 1) + 1 := by split <;> split <;> omega
        omega
abbrev soT (ρ : Row) (nc j : Nat) : Nat → Int32 := fun s => sm nc (fun c => fm ρ j c s)
abbrev soL (ρ : Row) (nc j : Nat) : Nat → Int32 := fun s => sm nc (fun c => if nI c = jb ρ j 0 then 0 else fm ρ j c s)
theorem so_255 (B : BN (σ 0) t nc nj d) {C : Nat → Int32 → Int32 → Int32 → Int32 → Int32 → Int32 → Int32 → Int32 → Int32 → Hp → Prop} {a2 a3 a4 a5 a6 a7 a8 : Int32} {j s : Nat} (hj : j < nj) (hs : s < 29) (hC : ∀ h', Qh hh x σ k h' → C x (nI j) a2 a3 a4 a5 a6 (a7 + soT (σ 0) nc j s) (a8 + soL (σ 0) nc j s) (nI (s + 1)) h') :
    ∀ (d c n : Nat) (h : Hp), c + d = nc → d < n → Qh hh x σ k h → V_L_sound_255 K C n x (nI j) a2 a3 a4 a5 a6 (a7 + sm c (fun c => fm (σ 0) j c s)) (a8 + sm c (fun c => if nI c = jb (σ 0) j 0 then 0 else fm (σ 0) j c s)) (nI s) (nI c) h := by
  have h6 := B.1
  intro d
  induction d with
  | zero =>
    intro c n h h1 h2 q
    obtain ⟨n, rfl⟩ : ∃ m, n = m + 1 := ⟨n - 1, by omega⟩
    obtain rfl : c = nc := by omega
    refine u_count q B 0 (fun h1 q1 => ?_)
    rw [cv_0, B.2.2.2.1, nI_1]
    exact ⟨fun _ => hC h1 q1, fun z => absurd (Int32.le_refl _) z⟩
  | succ d ih =>
    intro c n h h1 h2 q
    obtain ⟨n, rfl⟩ : ∃ m, n = m + 1 := ⟨n - 1, by omega⟩
    refine u_count q B 0 (fun h1 q1 => ?_)
    rw [cv_0, B.2.2.2.1, nle (by omega) (by omega)]
    refine ⟨fun z => absurd z (by omega), fun _ => u_taken q1 B hj (by omega) hs (fun h2 q2 => u_job q2 B hj 0 (fun h3 q3 => ?_))⟩
    rw [jv_0]
    have go : ∀ h' v, Qh hh x σ k h' → v = (if nI c = jb (σ 0) j 0 then 0 else fm (σ 0) j c s) → V_L_sound_305 K C (V_L_sound_255 K C n) x (nI j) a2 a3 a4 a5 a6 (a7 + sm c (fun c => fm (σ 0) j c s) + fm (σ 0) j c s) (nI s) (nI c) (a8 + sm c (fun c => if nI c = jb (σ 0) j 0 then 0 else fm (σ 0) j c s)) v h' := fun h' v q' ev => by
      subst ev
      unfold V_L_sound_305
      rw [nI_1, Int32.add_assoc, Int32.add_assoc]
      exact ih (c + 1) n h' (by omega) (by omega) q'
    refine ⟨fun z => u_taken q3 B hj (by omega) hs (fun h4 q4 => go h4 _ q4 (if_neg z).symm), fun z => go h3 _ q3 (if_pos z).symm⟩
theorem so_370 (I : IV (σ 0) t nc nj) {j : Nat} (hj : j < nj) {a3 a5 a6 : Int32} (hs : (a3 = 0 ∧ ¬ (jb (σ 0) j 3 = 1 ∨ jb (σ 0) j 3 = 2)) ∨ (a3 = 1 ∧ (jb (σ 0) j 3 = 1 ∨ jb (σ 0) j 3 = 2) ∧ sm 29 (soT (σ 0) nc j) = a5 ∧ a6 = nI (jL (σ 0) j).1.2.1)) {late : Int32} (hl : late = jb (σ 0) j 5) (hK : ∀ h', Qh hh x σ k h' → K 1 h') {h : Hp} (q : Qh hh x σ k h) : V_L_sound_370 K x (nI j) (jb (σ 0) j 3) a3 (nI (jL (σ 0) j).1.2.2.1) a5 a6 (sm 29 (soT (σ 0) nc j)) (sm 29 (soL (σ 0) nc j)) late h := by
  obtain ⟨⟨d, B⟩, -, XJs⟩ := id I
  have g30 := I.g30 hj
  have fin : ∀ h', Qh hh x σ k h' → V_L_sound_438 K x (nI j) (jb (σ 0) j 3) late h' := fun h' q' => by
    obtain ⟨st, s1, s2, s3, s4, -⟩ := XJs j hj
    have e2 : nI st = (2 : Int32) ↔ st = 2 := nI_eq (b := 2) (by omega) (by decide)
    have e3 : nI st = (3 : Int32) ↔ st = 3 := nI_eq (b := 3) (by omega) (by decide)
    have last : ∀ h' v, Qh hh x σ k h' → V_L_sound_480 K x (nI j) v v h' := fun h' v q' => ⟨fun z => absurd rfl z, fun _ => u_job q' B hj 4 (fun h1 q1 => by
      rw [jv_4]
      exact u_gapN q1 B hj g30.1 0 (fun h2 q2 => ⟨fun z => absurd rfl z, fun _ => u_job q2 B hj 11 (fun h3 q3 => ⟨fun z => absurd jv_11 z, fun _ => ⟨Or.inr rfl, hK h3 q3⟩⟩)⟩))⟩
    have p1 : ∀ h', Qh hh x σ k h' → (st = 2 ∨ st = 3) → V_L_sound_465 K x (nI j) 1 h' := fun h' q' z => u_job q' B hj 9 (fun h1 q1 => by
      obtain ⟨p, p1, p2⟩ := s3 z
      rw [jv_9, p2]
      exact ⟨fun w => absurd w (cn0 (by omega)), fun _ => last h1 1 q1⟩)
    have p0 : ∀ h', Qh hh x σ k h' → ¬ (st = 2 ∨ st = 3) → V_L_sound_465 K x (nI j) 0 h' := fun h' q' z => u_job q' B hj 9 (fun h1 q1 => by
      rw [jv_9, s4 z]
      exact ⟨fun _ => last h1 0 q1, fun w => absurd (by decide) w⟩)
    refine u_job q' B hj 10 (fun h1 q1 => ?_)
    rw [jv_10]
    refine ⟨fun z => absurd hl.symm z, fun _ => ?_⟩
    rw [s2, e2, e3]
    exact ⟨fun z => p1 h1 q1 (Or.inl z), fun z => ⟨fun w => p0 h1 q1 (fun u => u.elim z w), fun w => p1 h1 q1 (Or.inr w)⟩⟩
  refine u_job q B hj 6 (fun h1 q1 => ?_)
  rw [jv_6]
  refine ⟨fun z => absurd rfl z, fun _ => u_job q1 B hj 7 (fun h2 q2 => ?_)⟩
  rw [jv_7]
  refine ⟨fun z => absurd (sm_swap 29 nc (fun s c => fm (σ 0) j c s)) z, fun _ => u_job q2 B hj 8 (fun h3 q3 => ?_)⟩
  rw [jv_8]
  refine ⟨fun z => absurd (sm_swap 29 nc (fun s c => if nI c = jb (σ 0) j 0 then 0 else fm (σ 0) j c s)) z, fun _ => ⟨fun z => ?_, fun z => ?_⟩⟩
  · rcases hs with ⟨-, u⟩ | ⟨u, -⟩
    · have e0 : sm 29 (soT (σ 0) nc j) = 0 := sm_zero (fun s hs => sm_zero (fun c hc => I.fn hj u (by have := I.n6; omega) hs))
      exact ⟨fun w => absurd e0 w, fun _ => ⟨fun _ => fin h3 q3, fun w => absurd z w⟩⟩
    · rw [u] at z; exact absurd z (by decide)
  · rcases hs with ⟨u, -⟩ | ⟨u, -, u2, u3⟩
    · exact absurd u z
    · exact ⟨fun w => absurd u2 w, fun _ => ⟨fun w => absurd w z, fun _ => u_job q3 B hj 5 (fun h4 q4 => ⟨fun w => absurd (by rw [jv_5]; exact u3) w, fun _ => fin h4 q4⟩)⟩⟩
theorem so_245 (I : IV (σ 0) t nc nj) {j : Nat} (hj : j < nj) {a3 a5 a6 : Int32} (hs : (a3 = 0 ∧ ¬ (jb (σ 0) j 3 = 1 ∨ jb (σ 0) j 3 = 2)) ∨ (a3 = 1 ∧ (jb (σ 0) j 3 = 1 ∨ jb (σ 0) j 3 = 2) ∧ sm 29 (soT (σ 0) nc j) = a5 ∧ a6 = nI (jL (σ 0) j).1.2.1)) (hK : ∀ h', Qh hh x σ k h' → K 1 h') :
    ∀ (d s n : Nat) (h : Hp), s + d = 29 → d < n → Qh hh x σ k h → V_L_sound_245 K n x (nI j) (jb (σ 0) j 3) a3 (nI (jL (σ 0) j).1.2.2.1) a5 a6 (sm s (soT (σ 0) nc j)) (sm s (soL (σ 0) nc j)) (nI s) h := by
  obtain ⟨⟨d0, B⟩, -, XJs⟩ := id I
  intro d
  induction d with
  | zero =>
    intro s n h h1 h2 q
    obtain ⟨n, rfl⟩ : ∃ m, n = m + 1 := ⟨n - 1, by omega⟩
    obtain rfl : s = 29 := by omega
    have eL : jb (σ 0) j 5 = lateC (σ 0) j := (I.jw hj).2.2.2.2.2.2.1
    obtain ⟨st, s1, s2, s3, s4, -⟩ := XJs j hj
    refine ⟨fun _ => u_job q B hj 9 (fun h1 q1 => ?_), fun z => absurd (by decide) z⟩
    rw [jv_9]
    by_cases z : st = 2 ∨ st = 3
    · obtain ⟨p, p1, p2⟩ := s3 z
      have e : jb (σ 0) j 5 = if 0 ≤ jb (σ 0) j 4 - jb (σ 0) j 2 then jb (σ 0) j 4 - jb (σ 0) j 2 else 0 := by rw [eL]; exact late_C rfl (by rw [p2]; exact nm5 (by omega)) rfl
      refine ⟨fun _ => u_job q1 B hj 9 (fun h2 q2 => u_job q2 B hj 2 (fun h3 q3 => ?_)), fun w => absurd (by rw [p2]; exact c0 (by omega)) w⟩
      rw [jv_9, jv_2]
      refine ⟨fun w => u_job q3 B hj 9 (fun h4 q4 => u_job q4 B hj 2 (fun h5 q5 => ?_)), fun w => ?_⟩
      · rw [jv_9, jv_2]
        exact so_370 I hj hs (by rw [e, if_pos w]) hK q5
      · exact so_370 I hj hs (by rw [e, if_neg w]) hK q3
    · have e4 := s4 z
      refine ⟨fun w => absurd w (by rw [e4]; decide), fun _ => so_370 I hj hs (by rw [eL]; unfold lateC; rw [if_pos e4]) hK q1⟩
  | succ d ih =>
    intro s n h h1 h2 q
    obtain ⟨n, rfl⟩ : ∃ m, n = m + 1 := ⟨n - 1, by omega⟩
    unfold V_L_sound_245
    rw [c29 (by omega)]
    refine ⟨fun z => absurd z (by omega), fun _ => ⟨nc + 1, ?_⟩⟩
    have key := so_255 (K := K) (C := V_L_sound_245 K n) (a2 := jb (σ 0) j 3) (a3 := a3) (a4 := nI (jL (σ 0) j).1.2.2.1) (a5 := a5) (a6 := a6) (a7 := sm s (soT (σ 0) nc j)) (a8 := sm s (soL (σ 0) nc j)) B hj (show s < 29 by omega) (fun h' q' => ih (s + 1) n h' (by omega) (by omega) q') nc 0 (nc + 1) h (by omega) (by omega) q
    rw [sm0, sm0, Int32.add_zero, Int32.add_zero] at key
    exact key
/-- the lines of a job that has no forme -/
theorem so_35N (I : IV (σ 0) t nc nj) {j : Nat} (hj : j < nj) (hs : ¬ (jb (σ 0) j 3 = 1 ∨ jb (σ 0) j 3 = 2)) (hK : ∀ h', Qh hh x σ k h' → K 1 h') : ∀ (d l n : Nat) (h : Hp), l + d = (jL (σ 0) j).1.1 → d < n → Qh hh x σ k h → V_L_sound_35 K n x (nI j) (jb (σ 0) j 3) 0 (nI (FGl (σ 0) j l)) 0 0 (nI l) h := by
  obtain ⟨⟨d0, B⟩, -, -⟩ := id I
  have g30 := I.g30 hj
  have hJ := (I.jw hj).1
  have hLI := (lay_LI (jtx (σ 0) j) (jb (σ 0) j 1) (jlen (σ 0) j)).1
  intro d
  induction d with
  | zero =>
    intro l n h h1 h2 q
    obtain ⟨n, rfl⟩ : ∃ m, n = m + 1 := ⟨n - 1, by omega⟩
    obtain rfl : l = (jL (σ 0) j).1.1 := by omega
    refine u_job q B hj 4 (fun h1 q1 => ?_)
    rw [jv_4]
    refine ⟨fun _ => ⟨30, ?_⟩, fun z => absurd (Int32.le_refl _) z⟩
    have e : FGl (σ 0) j (jL (σ 0) j).1.1 = (jL (σ 0) j).1.2.2.1 := hLI.2.1
    rw [e]
    exact so_245 I hj (Or.inl ⟨rfl, hs⟩) hK 29 0 30 h1 rfl (by decide) q1
  | succ d ih =>
    intro l n h h1 h2 q
    obtain ⟨n, rfl⟩ : ∃ m, n = m + 1 := ⟨n - 1, by omega⟩
    have hl : l < (jL (σ 0) j).1.1 := by omega
    obtain ⟨r, r1, r2, r3, r4, r5, r6, r7⟩ := line_facts hJ hl
    refine u_job q B hj 4 (fun h1 q1 => ?_)
    rw [jv_4, nle (by omega) (by omega)]
    refine ⟨fun z => absurd z (by omega), fun _ => u_gap (g := 0) q1 B hj hl g30.1 (by omega) (by omega) (by omega) (fun h2 q2 => ⟨gc (lnB (jtx (σ 0) j) (jL (σ 0) j) l) + 1, ?_⟩)⟩
    rw [if_pos (by omega), r4 0 r7]
    exact so_66 B hj hl g30.1 (by omega) r1 r2 r4 (fun h' q' => ⟨1, so_133N (n := 0) B hj hs (fun h3 q3 => ih (l + 1) n h3 (by omega) (by omega) q3) q'⟩) (gc (lnB (jtx (σ 0) j) (jL (σ 0) j) l)) 0 _ h2 (Nat.zero_add _) (Nat.lt_succ_self _) q2
/-- the lines of a job that is set or printed -/
theorem so_35 (I : IV (σ 0) t nc nj) {j : Nat} (hj : j < nj) (hs : jb (σ 0) j 3 = 1 ∨ jb (σ 0) j 3 = 2) (hK : ∀ h', Qh hh x σ k h' → K 1 h') {p4 p2 p1 : Nat → Nat} (f1 : ∀ g, g < (jL (σ 0) j).1.2.2.1 → jb (σ 0) j (241 + g) = nI (1000000 * p4 g + 1000 * p2 g + p1 g) ∧ p4 g < 1000 ∧ p2 g < 1000 ∧ p1 g < 1000) (f2 : ∀ g, g < (jL (σ 0) j).1.2.2.1 → (jL (σ 0) j).2.2.2.2 g = nI (4 * p4 g + 2 * p2 g + p1 g))
    (f3 : sm 29 (fun s => sm 6 (fun c => fm (σ 0) j c s)) = nI (cL (jtx (σ 0) j) 0 (jlen (σ 0) j)) + sm (jL (σ 0) j).1.2.2.1 (fun g => nI (p4 g + p2 g + p1 g))) : ∀ (d l n : Nat) (h : Hp), l + d = (jL (σ 0) j).1.1 → d < n → Qh hh x σ k h →
      V_L_sound_35 K n x (nI j) (jb (σ 0) j 3) 1 (nI (FGl (σ 0) j l)) (nI (sN l (fun l => cL (jtx (σ 0) j) ((jL (σ 0) j).2.1 l) ((jL (σ 0) j).2.2.1 l - (jL (σ 0) j).2.1 l))) + sm (FGl (σ 0) j l) (fun g => nI (p4 g + p2 g + p1 g))) (nI (sN l (fun l => cL (jtx (σ 0) j) ((jL (σ 0) j).2.1 l) ((jL (σ 0) j).2.2.1 l - (jL (σ 0) j).2.1 l)))) (nI l) h := by
  obtain ⟨⟨d0, B⟩, -, -⟩ := id I
  have g30 := I.g30 hj
  have hJ := (I.jw hj).1
  have hLL := lay_LI (jtx (σ 0) j) (jb (σ 0) j 1) (jlen (σ 0) j)
  intro d
  induction d with
  | zero =>
    intro l n h h1 h2 q
    obtain ⟨n, rfl⟩ : ∃ m, n = m + 1 := ⟨n - 1, by omega⟩
    obtain rfl : l = (jL (σ 0) j).1.1 := by omega
    refine u_job q B hj 4 (fun h1 q1 => ?_)
    rw [jv_4]
    refine ⟨fun _ => ⟨30, ?_⟩, fun z => absurd (Int32.le_refl _) z⟩
    have e : FGl (σ 0) j (jL (σ 0) j).1.1 = (jL (σ 0) j).1.2.2.1 := hLL.1.2.1
    have e2 : (jL (σ 0) j).1.2.1 = sN (jL (σ 0) j).1.1 (fun l => cL (jtx (σ 0) j) ((jL (σ 0) j).2.1 l) ((jL (σ 0) j).2.2.1 l - (jL (σ 0) j).2.1 l)) := hLL.1.2.2.2.2
    have e3 : (jL (σ 0) j).1.2.1 = cL (jtx (σ 0) j) 0 (jlen (σ 0) j) := hLL.2
    rw [e, ← e2]
    refine so_245 I hj (Or.inr ⟨rfl, hs, ?_, rfl⟩) hK 29 0 30 h1 rfl (by decide) q1
    rw [e3, ← f3]
    exact sm_congr (fun s hs => (sm_ext I.n6 (fun c a b => I.fz hj a b hs)).symm)
  | succ d ih =>
    intro l n h h1 h2 q
    obtain ⟨n, rfl⟩ : ∃ m, n = m + 1 := ⟨n - 1, by omega⟩
    have hl : l < (jL (σ 0) j).1.1 := by omega
    obtain ⟨r, r1, r2, r3, r4, r5, r6, r7⟩ := line_facts hJ hl
    have hB : FGl (σ 0) j l + lnB (jtx (σ 0) j) (jL (σ 0) j) l ≤ FGl (σ 0) j (l + 1) := by
      rw [r2]; unfold gc; split <;> omega
    have hpl : ∀ φ : Nat → Int32, lsm φ (PLn (σ 0) j p4 p2 p1 l) = sm ((jL (σ 0) j).2.2.1 l - (jL (σ 0) j).2.1 l) (lt1 (jtx (σ 0) j) φ ((jL (σ 0) j).2.1 l)) + sm (gc (lnB (jtx (σ 0) j) (jL (σ 0) j) l)) (fun q => lsm φ (gpl p4 p2 p1 (FGl (σ 0) j l + q))) := fun φ => by
      unfold PLn
      rw [r2]
      exact lsm_line φ _ _ _
    have eW : lsm phW (PLn (σ 0) j p4 p2 p1 l) = jb (σ 0) j 1 := by
      rw [hpl, ln_W, ← r5]
      congr 1
      rw [← r6]
      refine sm_congr (fun q hq => ?_)
      rw [gp_sum, f2 _ (by omega), show phW 52 = nI 4 by decide, show phW 50 = nI 2 by decide, show phW 49 = nI 1 by decide, pk_mul, pk_mul, pk_mul, nI_add, nI_add]
      congr 1
      omega
    have e1 : nI (PLn (σ 0) j p4 p2 p1 l).length = nI (cL (jtx (σ 0) j) ((jL (σ 0) j).2.1 l) ((jL (σ 0) j).2.2.1 l - (jL (σ 0) j).2.1 l)) + sm (gc (lnB (jtx (σ 0) j) (jL (σ 0) j) l)) (fun q => nI (p4 (FGl (σ 0) j l + q) + p2 (FGl (σ 0) j l + q) + p1 (FGl (σ 0) j l + q))) := by
      rw [← lsm_1, hpl, ln_let (c := 1) (fun _ _ => rfl), Int32.mul_one]
      congr 1
      refine sm_congr (fun q hq => ?_)
      rw [gp_sum, Int32.mul_one, Int32.mul_one, Int32.mul_one, nI_add, nI_add]
      congr 1
      omega
    have eL : lsm phL (PLn (σ 0) j p4 p2 p1 l) = nI (cL (jtx (σ 0) j) ((jL (σ 0) j).2.1 l) ((jL (σ 0) j).2.2.1 l - (jL (σ 0) j).2.1 l)) := by
      rw [hpl, ln_let (c := 1) (fun s hs => if_pos (by omega)), Int32.mul_one, sm_zero (n := gc (lnB (jtx (σ 0) j) (jL (σ 0) j) l)) (fun q hq => by
        rw [gp_sum, show phL 52 = 0 by decide, show phL 50 = 0 by decide, show phL 49 = 0 by decide, Int32.mul_zero, Int32.mul_zero, Int32.mul_zero]; rfl), Int32.add_zero]
    have hlen : (PLn (σ 0) j p4 p2 p1 l).length < 2 ^ 30 := by
      have z := pl_len (tx := jtx (σ 0) j) (p4 := p4) (p2 := p2) (p1 := p1) (G := FGl (σ 0) j (l + 1)) (fun g hg => (f1 g (by omega)).2) _ _ _ hB
      have hb : (jL (σ 0) j).2.2.1 l - (jL (σ 0) j).2.1 l ≤ 300000 := by
        have c1 := cLB (jtx (σ 0) j) ((jL (σ 0) j).2.1 l) ((jL (σ 0) j).2.2.1 l - (jL (σ 0) j).2.1 l)
        have c2 : lnB (jtx (σ 0) j) (jL (σ 0) j) l ≤ 30 := by omega
        have c5 : ∀ n, l < n → cL (jtx (σ 0) j) ((jL (σ 0) j).2.1 l) ((jL (σ 0) j).2.2.1 l - (jL (σ 0) j).2.1 l) ≤ sN n (fun l => cL (jtx (σ 0) j) ((jL (σ 0) j).2.1 l) ((jL (σ 0) j).2.2.1 l - (jL (σ 0) j).2.1 l)) := by
          intro n
          induction n with
          | zero => intro h; omega
          | succ n ih =>
            intro h
            show _ ≤ sN n _ + cL _ ((jL (σ 0) j).2.1 n) _
            by_cases e : l = n
            · subst e; exact Nat.le_add_left _ _
            · exact Nat.le_trans (ih (by omega)) (Nat.le_add_right _ _)
        have c6 := c5 _ hl
        have c7 : (jL (σ 0) j).1.2.1 = sN (jL (σ 0) j).1.1 (fun l => cL (jtx (σ 0) j) ((jL (σ 0) j).2.1 l) ((jL (σ 0) j).2.2.1 l - (jL (σ 0) j).2.1 l)) := hLL.1.2.2.2.2
        have c8 : (jL (σ 0) j).1.2.1 = cL (jtx (σ 0) j) 0 (jlen (σ 0) j) := hLL.2
        have c9 := cLB (jtx (σ 0) j) 0 (jlen (σ 0) j)
        have c10 := hJ.1.2.2.1
        rw [← c7, c8] at c6
        have c11 : cB (jtx (σ 0) j) ((jL (σ 0) j).2.1 l) ((jL (σ 0) j).2.2.1 l - (jL (σ 0) j).2.1 l) ≤ 30 := c2
        omega
      have z' : (PLn (σ 0) j p4 p2 p1 l).length ≤ 3000 * ((jL (σ 0) j).2.2.1 l - (jL (σ 0) j).2.1 l) + 3000 := z
      omega
    refine u_job q B hj 4 (fun h1 q1 => ?_)
    rw [jv_4, nle (by omega) (by omega)]
    refine ⟨fun z => absurd z (by omega), fun _ => u_gap (g := 0) q1 B hj hl g30.1 (by omega) (by omega) (by omega) (fun h2 q2 => ⟨gc (lnB (jtx (σ 0) j) (jL (σ 0) j) l) + 1, ?_⟩)⟩
    rw [if_pos (by omega), r4 0 r7]
    refine so_66 B hj hl g30.1 (by omega) r1 r2 r4 (fun h' q' => ⟨(PLn (σ 0) j p4 p2 p1 l).length + 1, ?_⟩) (gc (lnB (jtx (σ 0) j) (jL (σ 0) j) l)) 0 _ h2 (Nat.zero_add _) (Nat.lt_succ_self _) q2
    have key := so_133 (K := K) (C := V_L_sound_35 K n) (a2 := jb (σ 0) j 3) (a4 := nI (FGl (σ 0) j (l + 1))) (a5 := nI (sN l (fun l => cL (jtx (σ 0) j) ((jL (σ 0) j).2.1 l) ((jL (σ 0) j).2.2.1 l - (jL (σ 0) j).2.1 l))) + sm (FGl (σ 0) j l) (fun g => nI (p4 g + p2 g + p1 g))) (a6 := nI (sN l (fun l => cL (jtx (σ 0) j) ((jL (σ 0) j).2.1 l) ((jL (σ 0) j).2.2.1 l - (jL (σ 0) j).2.1 l)))) B hj hs hl g30.1 (fun g hg => f1 g (by omega)) hB hlen eW (fun h3 q3 => by
      have z := ih (l + 1) n h3 (by omega) (by omega) q3
      rw [e1, eL, nI_add]
      have e5 : sm (FGl (σ 0) j (l + 1)) (fun g => nI (p4 g + p2 g + p1 g)) = sm (FGl (σ 0) j l) (fun g => nI (p4 g + p2 g + p1 g)) + sm (gc (lnB (jtx (σ 0) j) (jL (σ 0) j) l)) (fun q => nI (p4 (FGl (σ 0) j l + q) + p2 (FGl (σ 0) j l + q) + p1 (FGl (σ 0) j l + q))) := by rw [r2, sm_app]
      rw [e5] at z
      have e6 : ∀ a b c e : Int32, (a + b) + (c + e) = (a + c) + (b + e) := fun a b c e => by grind
      rw [e6, nI_add]
      exact z) _ 0 _ h' (Nat.zero_add _) (Nat.lt_succ_self _) q'
    rw [sm0, sm0, show nI 0 = 0 from rfl, Int32.add_zero, Int32.add_zero] at key
    exact key
theorem w_sound {h : Hp} (q : Qh hh x σ k h) (I : IV (σ 0) t nc nj) {j : Nat} (hj : j < nj) (hK : ∀ h', Qh hh x σ k h' → K 1 h') : V_L_sound x (nI j) h K := by
  obtain ⟨⟨d0, B⟩, -, XJs⟩ := id I
  have g30 := I.g30 hj
  refine u_job q B hj 3 (fun h1 q1 => ?_)
  rw [jv_3]
  have z0 : FGl (σ 0) j 0 = 0 := (lay_LI (jtx (σ 0) j) (jb (σ 0) j 1) (jlen (σ 0) j)).1.1
  obtain ⟨st, s1, s2, s3, s4, s5⟩ := XJs j hj
  have set : (jb (σ 0) j 3 = 1 ∨ jb (σ 0) j 3 = 2) → V_L_sound_17 K x (nI j) (jb (σ 0) j 3) h1 := fun hs => by
    have hst : st = 1 ∨ st = 2 := by
      rw [s2] at hs
      exact hs.imp (fun w => (nI_eq (b := 1) (by omega) (by decide)).mp w) (fun w => (nI_eq (b := 2) (by omega) (by decide)).mp w)
    obtain ⟨p4, p2, p1, f1, f2, f3⟩ := fill_facts (I.jw hj).1 (s5 hst)
    refine ⟨(jL (σ 0) j).1.1 + 1, ?_⟩
    have key := so_35 I hj hs hK f1 f2 f3 (jL (σ 0) j).1.1 0 _ h1 (Nat.zero_add _) (Nat.lt_succ_self _) q1
    rw [z0] at key
    exact key
  refine ⟨fun z => set (Or.inl z), fun z => ⟨fun z2 => ?_, fun z2 => set (Or.inr z2)⟩⟩
  refine ⟨(jL (σ 0) j).1.1 + 1, ?_⟩
  have key := so_35N I hj (fun w => w.elim z z2) hK (jL (σ 0) j).1.1 0 _ h1 (Nat.zero_add _) (Nat.lt_succ_self _) q1
  rw [z0] at key
  exact key
end SOUND
