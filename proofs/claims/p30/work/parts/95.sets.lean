/-! the law's method sets -/
section SETS
variable {hh h : Hp} {x k t nc nj : Nat} {σ : Nat → Nat → Int32} {K : Int32 → Hp → Prop}
theorem a_set (C : CR h x σ k) (I : IV (σ 0) t nc nj) {j hm : Nat} (hj : j < nj) (hm1 : hm < nc) (he : jb (σ 0) j 0 = nI hm) (hno : ¬ (jb (σ 0) j 3 = 0 ∧ lkN (σ 0) nc j ≤ 0) → ∀ h', FR h h' → CR h' x σ k → K (-4) h')
    (hdid : jb (σ 0) j 3 = 0 → lkN (σ 0) nc j ≤ 0 → ∀ h' σ', FR h h' → CR h' x σ' (rk k) → Af σ k (setRw (σ 0) nc j hm) σ' → IV (σ' 0) (t + 1) nc nj → K (sm 29 (fun s => brw (σ 0) hm s (nS (σ 0) nc j s) nc)) h') : hK h x = 7 ∧ V_X6_set x (nI j) h K := by
  have h6 := I.n6
  have h12 := I.n12
  obtain ⟨⟨d, B⟩, -⟩ := id I
  have G := ga_set B.1 B.2.1 B.2.2.1 B.2.2.2.1 B.2.2.2.2.1 B.2.2.2.2.2.1 B.2.2.2.2.2.2.1 B.2.2.2.2.2.2.2.1 B.2.2.2.2.2.2.2.2 (nI j)
  refine ⟨C.1.kx, k_set C B.1 B.2.2.2.2.1 B.2.1 B.hH B.2.2.2.2.2.2.2.1 B.z2 B.z3 B.z4 B.2.2.2.2.2.2.1 B.hsm _ ?_⟩
  unfold sp_set at G ⊢
  rw [if_neg (nbadJ B hj), ix_nI (by omega), he, ix_nI (by omega)] at G ⊢
  by_cases z : jb (σ 0) j 3 = 0
  · rw [if_pos z] at G ⊢
    by_cases z2 : lkN (σ 0) nc j ≤ 0
    · rw [if_pos z2] at G ⊢
      refine oc_did (set_ex (σ 0) nc j hm) (fun h' σ' f c a => hdid z z2 h' σ' f c a ?_)
      rw [a.1]
      exact iv_set I hj z hm1 z2 (set_ex (σ 0) nc j hm) (G _ rfl _ (set_ex (σ 0) nc j hm))
    · rw [if_neg z2]
      exact oc_no (fun h' f c => hno (fun w => z2 w.2) h' f c)
  · rw [if_neg z]
    exact oc_no (fun h' f c => hno (fun w => z w.1) h' f c)
/-- the array of what is needed: the first n are filled in -/
def Nd (h : Hp) (q : Nat) (ρ : Row) (nc j n : Nat) : Prop := hK h q = 60 ∧ hL h q = 29 ∧ ∀ i, i < n → hI h q i = nS ρ nc j i
theorem Nd.fr {h' : Hp} {q nc j n : Nat} {ρ : Row} (N : Nd h q ρ nc j n) (f : FR h h') : Nd h' q ρ nc j n := by
  obtain ⟨n1, n2, n3⟩ := N
  obtain ⟨y1, y2, y3, -⟩ := f.k n1 (by unfold im; omega)
  exact ⟨y1, y2.trans n2, fun i hi => (y3 i).trans (n3 i hi)⟩
/-- what set leaves: all formes of the sort, what is needed and missing -/
theorem set_after {ρ ρ' : Row} (I : IV ρ t nc nj) (I' : IV ρ' (t + 1) nc nj) {j hm : Nat} (hj : j < nj) (h0 : jb ρ j 3 = 0) (hm1 : hm < nc) (hl : lkN ρ nc j ≤ 0) (hP : SetP ρ nc j hm ρ') :
    (∀ c s, c < 6 → s < 29 → fm ρ' j c s = tk ρ hm s (nS ρ nc j s) c) ∧ (∀ s, s < 29 → sm nc (fun c => fm ρ' j c s) = nS ρ nc j s) ∧ (∀ s, s < 29 → nS ρ' nc j s = nS ρ nc j s ∧ lkF ρ' nc j s = 0) ∧ ∀ c s, c < 6 → s < 29 → c ≠ hm → ¬ fm ρ' j c s ≤ 0 → ρ' (8 + 29 * hm + s) ≤ 0 := by
  have h6 := I.n6
  obtain ⟨f1, f2, f3, f4, f5⟩ := set_facts I hj h0 hm1 hl hP
  have hs0 : ¬ (jb ρ j 3 = 1 ∨ jb ρ j 3 = 2) := fun z => by rw [h0] at z; exact absurd z (by decide)
  have hs1 : jb ρ' j 3 = 1 := hP.2.2.2.1
  have ej : ∀ w, w < 67 → w ≠ 3 → jb ρ' j w = jb ρ j w := fun w a b => f5 _ (by omega) (by omega)
  have et : ∀ s, s < 29 → thr ρ' nc j s = thr ρ nc j s := fun s hs => by
    unfold thr
    refine sm_congr (fun c hc => ?_)
    rw [if_pos (Or.inl hs1), if_neg hs0, (f2 c s (by omega) hs).1, (f2 c s (by omega) hs).2]
    grind
  have en : ∀ s, nS ρ' nc j s = nS ρ nc j s := fun s => by
    show ndC ρ' j (thr ρ' nc j 26) (thr ρ' nc j 27) s = ndC ρ j (thr ρ nc j 26) (thr ρ nc j 27) s
    rw [ndC_same (fun w hw => ej w (by omega) (by omega)) (I.jt hj), et 26 (by decide), et 27 (by decide)]
  refine ⟨fun c s a b => (f2 c s a b).1, fun s hs => ?_, fun s hs => ⟨en s, ?_⟩, fun c s hc hs hne hpos => ?_⟩
  · rw [← f3 s hs, sm_ext h6 (fun c a b => I'.fz hj a b hs)]
  · have e0 := f1 s hs
    unfold lkF at e0 ⊢
    rw [show ndF ρ' nc j (jlen ρ' j) s = ndF ρ nc j (jlen ρ j) s from en s, et s hs]
    exact e0
  · rw [(f2 hm s (by omega) hs).2]
    rw [(f2 c s hc hs).1] at hpos
    have eh : tk ρ hm s (nS ρ nc j s) hm = lst (nS ρ nc j s) (ρ (8 + 29 * hm + s)) := if_pos rfl
    rw [eh]
    by_cases z : ρ (8 + 29 * hm + s) ≤ nS ρ nc j s
    · rw [show lst (nS ρ nc j s) (ρ (8 + 29 * hm + s)) = ρ (8 + 29 * hm + s) from if_pos z, Int32.sub_self]; decide
    · exfalso
      have l0 : lst (nS ρ nc j s) (ρ (8 + 29 * hm + s)) = nS ρ nc j s := if_neg z
      have lz : ∀ i, i < 6 → lst 0 (ρ (8 + 29 * i + s)) = 0 := fun i hi => by
        obtain ⟨n, n1, n2⟩ := I.h hi hs
        unfold lst
        rw [n2]
        by_cases w : nI n ≤ 0
        · rw [if_pos w, show n = 0 by have := (le0 (by omega)).mp w; omega]; rfl
        · rw [if_neg w]
      have lf0 : ∀ i, i ≤ 6 → lf ρ hm s (nS ρ nc j s) i = 0 := by
        intro i
        induction i with
        | zero =>
          intro _
          show nS ρ nc j s - lst (nS ρ nc j s) (ρ (8 + 29 * hm + s)) = 0
          rw [l0, Int32.sub_self]
        | succ i ih =>
          intro hi
          show lf ρ hm s (nS ρ nc j s) i - (if i = hm then 0 else lst (lf ρ hm s (nS ρ nc j s) i) (ρ (8 + 29 * i + s))) = 0
          rw [ih (by omega)]
          by_cases w : i = hm
          · rw [if_pos w, Int32.sub_zero]
          · rw [if_neg w, lz i (by omega), Int32.sub_zero]
      refine hpos ?_
      rw [show tk ρ hm s (nS ρ nc j s) c = lst (lf ρ hm s (nS ρ nc j s) c) (ρ (8 + 29 * c + s)) from if_neg hne, lf0 c (by omega), lz c hc]
      decide
abbrev seL (ρ' : Row) (nc j hm : Nat) : Nat → Int32 := fun s => sm nc (fun c => if c = hm then 0 else fm ρ' j c s)
theorem se_188 {d : Nat} (B : BN (σ 0) t nc nj d) {ρ0 : Row} {C : Nat → Int32 → Nat → Int32 → Int32 → Int32 → Int32 → Hp → Prop} {a2 : Nat} {a6 a7 : Int32} {j hm s : Nat} (hj : j < nj) (hs : s < 29) (hm1 : hm < nc) (eS : sm nc (fun c => fm (σ 0) j c s) = nS ρ0 nc j s) (eN : nS (σ 0) nc j s = nS ρ0 nc j s) (eM : lkF (σ 0) nc j s = 0) (eH : ∀ c, c < 6 → c ≠ hm → ¬ fm (σ 0) j c s ≤ 0 → σ 0 (8 + 29 * hm + s) ≤ 0)
    (hC : ∀ h', CR h' x σ k → Nd h' a2 ρ0 nc j 29 → C x (nI j) a2 (nI hm) a6 (a7 + seL (σ 0) nc j hm s) (nI (s + 1)) h') : ∀ (d c n : Nat) (h : Hp), c + d = nc → d < n → CR h x σ k → Nd h a2 ρ0 nc j 29 → V_L_sets_188 K C n x (nI j) a2 (nI hm) a6 (a7 + sm c (fun c => if c = hm then 0 else fm (σ 0) j c s)) (nI s) (sm c (fun c => fm (σ 0) j c s)) (nI c) h := by
  have h6 := B.1
  intro d
  induction d with
  | zero =>
    intro c n h h1 h2 C0 N
    obtain ⟨n, rfl⟩ : ∃ m, n = m + 1 := ⟨n - 1, by omega⟩
    obtain rfl : c = nc := by omega
    refine u_count (Qh.rf C0) B 0 (fun h1 q1 => ?_)
    rw [cv_0, B.2.2.2.1, eS, ix_nI (by omega)]
    have N1 := N.fr q1.1
    refine ⟨fun _ => ⟨N1.1, by rw [N1.2.1]; exact vin hs (by decide), fun z => absurd (N1.2.2 s hs).symm z, fun _ => u_need (Qh.rf q1.2) B hj hs (fun h2 q2 => ?_)⟩, fun z => absurd (Int32.le_refl _) z⟩
    have N2 := N1.fr q2.1
    refine ⟨N2.1, by rw [N2.2.1]; exact vin hs (by decide), fun z => absurd (eN.trans (N2.2.2 s hs).symm) z, fun _ => u_missing (Qh.rf q2.2) B hj hs (fun h3 q3 => ⟨fun _ => ?_, fun z => absurd eM z⟩)⟩
    rw [nI_1]
    exact hC h3 q3.2 (N2.fr q3.1)
  | succ d ih =>
    intro c n h h1 h2 C0 N
    obtain ⟨n, rfl⟩ : ∃ m, n = m + 1 := ⟨n - 1, by omega⟩
    refine u_count (Qh.rf C0) B 0 (fun h1 q1 => ?_)
    rw [cv_0, B.2.2.2.1, nle (by omega) (by omega)]
    have N1 := N.fr q1.1
    refine ⟨fun z => absurd z (by omega), fun _ => u_taken (Qh.rf q1.2) B hj (by omega) hs (fun h2 q2 => ?_)⟩
    have N2 := N1.fr q2.1
    rw [nI_eq (by omega) (by omega)]
    have go : ∀ h' v, CR h' x σ k → Nd h' a2 ρ0 nc j 29 → v = (if c = hm then 0 else fm (σ 0) j c s) → V_L_sets_259 K C (V_L_sets_188 K C n) x (nI j) a2 (nI hm) a6 (a7 + sm c (fun c => if c = hm then 0 else fm (σ 0) j c s) + v) (nI s) (sm c (fun c => fm (σ 0) j c s) + fm (σ 0) j c s) (nI c) h' := fun h' v C' N' ev => by
      subst ev
      unfold V_L_sets_259
      rw [nI_1, Int32.add_assoc]
      exact ih (c + 1) n h' (by omega) (by omega) C' N'
    unfold V_L_sets_231
    rw [nI_eq (by omega) (by omega)]
    refine ⟨fun z => ⟨fun w => absurd w z, fun _ => ⟨fun _ => go h2 _ q2.2 N2 (if_neg z).symm, fun w => u_pc (Qh.rf q2.2) B hm1 hs (fun h3 q3 => ⟨fun _ => go h3 _ q3.2 (N2.fr q3.1) (if_neg z).symm, fun w2 => absurd (eH c (by omega) z w) w2⟩)⟩⟩, fun z => ⟨fun _ => go h2 _ q2.2 N2 (if_pos z).symm, fun w => absurd z w⟩⟩
theorem se_175 {d : Nat} (B : BN (σ 0) t nc nj d) {ρ0 : Row} {a2 : Nat} {a6 : Int32} {j hm : Nat} (hj : j < nj) (hm1 : hm < nc) (eS : ∀ s, s < 29 → sm nc (fun c => fm (σ 0) j c s) = nS ρ0 nc j s) (eN : ∀ s, s < 29 → nS (σ 0) nc j s = nS ρ0 nc j s ∧ lkF (σ 0) nc j s = 0) (eH : ∀ c s, c < 6 → s < 29 → c ≠ hm → ¬ fm (σ 0) j c s ≤ 0 → σ 0 (8 + 29 * hm + s) ≤ 0) (e3 : jb (σ 0) j 3 = 1) (e6 : a6 = sm 29 (seL (σ 0) nc j hm))
    (hK : ∀ h', CR h' x σ k → K 1 h') : ∀ (d s n : Nat) (h : Hp), s + d = 29 → d < n → CR h x σ k → Nd h a2 ρ0 nc j 29 → V_L_sets_175 K n x (nI j) a2 (nI hm) a6 (sm s (seL (σ 0) nc j hm)) (nI s) h := by
  intro d
  induction d with
  | zero =>
    intro s n h h1 h2 C0 N
    obtain ⟨n, rfl⟩ : ∃ m, n = m + 1 := ⟨n - 1, by omega⟩
    obtain rfl : s = 29 := by omega
    refine ⟨fun _ => ⟨fun z => absurd e6 z, fun _ => u_job (Qh.rf C0) B hj 3 (fun h1 q1 => ?_)⟩, fun z => absurd (by decide) z⟩
    rw [jv_3]
    exact ⟨fun z => absurd e3 z, fun _ => ⟨Or.inr rfl, hK h1 q1.2⟩⟩
  | succ d ih =>
    intro s n h h1 h2 C0 N
    obtain ⟨n, rfl⟩ : ∃ m, n = m + 1 := ⟨n - 1, by omega⟩
    unfold V_L_sets_175
    rw [c29 (by omega)]
    refine ⟨fun z => absurd z (by omega), fun _ => ⟨nc + 1, ?_⟩⟩
    have key := se_188 (K := K) (C := V_L_sets_175 K n) (a2 := a2) (a6 := a6) (a7 := sm s (seL (σ 0) nc j hm)) B hj (show s < 29 by omega) hm1 (eS s (by omega)) (eN s (by omega)).1 (eN s (by omega)).2 (fun c hc => eH c s hc (by omega)) (fun h' C' N' => ih (s + 1) n h' (by omega) (by omega) C' N') nc 0 (nc + 1) h (by omega) (by omega) C0 N
    rw [sm0, sm0, Int32.add_zero] at key
    exact key
theorem se_58 {d : Nat} (B : BN (σ 0) t nc nj d) (I : IV (σ 0) t nc nj) {C : Nat → Int32 → Nat → Int32 → Int32 → Int32 → Int32 → Hp → Prop} {a2 : Nat} {a3 a4 : Int32} {o : Bool} {j s : Nat} (hj : j < nj) (hs : s < 29) (ho : o = true → jb (σ 0) j 3 = 0)
    (hC : ∀ h', CR h' x σ k → Nd h' a2 (σ 0) nc j (s + 1) → C x (nI j) a2 (a3 + lkF (σ 0) nc j s) a4 (if o = true then 1 else 0) (nI (s + 1)) h') : ∀ (d c n : Nat) (h : Hp), c + d = nc → d < n → CR h x σ k → Nd h a2 (σ 0) nc j (s + 1) → V_L_sets_58 K C n x (nI j) a2 a3 a4 (if o = true then 1 else 0) (nI s) (sm c (fun c => σ 0 (8 + 29 * c + s))) (nI c) h := by
  have h6 := B.1
  intro d
  induction d with
  | zero =>
    intro c n h h1 h2 C0 N
    obtain ⟨n, rfl⟩ : ∃ m, n = m + 1 := ⟨n - 1, by omega⟩
    obtain rfl : c = nc := by omega
    refine u_count (Qh.rf C0) B 0 (fun h1 q1 => ?_)
    rw [cv_0, B.2.2.2.1]
    have N1 := N.fr q1.1
    refine ⟨fun _ => u_missing (Qh.rf q1.2) B hj hs (fun h2 q2 => ?_), fun z => absurd (Int32.le_refl _) z⟩
    have N2 := N1.fr q2.1
    have go : ∀ h', CR h' x σ k → Nd h' a2 (σ 0) c j (s + 1) → V_L_sets_134 K C x (nI j) a2 (a3 + lkF (σ 0) c j s) a4 (if o = true then 1 else 0) (nI s) h' := fun h' C' N' => by
      unfold V_L_sets_134
      rw [nI_1]; exact hC h' C' N'
    refine ⟨fun _ => go h2 q2.2 N2, fun z => u_missing (Qh.rf q2.2) B hj hs (fun h3 q3 => ?_)⟩
    have N3 := N2.fr q3.1
    have ot : jb (σ 0) j 3 = 0 := ho (by cases o with
      | true => rfl
      | false => exact absurd rfl z)
    have et : thr (σ 0) c j s = sm c (fun c => σ 0 (8 + 29 * c + s)) := by
      unfold thr
      exact sm_congr (fun i hi => by rw [if_neg (fun w => by rw [ot] at w; exact absurd w (by decide)), Int32.add_zero])
    have el : lkF (σ 0) c j s = if nS (σ 0) c j s ≤ sm c (fun c => σ 0 (8 + 29 * c + s)) then 0 else nS (σ 0) c j s - sm c (fun c => σ 0 (8 + 29 * c + s)) := by rw [← et]; rfl
    rw [ix_nI (by omega), N3.2.2 s (by omega)]
    refine ⟨N3.1, by rw [N3.2.1]; exact vin hs (by decide), fun w => ⟨fun _ => go h3 q3.2 N3, fun w2 => ?_⟩, fun w => ⟨N3.1, by rw [N3.2.1]; exact vin hs (by decide), fun _ => go h3 q3.2 N3, fun w2 => ?_⟩⟩
    · rw [el, if_pos w] at w2; exact absurd rfl w2
    · rw [el, if_neg w] at w2; exact absurd rfl w2
  | succ d ih =>
    intro c n h h1 h2 C0 N
    obtain ⟨n, rfl⟩ : ∃ m, n = m + 1 := ⟨n - 1, by omega⟩
    refine u_count (Qh.rf C0) B 0 (fun h1 q1 => ?_)
    rw [cv_0, B.2.2.2.1, nle (by omega) (by omega)]
    have N1 := N.fr q1.1
    refine ⟨fun z => absurd z (by omega), fun _ => u_pc (Qh.rf q1.2) B (by omega) hs (fun h2 q2 => ?_)⟩
    rw [nI_1]
    exact ih (c + 1) n h2 (by omega) (by omega) q2.2 (N1.fr q2.1)
/-- a place of the array is written -/
theorem Nd.put {q nc j s : Nat} {ρ : Row} (N : Nd h q ρ nc j s) {h1 : Hp} (C0 : CR h x σ k) (e : h1 = sI h q s (nS ρ nc j s)) : CR h1 x σ k ∧ Nd h1 q ρ nc j (s + 1) := by
  subst e
  obtain ⟨n1, n2, n3⟩ := N
  refine ⟨C0.mf ⟨fun _ => rfl, fun _ => rfl, fun _ _ => rfl, fun c hc i => ?_⟩, n1, n2, fun i hi => ?_⟩
  · rw [hI_sI, if_neg]
    rintro ⟨rfl, -⟩
    exact hc (by rw [n1]; exact Or.inr (Nat.le_refl _))
  · rw [hI_sI]
    by_cases z : i = s
    · rw [if_pos ⟨rfl, z⟩, z]
    · rw [if_neg (fun w => z w.2)]; exact n3 i (by omega)
theorem se_34 (I : IV (σ 0) t nc nj) {a2 : Nat} {j hm : Nat} (hj : j < nj) (hm1 : hm < nc) (he : jb (σ 0) j 0 = nI hm) {o : Bool} (ho : o = true ↔ jb (σ 0) j 3 = 0) (hno : ¬ (jb (σ 0) j 3 = 0 ∧ lkN (σ 0) nc j ≤ 0) → ∀ h', CR h' x σ k → K 1 h')
    (hdid : jb (σ 0) j 3 = 0 → lkN (σ 0) nc j ≤ 0 → ∀ h' σ', CR h' x σ' (rk k) → Af σ k (setRw (σ 0) nc j hm) σ' → IV (σ' 0) (t + 1) nc nj → K 1 h') : ∀ (d s n : Nat) (h : Hp), s + d = 29 → d < n → CR h x σ k → Nd h a2 (σ 0) nc j s → V_L_sets_34 K n x (nI j) a2 (sm s (lkF (σ 0) nc j)) (nI hm) (if o = true then 1 else 0) (nI s) h := by
  obtain ⟨⟨d0, B⟩, -⟩ := id I
  have h6 := I.n6
  intro d
  induction d with
  | zero =>
    intro s n h h1 h2 C0 N
    obtain ⟨n, rfl⟩ : ∃ m, n = m + 1 := ⟨n - 1, by omega⟩
    obtain rfl : s = 29 := by omega
    refine ⟨fun _ => a_set C0 I hj hm1 he (fun w h' f c => ⟨fun z => ⟨fun w2 => absurd rfl w2, fun _ => ⟨Or.inr rfl, hno w h' c⟩⟩, fun z => ⟨fun w2 => ?_, fun w2 => ⟨fun w3 => absurd rfl w3, fun _ => ⟨Or.inr rfl, hno w h' c⟩⟩⟩⟩) (fun w w' h' σ' f c a i => ⟨fun z => ?_, fun z => ⟨fun w2 => ⟨30, ?_⟩, fun w2 => absurd w' w2⟩⟩), fun z => absurd (by decide) z⟩
    · exfalso
      refine w ⟨ho.mp ?_, w2⟩
      cases o with
      | true => rfl
      | false => exact absurd rfl z
    · rw [ho.mpr w] at z; exact absurd z (by decide)
    · have N' := N.fr f
      obtain ⟨⟨d1, B'⟩, -⟩ := id i
      obtain ⟨s1, s2, s3, s4⟩ := set_after I (a.1 ▸ i) hj w hm1 w' (set_ex (σ 0) nc j hm)
      have e6 : sm 29 (fun s => brw (σ 0) hm s (nS (σ 0) nc j s) nc) = sm 29 (seL (σ' 0) nc j hm) := by
        rw [a.1]
        refine sm_congr (fun s hs => sm_congr (fun c hc => ?_))
        rw [s1 c s (by omega) hs]
        by_cases z : c = hm
        · rw [if_pos z, if_pos z]
        · rw [if_neg z, if_neg z]; exact (if_neg z).symm
      exact se_175 (a2 := a2) B' hj hm1 (by rw [a.1]; exact s2) (by rw [a.1]; exact s3) (by rw [a.1]; exact s4) (by rw [a.1]; exact (set_ex (σ 0) nc j hm).2.2.2.1) e6 (fun h2 c2 => hdid w w' h2 σ' c2 a i) 29 0 30 h' rfl (by decide) c N'
  | succ d ih =>
    intro s n h h1 h2 C0 N
    obtain ⟨n, rfl⟩ : ∃ m, n = m + 1 := ⟨n - 1, by omega⟩
    unfold V_L_sets_34
    rw [c29 (by omega)]
    refine ⟨fun z => absurd z (by omega), fun _ => u_need (Qh.rf C0) B hj (by omega) (fun h1 q1 => ?_)⟩
    have N1 := N.fr q1.1
    rw [ix_nI (by omega)]
    refine ⟨N1.1, by rw [N1.2.1]; exact vin (by omega) (by decide), fun h2 e2 => ⟨nc + 1, ?_⟩⟩
    obtain ⟨C2, N2⟩ := N1.put q1.2 e2
    exact se_58 B I hj (by omega) (fun w => ho.mp w) (fun h' C' N' => ih (s + 1) n h' (by omega) (by omega) C' N') nc 0 (nc + 1) h2 (by omega) (by omega) C2 N2
theorem w_sets (C0 : CR h x σ k) (I : IV (σ 0) t nc nj) {j hm : Nat} (hj : j < nj) (hm1 : hm < nc) (he : jb (σ 0) j 0 = nI hm) (hno : ¬ (jb (σ 0) j 3 = 0 ∧ lkN (σ 0) nc j ≤ 0) → ∀ h', CR h' x σ k → K 1 h')
    (hdid : jb (σ 0) j 3 = 0 → lkN (σ 0) nc j ≤ 0 → ∀ h' σ', CR h' x σ' (rk k) → Af σ k (setRw (σ 0) nc j hm) σ' → IV (σ' 0) (t + 1) nc nj → K 1 h') : V_L_sets x (nI j) h K := by
  obtain ⟨⟨d0, B⟩, -⟩ := id I
  intro q1 hq hq0 h1 e1
  have o1 : Old h h1 := by rw [e1]; exact (Old.rf h).n hq0
  have C1 : CR h1 x σ k := C0.old o1 (fun c hc => by
    rw [e1, hK_nN] at hc
    by_cases z : c = q1
    · rw [if_pos z] at hc; omega
    · rw [if_neg z] at hc; exact hc)
  have N1 : Nd h1 q1 (σ 0) nc j 0 := ⟨by rw [e1, hK_nN, if_pos rfl], by rw [e1, hL_nN, if_pos rfl], fun i hi => absurd hi (Nat.not_lt_zero _)⟩
  refine u_job (Qh.rf C1) B hj 0 (fun h2 q2 => u_job (Qh.rf q2.2) B hj 3 (fun h3 q3 => ?_))
  have N3 := (N1.fr q2.1).fr q3.1
  rw [jv_0, jv_3, he]
  refine ⟨fun z => ⟨30, ?_⟩, fun z => ⟨30, ?_⟩⟩
  · exact se_34 (o := false) I hj hm1 he ⟨fun w => (by cases w), fun w => absurd w z⟩ hno hdid 29 0 30 h3 rfl (by decide) q3.2 N3
  · exact se_34 (o := true) I hj hm1 he ⟨fun _ => z, fun _ => rfl⟩ hno hdid 29 0 30 h3 rfl (by decide) q3.2 N3
end SETS
