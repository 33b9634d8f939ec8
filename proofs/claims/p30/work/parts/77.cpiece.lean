/-! the class's calls: pieceAt -/
theorem sp_parts {a b c : Nat} (ha : a < 1000) (hb : b < 1000) (hc : c < 1000) : spN (nI (1000000 * a + 1000 * b + c)) = nI (a + b + c) ∧ ∀ p, p < 2 ^ 31 → spA (nI (1000000 * a + 1000 * b + c)) (nI p) = if a ≤ p then (if a + b ≤ p then (if a + b + c ≤ p then -5 else 49) else 50) else 52 := by
  obtain ⟨e1, e2, e3⟩ := fil_parts ha hb hc
  have es : spN (nI (1000000 * a + 1000 * b + c)) = nI (a + b + c) := by
    unfold spN
    rw [e1, e2, e3, nI_add, nI_add]
  refine ⟨es, fun p hp => ?_⟩
  unfold spA
  rw [es, e1, e2, nI_add]
  simp only [nle (show a < 2 ^ 31 by omega) hp, nle (show a + b < 2 ^ 31 by omega) hp, nle (show a + b + c < 2 ^ 31 by omega) hp]
section CPIECE
variable {h0 h : Hp} {x q : Nat} {φ φ0 : Nat → Nat → Int32} {K : Int32 → Hp → Prop} {ρ : Row} {j c : Nat}
theorem k_pc (y : XB h0 x q φ h) {a b e : Nat} (e2 : φ 5 2 = nI a) (e3 : φ 5 3 = nI b) (e4 : φ 5 4 = nI e) : V_X4_pieceCount (hR h0 x 5) h K ↔ K (nI (a + b + e)) h := by
  unfold V_X4_pieceCount
  simp only [y.s, e2, e3, e4, nI_add, true_and]
theorem k_digit (y : XB h0 x q φ h) {a b p : Nat} (e2 : φ 5 2 = nI a) (e3 : φ 5 3 = nI b) (ha : a < 1000) (hb : b < 1000) (hp : p < 2 ^ 31) (hK' : K (if a ≤ p then (if a + b ≤ p then 49 else 50) else 52) h) : V_X4_digitAt (hR h0 x 5) (nI p) h K := by
  unfold V_X4_digitAt V_X4_digitAt_31
  simp only [y.s, e2, e3, nI_add, true_and]
  rw [nle (by omega) hp, nle (by omega) hp]
  refine ⟨fun z => ⟨fun z2 => ⟨cn_sm (n := 49) (by decide), ?_⟩, fun z2 => ⟨cn_sm (n := 50) (by decide), ?_⟩⟩, fun z => ⟨cn_sm (n := 52) (by decide), ?_⟩⟩
  · rw [if_pos z, if_pos z2] at hK'; exact hK'
  · rw [if_pos z, if_neg z2] at hK'; exact hK'
  · rw [if_neg z] at hK'; exact hK'
theorem k_fp77 (hq : ¬ im (hK h0 q)) (J : JobR h0 ρ j c) (jt : JT ρ j) {w : Nat → Nat} {A B l : Nat} (hA : A < 2 ^ 30) (hB : B < 2 ^ 30) (hw : ∀ g, g < (jL ρ j).1.2.2.1 → (jL ρ j).2.2.2.2 g = nI (w g) ∧ w g ≤ 151)
    (hFil : ∀ g, g < (jL ρ j).1.2.2.1 → jb ρ j (241 + g) = nI (1000000 * n4 w A B g + 1000 * n2 w A B g + n1 w A B g)) (hl : l < (jL ρ j).1.1) {R : Int32} (done : ∀ h2 φ2, XB h0 x q φ2 h2 → (∀ k, k ≠ 5 → φ2 k = φ0 k) → K R h2) :
    ∀ (d i n p g : Nat) (φ : Nat → Nat → Int32) (h1 : Hp), i + d = (jL ρ j).2.2.1 l → d < n → XB h0 x q φ h1 → (∀ k, k ≠ 5 → φ k = φ0 k) → SpR (jL ρ j).2.2.2.2 (nI A) (nI B) g (φ 5) → g + cB (jtx ρ j) i d ≤ (jL ρ j).2.2.2.1 (l + 1) → p < 2 ^ 31 → pcW (jtx ρ j) (fun g => jb ρ j (241 + g)) ((jL ρ j).2.2.2.1 (l + 1)) d (nI p) g i = R →
      V_X6_findPiece_77 K n x (nI l) (hR h0 (hR h0 c 0) 3) (nI g) (nI p) (nI i) h1 := by
  have hb30 : (jL ρ j).1.1 ≤ 30 := (lay_bound (meas := jb ρ j 1) jt.2).1
  have hg30 : (jL ρ j).1.2.2.1 ≤ 30 := (lay_bound (meas := jb ρ j 1) jt.2).2
  have hG : (jL ρ j).2.2.2.1 (l + 1) ≤ (jL ρ j).1.2.2.1 := jL_FG ρ j (l + 1) (by omega)
  obtain ⟨ln1, ln2, -⟩ := jL_line ρ j l hl
  have t60 := jt.2.2.1
  have sm4 : ∀ g, g < (jL ρ j).1.2.2.1 → n4 w A B g < 1000 ∧ n2 w A B g < 1000 ∧ n1 w A B g < 1000 := fun g hg => by
    have := (hw g hg).2
    have := @n_le w A B g
    omega
  intro d
  induction d with
  | zero =>
    intro i n p g φ h1 p1 p2 y f1 sp hgc hp hR'
    obtain ⟨n, rfl⟩ : ∃ k, n = k + 1 := ⟨n - 1, by omega⟩
    have L : LayR h1 (hR h0 (hR h0 c 0) 3) (jtx ρ j) (jb ρ j 1) (jlen ρ j) := J.2.1.2.2.2.2.fr (y.fr0 hq)
    have L' := L
    obtain ⟨l1, -, -, ⟨c1, c2, c3⟩, ⟨d1, d2, d3⟩, -⟩ := L
    have eE : hI h1 (hR h1 (hR h0 (hR h0 c 0) 3) 2) l = nI ((jL ρ j).2.2.1 l) := c3 l hl
    have eG : hI h1 (hR h1 (hR h0 (hR h0 c 0) 3) 3) l = nI ((jL ρ j).2.2.2.1 (l + 1)) := d3 l hl
    unfold V_X6_findPiece_77 V_X6_findPiece_225
    rw [l1, c1, c2, d1, d2, ix_nI (show l < 2 ^ 31 by omega), eE, eG, nle (by omega) (by omega), nle (by omega) (by omega)]
    have hgc' : g ≤ (jL ρ j).2.2.2.1 (l + 1) := by omega
    unfold pcW at hR'
    refine ⟨rfl, rfl, vin (by omega) (by decide), fun _ => ⟨rfl, rfl, vin (by omega) (by decide), fun z => ?_, fun z => ?_⟩, fun z => absurd (by omega) z⟩
    · rw [if_pos z] at hR'
      rw [hR']; exact done h1 φ y f1
    · rw [if_neg z] at hR'
      have hgN : g < (jL ρ j).1.2.2.1 := by omega
      obtain ⟨s1, s2, s3⟩ := sm4 g hgN
      obtain ⟨u1, u2, u3⟩ := ((fl_N hA hB hw g (by omega)).2 hgN)
      have e := hFil g hgN
      rw [e, (sp_parts s1 s2 s3).2 p hp] at hR'
      refine ⟨y.K 7 rfl, rfl, ?_⟩
      rw [k_gapWidth L' jt.2 hgN, y.s.1]
      refine ⟨y.K 5 rfl, k_fill (W := (jL ρ j).2.2.2.2) y sp (fun h3 φ3 y3 r1 r2 r3 r4 r5 => ?_)⟩
      rw [u1] at r3
      rw [u2] at r4
      rw [u3] at r5
      have f3 : ∀ k, k ≠ 5 → φ3 k = φ0 k := fun k hk => (r1 k hk).trans (f1 k hk)
      refine ⟨y3.K 7 rfl, by rw [y3.s.1]; exact y3.K 5 rfl, ?_⟩
      rw [y3.s.1, k_pc y3 r3 r4 r5, nle (by omega) hp]
      refine ⟨fun z2 => ?_, fun z2 => ⟨y3.K 7 rfl, by rw [y3.s.1]; exact y3.K 5 rfl, ?_⟩⟩
      · rw [if_pos (by omega), if_pos (by omega), if_pos z2] at hR'
        rw [hR']; exact done h3 φ3 y3 f3
      · rw [y3.s.1]
        refine k_digit y3 r3 r4 s1 s2 hp ?_
        rw [if_neg z2] at hR'
        rw [hR']; exact done h3 φ3 y3 f3
  | succ d ih =>
    intro i n p g φ h1 p1 p2 y f1 sp hgc hp hR'
    obtain ⟨n, rfl⟩ : ∃ k, n = k + 1 := ⟨n - 1, by omega⟩
    have L : LayR h1 (hR h0 (hR h0 c 0) 3) (jtx ρ j) (jb ρ j 1) (jlen ρ j) := J.2.1.2.2.2.2.fr (y.fr0 hq)
    have L' := L
    obtain ⟨l1, -, -, ⟨c1, c2, c3⟩, -⟩ := L
    have eE : hI h1 (hR h1 (hR h0 (hR h0 c 0) 3) 2) l = nI ((jL ρ j).2.2.1 l) := c3 l hl
    unfold V_X6_findPiece_77 V_X6_findPiece_171
    rw [l1, c1, c2, ix_nI (show l < 2 ^ 31 by omega), eE, nle (by omega) (by omega), k_signAt L' jt.2 (show i < jlen ρ j by omega), k_isLetter, nI_1]
    refine ⟨rfl, rfl, vin (by omega) (by decide), fun z => absurd z (by omega), fun _ => ⟨rfl, ?_⟩⟩
    unfold pcW at hR'
    rw [cB_front] at hgc
    by_cases hlt : isL (jtx ρ j i)
    · rw [if_pos hlt] at hR' hgc
      rw [if_neg hlt]
      refine ⟨fun z => absurd z ne01, fun _ => ⟨fun z => ?_, fun z => ?_⟩⟩
      · rw [if_neg z] at hR'
        obtain ⟨p', rfl⟩ : ∃ k, p = k + 1 := ⟨p - 1, by
          have : ¬ p = 0 := fun w => z (by rw [w]; rfl)
          omega⟩
        rw [pk_m1] at hR' ⊢
        rw [nI_1 i]
        exact ih (i + 1) n p' g φ h1 (by omega) (by omega) y f1 sp (by omega) (by omega) hR'
      · rw [if_pos z] at hR'
        rw [hR']; exact done h1 φ y f1
    · rw [if_neg hlt] at hR' hgc
      rw [if_pos (Classical.not_not.mp hlt)]
      refine ⟨fun _ => ?_, fun z => absurd rfl z⟩
      have hgN : g < (jL ρ j).1.2.2.1 := by omega
      obtain ⟨s1, s2, s3⟩ := sm4 g hgN
      obtain ⟨u1, u2, u3⟩ := ((fl_N hA hB hw g (by omega)).2 hgN)
      have e := hFil g hgN
      rw [e, (sp_parts s1 s2 s3).2 p hp, (sp_parts s1 s2 s3).1] at hR'
      refine ⟨y.K 7 rfl, l1, ?_⟩
      rw [k_gapWidth L' jt.2 hgN, y.s.1]
      refine ⟨y.K 5 rfl, k_fill (W := (jL ρ j).2.2.2.2) y sp (fun h3 φ3 y3 r1 r2 r3 r4 r5 => ?_)⟩
      rw [u1] at r3
      rw [u2] at r4
      rw [u3] at r5
      have f3 : ∀ k, k ≠ 5 → φ3 k = φ0 k := fun k hk => (r1 k hk).trans (f1 k hk)
      refine ⟨y3.K 7 rfl, by rw [y3.s.1]; exact y3.K 5 rfl, ?_⟩
      rw [y3.s.1, k_pc y3 r3 r4 r5, nle (by omega) hp]
      refine ⟨fun z2 => ⟨y3.K 7 rfl, by rw [y3.s.1]; exact y3.K 5 rfl, ?_⟩, fun z2 => ⟨y3.K 7 rfl, by rw [y3.s.1]; exact y3.K 5 rfl, ?_⟩⟩
      · rw [if_pos ((nle (by omega) hp).mpr z2), pk_sub z2] at hR'
        rw [y3.s.1, k_pc y3 r3 r4 r5, pk_sub z2, nI_1]
        exact ih (i + 1) n _ (g + 1) φ3 h3 (by omega) (by omega) y3 f3 r2 (by omega) (by omega) hR'
      · rw [y3.s.1]
        refine k_digit y3 r3 r4 s1 s2 hp ?_
        rw [if_neg (fun z => z2 ((nle (by omega) hp).mp z)), if_neg z2] at hR'
        rw [hR']; exact done h3 φ3 y3 f3
theorem k_fp39 (hq : ¬ im (hK h0 q)) (J : JobR h0 ρ j c) (jt : JT ρ j) {A B : Int32} {l : Nat} {v : Int32} (hl : l < (jL ρ j).1.1)
    (go : ∀ φ1 h1, XB h0 x q φ1 h1 → (∀ k, k ≠ 5 → φ1 k = φ0 k) → SpR (jL ρ j).2.2.2.2 A B ((jL ρ j).2.2.2.1 l) (φ1 5) → ∃ n9, V_X6_findPiece_77 K n9 x (nI l) (hR h0 (hR h0 c 0) 3) (nI ((jL ρ j).2.2.2.1 l)) v (nI ((jL ρ j).2.1 l)) h1) :
    ∀ (d a n : Nat) (φ : Nat → Nat → Int32) (h1 : Hp), a + d = (jL ρ j).2.2.2.1 l → d < n → XB h0 x q φ h1 → (∀ k, k ≠ 5 → φ k = φ0 k) → SpR (jL ρ j).2.2.2.2 A B a (φ 5) → V_X6_findPiece_39 K n x (nI l) v (hR h0 (hR h0 c 0) 3) (nI ((jL ρ j).2.2.2.1 l)) (nI a) h1 := by
  have hg30 : (jL ρ j).1.2.2.1 ≤ 30 := (lay_bound (meas := jb ρ j 1) jt.2).2
  have hG : (jL ρ j).2.2.2.1 l ≤ (jL ρ j).1.2.2.1 := jL_FG ρ j l (by omega)
  intro d
  induction d with
  | zero =>
    intro a n φ h1 p1 p2 y f1 sp
    obtain ⟨n, rfl⟩ : ∃ k, n = k + 1 := ⟨n - 1, by omega⟩
    have L : LayR h1 (hR h0 (hR h0 c 0) 3) (jtx ρ j) (jb ρ j 1) (jlen ρ j) := J.2.1.2.2.2.2.fr (y.fr0 hq)
    unfold V_X6_findPiece_39
    rw [nle (by omega) (by omega), k_lineStart L jt.2 hl]
    refine ⟨fun _ => ⟨L.1, ?_⟩, fun z => absurd (by omega) z⟩
    rw [show a = (jL ρ j).2.2.2.1 l by omega] at sp
    exact go φ h1 y f1 sp
  | succ d ih =>
    intro a n φ h1 p1 p2 y f1 sp
    obtain ⟨n, rfl⟩ : ∃ k, n = k + 1 := ⟨n - 1, by omega⟩
    have L : LayR h1 (hR h0 (hR h0 c 0) 3) (jtx ρ j) (jb ρ j 1) (jlen ρ j) := J.2.1.2.2.2.2.fr (y.fr0 hq)
    unfold V_X6_findPiece_39
    rw [nle (by omega) (by omega), k_gapWidth L jt.2 (show a < (jL ρ j).1.2.2.1 by omega), y.s.1, nI_1]
    refine ⟨fun z => absurd z (by omega), fun _ => ⟨y.K 7 rfl, L.1, y.K 5 rfl, k_fill (W := (jL ρ j).2.2.2.2) y sp (fun h3 φ3 y3 r1 r2 _ _ _ => ?_)⟩⟩
    exact ih (a + 1) n φ3 h3 (by omega) (by omega) y3 (fun k hk => (r1 k hk).trans (f1 k hk)) r2
end CPIECE
theorem k_pieceAt {h : Hp} {x k : Nat} {σ : Nat → Nat → Int32} {K : Int32 → Hp → Prop} (C : CR h x σ k) {nj : Nat} (hj : σ 0 1 = nI nj) (h12 : nj ≤ 12) (hW : ∀ j, j < nj → JW (σ 0) j) (hFl : ∀ j, j < nj → (jb (σ 0) j 3 = 1 ∨ jb (σ 0) j 3 = 2) → FilR (σ 0) j) (a l p : Int32) (hO : OC h x σ k K (sp_pieceAt (σ 0) a l p)) : V_X6_pieceAt x a l p h K := by
  unfold V_X6_pieceAt V_X6_pieceAt_47
  unfold sp_pieceAt at hO
  refine ⟨C.n.1, C.n.2.1, k_findJob C hj h12 a (fun hb => ?_) (fun j j1 j2 ja hb hbi jt J J0 => ?_)⟩
  · rw [if_pos hb] at hO
    exact ⟨fun z => absurd rfl z, fun _ => hO.no (FR.rf h) C⟩
  · rw [if_neg hb, hbi] at hO
    generalize hR h (hR h (hR h x 1) 2) j = c at J J0 ⊢
    refine ⟨fun _ => ⟨J.1, ?_⟩, fun z => absurd z J0⟩
    rw [k_hasForme J]
    by_cases c2 : jb (σ 0) j 3 = 1 ∨ jb (σ 0) j 3 = 2
    · rw [if_neg (fun z => z c2)] at hO
      rw [if_pos c2]
      have L := J.2.1.2.2.2.2
      refine ⟨fun _ => ⟨J.1, J.2.1.1, L.1, ?_⟩, fun z => absurd z ne01⟩
      rw [k_hasLine L jt.2, show (lay (jtx (σ 0) j) (jb (σ 0) j 1) (jlen (σ 0) j)) = jL (σ 0) j from rfl]
      have hb30 : (jL (σ 0) j).1.1 ≤ 30 := (lay_bound (meas := jb (σ 0) j 1) jt.2).1
      have hg30 : (jL (σ 0) j).1.2.2.1 ≤ 30 := (lay_bound (meas := jb (σ 0) j 1) jt.2).2
      rcases rng l (n := (jL (σ 0) j).1.1) (by omega) with hl | ⟨e, he, rfl, hl⟩
      · rw [if_pos (Or.inl hl)] at hO
        rw [if_pos hl]
        exact ⟨fun _ => hO.no (FR.rf h) C, fun z => absurd rfl z⟩
      · rw [if_neg hl]
        refine ⟨fun z => absurd z ne01, fun _ => ⟨fun hp => ?_, fun hp => ?_⟩⟩
        · rw [if_neg (fun z => z.elim hl (fun z => z hp))] at hO
          obtain ⟨p', hp', rfl⟩ := nI_of (Int32.not_lt.mpr hp)
          rw [ix_nI (by omega)] at hO
          obtain ⟨φ, y, -, -⟩ := C.view
          have hq : ¬ im (hK h (hR h x 2)) := by rw [C.1.2.2.1.1]; unfold im; omega
          have done : ∀ h2 φ2, XB h x (hR h x 2) φ2 h2 → (∀ k, k ≠ 5 → φ2 k = φ k) → K _ h2 := fun h2 φ2 y2 f2 => by
            obtain ⟨C2, F2⟩ := C.scr y y2 (fun n a _ _ _ => f2 n a)
            exact hO.no F2 C2
          obtain ⟨A, B, hA, hB, fl1, fl2, fl3⟩ := hFl j j1 c2
          obtain ⟨w, hw⟩ := (hW j j1).wide
          have fN0 := fl_N (W := (jL (σ 0) j).2.2.2.2) (w := w) (A := A) (B := B) (G := (jL (σ 0) j).1.2.2.1) (by omega) (by omega) hw
          rw [(fN0 _ (Nat.le_refl _)).1] at fl2 fl3
          have lA := (fN_le w A B (jL (σ 0) j).1.2.2.1).1
          have lB := (fN_le w A B (jL (σ 0) j).1.2.2.1).2
          obtain ⟨ln1, ln2, ln3⟩ := jL_line (σ 0) j e he
          have t60 := jt.2.2.1
          have hFG := jL_FG (σ 0) j e (by omega)
          unfold V_X6_findPiece
          refine ⟨y.K 7 rfl, J.1, J.2.1.1, y.K 7 rfl, J.1, ?_⟩
          refine k_takenInAll J (s := 26) (by decide) ⟨J.1, k_takenInAll J (s := 27) (by decide) ?_⟩
          rw [fl2, fl3]
          refine ⟨y.K 5 rfl, k_begin y _ _ (jL (σ 0) j).2.2.2.2 (fun h1 φ1 y1 e1 sp => ?_)⟩
          have L1 : LayR h1 (hR h (hR h c 0) 3) (jtx (σ 0) j) (jb (σ 0) j 1) (jlen (σ 0) j) := L.fr (y1.fr0 hq)
          refine ⟨L1.1, ?_⟩
          rw [k_firstGap L1 jt.2 he]
          refine ⟨(jL (σ 0) j).2.2.2.1 e + 1, k_fp39 (φ0 := φ) hq J jt he (fun φ2 h2 y2 f2 sp2 => ⟨(jL (σ 0) j).2.2.1 e - (jL (σ 0) j).2.1 e + 1, ?_⟩) _ 0 _ φ1 h1 (Nat.zero_add _) (Nat.lt_succ_self _) y1 e1 sp⟩
          refine k_fp77 (φ0 := φ) hq J jt (by omega) (by omega) hw (fun g hg => ?_) he done _ _ _ p' _ φ2 h2 (by omega) (Nat.lt_succ_self _) y2 f2 sp2 ?_ hp' rfl
          · obtain ⟨u1, u2, u3⟩ := (fN0 g (by omega)).2 hg
            obtain ⟨r1, r2, r3⟩ := (fN_again (w := w) (A := A) (B := B) (G := (jL (σ 0) j).1.2.2.1) g (by omega)).2 hg
            rw [fl1 g hg, u1, u2, u3, filV_nI, r1, r2, r3]
          · have := gc_ge (cB (jtx (σ 0) j) ((jL (σ 0) j).2.1 e) ((jL (σ 0) j).2.2.1 e - (jL (σ 0) j).2.1 e))
            omega
        · rw [if_pos (Or.inr hp)] at hO
          exact hO.no (FR.rf h) C
    · rw [if_pos c2] at hO
      rw [if_neg c2]
      exact ⟨fun z => absurd rfl z, fun _ => hO.no (FR.rf h) C⟩
