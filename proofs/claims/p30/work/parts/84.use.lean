/-! the law's view of the class: its questions -/
/-- the class holds σ; since hh what never changes has not changed -/
def Qh (hh : Hp) (x : Nat) (σ : Nat → Nat → Int32) (k : Nat) (h : Hp) : Prop := FR hh h ∧ CR h x σ k
section USE
variable {hh h : Hp} {x k t nc nj d : Nat} {σ : Nat → Nat → Int32} {K : Int32 → Hp → Prop}
theorem Qh.kx (q : Qh hh x σ k h) : hK h x = 7 := q.2.1.kx
theorem Qh.to (q : Qh hh x σ k h) {h' : Hp} (f : FR h h') (c : CR h' x σ k) : Qh hh x σ k h' := ⟨q.1.tr f, c⟩
theorem Qh.rf (c : CR h x σ k) : Qh h x σ k h := ⟨FR.rf h, c⟩
theorem Qh.hk (q : Qh hh x σ k h) : σ 2 0 = nI k ∧ k ≤ 5 := q.2.2.1.2.2.1.2
theorem oc_q (q : Qh hh x σ k h) {o : Ans} {v : Int32} (e : o = no v) (kk : ∀ h', Qh hh x σ k h' → K v h') : OC h x σ k K o := by
  subst e
  exact fun h' f c => kk h' (q.to f c)
/-- what is counted -/
def cv (σ : Nat → Nat → Int32) (nc nj : Nat) (a : Int32) : Int32 := sp_count (σ 0) nc nj (σ 2 0) (σ 5 0) a
theorem u_count (q : Qh hh x σ k h) (B : BN (σ 0) t nc nj d) (a : Int32) (kk : ∀ h', Qh hh x σ k h' → K (cv σ nc nj a) h') : hK h x = 7 ∧ V_X6_count x a h K :=
  ⟨q.kx, k_count q.2 B.1 B.2.2.2.2.1 B.2.1 B.2.2.2.2.2.2.2.1 B.z2 B.hL a (kk h q)⟩
theorem nbad {n a : Nat} (h : a < n) (hn : n < 2 ^ 30) : ¬ (nI a < 0 ∨ nI n - 1 < nI a) := by
  rintro (z | z)
  · exact cn0 (by omega) z
  · rw [ltN _ hn, nle (by omega) (by omega)] at z; omega
theorem nbadS {s : Nat} (h : s < 29) : ¬ badS (nI s) := by
  rintro (z | z)
  · exact cn0 (by omega) z
  · rw [← lt28, c29 (by omega)] at z; omega
theorem u_pc (q : Qh hh x σ k h) (B : BN (σ 0) t nc nj d) {c s : Nat} (hc : c < nc) (hs : s < 29) (kk : ∀ h', Qh hh x σ k h' → K (σ 0 (8 + 29 * c + s)) h') : hK h x = 7 ∧ V_X6_pieces x (nI c) (nI s) h K := by
  refine ⟨q.kx, k_pieces q.2 B.2.2.2.1 B.1 _ _ (oc_q q ?_ kk)⟩
  have hnc := B.1
  unfold sp_pieces
  rw [if_neg (nbadS hs), if_neg, if_neg, ix_nI (by omega), ix_nI (by omega)]
  · show ¬ (nI c < 0 ∨ σ 0 0 - 1 < nI c)
    rw [B.2.2.2.1]; exact nbad hc (by omega)
  · intro z
    exact cn0 (i := c) (by omega) (by rw [z]; decide)
theorem u_pb (q : Qh hh x σ k h) (B : BN (σ 0) t nc nj d) {s : Nat} (hs : s < 29) (kk : ∀ h', Qh hh x σ k h' → K (σ 0 (182 + s)) h') : hK h x = 7 ∧ V_X6_pieces x (-1) (nI s) h K := by
  refine ⟨q.kx, k_pieces q.2 B.2.2.2.1 B.1 _ _ (oc_q q ?_ kk)⟩
  unfold sp_pieces
  rw [if_neg (nbadS hs), if_pos rfl, ix_nI (by omega)]
theorem u_p0 (q : Qh hh x σ k h) (B : BN (σ 0) t nc nj d) (kk : ∀ h', Qh hh x σ k h' → K (-1) h') : hK h x = 7 ∧ V_X6_pieces x (nI nc) 0 h K := by
  refine ⟨q.kx, k_pieces q.2 B.2.2.2.1 B.1 _ _ (oc_q q ?_ kk)⟩
  have hnc := B.1
  unfold sp_pieces
  rw [if_neg (show ¬ badS 0 from nbadS (s := 0) (by decide)), if_neg, if_pos]
  · right
    rw [B.2.2.2.1, ltN _ (by omega)]; exact Int32.le_refl _
  · intro z
    exact cn0 (i := nc) (by omega) (by rw [z]; decide)
theorem u_p29 (q : Qh hh x σ k h) (B : BN (σ 0) t nc nj d) (kk : ∀ h', Qh hh x σ k h' → K (-1) h') : hK h x = 7 ∧ V_X6_pieces x 0 29 h K := by
  refine ⟨q.kx, k_pieces q.2 B.2.2.2.1 B.1 _ _ (oc_q q ?_ kk)⟩
  unfold sp_pieces
  rw [if_pos (show badS 29 from Or.inr (by decide))]
theorem nbadJ (B : BN (σ 0) t nc nj d) {j : Nat} (hj : j < nj) : ¬ badJ (σ 0) (nI j) := by
  show ¬ (nI j < 0 ∨ σ 0 1 - 1 < nI j)
  have := B.2.1
  rw [B.2.2.2.2.1]; exact nbad hj (by omega)
theorem nbadC (B : BN (σ 0) t nc nj d) {c : Nat} (hc : c < nc) : ¬ badC (σ 0) (nI c) := by
  show ¬ (nI c < 0 ∨ σ 0 0 - 1 < nI c)
  have := B.1
  rw [B.2.2.2.1]; exact nbad hc (by omega)
theorem u_taken (q : Qh hh x σ k h) (B : BN (σ 0) t nc nj d) {j c s : Nat} (hj : j < nj) (hc : c < nc) (hs : s < 29) (kk : ∀ h', Qh hh x σ k h' → K (fm (σ 0) j c s) h') : hK h x = 7 ∧ V_X6_taken x (nI j) (nI c) (nI s) h K := by
  refine ⟨q.kx, k_taken q.2 B.2.2.2.1 B.1 B.2.2.2.2.1 B.2.1 _ _ _ (oc_q q ?_ kk)⟩
  have := B.1
  have := B.2.1
  unfold sp_taken
  rw [if_neg (fun z => z.elim (nbadJ B hj) (fun z => z.elim (nbadC B hc) (nbadS hs))), ix_nI (by omega), ix_nI (by omega), ix_nI (by omega)]
/-- what is told of a job -/
def jv (ρ : Row) (nc j : Nat) (w : Int32) : Int32 :=
  if w.toInt = 0 then jb ρ j 0 else if w.toInt = 1 then jb ρ j 1 else if w.toInt = 2 then jb ρ j 2 else if w.toInt = 3 then jb ρ j 3 else
  if w.toInt = 4 then nI (jL ρ j).1.1 else if w.toInt = 5 then nI (jL ρ j).1.2.1 else if w.toInt = 6 then nI (jL ρ j).1.2.2.1 else
  if w.toInt = 7 then formeN ρ nc j else if w.toInt = 8 then formeO ρ nc j else if w.toInt = 9 then jb ρ j 4 else if w.toInt = 10 then jb ρ j 5 else -2
theorem no_if {c : Prop} {_ : Decidable c} {a b : Int32} : (if c then no a else no b) = no (if c then a else b) := by
  by_cases h : c
  · rw [if_pos h, if_pos h]
  · rw [if_neg h, if_neg h]
theorem u_job (q : Qh hh x σ k h) (B : BN (σ 0) t nc nj d) {j : Nat} (hj : j < nj) (w : Int32) (kk : ∀ h', Qh hh x σ k h' → K (jv (σ 0) nc j w) h') : hK h x = 7 ∧ V_X6_job x (nI j) w h K := by
  refine ⟨q.kx, k_job q.2 B.1 B.2.2.2.2.1 B.2.1 B.hH B.z2 B.hL _ _ (oc_q q ?_ kk)⟩
  have := B.2.1
  unfold sp_job
  rw [if_neg (nbadJ B hj), ix_nI (by omega)]
  simp only [no_if]
  rfl
theorem u_jobN (q : Qh hh x σ k h) (B : BN (σ 0) t nc nj d) (w : Int32) (kk : ∀ h', Qh hh x σ k h' → K (-1) h') : hK h x = 7 ∧ V_X6_job x (nI nj) w h K := by
  refine ⟨q.kx, k_job q.2 B.1 B.2.2.2.2.1 B.2.1 B.hH B.z2 B.hL _ _ (oc_q q ?_ kk)⟩
  have := B.2.1
  unfold sp_job
  rw [if_pos]
  right
  rw [B.2.2.2.2.1, ltN _ (by omega)]; exact Int32.le_refl _
theorem u_need (q : Qh hh x σ k h) (B : BN (σ 0) t nc nj d) {j s : Nat} (hj : j < nj) (hs : s < 29) (kk : ∀ h', Qh hh x σ k h' → K (nS (σ 0) nc j s) h') : hK h x = 7 ∧ V_X6_need x (nI j) (nI s) h K := by
  refine ⟨q.kx, k_need q.2 B.1 B.2.2.2.2.1 B.2.1 B.2.2.2.2.2.2.2.1 B.z2 B.z3 _ _ (oc_q q ?_ kk)⟩
  have := B.2.1
  unfold sp_need
  rw [if_neg (fun z => z.elim (nbadJ B hj) (nbadS hs)), ix_nI (by omega), ix_nI (by omega)]
  rfl
theorem u_missing (q : Qh hh x σ k h) (B : BN (σ 0) t nc nj d) {j s : Nat} (hj : j < nj) (hs : s < 29) (kk : ∀ h', Qh hh x σ k h' → K (lkF (σ 0) nc j s) h') : hK h x = 7 ∧ V_X6_missing x (nI j) (nI s) h K := by
  refine ⟨q.kx, k_missing q.2 B.1 B.2.2.2.2.1 B.2.1 B.2.2.2.2.2.2.2.1 B.z2 B.z3 B.hsm30 _ _ (oc_q q ?_ kk)⟩
  have := B.2.1
  unfold sp_missing
  rw [if_neg (fun z => z.elim (nbadJ B hj) (nbadS hs)), ix_nI (by omega), ix_nI (by omega)]
/-- the gaps of a line, ahead of it -/
def FGl (ρ : Row) (j l : Nat) : Nat := (jL ρ j).2.2.2.1 l
theorem u_gap (q : Qh hh x σ k h) (B : BN (σ 0) t nc nj d) {j l g : Nat} (hj : j < nj) (hl : l < (jL (σ 0) j).1.1) (h30 : (jL (σ 0) j).1.1 ≤ 30) (hm : FGl (σ 0) j l ≤ FGl (σ 0) j (l + 1)) (hb : FGl (σ 0) j (l + 1) ≤ 30) (hg : g ≤ 30) (kk : ∀ h', Qh hh x σ k h' → K (if FGl (σ 0) j l + g < FGl (σ 0) j (l + 1) then (jL (σ 0) j).2.2.2.2 (FGl (σ 0) j l + g) else -5) h') : hK h x = 7 ∧ V_X6_gap x (nI j) (nI l) (nI g) h K := by
  refine ⟨q.kx, k_gap q.2 B.2.2.2.2.1 B.2.1 _ _ _ (oc_q q ?_ kk)⟩
  have := B.2.1
  unfold sp_gap
  rw [if_neg (nbadJ B hj), ix_nI (by omega), ix_nI (by omega), ix_nI (by omega)]
  have e : gapN (σ 0) j l = nI (FGl (σ 0) j (l + 1) - FGl (σ 0) j l) := pk_sub hm
  rw [e]
  by_cases z : FGl (σ 0) j l + g < FGl (σ 0) j (l + 1)
  · rw [if_pos z, if_neg]
    · rfl
    · rintro (w | w | w)
      · exact nbad hl (by omega) w
      · exact cn0 (by omega) w
      · exact w ((nI_ltI (by omega) (by omega)).mpr (by omega))
  · rw [if_neg z, if_pos]
    right; right
    rw [nI_ltI (by omega) (by omega)]
    omega
theorem u_gapN (q : Qh hh x σ k h) (B : BN (σ 0) t nc nj d) {j : Nat} (hj : j < nj) (h30 : (jL (σ 0) j).1.1 ≤ 30) (g : Int32) (kk : ∀ h', Qh hh x σ k h' → K (-5) h') : hK h x = 7 ∧ V_X6_gap x (nI j) (nI (jL (σ 0) j).1.1) g h K := by
  refine ⟨q.kx, k_gap q.2 B.2.2.2.2.1 B.2.1 _ _ _ (oc_q q ?_ kk)⟩
  have := B.2.1
  unfold sp_gap
  rw [if_neg (nbadJ B hj), ix_nI (by omega), if_pos]
  left; right
  rw [ltN _ (by omega)]; exact Int32.le_refl _
theorem u_piece (q : Qh hh x σ k h) (B : BN (σ 0) t nc nj d) {j l p : Nat} (hj : j < nj) (hs : jb (σ 0) j 3 = 1 ∨ jb (σ 0) j 3 = 2) (hl : l < (jL (σ 0) j).1.1) (h30 : (jL (σ 0) j).1.1 ≤ 30) (hp : p < 2 ^ 31)
    (kk : ∀ h', Qh hh x σ k h' → K (pcW (jtx (σ 0) j) (fun g => jb (σ 0) j (241 + g)) (FGl (σ 0) j (l + 1)) ((jL (σ 0) j).2.2.1 l - (jL (σ 0) j).2.1 l) (nI p) (FGl (σ 0) j l) ((jL (σ 0) j).2.1 l)) h') : hK h x = 7 ∧ V_X6_pieceAt x (nI j) (nI l) (nI p) h K := by
  refine ⟨q.kx, k_pieceAt q.2 B.2.2.2.2.1 B.2.1 (fun j hj => (B.2.2.2.2.2.2.2.2 j hj).1) (fun j hj => (B.2.2.2.2.2.2.2.2 j hj).2.2.2.2.2.1) _ _ _ (oc_q q ?_ kk)⟩
  have := B.2.1
  unfold sp_pieceAt
  rw [if_neg (nbadJ B hj), ix_nI (by omega), ix_nI (by omega), if_neg (fun z => z hs), if_neg]
  · rfl
  · rintro (w | w)
    · exact nbad hl (by omega) w
    · exact w (c0 hp)
theorem u_pieceN (q : Qh hh x σ k h) (B : BN (σ 0) t nc nj d) {j : Nat} (hj : j < nj) (hs : ¬ (jb (σ 0) j 3 = 1 ∨ jb (σ 0) j 3 = 2)) (l p : Int32) (kk : ∀ h', Qh hh x σ k h' → K (-4) h') : hK h x = 7 ∧ V_X6_pieceAt x (nI j) l p h K := by
  refine ⟨q.kx, k_pieceAt q.2 B.2.2.2.2.1 B.2.1 (fun j hj => (B.2.2.2.2.2.2.2.2 j hj).1) (fun j hj => (B.2.2.2.2.2.2.2.2 j hj).2.2.2.2.2.1) _ _ _ (oc_q q ?_ kk)⟩
  have := B.2.1
  unfold sp_pieceAt
  rw [if_neg (nbadJ B hj), ix_nI (by omega), if_pos hs]
theorem u_urgent (q : Qh hh x σ k h) (B : BN (σ 0) t nc nj d) (kk : ∀ h', Qh hh x σ k h' → K (urg (σ 0) nj) h') : hK h x = 7 ∧ V_X6_urgent x h K :=
  ⟨q.kx, k_urgent q.2 B.2.2.2.2.1 B.2.1 (kk h q)⟩
end USE
