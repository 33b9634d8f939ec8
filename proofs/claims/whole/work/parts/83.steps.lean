/-! the calls of the law, each -/
section STEPS
variable {h : Hp} {x m t : Nat}
/-- all that a call asks -/
def BN (ρ : Row) (t nc nj d : Nat) : Prop := nc ≤ 6 ∧ nj ≤ 12 ∧ d ≤ 30 * t ∧ ρ 0 = nI nc ∧ ρ 1 = nI nj ∧ ρ 3 = nI d ∧ (∀ c s, c < 6 → s < 29 → ∃ n, n ≤ 99 ∧ ρ (8 + 29 * c + s) = nI n) ∧ (∀ c s, nc ≤ c → c < 6 → s < 29 → ρ (8 + 29 * c + s) = 0) ∧ ∀ j, j < nj → JWF ρ nc j
theorem BN.h99 {ρ : Row} {nc nj d : Nat} (b : BN ρ t nc nj d) : ∀ c s, c < 6 → s < 29 → ρ (8 + 29 * c + s) ≤ 99 := fun c s hc hs => by
  obtain ⟨n, hn, e⟩ := b.2.2.2.2.2.2.1 c s hc hs
  rw [e]
  exact (nI_leI (b := 99) (by omega) (by decide)).mpr hn
theorem BN.hJ {ρ : Row} {nc nj d : Nat} (b : BN ρ t nc nj d) : ∀ j, j < nj → JT ρ j := fun j hj => (b.2.2.2.2.2.2.2.2 j hj).1.1
theorem BN.hH {ρ : Row} {nc nj d : Nat} (b : BN ρ t nc nj d) : ∀ j, j < nj → ∃ c, c < 6 ∧ jb ρ j 0 = nI c := fun j hj => by
  obtain ⟨c, hc, e⟩ := (b.2.2.2.2.2.2.2.2 j hj).2.1
  exact ⟨c, by have := b.1; omega, e⟩
theorem BN.z2 {ρ : Row} {nc nj d : Nat} (b : BN ρ t nc nj d) : ∀ j c s, j < nj → nc ≤ c → c < 6 → s < 29 → fm ρ j c s = 0 := fun j c s hj => (b.2.2.2.2.2.2.2.2 j hj).2.2.2.1 c s
theorem BN.z3 {ρ : Row} {nc nj d : Nat} (b : BN ρ t nc nj d) : ∀ j, j < nj → ¬ (jb ρ j 3 = 1 ∨ jb ρ j 3 = 2) → ∀ c s, c < 6 → s < 29 → fm ρ j c s = 0 := fun j hj => (b.2.2.2.2.2.2.2.2 j hj).2.2.2.2.1
theorem BN.hL {ρ : Row} {nc nj d : Nat} (b : BN ρ t nc nj d) : ∀ j, j < nj → jb ρ j 5 = lateC ρ j := fun j hj => (b.2.2.2.2.2.2.2.2 j hj).2.2.2.2.2.2.1
theorem BN.z4 {ρ : Row} {nc nj d : Nat} (b : BN ρ t nc nj d) : ∀ j, j < nj → (jb ρ j 3 = 0 ∨ jb ρ j 3 = 1) → jb ρ j 4 = -5 := fun j hj => (b.2.2.2.2.2.2.2.2 j hj).2.2.2.2.2.2.2
theorem BN.hsm {ρ : Row} {nc nj d : Nat} (b : BN ρ t nc nj d) : ∀ j s, j < nj → s < 29 → ∃ a b, a < 2 ^ 20 ∧ b < 2 ^ 20 ∧ ndF ρ nc j (jlen ρ j) s = nI a ∧ thr ρ nc j s = nI b := fun j s hj hs => hsm_of b.1 hs b.2.2.2.2.2.2.1 (b.2.2.2.2.2.2.2.2 j hj)
theorem BN.hsm30 {ρ : Row} {nc nj d : Nat} (b : BN ρ t nc nj d) : ∀ j s, j < nj → s < 29 → ∃ a b, a < 2 ^ 30 ∧ b < 2 ^ 30 ∧ ndF ρ nc j (jlen ρ j) s = nI a ∧ thr ρ nc j s = nI b := fun j s hj hs => by
  obtain ⟨p, q, hp, hq, e⟩ := b.hsm j s hj hs
  exact ⟨p, q, by omega, by omega, e⟩
theorem BN.hlk {ρ : Row} {nc nj d : Nat} (b : BN ρ t nc nj d) : ∀ j s, j < nj → s < 29 → lkF ρ nc j s ≤ 0 → lkF ρ nc j s = 0 := fun j s hj hs hle => by
  obtain ⟨v, hv, e⟩ := lk_nI (b.hsm j s hj hs)
  rw [e] at hle ⊢
  rw [show v = 0 by have := (le0 (by omega)).mp hle; omega]; rfl
theorem ga_if {c : Prop} {_ : Decidable c} {r : Int32} {o : Ans} (g : GA o t) : GA (if c then no r else o) t := by
  by_cases e : c
  · rw [if_pos e]; exact ga_no
  · rw [if_neg e]; exact g
theorem sp_buy_ (I : INV h x m t) (a : Int32) : V_X6_buy x a h (fun r1 h1 => hK h1 m = 8 ∧ V_X7_buy m a h1 (Nx x m t r1)) := by
  obtain ⟨σ, k, M, C, W⟩ := I
  obtain ⟨-, hk2, hk⟩ := C.2.1.2.2.1
  exact k_buy C a (step_ans M C W (ga_buy W.1 a) (fun K h => V_X7_buy m a h K) (fun h1 K M1 o => m_buy M1 hk hk2 a o))
theorem sp_addCase_ (I : INV h x m t) : V_X6_addCase x h (fun r1 h1 => hK h1 m = 8 ∧ V_X7_addCase m h1 (Nx x m t r1)) := by
  obtain ⟨σ, k, M, C, W⟩ := I
  obtain ⟨-, hk2, hk⟩ := C.2.1.2.2.1
  obtain ⟨nc, nj, d, b⟩ := W.1
  exact k_addCase C b.2.2.2.1 b.1 (step_ans M C W (ga_addCase W.1) (fun K h => V_X7_addCase m h K) (fun h1 K M1 o => m_addCase M1 hk hk2 o))
theorem sp_cast_ (I : INV h x m t) (a b c : Int32) : V_X6_cast x a b c h (fun r1 h1 => hK h1 m = 8 ∧ V_X7_cast m a b c h1 (Nx x m t r1)) := by
  obtain ⟨σ, k, M, C, W⟩ := I
  obtain ⟨-, hk2, hk⟩ := C.2.1.2.2.1
  obtain ⟨nc, nj, d, B⟩ := W.1
  exact k_cast C B.2.2.2.1 B.1 a b c (step_ans M C W (ga_cast W.1 a b c) (fun K h => V_X7_cast m a b c h K) (fun h1 K M1 o => m_cast M1 hk hk2 B.2.2.2.1 B.1 (BN.h99 (nj := nj) (d := d) B) a b c o))
theorem sp_castFount_ (I : INV h x m t) (a b : Int32) : V_X6_castFount x a b h (fun r1 h1 => hK h1 m = 8 ∧ V_X7_castFount m a b h1 (Nx x m t r1)) := by
  obtain ⟨σ, k, M, C, W⟩ := I
  obtain ⟨-, hk2, hk⟩ := C.2.1.2.2.1
  obtain ⟨nc, nj, d, B⟩ := W.1
  exact k_castFount C B.2.2.2.1 B.1 a b (step_ans M C W (ga_castFount W.1 a b) (fun K h => V_X7_castFount m a b h K) (fun h1 K M1 o => m_castFount M1 hk hk2 B.2.2.2.1 B.1 a b o))
theorem sp_melt_ (I : INV h x m t) (a b c : Int32) : V_X6_melt x a b c h (fun r1 h1 => hK h1 m = 8 ∧ V_X7_melt m a b c h1 (Nx x m t r1)) := by
  obtain ⟨σ, k, M, C, W⟩ := I
  obtain ⟨-, hk2, hk⟩ := C.2.1.2.2.1
  obtain ⟨nc, nj, d, B⟩ := W.1
  exact k_melt C B.2.2.2.1 B.1 a b c (step_ans M C W (ga_melt W.1 a b c) (fun K h => V_X7_melt m a b c h K) (fun h1 K M1 o => m_melt M1 hk hk2 B.2.2.2.1 B.1 a b c o))
theorem sp_meltBox_ (I : INV h x m t) : V_X6_meltBox x h (fun r1 h1 => hK h1 m = 8 ∧ V_X7_meltBox m h1 (Nx x m t r1)) := by
  obtain ⟨σ, k, M, C, W⟩ := I
  obtain ⟨-, hk2, hk⟩ := C.2.1.2.2.1
  exact k_meltBox C (step_ans M C W (ga_meltBox W.1) (fun K h => V_X7_meltBox m h K) (fun h1 K M1 o => m_meltBox M1 hk hk2 o))
theorem sp_order_ (I : INV h x m t) (a b c : Int32) : V_X6_order x a b c h (fun r1 h1 => hK h1 m = 8 ∧ V_X7_order m a b c h1 (Nx x m t r1)) := by
  obtain ⟨σ, k, M, C, W⟩ := I
  obtain ⟨-, hk2, hk⟩ := C.2.1.2.2.1
  obtain ⟨nc, nj, d, B⟩ := W.1
  obtain ⟨ty, h60, h5⟩ := W.2.2.2
  exact k_order C B.2.2.2.1 B.1 B.2.2.2.2.1 B.2.1 h60 h5 a b c (step_ans M C W (ga_order B.1 B.2.1 B.2.2.1 B.2.2.2.1 B.2.2.2.2.1 B.2.2.2.2.2.1 B.2.2.2.2.2.2.1 B.2.2.2.2.2.2.2.1 B.2.2.2.2.2.2.2.2 h60 a b c (σ 6)) (fun K h => V_X7_order m a b c h K) (fun h1 K M1 o => m_order M1 hk hk2 B.2.2.2.1 B.1 B.2.2.2.2.1 B.2.1 h60 h5 a b c o))
theorem sp_set_ (I : INV h x m t) (a : Int32) : V_X6_set x a h (fun r1 h1 => hK h1 m = 8 ∧ V_X7_set m a h1 (Nx x m t r1)) := by
  obtain ⟨σ, k, M, C, W⟩ := I
  obtain ⟨-, hk2, hk⟩ := C.2.1.2.2.1
  obtain ⟨nc, nj, d, B⟩ := W.1
  have B' : BN (σ 0) t nc nj d := B
  exact k_set C B.1 B.2.2.2.2.1 B.2.1 B'.hH B.2.2.2.2.2.2.2.1 B'.z2 B'.z3 B'.z4 B.2.2.2.2.2.2.1 B'.hsm a (step_ans M C W (ga_set B.1 B.2.1 B.2.2.1 B.2.2.2.1 B.2.2.2.2.1 B.2.2.2.2.2.1 B.2.2.2.2.2.2.1 B.2.2.2.2.2.2.2.1 B.2.2.2.2.2.2.2.2 a) (fun K h => V_X7_set m a h K) (fun h1 K M1 o => m_set M1 hk hk2 B.2.2.2.1 B.1 B.2.2.2.2.1 B.2.1 B'.hJ B'.hH a o))
theorem sp_castMissing_ (I : INV h x m t) (a : Int32) : V_X6_castMissing x a h (fun r1 h1 => hK h1 m = 8 ∧ V_X7_castMissing m a h1 (Nx x m t r1)) := by
  obtain ⟨σ, k, M, C, W⟩ := I
  obtain ⟨-, hk2, hk⟩ := C.2.1.2.2.1
  obtain ⟨nc, nj, d, B⟩ := W.1
  have B' : BN (σ 0) t nc nj d := B
  exact k_castMissing C B.1 B.2.2.2.2.1 B.2.1 B'.hH B.2.2.2.2.2.2.2.1 B'.z2 B'.z3 B'.hsm30 a (step_ans M C W (ga_castMissing W.1 B.2.2.2.1 B.1 B.2.2.2.2.1 B.2.1 B.2.2.2.2.2.2.2.2 B.2.2.2.2.2.2.1 a) (fun K h => V_X7_castMissing m a h K) (fun h1 K M1 o => m_castMissing M1 hk hk2 B.2.2.2.1 B.1 B.2.2.2.2.1 B.2.1 B'.hJ B'.hH B'.hlk B'.h99 a o))
theorem sp_print_ (I : INV h x m t) (ht : t < 2 ^ 20) (a : Int32) : V_X6_print x a h (fun r1 h1 => hK h1 m = 8 ∧ V_X7_print m a h1 (Nx x m t r1)) := by
  obtain ⟨σ, k, M, C, W⟩ := I
  obtain ⟨-, hk2, hk⟩ := C.2.1.2.2.1
  obtain ⟨nc, nj, d, B⟩ := W.1
  exact k_print C B.2.2.2.2.1 B.2.1 (by rw [B.2.2.2.2.2.1]; exact nm5 (by have := B.2.2.1; omega)) a (step_ans M C W (ga_print W.1 ht a) (fun K h => V_X7_print m a h K) (fun h1 K M1 o => m_print M1 hk hk2 B.2.2.2.2.1 B.2.1 a o))
theorem sp_distribute_ (I : INV h x m t) (a : Int32) : V_X6_distribute x a h (fun r1 h1 => hK h1 m = 8 ∧ V_X7_distribute m a h1 (Nx x m t r1)) := by
  obtain ⟨σ, k, M, C, W⟩ := I
  obtain ⟨-, hk2, hk⟩ := C.2.1.2.2.1
  obtain ⟨nc, nj, d, B⟩ := W.1
  have B' : BN (σ 0) t nc nj d := B
  exact k_distribute C B.1 B.2.2.2.2.1 B.2.1 B.2.2.2.2.2.2.2.1 B'.z2 a (step_ans M C W (ga_distribute B.1 B.2.1 B.2.2.1 B.2.2.2.1 B.2.2.2.2.1 B.2.2.2.2.2.1 B.2.2.2.2.2.2.1 B.2.2.2.2.2.2.2.1 B.2.2.2.2.2.2.2.2 a) (fun K h => V_X7_distribute m a h K) (fun h1 K M1 o => m_distribute M1 hk hk2 B.2.2.2.1 B.1 B.2.2.2.2.1 B.2.1 a o))
theorem sp_cancel_ (I : INV h x m t) (a : Int32) : V_X6_cancel x a h (fun r1 h1 => hK h1 m = 8 ∧ V_X7_cancel m a h1 (Nx x m t r1)) := by
  obtain ⟨σ, k, M, C, W⟩ := I
  obtain ⟨-, hk2, hk⟩ := C.2.1.2.2.1
  obtain ⟨nc, nj, d, B⟩ := W.1
  have B' : BN (σ 0) t nc nj d := B
  exact k_cancel C B.1 B.2.2.2.2.1 B.2.1 B.2.2.2.2.2.2.2.1 B'.z2 B'.z4 a (step_ans M C W (ga_cancel B.1 B.2.1 B.2.2.1 B.2.2.2.1 B.2.2.2.2.1 B.2.2.2.2.2.1 B.2.2.2.2.2.2.1 B.2.2.2.2.2.2.2.1 B.2.2.2.2.2.2.2.2 a) (fun K h => V_X7_cancel m a h K) (fun h1 K M1 o => m_cancel M1 hk hk2 B.2.2.2.1 B.1 B.2.2.2.2.1 B.2.1 a o))
theorem sp_pass_ (I : INV h x m t) (a : Int32) : V_X6_pass x a h (fun r1 h1 => hK h1 m = 8 ∧ V_X7_pass m a h1 (Nx x m t r1)) := by
  obtain ⟨σ, k, M, C, W⟩ := I
  obtain ⟨-, hk2, hk⟩ := C.2.1.2.2.1
  exact k_pass C a (step_ans M C W (ga_pass W.1 a) (fun K h => V_X7_pass m a h K) (fun h1 K M1 o => m_pass M1 hk hk2 a o))
theorem sp_restore_ (I : INV h x m t) : V_X6_restore x h (fun r1 h1 => hK h1 m = 8 ∧ V_X7_restore m h1 (Nx x m t r1)) := by
  obtain ⟨σ, k, M, C, W⟩ := I
  obtain ⟨-, hk2, hk⟩ := C.2.1.2.2.1
  exact k_restore C (step_ans M C W (ga_restore W.2.2.1) (fun K h => V_X7_restore m h K) (fun h1 K M1 o => m_restore M1 hk hk2 o))
theorem sp_pieces_ (I : INV h x m t) (a b : Int32) : V_X6_pieces x a b h (fun r1 h1 => hK h1 m = 8 ∧ V_X7_pieces m a b h1 (Nx x m t r1)) := by
  obtain ⟨σ, k, M, C, W⟩ := I
  obtain ⟨nc, nj, d, B⟩ := W.1
  refine k_pieces C B.2.2.2.1 B.1 a b (step_ans M C W ?_ (fun K h => V_X7_pieces m a b h K) (fun h1 K M1 o => m_pieces M1 B.2.2.2.1 B.1 a b o))
  unfold sp_pieces
  repeat' split
  all_goals exact ga_no
theorem sp_job_ (I : INV h x m t) (a b : Int32) : V_X6_job x a b h (fun r1 h1 => hK h1 m = 8 ∧ V_X7_job m a b h1 (Nx x m t r1)) := by
  obtain ⟨σ, k, M, C, W⟩ := I
  obtain ⟨nc, nj, d, B⟩ := W.1
  have B' : BN (σ 0) t nc nj d := B
  refine k_job C B.1 B.2.2.2.2.1 B.2.1 B'.hH B'.z2 B'.hL a b (step_ans M C W ?_ (fun K h => V_X7_job m a b h K) (fun h1 K M1 o => m_job M1 B.2.2.2.1 B.1 B.2.2.2.2.1 B.2.1 B'.hJ a b o))
  unfold sp_job
  exact ga_if (ga_if (ga_if (ga_if (ga_if (ga_if (ga_if (ga_if (ga_if (ga_if (ga_if (ga_if ga_no)))))))))))
theorem sp_need_ (I : INV h x m t) (a b : Int32) : V_X6_need x a b h (fun r1 h1 => hK h1 m = 8 ∧ V_X7_need m a b h1 (Nx x m t r1)) := by
  obtain ⟨σ, k, M, C, W⟩ := I
  obtain ⟨nc, nj, d, B⟩ := W.1
  have B' : BN (σ 0) t nc nj d := B
  refine k_need C B.1 B.2.2.2.2.1 B.2.1 B.2.2.2.2.2.2.2.1 B'.z2 B'.z3 a b (step_ans M C W ?_ (fun K h => V_X7_need m a b h K) (fun h1 K M1 o => m_need M1 B.2.2.2.1 B.1 B.2.2.2.2.1 B.2.1 B'.hJ a b o))
  unfold sp_need
  split <;> exact ga_no
theorem sp_missing_ (I : INV h x m t) (a b : Int32) : V_X6_missing x a b h (fun r1 h1 => hK h1 m = 8 ∧ V_X7_missing m a b h1 (Nx x m t r1)) := by
  obtain ⟨σ, k, M, C, W⟩ := I
  obtain ⟨nc, nj, d, B⟩ := W.1
  have B' : BN (σ 0) t nc nj d := B
  refine k_missing C B.1 B.2.2.2.2.1 B.2.1 B.2.2.2.2.2.2.2.1 B'.z2 B'.z3 B'.hsm30 a b (step_ans M C W ?_ (fun K h => V_X7_missing m a b h K) (fun h1 K M1 o => m_missing M1 B.2.2.2.1 B.1 B.2.2.2.2.1 B.2.1 B'.hJ a b o))
  unfold sp_missing
  split <;> exact ga_no
theorem sp_taken_ (I : INV h x m t) (a b c : Int32) : V_X6_taken x a b c h (fun r1 h1 => hK h1 m = 8 ∧ V_X7_taken m a b c h1 (Nx x m t r1)) := by
  obtain ⟨σ, k, M, C, W⟩ := I
  obtain ⟨nc, nj, d, B⟩ := W.1
  refine k_taken C B.2.2.2.1 B.1 B.2.2.2.2.1 B.2.1 a b c (step_ans M C W ?_ (fun K h => V_X7_taken m a b c h K) (fun h1 K M1 o => m_taken M1 B.2.2.2.1 B.1 B.2.2.2.2.1 B.2.1 a b c o))
  unfold sp_taken
  split <;> exact ga_no
theorem sp_gap_ (I : INV h x m t) (a b c : Int32) : V_X6_gap x a b c h (fun r1 h1 => hK h1 m = 8 ∧ V_X7_gap m a b c h1 (Nx x m t r1)) := by
  obtain ⟨σ, k, M, C, W⟩ := I
  obtain ⟨nc, nj, d, B⟩ := W.1
  have B' : BN (σ 0) t nc nj d := B
  refine k_gap C B.2.2.2.2.1 B.2.1 a b c (step_ans M C W ?_ (fun K h => V_X7_gap m a b c h K) (fun h1 K M1 o => m_gap M1 B.2.2.2.2.1 B.2.1 B'.hJ a b c o))
  unfold sp_gap
  repeat' split
  all_goals exact ga_no
theorem sp_pieceAt_ (I : INV h x m t) (a b c : Int32) : V_X6_pieceAt x a b c h (fun r1 h1 => hK h1 m = 8 ∧ V_X7_pieceAt m a b c h1 (Nx x m t r1)) := by
  obtain ⟨σ, k, M, C, W⟩ := I
  obtain ⟨nc, nj, d, B⟩ := W.1
  have B' : BN (σ 0) t nc nj d := B
  refine k_pieceAt C B.2.2.2.2.1 B.2.1 (fun j hj => (B.2.2.2.2.2.2.2.2 j hj).1) (fun j hj => (B.2.2.2.2.2.2.2.2 j hj).2.2.2.2.2.1) a b c (step_ans M C W ?_ (fun K h => V_X7_pieceAt m a b c h K) (fun h1 K M1 o => m_pieceAt M1 B.2.2.2.2.1 B.2.1 B'.hJ a b c o))
  unfold sp_pieceAt
  repeat' split
  all_goals exact ga_no
theorem sp_no {σ : Nat → Nat → Int32} {k : Nat} (M : MB h m σ h) (C : CR h x σ k) (W : WA σ k t) {r : Int32} : OM h m σ k (Nx x m t r) (no r) := fun h2 σ' mb act => ⟨rfl, σ', k, mb.base, (CR.idle C act).mf mb.2.2.2.2, W.idle act⟩
theorem sp_urgent_ (I : INV h x m t) : V_X6_urgent x h (fun r1 h1 => hK h1 m = 8 ∧ V_X7_urgent m h1 (Nx x m t r1)) := by
  obtain ⟨σ, k, M, C, W⟩ := I
  obtain ⟨nc, nj, d, B⟩ := W.1
  exact k_urgent C B.2.2.2.2.1 B.2.1 ⟨M.1, m_urgent M B.2.2.2.2.1 B.2.1 (sp_no M C W)⟩
theorem sp_count_ (I : INV h x m t) (a : Int32) : V_X6_count x a h (fun r1 h1 => hK h1 m = 8 ∧ V_X7_count m a h1 (Nx x m t r1)) := by
  obtain ⟨σ, k, M, C, W⟩ := I
  obtain ⟨nc, nj, d, B⟩ := W.1
  have B' : BN (σ 0) t nc nj d := B
  exact k_count C B.1 B.2.2.2.2.1 B.2.1 B.2.2.2.2.2.2.2.1 B'.z2 B'.hL a ⟨M.1, m_count M B.2.2.2.1 B.1 B.2.2.2.2.1 B.2.1 a (sp_no M C W)⟩
theorem cn_cn (v : Int32) : cn (cn v) = cn v := by
  unfold cn
  rw [UInt32.toUInt32_toInt32]
  rw [UInt32.toNat_inj.mp (show (v.toUInt32 % 65536 % 65536).toNat = (v.toUInt32 % 65536).toNat by rw [UInt32.toNat_mod, UInt32.toNat_mod]; exact Nat.mod_mod _ _)]
theorem sp_type_ (I : INV h x m t) (v : Int32) : V_X6_type x (cn v) h (fun r1 h1 => hK h1 m = 8 ∧ V_X7_type m (cn v) h1 (Nx x m t r1)) := by
  obtain ⟨σ, k, M, C, W⟩ := I
  obtain ⟨ty, h60, h5⟩ := W.2.2.2
  refine k_type C h60 h5 (cn v) (fun e => ?_) (fun hlt h1 f c => ?_)
  · refine ⟨M.1, m_type M h60 h5 (cn v) (fun _ => ⟨rfl, σ, k, M, C, W.idle (fun _ _ => rfl)⟩) (fun hlt => by omega)⟩
  · refine ⟨(M.fr f).1, m_type (M.fr f) h60 h5 (cn v) (fun e => by omega) (fun _ h2 σ' mb s0 s5 s6 => ⟨rfl, σ', k, mb.base, ?_, ?_⟩)⟩
    · have c1 := c (fun f => if f ≤ 6 then σ' f else σ f) (fun f hf => by rw [if_pos (by omega)]; exact s0 f hf) s5 (fun i => by rw [cn_cn]; exact s6 i) (fun f hf => if_neg (by omega))
      exact (CR.idle c1 (fun f hf => (if_pos hf).symm)).mf mb.2.2.2.2
    · obtain ⟨w1, w2, w3, -⟩ := W
      have e1 : ∀ p, hrow σ' p = hrow σ p := fun p => by unfold hrow; rw [s0 1 (by decide)]
      refine ⟨by rw [s0 0 (by decide)]; exact w1.congr (by omega) (fun _ _ => rfl), fun p hp => by rw [e1]; exact (w2 p hp).congr (by omega) (fun _ _ => rfl), ?_, ty + 1, by omega, s5⟩
      rw [s0 4 (by decide), s0 3 (by decide)]
      exact w3.imp id (fun w => w.congr (by omega) (fun _ _ => rfl))
theorem sp_clear_ (I : INV h x m t) : V_X6_clearText x h (fun r1 h1 => hK h1 m = 8 ∧ V_X7_clearText m h1 (Nx x m t r1)) := by
  obtain ⟨σ, k, M, C, W⟩ := I
  refine k_clear C (fun h1 f c => ⟨(M.fr f).1, m_clear (M.fr f) (fun h2 σ' mb s0 s5 => ⟨rfl, σ', k, mb.base, (c σ' s0 s5).mf mb.2.2.2.2, ?_⟩)⟩)
  obtain ⟨w1, w2, w3, -⟩ := W
  have e1 : ∀ p, hrow σ' p = hrow σ p := fun p => by unfold hrow; rw [s0 1 (by decide)]
  refine ⟨by rw [s0 0 (by decide)]; exact w1.congr (by omega) (fun _ _ => rfl), fun p hp => by rw [e1]; exact (w2 p hp).congr (by omega) (fun _ _ => rfl), ?_, 0, by omega, s5⟩
  rw [s0 4 (by decide), s0 3 (by decide)]
  exact w3.imp id (fun w => w.congr (by omega) (fun _ _ => rfl))
theorem sp_undo_ (I : INV h x m t) (z0 : hK h 0 = 0) : V_X6_undo x h (fun r1 h1 => hK h1 m = 8 ∧ V_X7_undo m h1 (Nx x m t r1)) := by
  obtain ⟨σ, k, M, C, W⟩ := I
  obtain ⟨-, hk2, hk⟩ := C.2.1.2.2.1
  refine k_undo C z0 (fun e => ?_) (fun k1 e h1 f c => ?_)
  · exact ⟨M.1, m_undo M hk hk2 (fun _ => ⟨rfl, σ, k, M, C, W.idle (fun _ _ => rfl)⟩) (fun k1 e1 => by omega)⟩
  · refine ⟨(M.fr f).1, m_undo (M.fr f) hk hk2 (fun e0 => by omega) (fun k2 e2 h2 σ' mb s0 s2 sf => ?_)⟩
    obtain rfl : k2 = k1 := by omega
    refine ⟨rfl, σ', k2, mb.base, (c σ' s0 s2 sf).mf mb.2.2.2.2, ?_⟩
    obtain ⟨w1, w2, w3, w4⟩ := W
    have e1 : ∀ p, hrow σ' p = hrow σ p := fun p => by unfold hrow; rw [sf 1 (by decide) (by decide)]
    refine ⟨(w2 k2 (by omega)).congr (by omega) s0, fun p hp => by rw [e1]; exact (w2 p (by omega)).congr (by omega) (fun _ _ => rfl), ?_, by rw [sf 5 (by decide) (by decide)]; exact w4⟩
    rw [sf 4 (by decide) (by decide), sf 3 (by decide) (by decide)]
    exact w3.imp id (fun w => w.congr (by omega) (fun _ _ => rfl))
theorem sp_keep_ (I : INV h x m t) : V_X6_keep x h (fun r1 h1 => hK h1 m = 8 ∧ V_X7_keep m h1 (Nx x m t r1)) := by
  obtain ⟨σ, k, M, C, W⟩ := I
  refine k_keep C (fun h1 f c => ⟨(M.fr f).1, m_keep (M.fr f) (fun h2 σ' mb sf s4 s3 => ⟨rfl, σ', k, mb.base, (c σ' sf s4 s3).mf mb.2.2.2.2, ?_⟩)⟩)
  obtain ⟨w1, w2, w3, w4⟩ := W
  have e1 : ∀ p, hrow σ' p = hrow σ p := fun p => by unfold hrow; rw [sf 1 (by decide) (by decide)]
  exact ⟨by rw [sf 0 (by decide) (by decide)]; exact w1.congr (by omega) (fun _ _ => rfl), fun p hp => by rw [e1]; exact (w2 p hp).congr (by omega) (fun _ _ => rfl), Or.inr (w1.congr (by omega) s3), by rw [sf 5 (by decide) (by decide)]; exact w4⟩
end STEPS
