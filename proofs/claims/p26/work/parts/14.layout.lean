def vv_oven_f (p : Nat) : List (Option (Option Nat)) := [some (some (p + 1)), some (some (p + 2)), some (some (p + 3)), some (some (p + 4)), some (some (p + 5)), none, none, none, none]
def vv_oven (S : List vv_Sh) (p : Nat) : Prop := S[p]? = some (.inr (.inr (2, vv_oven_f p))) ∧ S[p + 1]? = some (.inl (0, 24)) ∧ S[p + 2]? = some (.inl (0, 24)) ∧ S[p + 3]? = some (.inl (0, 4)) ∧ S[p + 4]? = some (.inl (0, 682)) ∧ S[p + 5]? = some (.inl (0, 6))
theorem vv_oven_o {S : List vv_Sh} {p : Nat} (h : vv_oven S p) : S[p]? = some (.inr (.inr (2, vv_oven_f p))) := h.1
theorem vv_oven_zones {S : List vv_Sh} {p : Nat} (h : vv_oven S p) : S[p + 1]? = some (.inl (0, 24)) := h.2.1
theorem vv_oven_curves {S : List vv_Sh} {p : Nat} (h : vv_oven S p) : S[p + 2]? = some (.inl (0, 24)) := h.2.2.1
theorem vv_oven_numbers {S : List vv_Sh} {p : Nat} (h : vv_oven S p) : S[p + 3]? = some (.inl (0, 4)) := h.2.2.2.1
theorem vv_oven_boards {S : List vv_Sh} {p : Nat} (h : vv_oven S p) : S[p + 4]? = some (.inl (0, 682)) := h.2.2.2.2.1
theorem vv_oven_weights {S : List vv_Sh} {p : Nat} (h : vv_oven S p) : S[p + 5]? = some (.inl (0, 6)) := h.2.2.2.2.2
def vv_text_f (p : Nat) : List (Option (Option Nat)) := [some (some (p + 1)), none, none, none, none, none]
def vv_text (S : List vv_Sh) (p : Nat) : Prop := S[p]? = some (.inr (.inr (3, vv_text_f p))) ∧ S[p + 1]? = some (.inl (0, 100))
theorem vv_text_o {S : List vv_Sh} {p : Nat} (h : vv_text S p) : S[p]? = some (.inr (.inr (3, vv_text_f p))) := h.1
theorem vv_text_characters {S : List vv_Sh} {p : Nat} (h : vv_text S p) : S[p + 1]? = some (.inl (0, 100)) := h.2
def vv_moment_f (p : Nat) : List (Option (Option Nat)) := [some (some (p + 1)), some (some (p + 7)), some (some (p + 8))]
def vv_moment (S : List vv_Sh) (p : Nat) : Prop := S[p]? = some (.inr (.inr (1, vv_moment_f p))) ∧ vv_oven S (p + 1) ∧ S[p + 7]? = some (.inr (.inl (2, 2, 2, p + 9, 6))) ∧ S[p + 8]? = some (.inl (1, 2)) ∧ ∀ i, i < 2 → vv_oven S (p + 9 + 6 * i)
theorem vv_moment_o {S : List vv_Sh} {p : Nat} (h : vv_moment S p) : S[p]? = some (.inr (.inr (1, vv_moment_f p))) := h.1
theorem vv_moment_oven {S : List vv_Sh} {p : Nat} (h : vv_moment S p) : vv_oven S (p + 1) := h.2.1
theorem vv_moment_slots {S : List vv_Sh} {p : Nat} (h : vv_moment S p) : S[p + 7]? = some (.inr (.inl (2, 2, 2, p + 9, 6))) := h.2.2.1
theorem vv_moment_filled {S : List vv_Sh} {p : Nat} (h : vv_moment S p) : S[p + 8]? = some (.inl (1, 2)) := h.2.2.2.1
theorem vv_moment_slots_at {S : List vv_Sh} {p i : Nat} (h : vv_moment S p) (hi : i < 2) : vv_oven S (p + 9 + 6 * i) := h.2.2.2.2 i hi
def vv_hist_f (p : Nat) : List (Option (Option Nat)) := [some (some (p + 1)), none, none]
def vv_hist (S : List vv_Sh) (p : Nat) : Prop := S[p]? = some (.inr (.inr (0, vv_hist_f p))) ∧ S[p + 1]? = some (.inr (.inl (3, 6, 6, p + 2, 21))) ∧ ∀ i, i < 6 → vv_moment S (p + 2 + 21 * i)
theorem vv_hist_o {S : List vv_Sh} {p : Nat} (h : vv_hist S p) : S[p]? = some (.inr (.inr (0, vv_hist_f p))) := h.1
theorem vv_hist_rows {S : List vv_Sh} {p : Nat} (h : vv_hist S p) : S[p + 1]? = some (.inr (.inl (3, 6, 6, p + 2, 21))) := h.2.1
theorem vv_hist_rows_at {S : List vv_Sh} {p i : Nat} (h : vv_hist S p) (hi : i < 6) : vv_moment S (p + 2 + 21 * i) := h.2.2 i hi
def vv_bb_f (p : Nat) : List (Option (Option Nat)) := [some (some (p + 1)), some (some (p + 22)), some (some (p + 150)), some (some (p + 152))]
def vv_bb (S : List vv_Sh) (p : Nat) : Prop := S[p]? = some (.inr (.inr (4, vv_bb_f p))) ∧ vv_moment S (p + 1) ∧ vv_hist S (p + 22) ∧ vv_text S (p + 150) ∧ vv_oven S (p + 152)
theorem vv_bb_o {S : List vv_Sh} {p : Nat} (h : vv_bb S p) : S[p]? = some (.inr (.inr (4, vv_bb_f p))) := h.1
theorem vv_bb_now {S : List vv_Sh} {p : Nat} (h : vv_bb S p) : vv_moment S (p + 1) := h.2.1
theorem vv_bb_history {S : List vv_Sh} {p : Nat} (h : vv_bb S p) : vv_hist S (p + 22) := h.2.2.1
theorem vv_bb_text {S : List vv_Sh} {p : Nat} (h : vv_bb S p) : vv_text S (p + 150) := h.2.2.2.1
theorem vv_bb_trial {S : List vv_Sh} {p : Nat} (h : vv_bb S p) : vv_oven S (p + 152) := h.2.2.2.2
def vv_let {α β : Type} (a : α) (f : α → β) : β := f a
theorem vv_lt {α β : Type} {a : α} {f : α → Option β} {u : β} (h : vv_let a f = some u) : ∃ x, x = a ∧ f x = some u := ⟨a, rfl, h⟩
theorem vv_gd {c : Prop} [Decidable c] {α : Type} {x : Option α} {u : α} (h : (if c then none else x) = some u) : ¬ c ∧ x = some u := by
  by_cases hc : c
  · rw [if_pos hc] at h
    cases h
  · rw [if_neg hc] at h
    exact ⟨hc, h⟩
theorem vv_gt {c : Prop} [Decidable c] {α : Type} {x : Option α} {u : α} (h : (if c then x else none) = some u) : c ∧ x = some u := by
  by_cases hc : c
  · rw [if_pos hc] at h
    exact ⟨hc, h⟩
  · rw [if_neg hc] at h
    cases h
theorem vv_bd {α β : Type} {o : Option α} {f : α → Option β} {u : β} (h : o.bind f = some u) : ∃ v, o = some v ∧ f v = some u := by
  cases o with
  | none => cases h
  | some v => exact ⟨v, rfl, h⟩
theorem vv_nk {x k : Int32} {z : Int} (h : ¬ x = k) (hz : k.toInt = z) : x.toInt ≠ z := fun e => h (Int32.toInt_inj.mp (e.trans hz.symm))
theorem vv_nb {x : Int32} (h : x = 0 ∨ x = 1) : narrow .boolean (.int x) = .int x := by
  rcases h with rfl | rfl <;> rfl
theorem vv_lti {i : Int32} {n : Nat} (h : ¬ (i < 0 ∨ n ≤ i.toNatClampNeg)) : i.toNatClampNeg < n := Nat.not_le.mp fun q => h (Or.inr q)
theorem vv_rm0 {R R' : Room} {S : List vv_Sh} (h1 : R'.cells = 0) (h2 : R'.slots = 0) : vv_rm R S.length (vv_sz S) S R' := by
  unfold vv_rm
  omega
def vv_fi (S : List vv_Sh) (u : Int32 × vv_M) : Option Value → List vv_Sh → vv_M → Prop := fun v S2 M2 => v = some (.int u.1) ∧ S2 = S ∧ M2 = u.2
def vv_fl (S : List vv_Sh) (u : Int64 × vv_M) : Option Value → List vv_Sh → vv_M → Prop := fun v S2 M2 => v = some (.long u.1) ∧ S2 = S ∧ M2 = u.2
def vv_fu (S : List vv_Sh) (u : Unit × vv_M) : Option Value → List vv_Sh → vv_M → Prop := fun v S2 M2 => v = none ∧ S2 = S ∧ M2 = u.2
