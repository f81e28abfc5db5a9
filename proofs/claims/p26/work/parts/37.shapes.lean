theorem vv_sz_app (A B : List vv_Sh) : vv_sz (A ++ B) = vv_sz A + vv_sz B := by
  unfold vv_sz
  rw [List.map_append, List.sum_append]
theorem vv_sz_cons (a : vv_Sh) (B : List vv_Sh) : vv_sz (a :: B) = vv_ssz a + vv_sz B := by
  unfold vv_sz
  rw [List.map_cons, List.sum_cons]
theorem vv_sz_nil : vv_sz [] = 0 := rfl
theorem vv_setapp {S0 l : List vv_Sh} {a : vv_Sh} {p : Nat} (hp : S0.length = p) (x : vv_Sh) : (S0 ++ a :: l).set p x = S0 ++ x :: l := by
  subst hp
  induction S0 with
  | nil => rfl
  | cons b S0 ih => exact congrArg (b :: ·) ih
theorem vv_getapp {S0 l : List vv_Sh} {p k : Nat} (hp : S0.length = p) : (S0 ++ l)[p + k]? = l[k]? := by
  subst hp
  rw [List.getElem?_append_right (Nat.le_add_right _ _), Nat.add_sub_cancel_left]
theorem vv_getapp0 {S0 l : List vv_Sh} {p : Nat} (hp : S0.length = p) : (S0 ++ l)[p]? = l[0]? := vv_getapp (k := 0) hp
def vv_on : List (Option (Option Nat)) := [some none, some none, some none, some none, some none, none, none, none, none]
def vv_mn : List (Option (Option Nat)) := [some none, some none, some none]
def vv_hn : List (Option (Option Nat)) := [some none, none, none]
def vv_xn : List (Option (Option Nat)) := [some none, none, none, none, none, none]
def vv_bn : List (Option (Option Nat)) := [some none, some none, some none, some none]
def vv_oS (p : Nat) : List vv_Sh := [.inr (.inr (2, vv_oven_f p)), .inl (0, 24), .inl (0, 24), .inl (0, 4), .inl (0, 682), .inl (0, 6)]
def vv_mS (p : Nat) : List vv_Sh := .inr (.inr (1, vv_moment_f p)) :: (vv_oS (p + 1) ++ (.inr (.inl (2, 2, 2, p + 9, 6)) :: .inl (1, 2) :: (vv_oS (p + 9) ++ vv_oS (p + 15))))
def vv_mSs (p : Nat) : Nat → List vv_Sh
  | 0 => []
  | i + 1 => vv_mSs p i ++ vv_mS (p + 2 + 21 * i)
def vv_hS (p : Nat) : List vv_Sh := .inr (.inr (0, vv_hist_f p)) :: .inr (.inl (3, 6, 6, p + 2, 21)) :: vv_mSs p 6
def vv_xS (p : Nat) : List vv_Sh := [.inr (.inr (3, vv_text_f p)), .inl (0, 100)]
def vv_bS (p : Nat) : List vv_Sh := .inr (.inr (4, vv_bb_f p)) :: (vv_mS (p + 1) ++ (vv_hS (p + 22) ++ (vv_xS (p + 150) ++ vv_oS (p + 152))))
theorem vv_oS_len (p : Nat) : (vv_oS p).length = 6 := rfl
theorem vv_oS_sz (p : Nat) : vv_sz (vv_oS p) = 749 := by simp [vv_sz, vv_oS, vv_ssz, vv_oven_f]
theorem vv_mS_len (p : Nat) : (vv_mS p).length = 21 := rfl
theorem vv_mS_sz (p : Nat) : vv_sz (vv_mS p) = 2254 := by
  unfold vv_mS
  rw [vv_sz_cons, vv_sz_app, vv_sz_cons, vv_sz_cons, vv_sz_app, vv_oS_sz, vv_oS_sz, vv_oS_sz]
  simp [vv_ssz, vv_moment_f]
theorem vv_mSs_len (p i : Nat) : (vv_mSs p i).length = 21 * i := by
  induction i with
  | zero => rfl
  | succ i ih => rw [vv_mSs, List.length_append, ih, vv_mS_len]; omega
theorem vv_mSs_sz (p i : Nat) : vv_sz (vv_mSs p i) = 2254 * i := by
  induction i with
  | zero => rfl
  | succ i ih => rw [vv_mSs, vv_sz_app, ih, vv_mS_sz]; omega
theorem vv_hS_len (p : Nat) : (vv_hS p).length = 128 := by
  unfold vv_hS
  rw [List.length_cons, List.length_cons, vv_mSs_len]
theorem vv_hS_sz (p : Nat) : vv_sz (vv_hS p) = 13533 := by
  unfold vv_hS
  have e1 : vv_ssz (.inr (.inr (0, vv_hist_f p))) = 3 := rfl
  have e2 : vv_ssz (.inr (.inl (3, 6, 6, p + 2, 21))) = 6 := rfl
  rw [vv_sz_cons, vv_sz_cons, vv_mSs_sz, e1, e2]
theorem vv_xS_len (p : Nat) : (vv_xS p).length = 2 := rfl
theorem vv_xS_sz (p : Nat) : vv_sz (vv_xS p) = 106 := by simp [vv_sz, vv_xS, vv_ssz, vv_text_f]
theorem vv_bS_len (p : Nat) : (vv_bS p).length = 158 := by
  unfold vv_bS
  simp only [List.length_cons, List.length_append, vv_mS_len, vv_hS_len, vv_xS_len, vv_oS_len]
theorem vv_bS_sz (p : Nat) : vv_sz (vv_bS p) = 16646 := by
  unfold vv_bS
  simp only [vv_sz_cons, vv_sz_app, vv_mS_sz, vv_hS_sz, vv_xS_sz, vv_oS_sz]
  simp [vv_ssz, vv_bb_f]
theorem vv_is_oven {S0 l : List vv_Sh} {p : Nat} (hp : S0.length = p) : vv_oven (S0 ++ (vv_oS p ++ l)) p := by
  refine ⟨?_, ?_, ?_, ?_, ?_, ?_⟩
  · rw [vv_getapp0 hp]; rfl
  all_goals (rw [vv_getapp hp]; rfl)
theorem vv_is_text {S0 l : List vv_Sh} {p : Nat} (hp : S0.length = p) : vv_text (S0 ++ (vv_xS p ++ l)) p := by
  refine ⟨?_, ?_⟩
  · rw [vv_getapp0 hp]; rfl
  all_goals (rw [vv_getapp hp]; rfl)
theorem vv_is_moment {S0 l : List vv_Sh} {p : Nat} (hp : S0.length = p) : vv_moment (S0 ++ (vv_mS p ++ l)) p := by
  refine ⟨?_, ?_, ?_, ?_, ?_⟩
  · rw [vv_getapp0 hp]; rfl
  · have h := vv_is_oven (S0 := S0 ++ [.inr (.inr (1, vv_moment_f p))]) (l := (.inr (.inl (2, 2, 2, p + 9, 6)) :: .inl (1, 2) :: (vv_oS (p + 9) ++ vv_oS (p + 15))) ++ l) (p := p + 1) (by simp [hp])
    simpa [vv_mS, List.append_assoc] using h
  · rw [vv_getapp hp]; rfl
  · rw [vv_getapp hp]; rfl
  · intro i hi
    rcases (show i = 0 ∨ i = 1 by omega) with rfl | rfl
    · have h := vv_is_oven (S0 := S0 ++ (.inr (.inr (1, vv_moment_f p)) :: (vv_oS (p + 1) ++ [.inr (.inl (2, 2, 2, p + 9, 6)), .inl (1, 2)]))) (l := vv_oS (p + 15) ++ l) (p := p + 9) (by simp [hp, vv_oS_len])
      simpa [vv_mS, List.append_assoc] using h
    · have h := vv_is_oven (S0 := S0 ++ (.inr (.inr (1, vv_moment_f p)) :: (vv_oS (p + 1) ++ (.inr (.inl (2, 2, 2, p + 9, 6)) :: .inl (1, 2) :: vv_oS (p + 9))))) (l := l) (p := p + 15) (by simp [hp, vv_oS_len])
      simpa [vv_mS, List.append_assoc] using h
theorem vv_mSs_at {S0 l : List vv_Sh} {p q i k : Nat} (hp : S0.length = q) (hq : q = p + 2) (hi : i < k) : vv_moment (S0 ++ (vv_mSs p k ++ l)) (p + 2 + 21 * i) := by
  induction k generalizing l with
  | zero => omega
  | succ k ih =>
    rcases Nat.lt_or_ge i k with h | h
    · have h1 := ih (l := vv_mS (p + 2 + 21 * k) ++ l) h
      simpa [vv_mSs, List.append_assoc] using h1
    · obtain rfl : i = k := by omega
      have h1 := vv_is_moment (S0 := S0 ++ vv_mSs p i) (l := l) (p := p + 2 + 21 * i) (by rw [List.length_append, hp, vv_mSs_len, hq])
      simpa [vv_mSs, List.append_assoc] using h1
theorem vv_is_hist {S0 l : List vv_Sh} {p : Nat} (hp : S0.length = p) : vv_hist (S0 ++ (vv_hS p ++ l)) p := by
  refine ⟨?_, ?_, ?_⟩
  · rw [vv_getapp0 hp]; rfl
  · rw [vv_getapp hp]; rfl
  · intro i hi
    have h := vv_mSs_at (S0 := S0 ++ [.inr (.inr (0, vv_hist_f p)), .inr (.inl (3, 6, 6, p + 2, 21))]) (l := l) (p := p) (q := p + 2) (by simp [hp]) rfl hi
    simpa [vv_hS, List.append_assoc] using h
theorem vv_is_bb {S0 l : List vv_Sh} {p : Nat} (hp : S0.length = p) : vv_bb (S0 ++ (vv_bS p ++ l)) p := by
  refine ⟨?_, ?_, ?_, ?_, ?_⟩
  · rw [vv_getapp0 hp]; rfl
  · have h := vv_is_moment (S0 := S0 ++ [.inr (.inr (4, vv_bb_f p))]) (l := (vv_hS (p + 22) ++ (vv_xS (p + 150) ++ vv_oS (p + 152))) ++ l) (p := p + 1) (by simp [hp])
    simpa [vv_bS, List.append_assoc] using h
  · have h := vv_is_hist (S0 := S0 ++ (.inr (.inr (4, vv_bb_f p)) :: vv_mS (p + 1))) (l := (vv_xS (p + 150) ++ vv_oS (p + 152)) ++ l) (p := p + 22) (by simp [hp, vv_mS_len])
    simpa [vv_bS, List.append_assoc] using h
  · have h := vv_is_text (S0 := S0 ++ (.inr (.inr (4, vv_bb_f p)) :: (vv_mS (p + 1) ++ vv_hS (p + 22)))) (l := vv_oS (p + 152) ++ l) (p := p + 150) (by simp [hp, vv_mS_len, vv_hS_len])
    simpa [vv_bS, List.append_assoc] using h
  · have h := vv_is_oven (S0 := S0 ++ (.inr (.inr (4, vv_bb_f p)) :: (vv_mS (p + 1) ++ (vv_hS (p + 22) ++ vv_xS (p + 150))))) (l := l) (p := p + 152) (by simp [hp, vv_mS_len, vv_hS_len, vv_xS_len])
    simpa [vv_bS, List.append_assoc] using h
