/-! ===== reading ends, inside the tokens ===== -/
def pz_in (cnt : Nat) (r : pz_R) : Prop := match r with
  | .inl e => e.2 ≤ cnt ∧ 1 ≤ e.1 ∧ e.1 ≤ 7
  | .inr x => x.1 ≤ cnt
section PT
variable {t v : Nat → Nat} {lk cnt : Nat}
theorem pz_nc (hc : t cnt = 53) {i x : Nat} (hi : i ≤ cnt) (h : t i = x) (hx : x ≠ 53) : i + 1 ≤ cnt := by
  have : i ≠ cnt := fun e => hx (by rw [← h, e, hc])
  omega
theorem pz_bind_in {r : Option pz_R} {f : Nat → pz_C → pz_C → Option pz_R} {s : pz_R} (h : pz_bind r f = some s) (h1 : ∀ q, r = some q → pz_in cnt q) (h2 : ∀ j c m, r = some (.inr (j, c, m)) → j ≤ cnt → f j c m = some s → pz_in cnt s) : pz_in cnt s := by
  rcases pz_bind_e h with ⟨e, h3, rfl⟩ | ⟨j, c, m, h3, h⟩
  · exact h1 _ h3
  · exact h2 j c m h3 (h1 _ h3) h
theorem pz_le (hc : t cnt = 53) : ∀ n k d i p r, pz_P t v lk n k d i p = some r → i ≤ cnt → pz_in cnt r := by
  intro n
  induction n with
  | zero => intro k d i p r h; cases h
  | succ n ih =>
    have two : ∀ k k' d i p r, pz_two (pz_P t v lk n) k k' d i p = some r → i ≤ cnt → pz_in cnt r := by
      intro k k' d i p r h hi
      refine pz_bind_in h (fun q hq => ih _ _ _ _ _ hq hi) (fun j c m _ hj h => ?_)
      refine pz_bind_in h (fun q hq => ih _ _ _ _ _ hq hj) (fun j c m _ hj h => ?_)
      cases h
      exact hj
    have more : ∀ (g : Nat → Option Nat) k k' d i p r, g 53 = none → pz_more t (pz_P t v lk n) g k k' d i p = some r → i ≤ cnt → pz_in cnt r := by
      intro g k k' d i p r hg h hi
      unfold pz_more at h
      split at h
      · cases h; exact hi
      · rename_i y hy
        have hi' : i + 1 ≤ cnt := pz_nc hc hi rfl (fun e => by rw [e, hg] at hy; cases hy)
        refine pz_bind_in h (fun q hq => ih _ _ _ _ _ hq hi') (fun j c m _ hj h => ?_)
        refine pz_bind_in h (fun q hq => ih _ _ _ _ _ hq hj) (fun j c m _ hj h => ?_)
        cases h
        exact hj
    intro k d i p r h hi
    match k, h with
    | 0, h => exact two _ _ _ _ _ _ h hi
    | 1, h => exact two _ _ _ _ _ _ h hi
    | 4, h => exact two _ _ _ _ _ _ h hi
    | 5, h => exact two _ _ _ _ _ _ h hi
    | 7, h => exact more _ _ _ _ _ _ _ rfl h hi
    | 8, h => exact more _ _ _ _ _ _ _ rfl h hi
    | 9, h => exact more _ _ _ _ _ _ _ rfl h hi
    | k + 10, h => exact more _ _ _ _ _ _ _ rfl h hi
    | 6, h =>
      change pz_ask t (pz_P t v lk n) d i p = _ at h
      unfold pz_ask pz_open at h
      split at h
      · rename_i h28
        have hi' := pz_nc hc hi h28 (by decide)
        split at h
        · cases h; exact ⟨hi, Nat.le_of_ble_eq_true rfl, Nat.le_of_ble_eq_true rfl⟩
        · refine pz_bind_in h (fun q hq => ih _ _ _ _ _ hq hi') (fun j c m _ hj h => ?_)
          cases h
          exact hj
      · refine pz_bind_in h (fun q hq => ih _ _ _ _ _ hq hi) (fun j c m _ hj h => ?_)
        split at h
        · cases h; exact ⟨hj, Nat.le_of_ble_eq_true rfl, Nat.le_of_ble_eq_true rfl⟩
        · rename_i y hy
          have hj' : j + 1 ≤ cnt := pz_nc hc hj rfl (fun e => by rw [e] at hy; cases hy)
          refine pz_bind_in h (fun q hq => ih _ _ _ _ _ hq hj') (fun j c m _ hj h => ?_)
          cases h
          exact hj
    | 3, h =>
      change pz_choice t (pz_P t v lk n) d i p = _ at h
      unfold pz_choice pz_want at h
      refine pz_bind_in h (fun q hq => ih _ _ _ _ _ hq hi) (fun j c m _ hj h => ?_)
      split at h
      case isFalse => cases h; exact ⟨hj, Nat.le_of_ble_eq_true rfl, Nat.le_of_ble_eq_true rfl⟩
      rename_i hw
      refine pz_bind_in h (fun q hq => ih _ _ _ _ _ hq (pz_nc hc hj hw (by decide))) (fun j c m _ hj h => ?_)
      split at h
      case isFalse => cases h; exact ⟨hj, Nat.le_of_ble_eq_true rfl, Nat.le_of_ble_eq_true rfl⟩
      rename_i hw
      refine pz_bind_in h (fun q hq => ih _ _ _ _ _ hq (pz_nc hc hj hw (by decide))) (fun j c m _ hj h => ?_)
      split at h
      case isFalse => cases h; exact ⟨hj, Nat.le_of_ble_eq_true rfl, Nat.le_of_ble_eq_true rfl⟩
      rename_i hw
      cases h
      exact pz_nc hc hj hw (by decide)
    | 2, h =>
      change pz_one t v lk (pz_P t v lk n) d i p = _ at h
      unfold pz_one pz_open pz_want at h
      split at h
      · rename_i c1
        split at h
        · cases h; exact ⟨hi, Nat.le_of_ble_eq_true rfl, Nat.le_of_ble_eq_true rfl⟩
        · cases h; exact pz_nc hc hi rfl (by omega)
      split at h
      · rename_i c1
        split at h
        · cases h; exact ⟨hi, Nat.le_of_ble_eq_true rfl, Nat.le_of_ble_eq_true rfl⟩
        · cases h; exact pz_nc hc hi c1 (by decide)
      split at h
      · rename_i c1
        split at h
        · cases h; exact ⟨hi, Nat.le_of_ble_eq_true rfl, Nat.le_of_ble_eq_true rfl⟩
        refine pz_bind_in h (fun q hq => ih _ _ _ _ _ hq (pz_nc hc hi c1 (by decide))) (fun j c m _ hj h => ?_)
        split at h
        · rename_i hw
          cases h
          exact pz_nc hc hj hw (by decide)
        · cases h; exact ⟨hj, Nat.le_of_ble_eq_true rfl, Nat.le_of_ble_eq_true rfl⟩
      split at h
      · rename_i c1
        split at h
        · cases h; exact ⟨hi, Nat.le_of_ble_eq_true rfl, Nat.le_of_ble_eq_true rfl⟩
        refine pz_bind_in h (fun q hq => ih _ _ _ _ _ hq (pz_nc hc hi c1 (by decide))) (fun j c m _ hj h => ?_)
        cases h
        exact hj
      split at h
      · rename_i c1
        split at h
        · cases h; exact ⟨hi, Nat.le_of_ble_eq_true rfl, Nat.le_of_ble_eq_true rfl⟩
        refine pz_bind_in h (fun q hq => ih _ _ _ _ _ hq (pz_nc hc hi c1 (by decide))) (fun j c m _ hj h => ?_)
        split at h
        · rename_i hw
          refine pz_bind_in h (fun q hq => ih _ _ _ _ _ hq (pz_nc hc hj hw (by decide))) (fun j c m _ hj h => ?_)
          cases h
          exact hj
        · cases h; exact ⟨hj, Nat.le_of_ble_eq_true rfl, Nat.le_of_ble_eq_true rfl⟩
      split at h
      · rename_i c1
        split at h
        · cases h; exact ⟨hi, Nat.le_of_ble_eq_true rfl, Nat.le_of_ble_eq_true rfl⟩
        refine pz_bind_in h (fun q hq => ih _ _ _ _ _ hq (pz_nc hc hi c1 (by decide))) (fun j c m _ hj h => ?_)
        cases h
        exact hj
      split at h
      · rename_i c1
        split at h
        · cases h; exact ⟨hi, Nat.le_of_ble_eq_true rfl, Nat.le_of_ble_eq_true rfl⟩
        exact ih _ _ _ _ _ h (pz_nc hc hi c1 (by decide))
      · cases h; exact ⟨hi, Nat.le_of_ble_eq_true rfl, Nat.le_of_ble_eq_true rfl⟩
def pz_rk (k : Nat) : Nat := if k = 2 then 1 else if k = 1 then 2 else if k = 0 then 3 else if k = 6 then 4 else if k = 5 then 5 else if k = 4 then 6 else if k = 3 then 7 else 8
theorem pz_bind_some {r : Option pz_R} {f : Nat → pz_C → pz_C → Option pz_R} (h1 : ∃ q, r = some q) (h2 : ∀ j c m, r = some (.inr (j, c, m)) → ∃ s, f j c m = some s) : ∃ s, pz_bind r f = some s := by
  obtain ⟨q, hq⟩ := h1
  cases q with
  | inl e => exact ⟨.inl e, by rw [hq]; rfl⟩
  | inr x =>
    obtain ⟨s, hs⟩ := h2 x.1 x.2.1 x.2.2 hq
    exact ⟨s, by rw [hq]; exact hs⟩
theorem pz_tot (hc : t cnt = 53) : ∀ n k d i p, i ≤ cnt → 10 * (cnt - i) + pz_rk k < n → ∃ r, pz_P t v lk n k d i p = some r := by
  intro n
  induction n with
  | zero => intro k d i p _ h; omega
  | succ n ih =>
    have two : ∀ k k' d i p, k < 7 → pz_rk k' ≤ 8 → i ≤ cnt → 10 * (cnt - i) + pz_rk k < n → ∃ r, pz_two (pz_P t v lk n) k k' d i p = some r := by
      intro k k' d i p hk hk' hi hn
      have hr : 1 ≤ pz_rk k := by unfold pz_rk; (repeat' split) <;> omega
      refine pz_bind_some (ih _ _ _ _ hi hn) (fun j c m h => ?_)
      have l1 := pz_len _ _ _ _ _ _ _ _ h
      have l2 : j ≤ cnt := pz_le hc _ _ _ _ _ _ h hi
      have l3 := l1.2.2 hk
      refine pz_bind_some (ih _ _ _ _ l2 (by omega)) (fun j c m h => ?_)
      exact ⟨_, rfl⟩
    have more : ∀ (g : Nat → Option Nat) k k' d i p, k < 7 → pz_rk k ≤ 7 → pz_rk k' ≤ 8 → g 53 = none → i ≤ cnt → 10 * (cnt - i) < n → ∃ r, pz_more t (pz_P t v lk n) g k k' d i p = some r := by
      intro g k k' d i p hk hk1 hk' hg hi hn
      unfold pz_more
      split
      · exact ⟨_, rfl⟩
      · rename_i y hy
        have hi' : i + 1 ≤ cnt := pz_nc hc hi rfl (fun e => by rw [e, hg] at hy; cases hy)
        refine pz_bind_some (ih _ _ _ _ hi' (by omega)) (fun j c m h => ?_)
        have l1 := pz_len _ _ _ _ _ _ _ _ h
        have l2 : j ≤ cnt := pz_le hc _ _ _ _ _ _ h hi'
        have l3 := l1.2.2 hk
        refine pz_bind_some (ih _ _ _ _ l2 (by omega)) (fun j c m h => ?_)
        exact ⟨_, rfl⟩
    intro k d i p hi hn
    match k, hn with
    | 0, hn => exact two 1 7 _ _ _ (by omega) (by decide) hi (by simp [pz_rk] at *; omega)
    | 1, hn => exact two 2 8 _ _ _ (by omega) (by decide) hi (by simp [pz_rk] at *; omega)
    | 4, hn => exact two 5 9 _ _ _ (by omega) (by decide) hi (by simp [pz_rk] at *; omega)
    | 5, hn => exact two 6 10 _ _ _ (by omega) (by decide) hi (by simp [pz_rk] at *; omega)
    | 7, hn => exact more _ 1 7 _ _ _ (by omega) (by decide) (by decide) rfl hi (by simp [pz_rk] at *; omega)
    | 8, hn => exact more _ 2 8 _ _ _ (by omega) (by decide) (by decide) rfl hi (by simp [pz_rk] at *; omega)
    | 9, hn => exact more _ 5 9 _ _ _ (by omega) (by decide) (by decide) rfl hi (by simp [pz_rk] at *; omega)
    | k + 10, hn =>
      have hr : 1 ≤ pz_rk (k + 10) := by unfold pz_rk; (repeat' split) <;> omega
      exact more _ 6 10 _ _ _ (by omega) (by decide) (by decide) rfl hi (by omega)
    | 6, hn =>
      show ∃ r, pz_ask t (pz_P t v lk n) d i p = some r
      have hn : 10 * (cnt - i) + 4 < n + 1 := hn
      unfold pz_ask pz_open
      split
      · rename_i h28
        have hi' := pz_nc hc hi h28 (by decide)
        split
        · exact ⟨_, rfl⟩
        · exact pz_bind_some (ih _ _ _ _ hi' (by simp [pz_rk]; omega)) (fun j c m h => ⟨_, rfl⟩)
      · refine pz_bind_some (ih _ _ _ _ hi (by simp [pz_rk]; omega)) (fun j c m h => ?_)
        have l1 := (pz_len _ _ _ _ _ _ _ _ h).2.2 (by omega)
        have l2 : j ≤ cnt := pz_le hc _ _ _ _ _ _ h hi
        split
        · exact ⟨_, rfl⟩
        · rename_i y hy
          have hj' : j + 1 ≤ cnt := pz_nc hc l2 rfl (fun e => by rw [e] at hy; cases hy)
          exact pz_bind_some (ih _ _ _ _ hj' (by simp [pz_rk]; omega)) (fun j c m h => ⟨_, rfl⟩)
    | 3, hn =>
      show ∃ r, pz_choice t (pz_P t v lk n) d i p = some r
      have hn : 10 * (cnt - i) + 7 < n + 1 := hn
      unfold pz_choice pz_want
      refine pz_bind_some (ih _ _ _ _ hi (by simp [pz_rk]; omega)) (fun j c m h => ?_)
      have l1 := (pz_len _ _ _ _ _ _ _ _ h).2.2 (by omega)
      have l2 : j ≤ cnt := pz_le hc _ _ _ _ _ _ h hi
      split
      case isFalse => exact ⟨_, rfl⟩
      rename_i hw
      have l3 := pz_nc hc l2 hw (by decide)
      refine pz_bind_some (ih _ _ _ _ l3 (by simp [pz_rk]; omega)) (fun j2 c2 m2 h => ?_)
      have l4 := (pz_len _ _ _ _ _ _ _ _ h).2.2 (by omega)
      have l5 : j2 ≤ cnt := pz_le hc _ _ _ _ _ _ h l3
      split
      case isFalse => exact ⟨_, rfl⟩
      rename_i hw
      have l6 := pz_nc hc l5 hw (by decide)
      refine pz_bind_some (ih _ _ _ _ l6 (by simp [pz_rk]; omega)) (fun j3 c3 m3 h => ?_)
      split
      · exact ⟨_, rfl⟩
      · exact ⟨_, rfl⟩
    | 2, hn =>
      show ∃ r, pz_one t v lk (pz_P t v lk n) d i p = some r
      have hn : 10 * (cnt - i) + 1 < n + 1 := hn
      unfold pz_one pz_open pz_want
      split
      · split <;> exact ⟨_, rfl⟩
      split
      · split <;> exact ⟨_, rfl⟩
      split
      · rename_i c1
        split
        · exact ⟨_, rfl⟩
        have l3 := pz_nc hc hi c1 (by decide)
        refine pz_bind_some (ih _ _ _ _ l3 (by simp [pz_rk]; omega)) (fun j c m h => ?_)
        split <;> exact ⟨_, rfl⟩
      split
      · rename_i c1
        split
        · exact ⟨_, rfl⟩
        have l3 := pz_nc hc hi c1 (by decide)
        exact pz_bind_some (ih _ _ _ _ l3 (by simp [pz_rk]; omega)) (fun j c m h => ⟨_, rfl⟩)
      split
      · rename_i c1
        split
        · exact ⟨_, rfl⟩
        have l3 := pz_nc hc hi c1 (by decide)
        refine pz_bind_some (ih _ _ _ _ l3 (by simp [pz_rk]; omega)) (fun j c m h => ?_)
        have l4 := (pz_len _ _ _ _ _ _ _ _ h).2.2 (by omega)
        have l5 : j ≤ cnt := pz_le hc _ _ _ _ _ _ h l3
        split
        · rename_i hw
          have l6 := pz_nc hc l5 hw (by decide)
          exact pz_bind_some (ih _ _ _ _ l6 (by simp [pz_rk]; omega)) (fun j c m h => ⟨_, rfl⟩)
        · exact ⟨_, rfl⟩
      split
      · rename_i c1
        split
        · exact ⟨_, rfl⟩
        have l3 := pz_nc hc hi c1 (by decide)
        exact pz_bind_some (ih _ _ _ _ l3 (by simp [pz_rk]; omega)) (fun j c m h => ⟨_, rfl⟩)
      split
      · rename_i c1
        split
        · exact ⟨_, rfl⟩
        have l3 := pz_nc hc hi c1 (by decide)
        exact ih _ _ _ _ l3 (by simp [pz_rk]; omega)
      · exact ⟨_, rfl⟩
end PT
