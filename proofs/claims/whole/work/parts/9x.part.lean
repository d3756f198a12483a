/-! ===== which part ends here ===== -/
section PRT
variable {b : Nat → Nat} {n : Nat}
theorem q_part {μ : PM} {i : Nat} {q : List Nat} (h : TPM μ b n) (ht : TM μ b n (tk_pos b n i)) (hp : PLM μ q) : fX12_partOf μ (oI (az_now q)) = some (oI (az_part (tk_t b n i) q)) := by
  have hlt := now_lt hp
  have k1 : μ.1 401 9 = 41 ↔ tk_t b n i = 49 := tm_sign (p := (41, 49)) h ht (by decide)
  unfold fX12_partOf az_part
  rw [q_isCmp hp, tm_word (w := 23) h ht (by omega) tw_at.2.2.2.2.1, tm_word (w := 24) h ht (by omega) tw_at.2.2.2.2.2.1, tm_word (w := 25) h ht (by omega) tw_at.2.2.2.2.2.2.1, Option.bind_some, q_ite, q_ite, q_ite, q_ite]
  generalize tk_t b n i = t at k1 ⊢
  cases hnow : az_now q with
  | none =>
    show (if (-1 : Int32) = 40 then _ else _) = _
    rw [if_neg (by decide), if_neg (by decide), if_neg (by decide), if_neg (by decide), if_neg (by decide)]
    rfl
  | some y =>
    have hy := hlt y hnow
    have e : ∀ k : Nat, k < 64 → (nI y = nI k ↔ y = k) := fun k hk => nI_eq (by omega) (by omega)
    have e40 : nI y = 40 ↔ y = 40 := e 40 (by omega)
    have e41 : nI y = 41 ↔ y = 41 := e 41 (by omega)
    have e42 : nI y = 42 ↔ y = 42 := e 42 (by omega)
    have e43 : nI y = 43 ↔ y = 43 := e 43 (by omega)
    have e44 : nI y = 44 ↔ y = 44 := e 44 (by omega)
    show (if nI y = 40 then _ else if nI y = 41 then _ else if nI y = 42 then _ else if nI y = 43 then _ else if nI y = 44 then _ else _) = some (oI (if y = 40 then _ else if y = 42 then _ else if y = 43 then _ else if y = 44 then _ else none))
    by_cases c40 : y = 40
    · rw [if_pos (e40.mpr c40), if_pos c40]
      by_cases c : t = 49
      · rw [if_pos (k1.mpr c), if_pos c]; rfl
      · rw [if_neg (fun z => c (k1.mp z)), if_neg c]; rfl
    rw [if_neg (fun z => c40 (e40.mp z)), if_neg c40]
    by_cases c41 : y = 41
    · rw [if_pos (e41.mpr c41), if_neg (by omega), if_neg (by omega), if_neg (by omega)]; rfl
    rw [if_neg (fun z => c41 (e41.mp z))]
    by_cases c42 : y = 42
    · rw [if_pos (e42.mpr c42), if_pos c42]
      by_cases c : t = 23
      · rw [if_pos c]
        by_cases cm : az_cmpd q = true
        · rw [if_pos cm, if_pos ⟨c, cm⟩]; rfl
        · rw [if_neg cm, if_neg (fun z => cm z.2)]; rfl
      · rw [if_neg c, if_neg (fun z => c z.1)]; rfl
    rw [if_neg (fun z => c42 (e42.mp z)), if_neg c42]
    by_cases c43 : y = 43
    · rw [if_pos (e43.mpr c43), if_pos c43]
      by_cases c : t = 24
      · rw [if_pos c, if_pos c]; rfl
      · rw [if_neg c, if_neg c]; rfl
    rw [if_neg (fun z => c43 (e43.mp z)), if_neg c43]
    by_cases c44 : y = 44
    · rw [if_pos (e44.mpr c44), if_pos c44]
      by_cases c : t = 25
      · rw [if_pos c, if_pos c]; rfl
      · rw [if_neg c, if_neg c]; rfl
    rw [if_neg (fun z => c44 (e44.mp z)), if_neg c44]
    rfl
end PRT
