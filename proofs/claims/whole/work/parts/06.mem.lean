/-! ===== the memory: how it is written, and the rules of fields and arrays ===== -/
def go_wi (M : go_M) (c i : Nat) (v : Int32) : go_M := (M.1, va_up M.2.1 c (upd (M.2.1 c) i v), M.2.2.1, M.2.2.2)
def go_wl (M : go_M) (c i : Nat) (v : Int64) : go_M := (M.1, M.2.1, va_up M.2.2.1 c (vp_updL (M.2.2.1 c) i v), M.2.2.2)
def go_wr (M : go_M) (c i : Nat) (v : Option Nat) : go_M := (M.1, M.2.1, M.2.2.1, va_up M.2.2.2 c (va_up (M.2.2.2 c) i v))
/-- a field by its link: the class ci, the place j, its type, whether it is final -/
def go_F (own : String) (idx ci j : Nat) (ty : FieldType) (fin : Bool) : Prop :=
  ∃ (C : String) (T : u_T) (N : Nat), go_cl[ci]? = some (C, T, N) ∧ N = go_N ci ∧ (∀ x ∈ u_ws C T N, x ∈ go_all) ∧ (∀ k, k < N → parseFieldDescriptor (T k).2.2.1 = some (go_ty ci k)) ∧ (∀ a, a < N → ∀ b, b < N → a ≠ b → (T a).2.1 ≠ (T b).2.1) ∧
    j < N ∧ go_ty ci j = ty ∧ (T j).2.2.2 = fin ∧ (T j).1 = C ∧ ci < 100 ∧ Cond.fieldLink own idx C (T j).2.1 (T j).2.2.1 ∈ go_all
theorem go_ra_in {w : go_Wd} {ad : List Nat} {M : go_M} {H : Heap} (hR : go_R w ad M H) {c : Nat} {k : Nat × Nat} (h : M.1[c]? = some k) : go_ra w ad c = ad.getD c 0 := by
  have hl := (List.getElem?_eq_some_iff.mp h).1
  unfold go_ra
  rw [if_pos (Nat.lt_of_lt_of_le hl hR.2.1)]
theorem go_ob {w : go_Wd} {ad : List Nat} {M : go_M} {c ci n : Nat} (h : M.1[c]? = some (ci, n)) (hc : ci < 100) : (go_ws w ad M)[c]? = some (ad.getD c 0, .inr (ci, go_fs w ad M c ci)) := by
  rw [go_ws_at h]
  unfold go_e
  rw [if_pos hc]
theorem go_ai {w : go_Wd} {ad : List Nat} {M : go_M} {c n : Nat} (h : M.1[c]? = some (100, n)) : (go_ws w ad M)[c]? = some (ad.getD c 0, .inl (w.2.2.1 0, n, .inl (M.2.1 c))) := go_ws_at h
theorem go_al {w : go_Wd} {ad : List Nat} {M : go_M} {c n : Nat} (h : M.1[c]? = some (101, n)) : (go_ws w ad M)[c]? = some (ad.getD c 0, .inl (w.2.2.1 1, n, .inr (.inl (M.2.2.1 c)))) := go_ws_at h
theorem go_az {w : go_Wd} {ad : List Nat} {M : go_M} {c n : Nat} (h : M.1[c]? = some (102, n)) : (go_ws w ad M)[c]? = some (ad.getD c 0, .inl (w.2.2.1 2, n, .inl (M.2.1 c))) := go_ws_at h
theorem go_at3 {w : go_Wd} {ad : List Nat} {M : go_M} {c n : Nat} (h : M.1[c]? = some (103, n)) : (go_ws w ad M)[c]? = some (ad.getD c 0, .inl (w.2.2.1 3, n, .inr (.inr (.inr (.inr (fun j => (M.2.2.2 c j).map (go_ra w ad))))))) := go_ws_at h
theorem go_at4 {w : go_Wd} {ad : List Nat} {M : go_M} {c n : Nat} (h : M.1[c]? = some (104, n)) : (go_ws w ad M)[c]? = some (ad.getD c 0, .inl (w.2.2.1 4, n, .inr (.inr (.inr (.inr (fun j => (M.2.2.2 c j).map (go_ra w ad))))))) := go_ws_at h
theorem go_fs_at {w : go_Wd} {ad : List Nat} {M : go_M} {c ci j : Nat} (h : j < go_N ci) : (go_fs w ad M c ci)[j]? = some (go_fv w ad M c (go_ty ci j) j) := by
  unfold go_fs
  rw [List.getElem?_map, List.getElem?_range h]
  rfl
theorem go_fs_len {w : go_Wd} {ad : List Nat} {M : go_M} {c ci : Nat} : (go_fs w ad M c ci).length = go_N ci := by
  unfold go_fs
  rw [List.length_map, List.length_range]
theorem go_fs_set {w : go_Wd} {ad : List Nat} {M M' : go_M} {c ci j : Nat} {v : Value} (hj : j < go_N ci) (h1 : go_fv w ad M' c (go_ty ci j) j = v) (h2 : ∀ i, i ≠ j → ∀ ty, go_fv w ad M' c ty i = go_fv w ad M c ty i) : go_fs w ad M' c ci = (go_fs w ad M c ci).set j v := by
  apply List.ext_getElem?
  intro i
  by_cases hi : i = j
  · subst hi
    rw [List.getElem?_set_self (by rw [go_fs_len]; exact hj), go_fs_at hj, h1]
  · rw [List.getElem?_set_ne (Ne.symm hi)]
    by_cases hl : i < go_N ci
    · rw [go_fs_at hl, go_fs_at hl, h2 i hi]
    · rw [List.getElem?_eq_none (by rw [go_fs_len]; omega), List.getElem?_eq_none (by rw [go_fs_len]; omega)]
theorem go_e_of {w : go_Wd} {ad : List Nat} {M M' : go_M} {c : Nat} {k : Nat × Nat} (h1 : M'.2.1 c = M.2.1 c) (h2 : M'.2.2.1 c = M.2.2.1 c) (h3 : M'.2.2.2 c = M.2.2.2 c) : go_e w ad M' c k = go_e w ad M c k := by
  simp only [go_e, go_fs, go_fv, h1, h2, h3]
theorem go_ws_set {w : go_Wd} {ad : List Nat} {M M' : go_M} {c : Nat} {k : Nat × Nat} {e' : va_E} (hsh : M'.1 = M.1) (hk : M.1[c]? = some k) (he : go_e w ad M' c k = e') (ho : ∀ c', c' ≠ c → M'.2.1 c' = M.2.1 c' ∧ M'.2.2.1 c' = M.2.2.1 c' ∧ M'.2.2.2 c' = M.2.2.2 c') : go_ws w ad M' = (go_ws w ad M).set c (ad.getD c 0, e') := by
  apply List.ext_getElem?
  intro i
  by_cases hi : i = c
  · subst hi
    rw [List.getElem?_set_self (List.getElem?_eq_some_iff.mp (go_ws_at (w := w) (ad := ad) hk)).1, go_ws_at (by rw [hsh]; exact hk), he]
  · rw [List.getElem?_set_ne (Ne.symm hi)]
    unfold go_ws
    rw [List.getElem?_mapIdx, List.getElem?_mapIdx, hsh]
    cases M.1[i]? with
    | none => rfl
    | some q =>
      obtain ⟨g1, g2, g3⟩ := ho i hi
      simp only [Option.map_some, go_e_of g1 g2 g3]
theorem go_wi_o {M : go_M} {c i : Nat} {v : Int32} : ∀ c', c' ≠ c → (go_wi M c i v).2.1 c' = M.2.1 c' ∧ (go_wi M c i v).2.2.1 c' = M.2.2.1 c' ∧ (go_wi M c i v).2.2.2 c' = M.2.2.2 c' := fun c' h => ⟨if_neg h, rfl, rfl⟩
theorem go_wl_o {M : go_M} {c i : Nat} {v : Int64} : ∀ c', c' ≠ c → (go_wl M c i v).2.1 c' = M.2.1 c' ∧ (go_wl M c i v).2.2.1 c' = M.2.2.1 c' ∧ (go_wl M c i v).2.2.2 c' = M.2.2.2 c' := fun c' h => ⟨rfl, if_neg h, rfl⟩
theorem go_wr_o {M : go_M} {c i : Nat} {v : Option Nat} : ∀ c', c' ≠ c → (go_wr M c i v).2.1 c' = M.2.1 c' ∧ (go_wr M c i v).2.2.1 c' = M.2.2.1 c' ∧ (go_wr M c i v).2.2.2 c' = M.2.2.2 c' := fun c' h => ⟨rfl, rfl, if_neg h⟩
theorem go_wi_c {M : go_M} {c i : Nat} {v : Int32} : (go_wi M c i v).2.1 c = upd (M.2.1 c) i v := if_pos rfl
theorem go_wl_c {M : go_M} {c i : Nat} {v : Int64} : (go_wl M c i v).2.2.1 c = vp_updL (M.2.2.1 c) i v := if_pos rfl
theorem go_wr_c {M : go_M} {c i : Nat} {v : Option Nat} : (go_wr M c i v).2.2.2 c = va_up (M.2.2.2 c) i v := if_pos rfl
theorem go_R_set {w : go_Wd} {ad : List Nat} {M M' : go_M} {H H1 : Heap} {c : Nat} {k : Nat × Nat} {e' : va_E} (hR : go_R w ad M H) (hsh : M'.1 = M.1) (hk : M.1[c]? = some k) (he : go_e w ad M' c k = e') (ho : ∀ c', c' ≠ c → M'.2.1 c' = M.2.1 c' ∧ M'.2.2.1 c' = M.2.2.1 c' ∧ M'.2.2.2 c' = M.2.2.2 c')
    (hP : va_P w.2.1 go_cl ((go_ws w ad M).set c (ad.getD c 0, e')) H1) (hD : va_D (go_A w) ((go_ws w ad M).set c (ad.getD c 0, e'))) : go_R w ad M' H1 := by
  rw [← go_ws_set hsh hk he ho] at hP hD
  exact ⟨by rw [hsh]; exact hR.1, by rw [hsh]; exact hR.2.1, hP, hD⟩
section GoMem
variable {w : go_Wd} {d bc bs : Nat} {μ : go_Mt} {pc : Nat} {lv : List (Nat × Value)} {st : List Value} {M : go_M} {Z : go_ZT}
theorem go_getI {c ci n idx j : Nat} {ty : FieldType} {fin : Bool} (hd : decode μ.2.2.1 pc = .ok (.getfield idx, 3)) (hF : go_F μ.1 idx ci j ty fin) (hty : ty = .int ∨ ty = .boolean) (hk : M.1[c]? = some (ci, n)) (k : Go w d bc bs μ (pc + 3) lv (.int (M.2.1 c j) :: st) M Z) : Go w d bc bs μ pc lv (.ref c :: st) M Z := by
  intro p e R s m args below meth cd H ls locs cells slots ad C h1 h2 hR hS hl
  obtain ⟨C0, T, N, f1, f2, f3, f4, f5, f6, f7, f8, f9, f10, f11⟩ := hF
  have hk' := k p e R s m args below meth cd H ls locs cells slots ad C h1 h2 hR hS hl
  show W _ _ _ _ _ _ _ _ _ _ _ _ _ _ _ (F0 m pc ls (.ref (go_ra w ad c) :: st.map (go_tv w ad)))
  rw [go_ra_in hR hk]
  refine va_get (D := w.2.1) (ci := ci) (C := C0) (T := T) (N := N) (v := .int (M.2.1 c j)) C.1 C.2.1 C.2.2.2.2.1 f3 C.2.2.2.1 C.2.2.2.2.2.2.2.2.1.1 hR.2.2.1 c (go_ob hk f10) f1 j f6 (C.2.2.2.2.1 _ f11) (fun _ h9 => f9 ▸ h9) ?_ hd hk'
  rw [go_fs_at (by rw [← f2]; exact f6), f7]
  rcases hty with rfl | rfl <;> rfl
theorem go_getL {c ci n idx j : Nat} {fin : Bool} (hd : decode μ.2.2.1 pc = .ok (.getfield idx, 3)) (hF : go_F μ.1 idx ci j .long fin) (hk : M.1[c]? = some (ci, n)) (k : Go w d bc bs μ (pc + 3) lv (.long (M.2.2.1 c j) :: st) M Z) : Go w d bc bs μ pc lv (.ref c :: st) M Z := by
  intro p e R s m args below meth cd H ls locs cells slots ad C h1 h2 hR hS hl
  obtain ⟨C0, T, N, f1, f2, f3, f4, f5, f6, f7, f8, f9, f10, f11⟩ := hF
  have hk' := k p e R s m args below meth cd H ls locs cells slots ad C h1 h2 hR hS hl
  show W _ _ _ _ _ _ _ _ _ _ _ _ _ _ _ (F0 m pc ls (.ref (go_ra w ad c) :: st.map (go_tv w ad)))
  rw [go_ra_in hR hk]
  refine va_get (D := w.2.1) (ci := ci) (C := C0) (T := T) (N := N) (v := .long (M.2.2.1 c j)) C.1 C.2.1 C.2.2.2.2.1 f3 C.2.2.2.1 C.2.2.2.2.2.2.2.2.1.1 hR.2.2.1 c (go_ob hk f10) f1 j f6 (C.2.2.2.2.1 _ f11) (fun _ h9 => f9 ▸ h9) ?_ hd hk'
  rw [go_fs_at (by rw [← f2]; exact f6), f7]
  rfl
theorem go_getR {c ci n idx j q : Nat} {ty : FieldType} {fin : Bool} (hd : decode μ.2.2.1 pc = .ok (.getfield idx, 3)) (hF : go_F μ.1 idx ci j ty fin) (hty : (∃ x, ty = .object x) ∨ ∃ x, ty = .array x) (hk : M.1[c]? = some (ci, n)) (hv : M.2.2.2 c j = some q) (k : Go w d bc bs μ (pc + 3) lv (.ref q :: st) M Z) : Go w d bc bs μ pc lv (.ref c :: st) M Z := by
  intro p e R s m args below meth cd H ls locs cells slots ad C h1 h2 hR hS hl
  obtain ⟨C0, T, N, f1, f2, f3, f4, f5, f6, f7, f8, f9, f10, f11⟩ := hF
  have hk' := k p e R s m args below meth cd H ls locs cells slots ad C h1 h2 hR hS hl
  show W _ _ _ _ _ _ _ _ _ _ _ _ _ _ _ (F0 m pc ls (.ref (go_ra w ad c) :: st.map (go_tv w ad)))
  rw [go_ra_in hR hk]
  refine va_get (D := w.2.1) (ci := ci) (C := C0) (T := T) (N := N) (v := .ref (go_ra w ad q)) C.1 C.2.1 C.2.2.2.2.1 f3 C.2.2.2.1 C.2.2.2.2.2.2.2.2.1.1 hR.2.2.1 c (go_ob hk f10) f1 j f6 (C.2.2.2.2.1 _ f11) (fun _ h9 => f9 ▸ h9) ?_ hd hk'
  rw [go_fs_at (by rw [← f2]; exact f6), f7]
  rcases hty with ⟨x, rfl⟩ | ⟨x, rfl⟩ <;> simp only [go_fv, hv] <;> rfl
theorem go_putI {c ci n idx j : Nat} {x : Int32} {ty : FieldType} (hd : decode μ.2.2.1 pc = .ok (.putfield idx, 3)) (hF : go_F μ.1 idx ci j ty false) (hty : ty = .int ∨ (ty = .boolean ∧ (x = 0 ∨ x = 1))) (hk : M.1[c]? = some (ci, n)) (k : Go w d bc bs μ (pc + 3) lv st (go_wi M c j x) Z) : Go w d bc bs μ pc lv (.int x :: .ref c :: st) M Z := by
  intro p e R s m args below meth cd H ls locs cells slots ad C h1 h2 hR hS hl
  obtain ⟨C0, T, N, f1, f2, f3, f4, f5, f6, f7, f8, f9, f10, f11⟩ := hF
  show W _ _ _ _ _ _ _ _ _ _ _ _ _ _ _ (F0 m pc ls (.int x :: .ref (go_ra w ad c) :: st.map (go_tv w ad)))
  rw [go_ra_in hR hk]
  have hN : j < go_N ci := by rw [← f2]; exact f6
  have e1 : go_e w ad (go_wi M c j x) c (ci, n) = .inr (ci, (go_fs w ad M c ci).set j (.int x)) := by
    unfold go_e
    rw [if_pos f10, go_fs_set (M := M) hN (v := .int x)]
    · rw [f7]
      rcases hty with rfl | ⟨rfl, -⟩ <;> simp only [go_fv, go_wi_c, upd, if_pos]
    · intro i hi ty
      have : (go_wi M c j x).2.1 c i = M.2.1 c i := by rw [go_wi_c]; exact if_neg hi
      cases ty <;> simp only [go_fv, this] <;> rfl
  refine va_put (D := w.2.1) (ci := ci) (C := C0) (T := T) (N := N) (v := .int x) (ty := ty) C.1 C.2.1 C.2.2.2.2.1 f3 (go_ty ci) f4 f5 C.2.2.2.1 C.2.2.2.2.2.2.2.2.1.1 hR.2.2.1 hR.2.2.2 hS c (go_ob hk f10) f1 j f6 (C.2.2.2.2.1 _ f11) (fun _ h9 => f9 ▸ h9) f8 (by rw [f4 j f6, f7]) ?_ ?_ (by rw [go_fs_len]; exact hN) hd (fun H1 locs1 hP hD hS1 => k p e R s m args below meth cd H1 ls locs1 cells slots ad C h1 h2 (go_R_set hR rfl hk e1 go_wi_o hP hD) hS1 hl)
  · rcases hty with rfl | ⟨rfl, rfl | rfl⟩ <;> rfl
  · rcases hty with rfl | ⟨rfl, rfl | rfl⟩ <;> rfl
theorem go_putL {c ci n idx j : Nat} {x : Int64} (hd : decode μ.2.2.1 pc = .ok (.putfield idx, 3)) (hF : go_F μ.1 idx ci j .long false) (hk : M.1[c]? = some (ci, n)) (k : Go w d bc bs μ (pc + 3) lv st (go_wl M c j x) Z) : Go w d bc bs μ pc lv (.long x :: .ref c :: st) M Z := by
  intro p e R s m args below meth cd H ls locs cells slots ad C h1 h2 hR hS hl
  obtain ⟨C0, T, N, f1, f2, f3, f4, f5, f6, f7, f8, f9, f10, f11⟩ := hF
  show W _ _ _ _ _ _ _ _ _ _ _ _ _ _ _ (F0 m pc ls (.long x :: .ref (go_ra w ad c) :: st.map (go_tv w ad)))
  rw [go_ra_in hR hk]
  have hN : j < go_N ci := by rw [← f2]; exact f6
  have e1 : go_e w ad (go_wl M c j x) c (ci, n) = .inr (ci, (go_fs w ad M c ci).set j (.long x)) := by
    unfold go_e
    rw [if_pos f10, go_fs_set (M := M) hN (v := .long x)]
    · rw [f7]
      simp only [go_fv, go_wl_c, vp_updL, if_pos]
    · intro i hi ty
      have : (go_wl M c j x).2.2.1 c i = M.2.2.1 c i := by rw [go_wl_c]; exact if_neg hi
      cases ty <;> simp only [go_fv, this] <;> rfl
  exact va_put (D := w.2.1) (ci := ci) (C := C0) (T := T) (N := N) (v := .long x) (ty := .long) C.1 C.2.1 C.2.2.2.2.1 f3 (go_ty ci) f4 f5 C.2.2.2.1 C.2.2.2.2.2.2.2.2.1.1 hR.2.2.1 hR.2.2.2 hS c (go_ob hk f10) f1 j f6 (C.2.2.2.2.1 _ f11) (fun _ h9 => f9 ▸ h9) f8 (by rw [f4 j f6, f7]) rfl rfl (by rw [go_fs_len]; exact hN) hd (fun H1 locs1 hP hD hS1 => k p e R s m args below meth cd H1 ls locs1 cells slots ad C h1 h2 (go_R_set hR rfl hk e1 go_wl_o hP hD) hS1 hl)
theorem go_wr_e {ad : List Nat} {c ci n j q : Nat} {ty : FieldType} (hN : j < go_N ci) (f7 : go_ty ci j = ty) (f10 : ci < 100) (hty : (∃ x, ty = .object x) ∨ ∃ x, ty = .array x) : go_e w ad (go_wr M c j (some q)) c (ci, n) = .inr (ci, (go_fs w ad M c ci).set j (.ref (go_ra w ad q))) := by
  unfold go_e
  rw [if_pos f10, go_fs_set (M := M) hN (v := .ref (go_ra w ad q))]
  · rw [f7]
    rcases hty with ⟨x, rfl⟩ | ⟨x, rfl⟩ <;> simp only [go_fv, go_wr_c, va_up, if_pos] <;> rfl
  · intro i hi ty
    have : (go_wr M c j (some q)).2.2.2 c i = M.2.2.2 c i := by rw [go_wr_c]; exact if_neg hi
    cases ty <;> simp only [go_fv, this] <;> rfl
theorem go_putR {c ci n idx j q : Nat} {ty : FieldType} (hd : decode μ.2.2.1 pc = .ok (.putfield idx, 3)) (hF : go_F μ.1 idx ci j ty false) (hty : (∃ x, ty = .object x) ∨ ∃ x, ty = .array x) (hk : M.1[c]? = some (ci, n)) (k : Go w d bc bs μ (pc + 3) lv st (go_wr M c j (some q)) Z) : Go w d bc bs μ pc lv (.ref q :: .ref c :: st) M Z := by
  intro p e R s m args below meth cd H ls locs cells slots ad C h1 h2 hR hS hl
  obtain ⟨C0, T, N, f1, f2, f3, f4, f5, f6, f7, f8, f9, f10, f11⟩ := hF
  show W _ _ _ _ _ _ _ _ _ _ _ _ _ _ _ (F0 m pc ls (.ref (go_ra w ad q) :: .ref (go_ra w ad c) :: st.map (go_tv w ad)))
  rw [go_ra_in hR hk]
  have hN : j < go_N ci := by rw [← f2]; exact f6
  have e1 := go_wr_e (w := w) (M := M) (ad := ad) (c := c) (n := n) (q := q) hN f7 f10 hty
  refine va_put (D := w.2.1) (ci := ci) (C := C0) (T := T) (N := N) (v := .ref (go_ra w ad q)) (ty := ty) C.1 C.2.1 C.2.2.2.2.1 f3 (go_ty ci) f4 f5 C.2.2.2.1 C.2.2.2.2.2.2.2.2.1.1 hR.2.2.1 hR.2.2.2 hS c (go_ob hk f10) f1 j f6 (C.2.2.2.2.1 _ f11) (fun _ h9 => f9 ▸ h9) f8 (by rw [f4 j f6, f7]) ?_ ?_ (by rw [go_fs_len]; exact hN) hd (fun H1 locs1 hP hD hS1 => k p e R s m args below meth cd H1 ls locs1 cells slots ad C h1 h2 (go_R_set hR rfl hk e1 go_wr_o hP hD) hS1 hl)
  · rcases hty with ⟨x, rfl⟩ | ⟨x, rfl⟩ <;> rfl
  · rcases hty with ⟨x, rfl⟩ | ⟨x, rfl⟩ <;> rfl
/-- a final field, in the constructor of its class -/
theorem go_putRF {c ci n idx j q : Nat} {ty : FieldType} (hd : decode μ.2.2.1 pc = .ok (.putfield idx, 3)) (hF : go_F μ.1 idx ci j ty true) (hin : μ.2.1.name = "<init>") (hdecl : (go_cl[ci]?).map (·.1) = some μ.1) (hty : (∃ x, ty = .object x) ∨ ∃ x, ty = .array x) (hk : M.1[c]? = some (ci, n)) (k : Go w d bc bs μ (pc + 3) lv st (go_wr M c j (some q)) Z) : Go w d bc bs μ pc lv (.ref q :: .ref c :: st) M Z := by
  intro p e R s m args below meth cd H ls locs cells slots ad C h1 h2 hR hS hl
  obtain ⟨C0, T, N, f1, f2, f3, f4, f5, f6, f7, f8, f9, f10, f11⟩ := hF
  rw [f1] at hdecl
  have hC0 : C0 = μ.1 := Option.some.inj hdecl
  show W _ _ _ _ _ _ _ _ _ _ _ _ _ _ _ (F0 m pc ls (.ref (go_ra w ad q) :: .ref (go_ra w ad c) :: st.map (go_tv w ad)))
  rw [go_ra_in hR hk]
  have hN : j < go_N ci := by rw [← f2]; exact f6
  have e1 := go_wr_e (w := w) (M := M) (ad := ad) (c := c) (n := n) (q := q) hN f7 f10 hty
  refine va_putF (D := w.2.1) (ci := ci) (C := C0) (T := T) (N := N) (v := .ref (go_ra w ad q)) (ty := ty) C.1 C.2.1 C.2.2.2.2.1 f3 (go_ty ci) f4 f5 C.2.2.2.1 C.2.2.2.2.2.2.2.2.1.1 hR.2.2.1 hR.2.2.2 hS c (go_ob hk f10) f1 j f6 (C.2.2.2.2.1 _ f11) (fun _ h9 => f9 ▸ h9) f8 (by rw [C.2.2.2.2.2.2.2.1]; exact hin) (f9.trans hC0) (by rw [f4 j f6, f7]) ?_ ?_ (by rw [go_fs_len]; exact hN) hd (fun H1 locs1 hP hD hS1 => k p e R s m args below meth cd H1 ls locs1 cells slots ad C h1 h2 (go_R_set hR rfl hk e1 go_wr_o hP hD) hS1 hl)
  · rcases hty with ⟨x, rfl⟩ | ⟨x, rfl⟩ <;> rfl
  · rcases hty with ⟨x, rfl⟩ | ⟨x, rfl⟩ <;> rfl
theorem go_ild {c n : Nat} {i : Int32} (hd : decode μ.2.2.1 pc = .ok (.iaload, 1)) (hk : M.1[c]? = some (100, n)) (hin : vp_in i n) (k : Go w d bc bs μ (pc + 1) lv (.int (M.2.1 c i.toNatClampNeg) :: st) M Z) : Go w d bc bs μ pc lv (.int i :: .ref c :: st) M Z := by
  intro p e R s m args below meth cd H ls locs cells slots ad C h1 h2 hR hS hl
  show W _ _ _ _ _ _ _ _ _ _ _ _ _ _ _ (F0 m pc ls (.int i :: .ref (go_ra w ad c) :: st.map (go_tv w ad)))
  rw [go_ra_in hR hk]
  exact va_iald C.1 C.2.1 C.2.2.2.2.2.2.2.2.1.1 hR.2.2.1 c 0 (go_ai hk) rfl hin hd (k p e R s m args below meth cd H ls locs cells slots ad C h1 h2 hR hS hl)
theorem go_lld {c n : Nat} {i : Int32} (hd : decode μ.2.2.1 pc = .ok (.laload, 1)) (hk : M.1[c]? = some (101, n)) (hin : vp_in i n) (k : Go w d bc bs μ (pc + 1) lv (.long (M.2.2.1 c i.toNatClampNeg) :: st) M Z) : Go w d bc bs μ pc lv (.int i :: .ref c :: st) M Z := by
  intro p e R s m args below meth cd H ls locs cells slots ad C h1 h2 hR hS hl
  show W _ _ _ _ _ _ _ _ _ _ _ _ _ _ _ (F0 m pc ls (.int i :: .ref (go_ra w ad c) :: st.map (go_tv w ad)))
  rw [go_ra_in hR hk]
  exact va_lald C.1 C.2.1 C.2.2.2.2.2.2.2.2.1.1 hR.2.2.1 c 1 (go_al hk) rfl hin hd (k p e R s m args below meth cd H ls locs cells slots ad C h1 h2 hR hS hl)
theorem go_zld {c n : Nat} {i : Int32} (hd : decode μ.2.2.1 pc = .ok (.baload, 1)) (hk : M.1[c]? = some (102, n)) (hin : vp_in i n) (k : Go w d bc bs μ (pc + 1) lv (.int (M.2.1 c i.toNatClampNeg) :: st) M Z) : Go w d bc bs μ pc lv (.int i :: .ref c :: st) M Z := by
  intro p e R s m args below meth cd H ls locs cells slots ad C h1 h2 hR hS hl
  show W _ _ _ _ _ _ _ _ _ _ _ _ _ _ _ (F0 m pc ls (.int i :: .ref (go_ra w ad c) :: st.map (go_tv w ad)))
  rw [go_ra_in hR hk]
  exact va_zald C.1 C.2.1 C.2.2.2.2.2.2.2.2.1.1 hR.2.2.1 c 2 (go_az hk) rfl hin hd (k p e R s m args below meth cd H ls locs cells slots ad C h1 h2 hR hS hl)
theorem go_ist {c n : Nat} {i x : Int32} (hd : decode μ.2.2.1 pc = .ok (.iastore, 1)) (hk : M.1[c]? = some (100, n)) (hin : vp_in i n) (k : Go w d bc bs μ (pc + 1) lv st (go_wi M c i.toNatClampNeg x) Z) : Go w d bc bs μ pc lv (.int x :: .int i :: .ref c :: st) M Z := by
  intro p e R s m args below meth cd H ls locs cells slots ad C h1 h2 hR hS hl
  show W _ _ _ _ _ _ _ _ _ _ _ _ _ _ _ (F0 m pc ls (.int x :: .int i :: .ref (go_ra w ad c) :: st.map (go_tv w ad)))
  rw [go_ra_in hR hk]
  exact va_iast C.1 C.2.1 C.2.2.2.2.2.2.2.2.1.1 hR.2.2.1 hR.2.2.2 hS c 0 (go_ai hk) rfl hin hd (fun H1 locs1 hP hD hS1 => k p e R s m args below meth cd H1 ls locs1 cells slots ad C h1 h2 (go_R_set hR rfl hk (by show Sum.inl (_, _, Sum.inl _) = _; rw [go_wi_c]) go_wi_o hP hD) hS1 hl)
theorem go_lst {c n : Nat} {i : Int32} {x : Int64} (hd : decode μ.2.2.1 pc = .ok (.lastore, 1)) (hk : M.1[c]? = some (101, n)) (hin : vp_in i n) (k : Go w d bc bs μ (pc + 1) lv st (go_wl M c i.toNatClampNeg x) Z) : Go w d bc bs μ pc lv (.long x :: .int i :: .ref c :: st) M Z := by
  intro p e R s m args below meth cd H ls locs cells slots ad C h1 h2 hR hS hl
  show W _ _ _ _ _ _ _ _ _ _ _ _ _ _ _ (F0 m pc ls (.long x :: .int i :: .ref (go_ra w ad c) :: st.map (go_tv w ad)))
  rw [go_ra_in hR hk]
  exact va_last C.1 C.2.1 C.2.2.2.2.2.2.2.2.1.1 hR.2.2.1 hR.2.2.2 hS c 1 (go_al hk) rfl hin hd (fun H1 locs1 hP hD hS1 => k p e R s m args below meth cd H1 ls locs1 cells slots ad C h1 h2 (go_R_set hR rfl hk (by show Sum.inl (_, _, Sum.inr (Sum.inl _)) = _; rw [go_wl_c]) go_wl_o hP hD) hS1 hl)
theorem go_zst {c n : Nat} {i x : Int32} (hd : decode μ.2.2.1 pc = .ok (.bastore, 1)) (hk : M.1[c]? = some (102, n)) (hin : vp_in i n) (hx : x = 0 ∨ x = 1) (k : Go w d bc bs μ (pc + 1) lv st (go_wi M c i.toNatClampNeg x) Z) : Go w d bc bs μ pc lv (.int x :: .int i :: .ref c :: st) M Z := by
  intro p e R s m args below meth cd H ls locs cells slots ad C h1 h2 hR hS hl
  show W _ _ _ _ _ _ _ _ _ _ _ _ _ _ _ (F0 m pc ls (.int x :: .int i :: .ref (go_ra w ad c) :: st.map (go_tv w ad)))
  rw [go_ra_in hR hk]
  have hnar : vp_nar .boolean x = x := by rcases hx with rfl | rfl <;> rfl
  refine va_zast C.1 C.2.1 C.2.2.2.2.2.2.2.2.1.1 hR.2.2.1 hR.2.2.2 hS c 2 (go_az hk) rfl hin hd (fun H1 locs1 hP hD hS1 => ?_)
  rw [hnar] at hP hD
  exact k p e R s m args below meth cd H1 ls locs1 cells slots ad C h1 h2 (go_R_set hR rfl hk (by show Sum.inl (_, _, Sum.inl _) = _; rw [go_wi_c]) go_wi_o hP hD) hS1 hl
theorem go_ald {c n q t : Nat} {i : Int32} (hd : decode μ.2.2.1 pc = .ok (.aaload, 1)) (hk : M.1[c]? = some (t, n)) (ht : t = 103 ∨ t = 104) (hin : vp_in i n) (hv : M.2.2.2 c i.toNatClampNeg = some q) (k : Go w d bc bs μ (pc + 1) lv (.ref q :: st) M Z) : Go w d bc bs μ pc lv (.int i :: .ref c :: st) M Z := by
  intro p e R s m args below meth cd H ls locs cells slots ad C h1 h2 hR hS hl
  have hk' := k p e R s m args below meth cd H ls locs cells slots ad C h1 h2 hR hS hl
  show W _ _ _ _ _ _ _ _ _ _ _ _ _ _ _ (F0 m pc ls (.int i :: .ref (go_ra w ad c) :: st.map (go_tv w ad)))
  rw [go_ra_in hR hk]
  have e1 : va_rf ((fun j => (M.2.2.2 c j).map (go_ra w ad)) i.toNatClampNeg) = .ref (go_ra w ad q) := by simp only [hv]; rfl
  rcases ht with rfl | rfl
  · refine va_aldq C.1 C.2.1 C.2.2.2.2.2.2.2.2.1.1 hR.2.2.1 c 3 (C := RX8) (go_at3 hk) rfl hin hd ?_
    rw [e1]
    exact hk'
  · refine va_aldq C.1 C.2.1 C.2.2.2.2.2.2.2.2.1.1 hR.2.2.1 c 4 (C := RX10) (go_at4 hk) rfl hin hd ?_
    rw [e1]
    exact hk'
theorem go_alen {c n : Nat} {v : Int32} (hd : decode μ.2.2.1 pc = .ok (.arraylength, 1)) (hk : M.1[c]? = some (100, n)) (hv : Int32.ofNat n = v) (k : Go w d bc bs μ (pc + 1) lv (.int v :: st) M Z) : Go w d bc bs μ pc lv (.ref c :: st) M Z := by
  intro p e R s m args below meth cd H ls locs cells slots ad C h1 h2 hR hS hl
  show W _ _ _ _ _ _ _ _ _ _ _ _ _ _ _ (F0 m pc ls (.ref (go_ra w ad c) :: st.map (go_tv w ad)))
  rw [go_ra_in hR hk]
  exact va_alen C.1 C.2.1 C.2.2.2.2.2.2.2.2.1.1 hR.2.2.1 c 0 (go_ai hk) (ty := .int) rfl hv hd (k p e R s m args below meth cd H ls locs cells slots ad C h1 h2 hR hS hl)
end GoMem
