/-! a world by units: lists of cells, flattened; calls replace units and keep the rest -/
abbrev US : Type := (Nat → Int32) × (Nat → Int64) × (Nat → Nat → Int32)
def upi (v : US) (k : Nat) (x : Int32) : US := (fun j => if j = k then x else v.1 j, v.2.1, v.2.2)
def upl (v : US) (k : Nat) (x : Int64) : US := (v.1, fun j => if j = k then x else v.2.1 j, v.2.2)
def upr (v : US) (k : Nat) (f : Nat → Int32) : US := (v.1, v.2.1, fun j => if j = k then f else v.2.2 j)
def upa (v : US) (k i : Nat) (x : Int32) : US := upr v k (upd (v.2.2 k) i x)
def b2i (b : Bool) : Int32 := if b then 1 else 0
theorem ck_some {α : Type} {i : Int32} {n : Nat} {k : Option α} {b : α} (h : (if i < 0 ∨ n ≤ i.toNatClampNeg then none else k) = some b) : vp_in i n ∧ k = some b := by
  by_cases hc : i < 0 ∨ n ≤ i.toNatClampNeg
  · rw [if_pos hc] at h; cases h
  · rw [if_neg hc] at h; exact ⟨hc, h⟩
theorem nz_some {α : Type} {i : Int32} {k : Option α} {b : α} (h : (if i = 0 then none else k) = some b) : ¬ i = 0 ∧ k = some b := by
  by_cases hc : i = 0
  · rw [if_pos hc] at h; cases h
  · rw [if_neg hc] at h; exact ⟨hc, h⟩
theorem nzl_some {α : Type} {i : Int64} {k : Option α} {b : α} (h : (if i = 0 then none else k) = some b) : ¬ i = 0 ∧ k = some b := by
  by_cases hc : i = 0
  · rw [if_pos hc] at h; cases h
  · rw [if_neg hc] at h; exact ⟨hc, h⟩
theorem bd_some {α β : Type} {x : Option α} {f : α → Option β} {b : β} (h : x.bind f = some b) : ∃ a, x = some a ∧ f a = some b := by
  cases x with
  | none => cases h
  | some a => exact ⟨a, rfl, h⟩
theorem it_t {α : Type} {c : Prop} [Decidable c] {x y r : α} (hc : c) (h : (if c then x else y) = r) : x = r := by rw [if_pos hc] at h; exact h
theorem it_f {α : Type} {c : Prop} [Decidable c] {x y r : α} (hc : ¬ c) (h : (if c then x else y) = r) : y = r := by rw [if_neg hc] at h; exact h
def rpU : List va_W → List Nat → List va_W → List va_W
  | us, i :: is, u :: uc => rpU (us.set i u) is uc
  | us, _, _ => us
theorem rpU_get : ∀ (is : List Nat) (uc us : List va_W), is.length = uc.length → ∀ (j : Nat) (u : va_W), (rpU us is uc)[j]? = some u → (∃ k : Nat, is[k]? = some j ∧ uc[k]? = some u) ∨ (j ∉ is ∧ us[j]? = some u)
  | [], uc, us, _, j, u, h => Or.inr ⟨List.not_mem_nil, by cases uc <;> exact h⟩
  | i :: is, [], us, hl, j, u, h => by cases hl
  | i :: is, u0 :: uc, us, hl, j, u, h => by
    rcases rpU_get is uc (us.set i u0) (Nat.succ.inj hl) j u h with ⟨k, h1, h2⟩ | ⟨h1, h2⟩
    · exact Or.inl ⟨k + 1, h1, h2⟩
    · by_cases hj : i = j
      · subst hj
        have hlt : i < us.length := by
          have := (List.getElem?_eq_some_iff.mp h2).1
          rwa [List.length_set] at this
        rw [List.getElem?_set_self hlt] at h2
        cases h2
        exact Or.inl ⟨0, rfl, rfl⟩
      · rw [List.getElem?_set_ne hj] at h2
        exact Or.inr ⟨fun hm => (List.mem_cons.mp hm).elim (fun e => hj e.symm) h1, h2⟩
theorem rpU_fst : ∀ (is : List Nat) (uc uc' us : List va_W), is.map (fun i => us[i]?) = uc.map some → va_nd is = true → uc'.map (List.map Prod.fst) = uc.map (List.map Prod.fst) → (rpU us is uc').map (List.map Prod.fst) = us.map (List.map Prod.fst)
  | [], uc, uc', us, _, _, _ => by cases uc' <;> rfl
  | i :: is, uc, [], us, _, _, _ => rfl
  | i :: is, [], u' :: uc', us, h, _, _ => by cases h
  | i :: is, u0 :: uc, u' :: uc', us, h, hn, hm => by
    have h0 : us[i]? = some u0 := (List.cons.inj h).1
    have hr := (List.cons.inj h).2
    have hm0 : u'.map Prod.fst = u0.map Prod.fst := (List.cons.inj hm).1
    simp only [va_nd, Bool.and_eq_true, decide_eq_true_eq] at hn
    have hset : (us.set i u').map (List.map Prod.fst) = us.map (List.map Prod.fst) := by
      rw [List.map_set, hm0]
      apply List.ext_getElem?
      intro j
      by_cases hj : i = j
      · subst hj
        have hlt : i < us.length := (List.getElem?_eq_some_iff.mp h0).1
        rw [List.getElem?_set_self (by rw [List.length_map]; exact hlt), List.getElem?_map, h0]
        rfl
      · rw [List.getElem?_set_ne hj]
    rw [show rpU us (i :: is) (u' :: uc') = rpU (us.set i u') is uc' from rfl, rpU_fst is uc uc' (us.set i u') ?_ hn.2 (List.cons.inj hm).2, hset]
    rw [← hr]
    apply List.map_congr_left
    intro j hj
    rw [List.getElem?_set_ne (fun e => hn.1 (by rw [e]; exact hj))]
theorem va_D_fst {A : Nat → Prop} {ws ws' : va_W} (h : ws'.map Prod.fst = ws.map Prod.fst) (hD : va_D A ws) : va_D A ws' := by
  have key : ∀ (k : Nat) (q : Nat × va_E), ws'[k]? = some q → ∃ q0, ws[k]? = some q0 ∧ q0.1 = q.1 := by
    intro k q hk
    have h1 : (ws'.map Prod.fst)[k]? = some q.1 := by rw [List.getElem?_map, hk]; rfl
    rw [h, List.getElem?_map] at h1
    cases h2 : ws[k]? with
    | none => rw [h2] at h1; cases h1
    | some q0 => rw [h2] at h1; exact ⟨q0, rfl, Option.some.inj h1⟩
  refine ⟨fun i j x y hi hj hxy => ?_, fun k q hk => ?_⟩
  · obtain ⟨x0, h1, h2⟩ := key i x hi
    obtain ⟨y0, h3, h4⟩ := key j y hj
    exact hD.1 i j x0 y0 h1 h3 (h2.trans (hxy.trans h4.symm))
  · obtain ⟨q0, h1, h2⟩ := key k q hk
    rw [← h2]
    exact hD.2 k q0 h1
theorem fl_fst {us us' : List va_W} (h : us'.map (List.map Prod.fst) = us.map (List.map Prod.fst)) : us'.flatten.map Prod.fst = us.flatten.map Prod.fst := by
  rw [List.map_flatten, List.map_flatten, h]
theorem va_D_pw {A : Nat → Prop} {ws : va_W} (hD : va_D A ws) : ws.Pairwise (fun p q => p.1 ≠ q.1) := by
  rw [List.pairwise_iff_getElem]
  intro i j hi hj hij he
  have := hD.1 i j _ _ (List.getElem?_eq_getElem hi) (List.getElem?_eq_getElem hj) he
  omega
theorem fl_apart {A : Nat → Prop} {us : List va_W} (hD : va_D A us.flatten) {i j : Nat} {u v : va_W} (hi : us[i]? = some u) (hj : us[j]? = some v) (hne : i ≠ j) {p q : Nat × va_E} (hp : p ∈ u) (hq : q ∈ v) : p.1 ≠ q.1 := by
  have h := (List.pairwise_flatten.mp (va_D_pw hD)).2
  rw [List.pairwise_iff_getElem] at h
  obtain ⟨li, ei⟩ := List.getElem?_eq_some_iff.mp hi
  obtain ⟨lj, ej⟩ := List.getElem?_eq_some_iff.mp hj
  rcases Nat.lt_or_gt_of_ne hne with hlt | hlt
  · exact h i j li lj hlt p (by rw [ei]; exact hp) q (by rw [ej]; exact hq)
  · exact fun e => h j i lj li hlt q (by rw [ej]; exact hq) p (by rw [ei]; exact hp) e.symm
theorem va_P.mem {D : va_G} {cl : List vw_C} {ws : va_W} {H : Heap} (h : va_P D cl ws H) {q : Nat × va_E} (hq : q ∈ ws) : va_at D cl q H := by
  obtain ⟨i, hi⟩ := List.getElem?_of_mem hq
  exact h i q hi
theorem va_P.ofMem {D : va_G} {cl : List vw_C} {ws : va_W} {H : Heap} (h : ∀ q ∈ ws, va_at D cl q H) : va_P D cl ws H := fun _ q hk => h q (List.mem_of_getElem? hk)
theorem us_mem {us : List va_W} {i : Nat} {u : va_W} {q : Nat × va_E} (hi : us[i]? = some u) (hq : q ∈ u) : q ∈ us.flatten := List.mem_flatten.mpr ⟨u, List.mem_of_getElem? hi, hq⟩
theorem at_is {us uc : List va_W} {is : List Nat} (hC : is.map (fun i => us[i]?) = uc.map some) {k : Nat} {u : va_W} (hk : uc[k]? = some u) : ∃ i : Nat, is[k]? = some i ∧ us[i]? = some u := by
  have h1 : (is.map (fun i => us[i]?))[k]? = some (some u) := by rw [hC, List.getElem?_map, hk]; rfl
  rw [List.getElem?_map] at h1
  cases hi : is[k]? with
  | none => rw [hi] at h1; cases h1
  | some i => rw [hi] at h1; exact ⟨i, rfl, Option.some.inj h1⟩
theorem sub_mem {us uc : List va_W} {is : List Nat} (hC : is.map (fun i => us[i]?) = uc.map some) {q : Nat × va_E} (hq : q ∈ uc.flatten) : q ∈ us.flatten := by
  obtain ⟨u, hu, hqu⟩ := List.mem_flatten.mp hq
  obtain ⟨k, hk⟩ := List.getElem?_of_mem hu
  obtain ⟨i, -, hi⟩ := at_is hC hk
  exact us_mem hi hqu
theorem va_P.us {D : va_G} {cl : List vw_C} {us uc : List va_W} {is : List Nat} {H : Heap} (h : va_P D cl us.flatten H) (hC : is.map (fun i => us[i]?) = uc.map some) : va_P D cl uc.flatten H := va_P.ofMem fun _ hq => h.mem (sub_mem hC hq)
theorem va_nd_get : ∀ (l : List Nat), va_nd l = true → ∀ {i j a : Nat}, l[i]? = some a → l[j]? = some a → i = j := fun l h i j a h1 h2 => va_nd_inj l h i j a h1 h2
theorem va_D.us {A : Nat → Prop} {us uc : List va_W} {is : List Nat} (hD : va_D A us.flatten) (hn : va_nd is = true) (hC : is.map (fun i => us[i]?) = uc.map some) : va_D A uc.flatten := by
  have hpw := va_D_pw hD
  have hin := List.pairwise_flatten.mp hpw
  have h : uc.flatten.Pairwise (fun p q => p.1 ≠ q.1) := by
    rw [List.pairwise_flatten]
    refine ⟨fun u hu => ?_, ?_⟩
    · obtain ⟨k, hk⟩ := List.getElem?_of_mem hu
      obtain ⟨i, -, hi⟩ := at_is hC hk
      exact hin.1 u (List.mem_of_getElem? hi)
    · rw [List.pairwise_iff_getElem]
      intro a b ha hb hab p hp q hq
      obtain ⟨i, h1, hi⟩ := at_is hC (List.getElem?_eq_getElem ha)
      obtain ⟨j, h2, hj⟩ := at_is hC (List.getElem?_eq_getElem hb)
      have hij : i ≠ j := by
        intro e
        subst e
        have := va_nd_get is hn h1 h2
        omega
      exact fl_apart hD hi hj hij hp hq
  refine ⟨fun i j x y hi hj hxy => ?_, fun k q hk => ?_⟩
  · rw [List.pairwise_iff_getElem] at h
    obtain ⟨li, ei⟩ := List.getElem?_eq_some_iff.mp hi
    obtain ⟨lj, ej⟩ := List.getElem?_eq_some_iff.mp hj
    rcases Nat.lt_trichotomy i j with hlt | he | hlt
    · exact absurd (by rw [ei, ej]; exact hxy) (h i j li lj hlt)
    · exact he
    · exact absurd (by rw [ei, ej]; exact hxy.symm) (h j i lj li hlt)
  · obtain ⟨k2, hk2⟩ := List.getElem?_of_mem (sub_mem hC (List.mem_of_getElem? hk))
    exact hD.2 k2 q hk2
/-- the frame rule by units: the callee's units are replaced, all others stay -/
theorem us_join {A : Nat → Prop} {D : va_G} {cl : List vw_C} {us uc uc' : List va_W} {is : List Nat} {H H1 : Heap} (hP : va_P D cl us.flatten H) (hD : va_D A us.flatten) (hn : va_nd is = true) (hC : is.map (fun i => us[i]?) = uc.map some) (hm : uc'.map (List.map Prod.fst) = uc.map (List.map Prod.fst))
    (hk : ∀ q : Nat, q < H.size → ¬ va_A uc.flatten H.size q → H1[q]? = H[q]?) (hP1 : va_P D cl uc'.flatten H1) : va_P D cl (rpU us is uc').flatten H1 ∧ va_D A (rpU us is uc').flatten := by
  have hl : is.length = uc'.length := by
    have h1 := congrArg List.length hC
    have h2 := congrArg List.length hm
    simp only [List.length_map] at h1 h2
    omega
  refine ⟨va_P.ofMem fun q hq => ?_, va_D_fst (fl_fst (rpU_fst is uc uc' us hC hn hm)) hD⟩
  obtain ⟨u, hu, hqu⟩ := List.mem_flatten.mp hq
  obtain ⟨j, hj⟩ := List.getElem?_of_mem hu
  rcases rpU_get is uc' us hl j u hj with ⟨k, h1, h2⟩ | ⟨h1, h2⟩
  · exact hP1.mem (us_mem h2 hqu)
  · have h0 := hP.mem (us_mem h2 hqu)
    refine h0.kept (hk q.1 h0.lt ?_)
    rintro (⟨k, e, hke⟩ | hge)
    · obtain ⟨u2, hu2, hq2⟩ := List.mem_flatten.mp (List.mem_of_getElem? hke)
      obtain ⟨k2, hk2⟩ := List.getElem?_of_mem hu2
      obtain ⟨i, h3, h4⟩ := at_is hC hk2
      exact fl_apart hD h2 h4 (fun e => h1 (by rw [e]; exact List.mem_of_getElem? h3)) hqu hq2 rfl
    · have := h0.lt
      omega
theorem us_free {A0 : Nat → Prop} {us uc : List va_W} {is : List Nat} {H0 H : Heap} {locs : List Loc} (hD : va_D A0 us.flatten) (hS : va_S A0 H0 H locs) (hA : ∀ q, H0.size ≤ q → A0 q) (hC : is.map (fun i => us[i]?) = uc.map some) : ∀ q, va_A uc.flatten H.size q → A0 q := by
  rintro q (⟨k, e, hke⟩ | hge)
  · obtain ⟨k2, hk2⟩ := List.getElem?_of_mem (sub_mem hC (List.mem_of_getElem? hke))
    exact hD.2 k2 _ hk2
  · exact hA q (Nat.le_trans hS.1 hge)
/-- a cell of a unit is a cell of the flat world, and may be set there -/
theorem fl_at : ∀ (us : List va_W) (i j : Nat) (u : va_W) (q : Nat × va_E), us[i]? = some u → u[j]? = some q → ∃ k : Nat, us.flatten[k]? = some q ∧ ∀ q', us.flatten.set k q' = (us.set i (u.set j q')).flatten
  | [], i, j, u, q, h, _ => by simp at h
  | v :: us, 0, j, u, q, h, h2 => by
    rw [List.getElem?_cons_zero] at h
    cases h
    have hl := (List.getElem?_eq_some_iff.mp h2).1
    refine ⟨j, ?_, fun q' => ?_⟩
    · rw [List.flatten_cons, List.getElem?_append_left hl]; exact h2
    · rw [List.flatten_cons, List.set_append_left _ _ hl]; rfl
  | v :: us, i + 1, j, u, q, h, h2 => by
    rw [List.getElem?_cons_succ] at h
    obtain ⟨k, h3, h4⟩ := fl_at us i j u q h h2
    refine ⟨v.length + k, ?_, fun q' => ?_⟩
    · rw [List.flatten_cons, List.getElem?_append_right (by omega), Nat.add_sub_cancel_left]; exact h3
    · rw [List.flatten_cons, List.set_append_right _ _ (by omega), Nat.add_sub_cancel_left, h4 q']; rfl
