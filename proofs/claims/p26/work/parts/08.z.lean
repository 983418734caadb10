/-! ===== Z: numbers as Int, worlds by number, pure steps ===== -/
def zI (z : Int) : Int32 := Int32.ofInt z
abbrev zR (z : Int) : Prop := -2147483648 ≤ z ∧ z ≤ 2147483647
theorem zI_toInt {z : Int} (h : zR z) : (zI z).toInt = z := by
  unfold zI
  rw [Int32.toInt_ofInt_of_le] <;> omega
theorem zI_of (x : Int32) : zI x.toInt = x := by unfold zI; exact Int32.ofInt_toInt x
theorem zR_of (x : Int32) : zR x.toInt := by
  have h1 := Int32.le_toInt x
  have h2 := Int32.toInt_lt x
  constructor <;> omega
theorem zI_add (a b : Int) : zI a + zI b = zI (a + b) := by unfold zI; exact (Int32.ofInt_add a b).symm
theorem zI_sub (a b : Int) : zI a - zI b = zI (a - b) := by unfold zI; exact (Int32.ofInt_sub a b).symm
theorem zI_mul (a b : Int) : zI a * zI b = zI (a * b) := by unfold zI; exact (Int32.ofInt_mul a b).symm
theorem zI_neg (a : Int) : - zI a = zI (-a) := by unfold zI; exact (Int32.ofInt_neg a).symm
theorem zI_lt {a b : Int} (h : zR a ∧ zR b) : zI a < zI b ↔ a < b := by
  rw [Int32.lt_iff_toInt_lt, zI_toInt h.1, zI_toInt h.2]
theorem zI_le {a b : Int} (h : zR a ∧ zR b) : zI a ≤ zI b ↔ a ≤ b := by
  rw [Int32.le_iff_toInt_le, zI_toInt h.1, zI_toInt h.2]
theorem zI_eq {a b : Int} (h : zR a ∧ zR b) : zI a = zI b ↔ a = b := by
  constructor
  · intro q
    have := congrArg Int32.toInt q
    rwa [zI_toInt h.1, zI_toInt h.2] at this
  · intro q; rw [q]
theorem zI_zero : zI 0 = 0 := rfl
theorem zR0 : zR 0 := by constructor <;> omega
theorem zI_ofToInt (x : Int32) (z : Int) (h : x.toInt = Int.bmod z 4294967296) : x = zI z := by
  apply Int32.toInt_inj.mp
  unfold zI
  rw [Int32.toInt_ofInt, h]
theorem zI_div {a b : Int} (h : zR a ∧ zR b) : zI a / zI b = zI (a.tdiv b) := by
  apply zI_ofToInt
  rw [Int32.toInt_div, zI_toInt h.1, zI_toInt h.2]
theorem zI_rem {a b : Int} (h : zR a ∧ zR b) : zI a - zI a / zI b * zI b = zI (a.tmod b) := by
  rw [zI_div h, zI_mul, zI_sub]
  congr 1
  have := Int.tmod_add_tdiv_mul a b
  omega
theorem zI_in {i : Int} {n : Nat} (h : 0 ≤ i ∧ i < (n : Int)) (hn : n < 2147483648) : vp_in (zI i) n := by
  rw [vp_in_iff, zI_toInt (by constructor <;> omega)]
  exact h
theorem zI_cl {i : Int} {n : Nat} (h : 0 ≤ i ∧ i < (n : Int)) (hn : n < 2147483648) : (zI i).toNatClampNeg = i.toNat := by
  have : (zI i).toInt = i := zI_toInt (by constructor <;> omega)
  rw [← Int32.toNat_toInt, this]
/-! pure steps -/
def zck (P : Prop) [Decidable P] {α : Type} (k : Option α) : Option α := if P then k else none
theorem zck_some {P : Prop} [Decidable P] {α : Type} {k : Option α} {r : α} (h : zck P k = some r) : P ∧ k = some r := by
  unfold zck at h
  split at h
  · exact ⟨by assumption, h⟩
  · cases h
theorem zck_t {P : Prop} [Decidable P] {α : Type} {k : Option α} (h : P) : zck P k = k := if_pos h
def zlt {α β : Type} (v : α) (k : α → Option β) : Option β := k v
theorem zlt_some {α β : Type} {v : α} {k : α → Option β} {r : β} (h : zlt v k = some r) : ∃ x, x = v ∧ k x = some r := ⟨v, rfl, h⟩
def zlp {σ ρ : Type} (body : σ → Option (σ ⊕ ρ)) : Nat → σ → Option ρ
  | 0, _ => none
  | n + 1, s => match body s with
    | none => none
    | some (.inl s') => zlp body n s'
    | some (.inr r) => some r
def zst {σ ρ : Type} (body : σ → Option (σ ⊕ ρ)) (n : Nat) (nx : σ ⊕ ρ) (r : ρ) : Prop := match nx with
  | .inl s' => zlp body n s' = some r
  | .inr e => e = r
theorem zlp_some {σ ρ : Type} {body : σ → Option (σ ⊕ ρ)} {n : Nat} {s : σ} {r : ρ} (h : zlp body (n + 1) s = some r) : ∃ nx, body s = some nx ∧ zst body n nx r := by
  unfold zlp at h
  cases hb : body s with
  | none => rw [hb] at h; cases h
  | some nx =>
    rw [hb] at h
    cases nx with
    | inl s' => exact ⟨_, rfl, h⟩
    | inr e => exact ⟨_, rfl, Option.some.inj h⟩
def zFU : Nat := 1000000000
theorem zFU_ge {n : Nat} (h : Nat.ble n 1000000000 = true) : n ≤ zFU := Nat.le_of_ble_eq_true h
def zup {α : Type} (a : Int → α) (i : Int) (v : α) : Int → α := fun j => if j = i then v else a j
theorem zup_s {α : Type} {a : Int → α} {i : Int} {v : α} : zup a i v i = v := if_pos rfl
theorem zup_n {α : Type} {a : Int → α} {i j : Int} {v : α} (h : j ≠ i) : zup a i v j = a j := if_neg h
/-- an int array's contents -/
abbrev zA (f : Int → Int) : Nat → Int32 := fun j => zI (f (j : Int))
theorem zA_at {f : Int → Int} {i : Int} {n : Nat} (h : 0 ≤ i ∧ i < (n : Int)) (hn : n < 2147483648) : zA f (zI i).toNatClampNeg = zI (f i) := by
  rw [zI_cl h hn]
  show zI (f ((i.toNat : Nat) : Int)) = zI (f i)
  rw [Int.toNat_of_nonneg h.1]
theorem zA_up {f : Int → Int} {i x : Int} {n : Nat} (h : 0 ≤ i ∧ i < (n : Int)) (hn : n < 2147483648) : upd (zA f) (zI i).toNatClampNeg (zI x) = zA (zup f i x) := by
  rw [zI_cl h hn]
  funext j
  unfold upd zup
  show (if j = i.toNat then zI x else zI (f j)) = zI (if (j : Int) = i then x else f j)
  by_cases hj : (j : Int) = i
  · rw [if_pos hj, if_pos (by omega)]
  · rw [if_neg hj, if_neg (by omega)]
/-! worlds by number -/
abbrev vwCl : List vw_C := [(RX0, TX0, 15), (RX1, TX1, 8), (RX2, TX2, 5), (RX3, TX3, 11), (RX4, TX4, 3), (RX5, TX5, 2), (RX6, TX6, 9)]
def zl (ad : Nat → Nat) (N : Nat) (σ : Nat → va_E) : va_W := (List.range N).map (fun k => (ad k, σ k))
theorem zl_at {ad : Nat → Nat} {N k : Nat} {σ : Nat → va_E} (h : k < N) : (zl ad N σ)[k]? = some (ad k, σ k) := by
  unfold zl
  rw [List.getElem?_map, List.getElem?_range h]
  rfl
theorem zl_atE {ad : Nat → Nat} {N k : Nat} {σ : Nat → va_E} {e : va_E} (h : k < N) (he : σ k = e) : (zl ad N σ)[k]? = some (ad k, e) := by
  rw [zl_at h, he]
theorem zl_none {ad : Nat → Nat} {N k : Nat} {σ : Nat → va_E} (h : ¬ k < N) : (zl ad N σ)[k]? = none := by
  unfold zl
  rw [List.getElem?_eq_none]
  simp
  omega
theorem zl_set {ad : Nat → Nat} {N k : Nat} {σ : Nat → va_E} {e : va_E} (h : k < N) : (zl ad N σ).set k (ad k, e) = zl ad N (va_up σ k e) := by
  apply List.ext_getElem?
  intro i
  by_cases hi : i < N
  · rw [zl_at hi, List.getElem?_set]
    by_cases hk : k = i
    · subst hk
      rw [if_pos rfl, if_pos (by unfold zl; simp; exact hi)]
      simp [va_up]
    · rw [if_neg hk, zl_at hi]
      have : ¬ i = k := fun q => hk q.symm
      simp [va_up, this]
  · rw [zl_none hi, List.getElem?_eq_none]
    unfold zl
    simp
    omega
theorem zl_D {ad : Nat → Nat} {N : Nat} {σ σ' : Nat → va_E} {A : Nat → Prop} (h : va_D A (zl ad N σ)) : va_D A (zl ad N σ') := by
  refine ⟨fun i j p q hi hj he => ?_, fun k q hk => ?_⟩
  · by_cases h1 : i < N
    · by_cases h2 : j < N
      · rw [zl_at h1] at hi
        rw [zl_at h2] at hj
        cases hi; cases hj
        exact h.1 i j _ _ (zl_at h1) (zl_at h2) he
      · rw [zl_none h2] at hj; cases hj
    · rw [zl_none h1] at hi; cases hi
  · by_cases h1 : k < N
    · rw [zl_at h1] at hk
      cases hk
      exact h.2 k (ad k, σ k) (zl_at h1)
    · rw [zl_none h1] at hk; cases hk
theorem zl_lt {D : va_G} {ad : Nat → Nat} {N k : Nat} {σ : Nat → va_E} {H : Heap} (h : va_P D vwCl (zl ad N σ) H) (hk : k < N) : ad k < H.size := (h k _ (zl_at hk)).lt
/-- what a method may change: the world's cells, and what is new -/
def zFr (ad : Nat → Nat) (N sz : Nat) : Nat → Prop := fun q => (∃ k, k < N ∧ q = ad k) ∨ sz ≤ q
abbrev zT (cI cZ cF cL cD : ClassId) : List (ClassId × FieldType) := [(cI, .int), (cZ, .boolean), (cF, .object "Stitchpath$Field")]
def zNest : List (String × Nat × MethodName × String) := [(RX6, 21, yX3_init, RX6), (RX6, 28, yX5_init, RX6), (RX6, 35, yX2_init, RX6), (RX6, 42, yX1_init, RX6), (RX0, 78, yX6_greaterDifference, RX6), (RX0, 81, yX6_placeOf, RX6), (RX0, 97, yX6_roundedUp, RX6), (RX3, 82, yX6_greaterDifference, RX6), (RX3, 90, yX6_wholeRoot, RX6), (RX0, 23, yX4_init, RX6), (RX5, 35, yX6_greaterDifference, RX6), (RX5, 39, yX6_placeOf, RX6), (RX5, 47, yX6_isWithin, RX6), (RX2, 45, yX6_greaterDifference, RX6), (RX2, 52, yX6_roundedUp, RX6), (RX2, 55, yX6_placeOf, RX6)]
def zNs (U : State) : Prop := ∀ q ∈ zNest, va_Nw (.methodLinkNest q.1 q.2.1 q.2.2.1 q.2.2.2) U
theorem zNs.warm {s U : State} (hW : s.WarmedH U.vm) (h : zNs s) : zNs U := fun q hq => va_Nw.warmM hW (h q hq)
theorem zNs.same {u U : State} (h : u.vm = U.vm) (hz : zNs u) : zNs U := fun q hq => va_Nw.same rfl h (hz q hq)
def zK (D : va_G) (T : List (ClassId × FieldType)) (s : State) : Prop := va_K D vwCl T s ∧ zNs s
theorem zK.warm {D : va_G} {T : List (ClassId × FieldType)} {s U : State} (hW : s.WarmedH U.vm) (h : zK D T s) : zK D T U := ⟨va_K.moved hW.alike h.1, h.2.warm hW⟩
def zH (D : va_G) (ad : Nat → Nat) (N : Nat) (A : Nat → Prop) (H0 : Heap) (σ : Nat → va_E) (H : Heap) (locs : List Loc) : Prop := va_P D vwCl (zl ad N σ) H ∧ va_D A (zl ad N σ) ∧ va_S A H0 H locs
def zPre (D : va_G) (ad : Nat → Nat) (N : Nat) (T : List (ClassId × FieldType)) (σ : Nat → va_E) (sz : Nat) (av : List Value) : Array Value → State → Prop := va_Pc av (fun U => U.heap.size = sz ∧ va_P D vwCl (zl ad N σ) U.heap ∧ zK D T U)
def zQi (D : va_G) (ad : Nat → Nat) (N sz : Nat) (P : Int32 → (Nat → va_E) → Prop) : Array Value → State → Outcome → State → Prop := va_Qi P (fun σ' t => va_P D vwCl (zl ad N σ') t.heap) (zFr ad N sz)
def zQf (D : va_G) (ad : Nat → Nat) (N sz : Nat) (P : UInt32 → (Nat → va_E) → Prop) : Array Value → State → Outcome → State → Prop := va_Qf P (fun σ' t => va_P D vwCl (zl ad N σ') t.heap) (zFr ad N sz)
def zQv (D : va_G) (ad : Nat → Nat) (N sz : Nat) (P : (Nat → va_E) → Prop) : Array Value → State → Outcome → State → Prop := va_Qv P (fun σ' t => va_P D vwCl (zl ad N σ') t.heap) (zFr ad N sz)
theorem zPre_blind {D : va_G} {ad : Nat → Nat} {N : Nat} {T : List (ClassId × FieldType)} {σ : Nat → va_E} {sz : Nat} {av : List Value} : FrameBlind (zPre D ad N T σ sz av) := fun a U g mk q => by
  obtain ⟨q0, q1, qP, qK⟩ := q
  exact ⟨q0, q1, qP, va_K.moved (u := U) (U := U.calling g mk a) (Vm.Alike.refl U.vm) qK.1, qK.2.same (U := U.calling g mk a) rfl⟩
