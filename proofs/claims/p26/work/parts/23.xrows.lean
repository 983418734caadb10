/-! ===== BEGIN .. of methods that hand back an object of the pool ===== -/
section
variable {p : Program} {l : Launch} {e : Env} {R : Room} {s : State} {m : MethodId} {args : Array Value} {below : List Frame} {meth : Method} {c : Code} {H : Heap} {locs : List Loc} {cells slots : Nat} {Q : State → Prop}
variable {mc ms : Nat} {free : Addr → Prop} {A0 A1 : Nat → Prop} {H0 : Heap} {a : Array Value} {pc : Nat} {ls : Array Slot} {st0 rest : List Value}
theorem vx_callq {S SX : Type} {post : Option Nat → S → Prop} {px : SX → Prop} {B : S → State → Prop} {BX : String → SX → State → Prop} {AX : Nat → Prop} (hr : vx_Run p l e R s m args below meth c H locs cells slots mc ms (F0 m pc ls st0) rest (va_Qq post B A1 a) (vx_X px BX AX) free) (hS : va_S A0 H0 H locs) (hA : ∀ q, q < H.size → A1 q → A0 q) (hf : ∀ q, free q → A0 q) (hAX : ∀ q, q < H.size → AX q → A0 q)
    (kx : ∀ (E : String) (ce : Cell) (q9 : Addr) (u : SX) (t : State) (H1 : Heap) (locs1 : List Loc), t.heap = H1 → s.vm.Alike t.vm → px u → BX E u t → H.size ≤ H1.size → (∀ q : Nat, q < H.size → ¬ AX q → H1[q]? = H[q]?) → va_S A0 H0 H1 locs1 → H1[q9]? = some ce → ce.vm = .none → s.vm.findClass E = some ce.cls → vx_W p l e R s m args below meth c H1 locs1 (cells + mc) (slots + ms) Q (F0 m pc ls rest) q9)
    (kk : ∀ (r : Option Nat) (u : S) (t : State) (H1 : Heap) (locs1 : List Loc), t.heap = H1 → s.vm.Alike t.vm → post r u → B u t → H.size ≤ H1.size → (∀ q : Nat, q < H.size → ¬ A1 q → H1[q]? = H[q]?) → va_S A0 H0 H1 locs1 → W p l e R s m args below meth c H1 locs1 (cells + mc) (slots + ms) Q (F0 m (pc + 3) ls (va_rf r :: rest))) : W p l e R s m args below meth c H locs cells slots Q (F0 m pc ls st0) := by
  intro T hT X
  rcases hr T hT X with ⟨v, st₀, t, T', L, h0, X', hL, e1, e2, ⟨⟨r, u, hv, hp, hb⟩, hF⟩, st⟩ | ⟨q, st₀, t, T', L, E, ce, h0, X', hL, e1, e2, ⟨u, hp, hb, hF⟩, hce, hcv, hcl, st⟩
  · cases hv
    obtain ⟨k1, k2, k3⟩ := vx_keep h0 e1 hS hA hf hL hF
    obtain ⟨t2, a1, b1⟩ := kk r u t T'.heap (locs ++ L) e1.symm (by rw [← e2]; exact X'.warmed.alike) hp hb k1 k2 k3 T' rfl X'
    exact ⟨t2, st t2 a1, b1⟩
  · obtain ⟨k1, k2, k3⟩ := vx_keep h0 e1 hS hAX hf hL hF
    obtain ⟨t2, a1, b1⟩ := kx E ce q u t T'.heap (locs ++ L) e1.symm (by rw [← e2]; exact X'.warmed.alike) hp hb k1 k2 k3 (by rw [e1]; exact hce) hcv hcl T' rfl X'
    exact ⟨t2, st.trans a1, b1⟩
end
/-! ===== END ===== -/
/-! ===== fields in any number ===== -/
def fB (z : Int) : Nat := 19 + 7 * z.toNat
theorem fB_ge (z : Int) : 19 ≤ fB z := by unfold fB; omega
theorem fB_le {z n : Int} {N : Nat} (hN : N = 19 + 7 * n.toNat) (h : 0 ≤ z ∧ z < n) : fB z + 7 ≤ N := by unfold fB; omega
theorem fB_lt {z n : Int} {N : Nat} (hN : N = 19 + 7 * n.toNat) (h : 0 ≤ z ∧ z < n) (c : Nat) (hc : c < 7) : fB z + c < N := by unfold fB; omega
theorem fB_ne {y z : Int} (h : 0 ≤ y) (h2 : 0 ≤ z) (hne : y ≠ z) : fB y + 7 ≤ fB z ∨ fB z + 7 ≤ fB y := by unfold fB; omega
def zfo (ad : Nat → Nat) (nF : Int) (x : Int) : Option Nat := if 0 ≤ x ∧ x < nF then some (ad (fB x)) else none
theorem zfo_some {ad : Nat → Nat} {nF x : Int} (h : 0 ≤ x ∧ x < nF) : zfo ad nF x = some (ad (fB x)) := if_pos h
theorem zfo_none {ad : Nat → Nat} {nF x : Int} (h : ¬ (0 ≤ x ∧ x < nF)) : zfo ad nF x = none := if_neg h
abbrev zFA (ad : Nat → Nat) (nF : Int) : Nat → Option Nat := fun j => zfo ad nF (j : Int)
def zFF (ad : Nat → Nat) (cI : ClassId) (nF : Int) (σ : Nat → va_E) (F_fd_colour : Int → Int) (F_fd_layer : Int → Int) (F_fd_column : Int → Int) (F_fd_cornerXs : Int → Int → Int) (F_fd_cornerYs : Int → Int → Int) (F_fd_crossings : Int → Int → Int) (F_fd_cornerCount : Int → Int) (F_fd_crossingCount : Int → Int) (F_fd_density : Int → Int) (F_fd_length : Int → Int) (F_fd_shift : Int → Int) (F_fd_pull : Int → Int) (F_fd_underlay : Int → Int) (F_fd_drawn : Int → Int) (F_pt_xs : Int → Int → Int) (F_pt_ys : Int → Int → Int) (F_pt_size : Int → Int) : Prop := ∀ z : Int, 0 ≤ z → z < nF → (σ (fB z) = oC_fd ad (fB z) (F_fd_colour z) (F_fd_layer z) (F_fd_column z) (F_fd_cornerCount z) (F_fd_crossingCount z) (F_fd_density z) (F_fd_length z) (F_fd_shift z) (F_fd_pull z) (F_fd_underlay z) (F_fd_drawn z)) ∧ (σ (fB z + 1) = .inl (cI, 8, .inl (zA (F_fd_cornerXs z)))) ∧ (σ (fB z + 2) = .inl (cI, 8, .inl (zA (F_fd_cornerYs z)))) ∧ (σ (fB z + 3) = .inl (cI, 8, .inl (zA (F_fd_crossings z)))) ∧ (σ (fB z + 4) = oC_pt ad (fB z) (F_pt_size z)) ∧ (σ (fB z + 5) = .inl (cI, 2078, .inl (zA (F_pt_xs z)))) ∧ (σ (fB z + 6) = .inl (cI, 2078, .inl (zA (F_pt_ys z))))
theorem zFF_keep {ad : Nat → Nat} {cI : ClassId} {nF : Int} {σ σ' : Nat → va_E} {F_fd_colour : Int → Int} {F_fd_layer : Int → Int} {F_fd_column : Int → Int} {F_fd_cornerXs : Int → Int → Int} {F_fd_cornerYs : Int → Int → Int} {F_fd_crossings : Int → Int → Int} {F_fd_cornerCount : Int → Int} {F_fd_crossingCount : Int → Int} {F_fd_density : Int → Int} {F_fd_length : Int → Int} {F_fd_shift : Int → Int} {F_fd_pull : Int → Int} {F_fd_underlay : Int → Int} {F_fd_drawn : Int → Int} {F_pt_xs : Int → Int → Int} {F_pt_ys : Int → Int → Int} {F_pt_size : Int → Int} (h : ∀ i, 19 ≤ i → σ' i = σ i) (hF : zFF ad cI nF σ F_fd_colour F_fd_layer F_fd_column F_fd_cornerXs F_fd_cornerYs F_fd_crossings F_fd_cornerCount F_fd_crossingCount F_fd_density F_fd_length F_fd_shift F_fd_pull F_fd_underlay F_fd_drawn F_pt_xs F_pt_ys F_pt_size) : zFF ad cI nF σ' F_fd_colour F_fd_layer F_fd_column F_fd_cornerXs F_fd_cornerYs F_fd_crossings F_fd_cornerCount F_fd_crossingCount F_fd_density F_fd_length F_fd_shift F_fd_pull F_fd_underlay F_fd_drawn F_pt_xs F_pt_ys F_pt_size := by
  intro z h0 h1
  obtain ⟨a0, a1, a2, a3, a4, a5, a6⟩ := hF z h0 h1
  have g := fB_ge z
  exact ⟨(h _ g).trans a0, (h _ (by omega)).trans a1, (h _ (by omega)).trans a2, (h _ (by omega)).trans a3, (h _ (by omega)).trans a4, (h _ (by omega)).trans a5, (h _ (by omega)).trans a6⟩
theorem zFF_upd {ad : Nat → Nat} {cI : ClassId} {nF x : Int} {σ σ' : Nat → va_E} {F_fd_colour : Int → Int} {F_fd_layer : Int → Int} {F_fd_column : Int → Int} {F_fd_cornerXs : Int → Int → Int} {F_fd_cornerYs : Int → Int → Int} {F_fd_crossings : Int → Int → Int} {F_fd_cornerCount : Int → Int} {F_fd_crossingCount : Int → Int} {F_fd_density : Int → Int} {F_fd_length : Int → Int} {F_fd_shift : Int → Int} {F_fd_pull : Int → Int} {F_fd_underlay : Int → Int} {F_fd_drawn : Int → Int} {F_pt_xs : Int → Int → Int} {F_pt_ys : Int → Int → Int} {F_pt_size : Int → Int} {F_fd_colour' : Int → Int} {F_fd_layer' : Int → Int} {F_fd_column' : Int → Int} {F_fd_cornerXs' : Int → Int → Int} {F_fd_cornerYs' : Int → Int → Int} {F_fd_crossings' : Int → Int → Int} {F_fd_cornerCount' : Int → Int} {F_fd_crossingCount' : Int → Int} {F_fd_density' : Int → Int} {F_fd_length' : Int → Int} {F_fd_shift' : Int → Int} {F_fd_pull' : Int → Int} {F_fd_underlay' : Int → Int} {F_fd_drawn' : Int → Int} {F_pt_xs' : Int → Int → Int} {F_pt_ys' : Int → Int → Int} {F_pt_size' : Int → Int} (hx : 0 ≤ x) (hn : ∀ i, 19 ≤ i → (i < fB x ∨ fB x + 7 ≤ i) → σ' i = σ i) (hF : zFF ad cI nF σ F_fd_colour F_fd_layer F_fd_column F_fd_cornerXs F_fd_cornerYs F_fd_crossings F_fd_cornerCount F_fd_crossingCount F_fd_density F_fd_length F_fd_shift F_fd_pull F_fd_underlay F_fd_drawn F_pt_xs F_pt_ys F_pt_size) (e0 : ∀ z, z ≠ x → F_fd_colour' z = F_fd_colour z) (e1 : ∀ z, z ≠ x → F_fd_layer' z = F_fd_layer z) (e2 : ∀ z, z ≠ x → F_fd_column' z = F_fd_column z) (e3 : ∀ z, z ≠ x → F_fd_cornerXs' z = F_fd_cornerXs z) (e4 : ∀ z, z ≠ x → F_fd_cornerYs' z = F_fd_cornerYs z) (e5 : ∀ z, z ≠ x → F_fd_crossings' z = F_fd_crossings z) (e6 : ∀ z, z ≠ x → F_fd_cornerCount' z = F_fd_cornerCount z) (e7 : ∀ z, z ≠ x → F_fd_crossingCount' z = F_fd_crossingCount z) (e8 : ∀ z, z ≠ x → F_fd_density' z = F_fd_density z) (e9 : ∀ z, z ≠ x → F_fd_length' z = F_fd_length z) (e10 : ∀ z, z ≠ x → F_fd_shift' z = F_fd_shift z) (e11 : ∀ z, z ≠ x → F_fd_pull' z = F_fd_pull z) (e12 : ∀ z, z ≠ x → F_fd_underlay' z = F_fd_underlay z) (e13 : ∀ z, z ≠ x → F_fd_drawn' z = F_fd_drawn z) (e14 : ∀ z, z ≠ x → F_pt_xs' z = F_pt_xs z) (e15 : ∀ z, z ≠ x → F_pt_ys' z = F_pt_ys z) (e16 : ∀ z, z ≠ x → F_pt_size' z = F_pt_size z) (b0 : σ' (fB x) = oC_fd ad (fB x) (F_fd_colour' x) (F_fd_layer' x) (F_fd_column' x) (F_fd_cornerCount' x) (F_fd_crossingCount' x) (F_fd_density' x) (F_fd_length' x) (F_fd_shift' x) (F_fd_pull' x) (F_fd_underlay' x) (F_fd_drawn' x)) (b1 : σ' (fB x + 1) = .inl (cI, 8, .inl (zA (F_fd_cornerXs' x)))) (b2 : σ' (fB x + 2) = .inl (cI, 8, .inl (zA (F_fd_cornerYs' x)))) (b3 : σ' (fB x + 3) = .inl (cI, 8, .inl (zA (F_fd_crossings' x)))) (b4 : σ' (fB x + 4) = oC_pt ad (fB x) (F_pt_size' x)) (b5 : σ' (fB x + 5) = .inl (cI, 2078, .inl (zA (F_pt_xs' x)))) (b6 : σ' (fB x + 6) = .inl (cI, 2078, .inl (zA (F_pt_ys' x)))) : zFF ad cI nF σ' F_fd_colour' F_fd_layer' F_fd_column' F_fd_cornerXs' F_fd_cornerYs' F_fd_crossings' F_fd_cornerCount' F_fd_crossingCount' F_fd_density' F_fd_length' F_fd_shift' F_fd_pull' F_fd_underlay' F_fd_drawn' F_pt_xs' F_pt_ys' F_pt_size' := by
  intro z h0 h1
  by_cases hz : z = x
  · subst hz
    exact ⟨b0, b1, b2, b3, b4, b5, b6⟩
  · obtain ⟨a0, a1, a2, a3, a4, a5, a6⟩ := hF z h0 h1
    have g := fB_ge z
    have g2 := fB_ne h0 hx hz
    rw [e0 z hz, e1 z hz, e2 z hz, e3 z hz, e4 z hz, e5 z hz, e6 z hz, e7 z hz, e8 z hz, e9 z hz, e10 z hz, e11 z hz, e12 z hz, e13 z hz, e14 z hz, e15 z hz, e16 z hz]
    exact ⟨(hn _ (by omega) (by omega)).trans a0, (hn _ (by omega) (by omega)).trans a1, (hn _ (by omega) (by omega)).trans a2, (hn _ (by omega) (by omega)).trans a3, (hn _ (by omega) (by omega)).trans a4, (hn _ (by omega) (by omega)).trans a5, (hn _ (by omega) (by omega)).trans a6⟩
section ZN
variable {p : Program} {l : Launch} {e : Env} {R : Room} {s : State} {m : MethodId} {args : Array Value} {below : List Frame} {meth : Method} {c : Code} {H : Heap} {locs : List Loc} {cells slots : Nat} {Q : State → Prop}
variable {cc : ByteArray} {pc : Nat} {ls : Array Slot} {rest : List Value} {D : va_G} {T : List (ClassId × FieldType)} {cA : ClassId} {ad : Nat → Nat} {N k : Nat} {σ : Nat → va_E} {A : Nat → Prop} {H0 : Heap} {nF : Int}
theorem lz_aload_nq (hx : p.tables.exec = Jvm.exec) (hb : c.code = cc) {k : Fin 4} {i : Nat} {r : Option Nat} (hdg : decode cc pc = .ok (.aload_n k, 1)) (hi : (k : Nat) = i) (hl : ls[i]? = some (.val (va_rf r))) (kk : W p l e R s m args below meth c H locs cells slots Q (F0 m (pc + 1) ls (va_rf r :: rest))) : W p l e R s m args below meth c H locs cells slots Q (F0 m pc ls rest) := by
  cases r with
  | none => exact lv_aload_nN hx hb hdg hi hl kk
  | some a => exact lv_aload_n hx hb hdg hi hl kk
theorem lz_astore_nq (hx : p.tables.exec = Jvm.exec) (hb : c.code = cc) {k : Fin 4} {i nL : Nat} {r : Option Nat} {lv lv' : List (Nat × Value)} (hdg : decode cc pc = .ok (.astore_n k, 1)) (hi : (k : Nat) = i) (h : lv_has ls nL lv) (hn : i < nL) (hl : (i, va_rf r) :: lv.filter (fun q => !(q.1 == i) && !(q.1 + 1 == i && q.2.category == 2)) = lv') (kk : ∀ ls1 : Array Slot, lv_has ls1 nL lv' → W p l e R s m args below meth c H locs cells slots Q (F0 m (pc + 1) ls1 rest)) : W p l e R s m args below meth c H locs cells slots Q (F0 m pc ls (va_rf r :: rest)) := by
  cases r with
  | none => exact lv_astore_nN hx hb hdg hi h hn hl kk
  | some a => exact lv_astore_n hx hb hdg hi h hn hl kk
theorem lz_aloadq (hx : p.tables.exec = Jvm.exec) (hb : c.code = cc) {i : Nat} {r : Option Nat} (hdg : decode cc pc = .ok (.aload i, 2)) (hl : ls[i]? = some (.val (va_rf r))) (kk : W p l e R s m args below meth c H locs cells slots Q (F0 m (pc + 2) ls (va_rf r :: rest))) : W p l e R s m args below meth c H locs cells slots Q (F0 m pc ls rest) := by
  cases r with
  | none => exact lv_aloadN hx hb hdg hl kk
  | some a => exact lv_aload hx hb hdg hl kk
theorem lz_astoreq (hx : p.tables.exec = Jvm.exec) (hb : c.code = cc) {i nL : Nat} {r : Option Nat} {lv lv' : List (Nat × Value)} (hdg : decode cc pc = .ok (.astore i, 2)) (h : lv_has ls nL lv) (hn : i < nL) (hl : (i, va_rf r) :: lv.filter (fun q => !(q.1 == i) && !(q.1 + 1 == i && q.2.category == 2)) = lv') (kk : ∀ ls1 : Array Slot, lv_has ls1 nL lv' → W p l e R s m args below meth c H locs cells slots Q (F0 m (pc + 2) ls1 rest)) : W p l e R s m args below meth c H locs cells slots Q (F0 m pc ls (va_rf r :: rest)) := by
  cases r with
  | none => exact lv_astoreN hx hb hdg h hn hl kk
  | some a => exact lv_astore hx hb hdg h hn hl kk
theorem lz_null (hx : p.tables.exec = Jvm.exec) (hb : c.code = cc) (hdg : decode cc pc = .ok (.aconst_null, 1)) (kk : W p l e R s m args below meth c H locs cells slots Q (F0 m (pc + 1) ls (va_rf (zfo ad nF (-1)) :: rest))) : W p l e R s m args below meth c H locs cells slots Q (F0 m pc ls rest) := lv_null hx hb hdg (by rw [zfo_none (by omega)] at kk; exact kk)
theorem lz_deref {x : Int} (h : 0 ≤ x ∧ x < nF) (kk : W p l e R s m args below meth c H locs cells slots Q (F0 m pc ls (.ref (ad (fB x)) :: rest))) : W p l e R s m args below meth c H locs cells slots Q (F0 m pc ls (va_rf (zfo ad nF x) :: rest)) := by rw [zfo_some h]; exact kk
theorem lz_ifnull (hx : p.tables.exec = Jvm.exec) (hb : c.code = cc) {x : Int} {off : Int} {tgt : Nat} (hdg : decode cc pc = .ok (.ifnull off, 3)) (ht : (pc : Int) + off = (tgt : Int)) (kt : ¬ (0 ≤ x ∧ x < nF) → W p l e R s m args below meth c H locs cells slots Q (F0 m tgt ls rest)) (kf : (0 ≤ x ∧ x < nF) → W p l e R s m args below meth c H locs cells slots Q (F0 m (pc + 3) ls rest)) : W p l e R s m args below meth c H locs cells slots Q (F0 m pc ls (va_rf (zfo ad nF x) :: rest)) := by
  by_cases h : 0 ≤ x ∧ x < nF
  · rw [zfo_some h]; exact lv_ifnull hx hb hdg (kf h)
  · rw [zfo_none h]; exact lv_ifnullN hx hb hdg ht (kt h)
theorem lz_ifnonnull (hx : p.tables.exec = Jvm.exec) (hb : c.code = cc) {x : Int} {off : Int} {tgt : Nat} (hdg : decode cc pc = .ok (.ifnonnull off, 3)) (ht : (pc : Int) + off = (tgt : Int)) (kt : (0 ≤ x ∧ x < nF) → W p l e R s m args below meth c H locs cells slots Q (F0 m tgt ls rest)) (kf : ¬ (0 ≤ x ∧ x < nF) → W p l e R s m args below meth c H locs cells slots Q (F0 m (pc + 3) ls rest)) : W p l e R s m args below meth c H locs cells slots Q (F0 m pc ls (va_rf (zfo ad nF x) :: rest)) := by
  by_cases h : 0 ≤ x ∧ x < nF
  · rw [zfo_some h]; exact lv_ifnonnull hx hb hdg ht (kt h)
  · rw [zfo_none h]; exact lv_ifnonnullN hx hb hdg (kf h)
theorem zaald (hx : p.tables.exec = Jvm.exec) (hb : c.code = cc) (hK : zK D T s) (hH : zH D ad N A H0 σ H locs) (hk : k < N) (t0 : Nat) {n : Nat} (hσ : σ k = .inl (cA, n, .inr (.inr (.inr (.inr (zFA ad nF)))))) (ht : T[t0]? = some (cA, .object "Stitchpath$Field")) {i : Int} (hi : 0 ≤ i ∧ i < (n : Int)) (hn : Nat.blt n 2147483648 = true) (hdg : decode cc pc = .ok (.aaload, 1)) (kk : W p l e R s m args below meth c H locs cells slots Q (F0 m (pc + 1) ls (va_rf (zfo ad nF i) :: rest))) : W p l e R s m args below meth c H locs cells slots Q (F0 m pc ls (.int (zI i) :: .ref (ad k) :: rest)) := by
  have hn1 : n < 2147483648 := Nat.le_of_ble_eq_true hn
  refine va_aldq (D := D) hx hb hK.1 hH.1 k t0 (zl_atE hk hσ) ht (zI_in hi hn1) hdg ?_
  rw [zI_cl hi hn1, show zFA ad nF i.toNat = zfo ad nF i from by show zfo ad nF ((i.toNat : Nat) : Int) = _; rw [Int.toNat_of_nonneg hi.1]]
  exact kk
end ZN
theorem zcat (r : Option Nat) : ((va_rf r).category == 2) = false := by cases r <;> rfl
def zQq (D : va_G) (ad : Nat → Nat) (N sz : Nat) (P : Option Nat → (Nat → va_E) → Prop) : Array Value → State → Outcome → State → Prop := va_Qq P (fun σ' t => va_P D vwCl (zl ad N σ') t.heap) (zFr ad N sz)
/-! ===== throws ===== -/
def zEx (E : String) (t : Int) : Prop := (E = "java/lang/IllegalArgumentException" ∧ t = 1) ∨ (E = "java/lang/IllegalStateException" ∧ t = 2) ∨ (E = "java/lang/IndexOutOfBoundsException" ∧ t = 3)
theorem zEx_ne {E : String} {t : Int} (h : zEx E t) : ¬ t = 0 := by
  rcases h with ⟨-, h⟩ | ⟨-, h⟩ | ⟨-, h⟩ <;> omega
def zStr : List (Nat × String) := [(57, "a colour is 0 to 5"), (62, "a layer is 0 to 3"), (69, "there are 8 fields"), (83, "a place is 0 to 31"), (89, "the field has all its corners"), (98, "a density is 1 to 8"), (100, "a length is 1 to 12"), (102, "a shift is 0 to 11"), (104, "a pull is 0 to 3"), (110, "hundredths are 1 to 400"), (116, "a corner would not be 0 to 31"), (122, "a bound is 0 to 100"), (132, "there is no such command"), (135, "there are 0 to 3 to tell"), (141, "a kind is STITCH to END"), (172, "a format is SHORT or LONG"), (182, "there is no such byte"), (187, "a byte is 0 to 255"), (189, "the file is not so long"), (200, "heads are 1 to 4"), (202, "late is 0 to 20"), (208, "commands are 1 to 1000"), (213, "there is no machine"), (220, "there is no such head"), (225, "the thread is broken"), (233, "no break was seen"), (241, "there is no such field")]
def zBad : List Cond := ((vx_atS RX6 59 "java/lang/IllegalArgumentException" ["java/lang/RuntimeException", "java/lang/Exception"]) ++ (vx_atS RX6 71 "java/lang/IllegalStateException" ["java/lang/RuntimeException", "java/lang/Exception"]) ++ (vx_atS RX6 134 "java/lang/IndexOutOfBoundsException" ["java/lang/RuntimeException", "java/lang/Exception"])).filter (fun w => !goodWord w)
theorem zBad_ok : zBad.all (fun w => w.onTables && w.warmB w.codeNames) = true := by decide +kernel
theorem zBad_w {w : Cond} (h : w ∈ zBad) : w.onTables = true ∧ w.warmB w.codeNames = true := by
  have := List.all_eq_true.mp zBad_ok w h
  simpa [Bool.and_eq_true] using this
def zXs (A : Nat → Prop) (s : State) (H : Heap) : Prop := vx_Zq Bundle.tN "UNASSIGNED_STACK" Bundle.steD A s H ∧ vx_Zq Bundle.tN "SUPPRESSED_SENTINEL" Bundle.listD A s H ∧ (∀ q ∈ zStr, ∃ sa, vk_R RX6 q.1 q.2 sa s) ∧ ∀ w ∈ zBad, va_Nw w s
theorem zXs.warm {A : Nat → Prop} {s U : State} {H : Heap} (hW : s.WarmedH U.vm) (h : zXs A s H) : zXs A U H := ⟨vx_Zq.moved hW.alike h.1, vx_Zq.moved hW.alike h.2.1, fun q hq => (h.2.2.1 q hq).imp (fun _ z => vk_R.warm hW z), fun w hw => va_tabs (zBad_w hw).1 (rfl : (s.setVm U.vm).vm = U.vm) (Cond.pre_warmed hW (zBad_w hw).2 (h.2.2.2 w hw))⟩
theorem zXs.kept {A : Nat → Prop} {s : State} {H H1 : Heap} (h : zXs A s H) (hq : ∀ a : Nat, a < H.size → ¬ A a → H1[a]? = H[a]?) : zXs A s H1 := ⟨h.1.kept hq, h.2.1.kept hq, h.2.2⟩
theorem zXs.narrow {A B : Nat → Prop} {s : State} {H : Heap} (h : zXs A s H) (hAB : ∀ q, B q → A q) : zXs B s H := ⟨h.1.narrow hAB, h.2.1.narrow hAB, h.2.2⟩
def zPreX (D : va_G) (ad : Nat → Nat) (N : Nat) (T : List (ClassId × FieldType)) (σ : Nat → va_E) (sz : Nat) (av : List Value) : Array Value → State → Prop := va_Pc av (fun U => U.heap.size = sz ∧ va_P D vwCl (zl ad N σ) U.heap ∧ zK D T U ∧ zXs (zFr ad N sz) U U.heap)
theorem zPreX_blind {D : va_G} {ad : Nat → Nat} {N : Nat} {T : List (ClassId × FieldType)} {σ : Nat → va_E} {sz : Nat} {av : List Value} : FrameBlind (zPreX D ad N T σ sz av) := fun a U g mk q => by
  obtain ⟨q0, q1, qP, qK, qX⟩ := q
  have hW : U.vm.Alike (U.calling g mk a).vm := Vm.Alike.refl U.vm
  exact ⟨q0, q1, qP, ⟨va_K.moved (u := U) (U := U.calling g mk a) hW qK.1, qK.2.same (U := U.calling g mk a) rfl⟩, vx_Zq.moved (u := U) (U := U.calling g mk a) hW qX.1, vx_Zq.moved (u := U) (U := U.calling g mk a) hW qX.2.1, fun q hq => (qX.2.2.1 q hq).imp (fun _ z => vk_R.same (u := U) (U := U.calling g mk a) rfl z), fun w hw => va_Nw.same (u := U) (U := U.calling g mk a) (zBad_w hw).1 rfl (qX.2.2.2 w hw)⟩
def zXC (D : va_G) (ad : Nat → Nat) (N sz : Nat) (t : Int) (P : (Nat → va_E) → Prop) : String → State → State → Prop := vx_X P (fun E σ' u => zEx E t ∧ va_P D vwCl (zl ad N σ') u.heap) (zFr ad N sz)
/-- a method's entry, that may throw -/
theorem zMetX {l : Launch} {D : va_G} {ad : Nat → Nat} {N : Nat} {T : List (ClassId × FieldType)} {σ : Nat → va_E} {sz : Nat} {av : List Value} {y : MethodName} {cc : ByteArray} {maxL : Nat} {ret : Option FieldType} {rm : Room} {Qc : Array Value → State → Outcome → State → Prop} {XC : String → State → State → Prop} {mc ms : Nat}
    (hI : ∀ i j, i < N → j < N → ad i = ad j → i = j) (hy : plainName y.cls = true) (hlen : (lg_sl av).length ≤ maxL)
    (body : ∀ (p : Program) (e : Env) (s : State) (m : MethodId) (args : Array Value) (below : List Frame) (meth : Method) (c : Code) (Q : State → Prop), p.tables.exec = Jvm.exec → c.code = cc → meth.sig.returnType = ret → meth.locks = false → c.maxLocals = maxL → s.vm.findClass y.cls = some m.cls → (∀ w ∈ wsL_law, w.before args s = true) → (∀ x ∈ c.exceptionTable.toList, False) → zK D T s → zXs (zFr ad N s.heap.size) s s.heap → s.heap.size = sz → Q = vx_MQ below Qc XC args s mc ms (zFr ad N sz) → zH D ad N (zFr ad N s.heap.size) s.heap σ s.heap [] → (∀ q, s.heap.size ≤ q → zFr ad N s.heap.size q) → ∀ ls : Array Slot, lv_has ls maxL (lv_args 0 av) →
      W p l e rm s m args below meth c s.heap [] 0 0 Q (F0 m 0 ls [])) :
    vx_Met l y (Cond.code y cc maxL ret :: wsL_law) rm (zPreX D ad N T σ sz av) Qc XC mc ms (zFr ad N sz) := by
  refine vx_ofW (cc := cc) (maxL := maxL) (ret := ret) (ws' := wsL_law) hy rfl ?_
  intro p e s m args below meth c s₁ B hml hnh hv
  obtain ⟨rfl, hsz, hP, hK, hX⟩ := hv
  have hts := atoms_spec (ws := Cond.code y cc maxL ret :: wsL_law) B.pre
  have hown : s.vm.findClass y.cls = some m.cls := findClass_of_methodNamed B.named
  have hl := lv_entry av (n := maxL) hlen
  rw [lg_entry_eq]
  refine body p e s m _ below meth c _ B.exec B.bytes B.returns B.notSynchronized hml hown (fun w hw => hts w (List.mem_cons_of_mem _ hw)) hnh hK (hsz ▸ hX) hsz rfl ⟨hP, ⟨fun i j p q hi hj he => ?_, fun k q hk => ?_⟩, va_S.rf⟩ (fun q h => Or.inr h) _ hl
  · by_cases h1 : i < N
    · by_cases h2 : j < N
      · rw [zl_at h1] at hi
        rw [zl_at h2] at hj
        cases hi; cases hj
        exact hI i j h1 h2 he
      · rw [zl_none h2] at hj; cases hj
    · rw [zl_none h1] at hi; cases hi
  · by_cases h1 : k < N
    · rw [zl_at h1] at hk
      cases hk
      exact Or.inl ⟨k, h1, rfl⟩
    · rw [zl_none h1] at hk; cases hk
section ZX
variable {p : Program} {l : Launch} {e : Env} {R : Room} {s : State} {m : MethodId} {args : Array Value} {below : List Frame} {meth : Method} {c : Code} {H : Heap} {locs : List Loc} {cells slots : Nat} {Q : State → Prop}
variable {cc : ByteArray} {pc : Nat} {ls : Array Slot} {rest : List Value} {D : va_G} {T : List (ClassId × FieldType)} {cA : ClassId} {ad : Nat → Nat} {N k : Nat} {σ : Nat → va_E} {A : Nat → Prop} {H0 : Heap} {XC : String → State → State → Prop} {mc ms : Nat}
theorem zxreti (hx : p.tables.exec = Jvm.exec) (hb : c.code = cc) (hr : meth.sig.returnType = some .int) (hlocks : meth.locks = false) {v : Int32} {P : Int32 → (Nat → va_E) → Prop} (hQ : Q = vx_MQ below (zQi D ad N s.heap.size P) XC args s mc ms (zFr ad N s.heap.size)) (hH : zH D ad N (zFr ad N s.heap.size) s.heap σ H locs) (hp : P v σ) (hc : cells ≤ mc ∧ slots ≤ ms) (hdg : decode cc pc = .ok (.ireturn, 1)) : W p l e R s m args below meth c H locs cells slots Q (F0 m pc ls [.int v]) := by
  subst hQ
  exact W.widen hc.1 hc.2 (vx_ret (zreti hx hb hr hlocks rfl hH hp hdg))
theorem zxretz (hx : p.tables.exec = Jvm.exec) (hb : c.code = cc) (hr : meth.sig.returnType = some .boolean) (hlocks : meth.locks = false) {v : Int32} {P : Int32 → (Nat → va_E) → Prop} (hQ : Q = vx_MQ below (zQi D ad N s.heap.size P) XC args s mc ms (zFr ad N s.heap.size)) (hH : zH D ad N (zFr ad N s.heap.size) s.heap σ H locs) (hp : P v σ) (hc : cells ≤ mc ∧ slots ≤ ms) (hbool : narrow .boolean (.int v) = .int v) (hdg : decode cc pc = .ok (.ireturn, 1)) : W p l e R s m args below meth c H locs cells slots Q (F0 m pc ls [.int v]) := by
  subst hQ
  exact W.widen hc.1 hc.2 (vx_ret (zretz hx hb hr hlocks rfl hH hp hbool hdg))
theorem zxretf (hx : p.tables.exec = Jvm.exec) (hb : c.code = cc) (hr : meth.sig.returnType = some .float) (hlocks : meth.locks = false) {v : UInt32} {P : UInt32 → (Nat → va_E) → Prop} (hQ : Q = vx_MQ below (zQf D ad N s.heap.size P) XC args s mc ms (zFr ad N s.heap.size)) (hH : zH D ad N (zFr ad N s.heap.size) s.heap σ H locs) (hp : P v σ) (hc : cells ≤ mc ∧ slots ≤ ms) (hdg : decode cc pc = .ok (.freturn, 1)) : W p l e R s m args below meth c H locs cells slots Q (F0 m pc ls [.float v]) := by
  subst hQ
  exact W.widen hc.1 hc.2 (vx_ret (zretf hx hb hr hlocks rfl hH hp hdg))
theorem zxretv (hx : p.tables.exec = Jvm.exec) (hb : c.code = cc) (hr : meth.sig.returnType = none) (hlocks : meth.locks = false)  {P : (Nat → va_E) → Prop} (hQ : Q = vx_MQ below (zQv D ad N s.heap.size P) XC args s mc ms (zFr ad N s.heap.size)) (hH : zH D ad N (zFr ad N s.heap.size) s.heap σ H locs) (hp : P σ) (hc : cells ≤ mc ∧ slots ≤ ms) (hdg : decode cc pc = .ok (.return_, 1)) : W p l e R s m args below meth c H locs cells slots Q (F0 m pc ls []) := by
  subst hQ
  exact W.widen hc.1 hc.2 (vx_ret (zretv hx hb hr hlocks rfl hH hp hdg))
theorem zretq (hx : p.tables.exec = Jvm.exec) (hb : c.code = cc) {rt : FieldType} (hr : meth.sig.returnType = some rt) (hrt : (∃ n, rt = .object n) ∨ ∃ t, rt = .array t) (hlocks : meth.locks = false) {a : Nat} {P : Option Nat → (Nat → va_E) → Prop} (hQ : Q = MQ below (zQq D ad N s.heap.size P) args s cells slots (zFr ad N s.heap.size)) (hH : zH D ad N (zFr ad N s.heap.size) s.heap σ H locs) (hp : P (some a) σ) (hdg : decode cc pc = .ok (.areturn, 1)) : W p l e R s m args below meth c H locs cells slots Q (F0 m pc ls [.ref a]) := by
  subst hQ
  exact W.aret (v := .ref a) hx hb hr hrt (Or.inr ⟨a, rfl⟩) (fun t ht hW => ⟨⟨some a, σ, rfl, hp, by show va_P D vwCl (zl ad N σ) t.heap; rw [ht]; exact hH.1⟩, hH.2.2.F ht⟩) hH.2.2.2.2 hdg hlocks
theorem zxretq (hx : p.tables.exec = Jvm.exec) (hb : c.code = cc) {rt : FieldType} (hr : meth.sig.returnType = some rt) (hrt : (∃ n, rt = .object n) ∨ ∃ t, rt = .array t) (hlocks : meth.locks = false) {a : Nat} {P : Option Nat → (Nat → va_E) → Prop} (hQ : Q = vx_MQ below (zQq D ad N s.heap.size P) XC args s mc ms (zFr ad N s.heap.size)) (hH : zH D ad N (zFr ad N s.heap.size) s.heap σ H locs) (hp : P (some a) σ) (hc : cells ≤ mc ∧ slots ≤ ms) (hdg : decode cc pc = .ok (.areturn, 1)) : W p l e R s m args below meth c H locs cells slots Q (F0 m pc ls [.ref a]) := by
  subst hQ
  exact W.widen hc.1 hc.2 (vx_ret (zretq hx hb hr hrt hlocks rfl hH hp hdg))
/-- what was thrown further in goes on to the caller -/
theorem zxout {Qc : Array Value → State → Outcome → State → Prop} {t : Int} {P : (Nat → va_E) → Prop} {E : String} {ce : Cell} {q : Addr} (hQ : Q = vx_MQ below Qc (zXC D ad N s.heap.size t P) args s mc ms (zFr ad N s.heap.size)) (hnh : ∀ x ∈ c.exceptionTable.toList, False) (hlocks : meth.locks = false) (hH : zH D ad N (zFr ad N s.heap.size) s.heap σ H locs) (hp : P σ) (hE : zEx E t) (hc : cells ≤ mc ∧ slots ≤ ms) (hce : H[q]? = some ce) (hcv : ce.vm = .none) (hcl : s.vm.findClass E = some ce.cls) : vx_W p l e R s m args below meth c H locs cells slots Q (F0 m pc ls rest) q := by
  subst hQ
  exact vx_out (fun x hx => (hnh x hx).elim) hlocks hce hcv hcl (fun t ht hA => ⟨σ, hp, ⟨hE, by rw [ht]; exact hH.1⟩, hH.2.2.F ht⟩) hH.2.2.2.2 hc.1 hc.2
theorem zhat {cls : String} {ic : Nat} (h1 : ∀ w ∈ (vx_atS RX6 ic cls ["java/lang/RuntimeException", "java/lang/Exception"]).filter goodWord, w ∈ lw_tbl) (h2 : ∀ w ∈ vx_atS RX6 ic cls ["java/lang/RuntimeException", "java/lang/Exception"], goodWord w = false → w ∈ zBad) (hts : ∀ w ∈ wsL_law, w.before args s = true) (hc : ∀ w ∈ zBad, va_Nw w s) : ∀ w ∈ vx_atS RX6 ic cls ["java/lang/RuntimeException", "java/lang/Exception"], w.before args s = true := fun w hw => by
  cases hg : goodWord w with
  | true => exact hts w (List.mem_filter.mpr ⟨h1 w (List.mem_filter.mpr ⟨hw, hg⟩), hg⟩)
  | false => exact va_Nw.use (zBad_w (h2 w hw hg)).1 (hc w (h2 w hw hg))
theorem zh1_a : ∀ w ∈ (vx_atS RX6 59 "java/lang/IllegalArgumentException" ["java/lang/RuntimeException", "java/lang/Exception"]).filter goodWord, w ∈ lw_tbl := by decide +kernel
theorem zh2_a : ∀ w ∈ vx_atS RX6 59 "java/lang/IllegalArgumentException" ["java/lang/RuntimeException", "java/lang/Exception"], goodWord w = false → w ∈ zBad := fun w hw hg => List.mem_filter.mpr ⟨List.mem_append_left _ (List.mem_append_left _ hw), by rw [hg]; rfl⟩
theorem zh3_a : ∀ w ∈ Cond.classLink RX6 55 "java/lang/IllegalArgumentException" :: Cond.initialized "java/lang/IllegalArgumentException" :: vx_atS RX6 59 "java/lang/IllegalArgumentException" ["java/lang/RuntimeException", "java/lang/Exception"], vx_ot w = true := by decide +kernel
theorem zthr_a (hx : p.tables.exec = Jvm.exec) (hb : c.code = cc) (hst : l.stackTraces = false) {is : Nat} {text : String} {Qc : Array Value → State → Outcome → State → Prop} {P : (Nat → va_E) → Prop} (hQ : Q = vx_MQ below Qc (zXC D ad N s.heap.size 1 P) args s mc ms (zFr ad N s.heap.size)) (hnh : ∀ x ∈ c.exceptionTable.toList, False) (hlocks : meth.locks = false) (hown : s.vm.findClass RX6 = some m.cls) (hts : ∀ w ∈ wsL_law, w.before args s = true) (hk : Cond.classLink RX6 55 "java/lang/IllegalArgumentException" ∈ wsL_law) (hini : Cond.initialized "java/lang/IllegalArgumentException" ∈ wsL_law) (hX : zXs (zFr ad N s.heap.size) s s.heap) (hs : (is, text) ∈ zStr) (hsz : ls.size = c.maxLocals) (hH : zH D ad N (zFr ad N s.heap.size) s.heap σ H locs) (hp : P σ) (hR : 5 < R.frames ∧ (rest.map fun v => v.category).sum + 82 ≤ R.locals ∧ cells + 1 ≤ R.cells ∧ slots + 6 ≤ R.slots) (hc : cells + 1 ≤ mc ∧ slots + 6 ≤ ms)
    (d0 : decode cc pc = .ok (.new 55, 3)) (d3 : decode cc (pc + 3) = .ok (.dup, 1)) (d4 : decode cc (pc + 4) = .ok (.ldc is, 2)) (d6 : decode cc (pc + 6) = .ok (.invokespecial 59, 3)) (d9 : decode cc (pc + 9) = .ok (.athrow, 1)) : W p l e R s m args below meth c H locs cells slots Q (F0 m pc ls rest) := by
  subst hQ
  obtain ⟨sa, hstr⟩ := hX.2.2.1 _ hs
  refine vx_throwS (A := zFr ad N s.heap.size) (names := ["java/lang/RuntimeException", "java/lang/Exception"]) hx hb hst hown (by decide +kernel) (by decide +kernel) (hts _ hk) (hts _ hini) hstr (zhat zh1_a zh2_a hts hX.2.2.2) zh3_a hX.1 hX.2.1 hH.2.2 hsz d0 d3 d4 d6 d9 (fun x hx => (hnh x hx).elim) hR.1 (by have := hR.2.1; simp only [List.length_cons, List.length_nil]; omega) hR.2.2.1 hR.2.2.2 hlocks (fun t hA h1 h2 => ⟨σ, hp, ⟨Or.inl ⟨rfl, rfl⟩, hH.1.kept (fun k q hk => h2 _ ((hH.1 k q hk).lt))⟩, ?_⟩) hH.2.2.2.2 hc.1 hc.2
  exact ⟨Nat.le_trans hH.2.2.1 h1, fun q hq hnq => (h2 q (Nat.lt_of_lt_of_le hq hH.2.2.1)).trans (hH.2.2.2.1 q hq hnq)⟩
theorem zh1_s : ∀ w ∈ (vx_atS RX6 71 "java/lang/IllegalStateException" ["java/lang/RuntimeException", "java/lang/Exception"]).filter goodWord, w ∈ lw_tbl := by decide +kernel
theorem zh2_s : ∀ w ∈ vx_atS RX6 71 "java/lang/IllegalStateException" ["java/lang/RuntimeException", "java/lang/Exception"], goodWord w = false → w ∈ zBad := fun w hw hg => List.mem_filter.mpr ⟨List.mem_append_left _ (List.mem_append_right _ hw), by rw [hg]; rfl⟩
theorem zh3_s : ∀ w ∈ Cond.classLink RX6 67 "java/lang/IllegalStateException" :: Cond.initialized "java/lang/IllegalStateException" :: vx_atS RX6 71 "java/lang/IllegalStateException" ["java/lang/RuntimeException", "java/lang/Exception"], vx_ot w = true := by decide +kernel
theorem zthr_s (hx : p.tables.exec = Jvm.exec) (hb : c.code = cc) (hst : l.stackTraces = false) {is : Nat} {text : String} {Qc : Array Value → State → Outcome → State → Prop} {P : (Nat → va_E) → Prop} (hQ : Q = vx_MQ below Qc (zXC D ad N s.heap.size 2 P) args s mc ms (zFr ad N s.heap.size)) (hnh : ∀ x ∈ c.exceptionTable.toList, False) (hlocks : meth.locks = false) (hown : s.vm.findClass RX6 = some m.cls) (hts : ∀ w ∈ wsL_law, w.before args s = true) (hk : Cond.classLink RX6 67 "java/lang/IllegalStateException" ∈ wsL_law) (hini : Cond.initialized "java/lang/IllegalStateException" ∈ wsL_law) (hX : zXs (zFr ad N s.heap.size) s s.heap) (hs : (is, text) ∈ zStr) (hsz : ls.size = c.maxLocals) (hH : zH D ad N (zFr ad N s.heap.size) s.heap σ H locs) (hp : P σ) (hR : 5 < R.frames ∧ (rest.map fun v => v.category).sum + 82 ≤ R.locals ∧ cells + 1 ≤ R.cells ∧ slots + 6 ≤ R.slots) (hc : cells + 1 ≤ mc ∧ slots + 6 ≤ ms)
    (d0 : decode cc pc = .ok (.new 67, 3)) (d3 : decode cc (pc + 3) = .ok (.dup, 1)) (d4 : decode cc (pc + 4) = .ok (.ldc is, 2)) (d6 : decode cc (pc + 6) = .ok (.invokespecial 71, 3)) (d9 : decode cc (pc + 9) = .ok (.athrow, 1)) : W p l e R s m args below meth c H locs cells slots Q (F0 m pc ls rest) := by
  subst hQ
  obtain ⟨sa, hstr⟩ := hX.2.2.1 _ hs
  refine vx_throwS (A := zFr ad N s.heap.size) (names := ["java/lang/RuntimeException", "java/lang/Exception"]) hx hb hst hown (by decide +kernel) (by decide +kernel) (hts _ hk) (hts _ hini) hstr (zhat zh1_s zh2_s hts hX.2.2.2) zh3_s hX.1 hX.2.1 hH.2.2 hsz d0 d3 d4 d6 d9 (fun x hx => (hnh x hx).elim) hR.1 (by have := hR.2.1; simp only [List.length_cons, List.length_nil]; omega) hR.2.2.1 hR.2.2.2 hlocks (fun t hA h1 h2 => ⟨σ, hp, ⟨Or.inr (Or.inl ⟨rfl, rfl⟩), hH.1.kept (fun k q hk => h2 _ ((hH.1 k q hk).lt))⟩, ?_⟩) hH.2.2.2.2 hc.1 hc.2
  exact ⟨Nat.le_trans hH.2.2.1 h1, fun q hq hnq => (h2 q (Nat.lt_of_lt_of_le hq hH.2.2.1)).trans (hH.2.2.2.1 q hq hnq)⟩
theorem zh1_i : ∀ w ∈ (vx_atS RX6 134 "java/lang/IndexOutOfBoundsException" ["java/lang/RuntimeException", "java/lang/Exception"]).filter goodWord, w ∈ lw_tbl := by decide +kernel
theorem zh2_i : ∀ w ∈ vx_atS RX6 134 "java/lang/IndexOutOfBoundsException" ["java/lang/RuntimeException", "java/lang/Exception"], goodWord w = false → w ∈ zBad := fun w hw hg => List.mem_filter.mpr ⟨List.mem_append_right _ hw, by rw [hg]; rfl⟩
theorem zh3_i : ∀ w ∈ Cond.classLink RX6 130 "java/lang/IndexOutOfBoundsException" :: Cond.initialized "java/lang/IndexOutOfBoundsException" :: vx_atS RX6 134 "java/lang/IndexOutOfBoundsException" ["java/lang/RuntimeException", "java/lang/Exception"], vx_ot w = true := by decide +kernel
theorem zthr_i (hx : p.tables.exec = Jvm.exec) (hb : c.code = cc) (hst : l.stackTraces = false) {is : Nat} {text : String} {Qc : Array Value → State → Outcome → State → Prop} {P : (Nat → va_E) → Prop} (hQ : Q = vx_MQ below Qc (zXC D ad N s.heap.size 3 P) args s mc ms (zFr ad N s.heap.size)) (hnh : ∀ x ∈ c.exceptionTable.toList, False) (hlocks : meth.locks = false) (hown : s.vm.findClass RX6 = some m.cls) (hts : ∀ w ∈ wsL_law, w.before args s = true) (hk : Cond.classLink RX6 130 "java/lang/IndexOutOfBoundsException" ∈ wsL_law) (hini : Cond.initialized "java/lang/IndexOutOfBoundsException" ∈ wsL_law) (hX : zXs (zFr ad N s.heap.size) s s.heap) (hs : (is, text) ∈ zStr) (hsz : ls.size = c.maxLocals) (hH : zH D ad N (zFr ad N s.heap.size) s.heap σ H locs) (hp : P σ) (hR : 5 < R.frames ∧ (rest.map fun v => v.category).sum + 82 ≤ R.locals ∧ cells + 1 ≤ R.cells ∧ slots + 6 ≤ R.slots) (hc : cells + 1 ≤ mc ∧ slots + 6 ≤ ms)
    (d0 : decode cc pc = .ok (.new 130, 3)) (d3 : decode cc (pc + 3) = .ok (.dup, 1)) (d4 : decode cc (pc + 4) = .ok (.ldc is, 2)) (d6 : decode cc (pc + 6) = .ok (.invokespecial 134, 3)) (d9 : decode cc (pc + 9) = .ok (.athrow, 1)) : W p l e R s m args below meth c H locs cells slots Q (F0 m pc ls rest) := by
  subst hQ
  obtain ⟨sa, hstr⟩ := hX.2.2.1 _ hs
  refine vx_throwS (A := zFr ad N s.heap.size) (names := ["java/lang/RuntimeException", "java/lang/Exception"]) hx hb hst hown (by decide +kernel) (by decide +kernel) (hts _ hk) (hts _ hini) hstr (zhat zh1_i zh2_i hts hX.2.2.2) zh3_i hX.1 hX.2.1 hH.2.2 hsz d0 d3 d4 d6 d9 (fun x hx => (hnh x hx).elim) hR.1 (by have := hR.2.1; simp only [List.length_cons, List.length_nil]; omega) hR.2.2.1 hR.2.2.2 hlocks (fun t hA h1 h2 => ⟨σ, hp, ⟨Or.inr (Or.inr ⟨rfl, rfl⟩), hH.1.kept (fun k q hk => h2 _ ((hH.1 k q hk).lt))⟩, ?_⟩) hH.2.2.2.2 hc.1 hc.2
  exact ⟨Nat.le_trans hH.2.2.1 h1, fun q hq hnq => (h2 q (Nat.lt_of_lt_of_le hq hH.2.2.1)).trans (hH.2.2.2.1 q hq hnq)⟩
theorem zcVq {y : MethodName} {bytes : ByteArray} {maxL nL n index : Nat} {ret : Option FieldType} {own : String} {rm : Room} {As st0 : List Value} {C : String} {ci : Nat} {q : vw_C} {fs : List Value} {P : Option Nat → (Nat → va_E) → Prop} (hx : p.tables.exec = Jvm.exec) (hb : c.code = cc) (hml : c.maxLocals = nL) (hown : s.vm.findClass own = some m.cls) (hts : ∀ w ∈ wsL_law, w.before args s = true) (hsz : ls.size = nL) (hK : zK D T s) (hH : zH D ad N A H0 σ H locs) (hA : ∀ q, H0.size ≤ q → A q)
    (hM : Met l y (Cond.code y bytes maxL ret :: wsL_law) rm (zPre D ad N T σ H.size (.ref (ad k) :: As)) (zQq D ad N H.size P) 0 0 (zFr ad N H.size))
    (h1 : Cond.methodLink own index y ∈ wsL_law) (h2 : Cond.instanceMethod y ∈ wsL_law) (h3 : Cond.selects C y y ∈ wsL_law) (h4 : Cond.initialized C ∈ wsL_law) (h5 : Cond.code y bytes maxL ret ∈ wsL_law)
    (hd : y.cls = C ∧ y.cls ≠ "java/lang/invoke/MethodHandle" ∧ y.cls ≠ "java/lang/invoke/VarHandle" ∧ (parseMethodDescriptor y.desc).map (fun d => d.parameters.length) = some n) (hn : As.length = n) (hR : rm.cells = 0 ∧ rm.slots = 0 ∧ rm.frames + 1 ≤ R.frames ∧ 8 + (maxL + 11) + rm.locals ≤ R.locals) (hcs : cells ≤ R.cells ∧ slots ≤ R.slots)
    (hk : k < N) (hσ : σ k = .inr (ci, fs)) (hc : vwCl[ci]? = some q) (hq : q.1 = C) (hst : st0 = As.reverse ++ .ref (ad k) :: rest) (hrest : (rest.map fun v => v.category).sum ≤ 8) (hdg : decode cc pc = .ok (.invokevirtual index, 3))
    (kk : ∀ (r : Option Nat) (σ' : Nat → va_E) (H1 : Heap) (locs1 : List Loc), P r σ' → zH D ad N A H0 σ' H1 locs1 → W p l e R s m args below meth c H1 locs1 cells slots Q (F0 m (pc + 3) ls (va_rf r :: rest))) : W p l e R s m args below meth c H locs cells slots Q (F0 m pc ls st0) := by
  subst hst
  have hFc : ∀ q, zFr ad N H.size q → A q := fun q h => h.elim (fun ⟨k, hk, e⟩ => e ▸ hH.2.1.2 k _ (zl_at hk)) (fun h => hA q (Nat.le_trans hH.2.2.1 h))
  have cw : CallW R s args own C index y bytes maxL ret (Cond.code y bytes maxL ret :: wsL_law) rm 0 0 n := cwV n hts (zk_in _ (fun w hw => by
    simp only [wsV, List.cons_append, List.nil_append, List.mem_cons] at hw
    rcases hw with rfl | rfl | rfl | rfl | rfl | hw <;> assumption)) rfl hR.1 hR.2.1 hd hR.2.2
  refine va_callq (va_runV (C := C) (As := As) (rest := rest) ⟨hx, hb, hml, hown, hts⟩ hM cw ⟨zPre_blind, hq ▸ va_recv hK.1 hH.1 hc (zl_atE hk hσ), fun U hU hW => ⟨rfl, by rw [hU], by rw [hU]; exact hH.1, hK.warm hW⟩⟩ rfl hn hsz rfl (lv_room hrest) hdg hcs) hH.2.2 (fun q _ h => hFc q h) hFc (fun r u t H1 locs1 ht hvm hw hB hz1 hk1 hS => ?_)
  rw [ht] at hB
  exact kk r u H1 locs1 hw ⟨hB, zl_D hH.2.1, hS⟩
theorem zxVq {y : MethodName} {bytes : ByteArray} {maxL nL n index : Nat} {ret : Option FieldType} {own : String} {rm : Room} {As st0 : List Value} {C : String} {ci : Nat} {q : vw_C} {fs : List Value} {P : Option Nat → (Nat → va_E) → Prop} {tc : Int} {PX : (Nat → va_E) → Prop} {mc1 ms1 : Nat} (hx : p.tables.exec = Jvm.exec) (hb : c.code = cc) (hml : c.maxLocals = nL) (hown : s.vm.findClass own = some m.cls) (hts : ∀ w ∈ wsL_law, w.before args s = true) (hsz : ls.size = nL) (hK : zK D T s) (hH : zH D ad N A H0 σ H locs) (hA : ∀ q, H0.size ≤ q → A q) (hX : zXs A s H)
    (hM : vx_Met l y (Cond.code y bytes maxL ret :: wsL_law) rm (zPreX D ad N T σ H.size (.ref (ad k) :: As)) (zQq D ad N H.size P) (zXC D ad N H.size tc PX) mc1 ms1 (zFr ad N H.size))
    (h1 : Cond.methodLink own index y ∈ wsL_law) (h2 : Cond.instanceMethod y ∈ wsL_law) (h3 : Cond.selects C y y ∈ wsL_law) (h4 : Cond.initialized C ∈ wsL_law) (h5 : Cond.code y bytes maxL ret ∈ wsL_law)
    (hd : y.cls = C ∧ y.cls ≠ "java/lang/invoke/MethodHandle" ∧ y.cls ≠ "java/lang/invoke/VarHandle" ∧ (parseMethodDescriptor y.desc).map (fun d => d.parameters.length) = some n) (hn : As.length = n) (hR : rm.cells = mc1 ∧ rm.slots = ms1 ∧ rm.frames + 1 ≤ R.frames ∧ 8 + (maxL + 11) + rm.locals ≤ R.locals) (hcs : cells + mc1 ≤ R.cells ∧ slots + ms1 ≤ R.slots)
    (hk : k < N) (hσ : σ k = .inr (ci, fs)) (hc : vwCl[ci]? = some q) (hq : q.1 = C) (hst : st0 = As.reverse ++ .ref (ad k) :: rest) (hrest : (rest.map fun v => v.category).sum ≤ 8) (hdg : decode cc pc = .ok (.invokevirtual index, 3))
    (kx : ∀ (E : String) (ce : Cell) (q9 : Addr) (σ' : Nat → va_E) (H1 : Heap) (locs1 : List Loc), PX σ' → zEx E tc → zH D ad N A H0 σ' H1 locs1 → H1[q9]? = some ce → ce.vm = .none → s.vm.findClass E = some ce.cls → vx_W p l e R s m args below meth c H1 locs1 (cells + mc1) (slots + ms1) Q (F0 m pc ls rest) q9)
    (kk : ∀ (r : Option Nat) (σ' : Nat → va_E) (H1 : Heap) (locs1 : List Loc), P r σ' → zH D ad N A H0 σ' H1 locs1 → W p l e R s m args below meth c H1 locs1 (cells + mc1) (slots + ms1) Q (F0 m (pc + 3) ls (va_rf r :: rest))) : W p l e R s m args below meth c H locs cells slots Q (F0 m pc ls st0) := by
  subst hst
  have hFc : ∀ q, zFr ad N H.size q → A q := fun q h => h.elim (fun ⟨k, hk, e⟩ => e ▸ hH.2.1.2 k _ (zl_at hk)) (fun h => hA q (Nat.le_trans hH.2.2.1 h))
  have cw : CallW R s args own C index y bytes maxL ret (Cond.code y bytes maxL ret :: wsL_law) rm mc1 ms1 n := cwV n hts (zk_in _ (fun w hw => by
    simp only [wsV, List.cons_append, List.nil_append, List.mem_cons] at hw
    rcases hw with rfl | rfl | rfl | rfl | rfl | hw <;> assumption)) rfl hR.1 hR.2.1 hd hR.2.2
  refine vx_callq (vx_runV (C := C) (As := As) (rest := rest) ⟨hx, hb, hml, hown, hts⟩ hM cw ⟨zPreX_blind, hq ▸ va_recv hK.1 hH.1 hc (zl_atE hk hσ), fun U hU hW => ⟨rfl, by rw [hU], by rw [hU]; exact hH.1, hK.warm hW, by rw [hU]; exact (hX.narrow hFc).warm hW⟩⟩ rfl hn hsz rfl (lv_room hrest) hdg hcs) hH.2.2 (fun q _ h => hFc q h) hFc (fun q _ h => hFc q h) (fun E ce q9 u t H1 locs1 ht hvm hw hB hz1 hk1 hS hce hcv hcl => ?_) (fun r u t H1 locs1 ht hvm hw hB hz1 hk1 hS => ?_)
  · rw [ht] at hB
    exact kx E ce q9 u H1 locs1 hw hB.1 ⟨hB.2, zl_D hH.2.1, hS⟩ hce hcv hcl
  · rw [ht] at hB
    exact kk r u H1 locs1 hw ⟨hB, zl_D hH.2.1, hS⟩
theorem zxVi {y : MethodName} {bytes : ByteArray} {maxL nL n index : Nat} {ret : Option FieldType} {own : String} {rm : Room} {As st0 : List Value} {C : String} {ci : Nat} {q : vw_C} {fs : List Value} {P : Int32 → (Nat → va_E) → Prop} {tc : Int} {PX : (Nat → va_E) → Prop} {mc1 ms1 : Nat} (hx : p.tables.exec = Jvm.exec) (hb : c.code = cc) (hml : c.maxLocals = nL) (hown : s.vm.findClass own = some m.cls) (hts : ∀ w ∈ wsL_law, w.before args s = true) (hsz : ls.size = nL) (hK : zK D T s) (hH : zH D ad N A H0 σ H locs) (hA : ∀ q, H0.size ≤ q → A q) (hX : zXs A s H)
    (hM : vx_Met l y (Cond.code y bytes maxL ret :: wsL_law) rm (zPreX D ad N T σ H.size (.ref (ad k) :: As)) (zQi D ad N H.size P) (zXC D ad N H.size tc PX) mc1 ms1 (zFr ad N H.size))
    (h1 : Cond.methodLink own index y ∈ wsL_law) (h2 : Cond.instanceMethod y ∈ wsL_law) (h3 : Cond.selects C y y ∈ wsL_law) (h4 : Cond.initialized C ∈ wsL_law) (h5 : Cond.code y bytes maxL ret ∈ wsL_law)
    (hd : y.cls = C ∧ y.cls ≠ "java/lang/invoke/MethodHandle" ∧ y.cls ≠ "java/lang/invoke/VarHandle" ∧ (parseMethodDescriptor y.desc).map (fun d => d.parameters.length) = some n) (hn : As.length = n) (hR : rm.cells = mc1 ∧ rm.slots = ms1 ∧ rm.frames + 1 ≤ R.frames ∧ 8 + (maxL + 11) + rm.locals ≤ R.locals) (hcs : cells + mc1 ≤ R.cells ∧ slots + ms1 ≤ R.slots)
    (hk : k < N) (hσ : σ k = .inr (ci, fs)) (hc : vwCl[ci]? = some q) (hq : q.1 = C) (hst : st0 = As.reverse ++ .ref (ad k) :: rest) (hrest : (rest.map fun v => v.category).sum ≤ 8) (hdg : decode cc pc = .ok (.invokevirtual index, 3))
    (kx : ∀ (E : String) (ce : Cell) (q9 : Addr) (σ' : Nat → va_E) (H1 : Heap) (locs1 : List Loc), PX σ' → zEx E tc → zH D ad N A H0 σ' H1 locs1 → H1[q9]? = some ce → ce.vm = .none → s.vm.findClass E = some ce.cls → vx_W p l e R s m args below meth c H1 locs1 (cells + mc1) (slots + ms1) Q (F0 m pc ls rest) q9)
    (kk : ∀ (r : Int32) (σ' : Nat → va_E) (H1 : Heap) (locs1 : List Loc), P r σ' → zH D ad N A H0 σ' H1 locs1 → W p l e R s m args below meth c H1 locs1 (cells + mc1) (slots + ms1) Q (F0 m (pc + 3) ls (.int r :: rest))) : W p l e R s m args below meth c H locs cells slots Q (F0 m pc ls st0) := by
  subst hst
  have hFc : ∀ q, zFr ad N H.size q → A q := fun q h => h.elim (fun ⟨k, hk, e⟩ => e ▸ hH.2.1.2 k _ (zl_at hk)) (fun h => hA q (Nat.le_trans hH.2.2.1 h))
  have cw : CallW R s args own C index y bytes maxL ret (Cond.code y bytes maxL ret :: wsL_law) rm mc1 ms1 n := cwV n hts (zk_in _ (fun w hw => by
    simp only [wsV, List.cons_append, List.nil_append, List.mem_cons] at hw
    rcases hw with rfl | rfl | rfl | rfl | rfl | hw <;> assumption)) rfl hR.1 hR.2.1 hd hR.2.2
  refine vx_calli (vx_runV (C := C) (As := As) (rest := rest) ⟨hx, hb, hml, hown, hts⟩ hM cw ⟨zPreX_blind, hq ▸ va_recv hK.1 hH.1 hc (zl_atE hk hσ), fun U hU hW => ⟨rfl, by rw [hU], by rw [hU]; exact hH.1, hK.warm hW, by rw [hU]; exact (hX.narrow hFc).warm hW⟩⟩ rfl hn hsz rfl (lv_room hrest) hdg hcs) hH.2.2 (fun q _ h => hFc q h) hFc (fun q _ h => hFc q h) (fun E ce q9 u t H1 locs1 ht hvm hw hB hz1 hk1 hS hce hcv hcl => ?_) (fun r u t H1 locs1 ht hvm hw hB hz1 hk1 hS => ?_)
  · rw [ht] at hB
    exact kx E ce q9 u H1 locs1 hw hB.1 ⟨hB.2, zl_D hH.2.1, hS⟩ hce hcv hcl
  · rw [ht] at hB
    exact kk r u H1 locs1 hw ⟨hB, zl_D hH.2.1, hS⟩
theorem zxVf {y : MethodName} {bytes : ByteArray} {maxL nL n index : Nat} {ret : Option FieldType} {own : String} {rm : Room} {As st0 : List Value} {C : String} {ci : Nat} {q : vw_C} {fs : List Value} {P : UInt32 → (Nat → va_E) → Prop} {tc : Int} {PX : (Nat → va_E) → Prop} {mc1 ms1 : Nat} (hx : p.tables.exec = Jvm.exec) (hb : c.code = cc) (hml : c.maxLocals = nL) (hown : s.vm.findClass own = some m.cls) (hts : ∀ w ∈ wsL_law, w.before args s = true) (hsz : ls.size = nL) (hK : zK D T s) (hH : zH D ad N A H0 σ H locs) (hA : ∀ q, H0.size ≤ q → A q) (hX : zXs A s H)
    (hM : vx_Met l y (Cond.code y bytes maxL ret :: wsL_law) rm (zPreX D ad N T σ H.size (.ref (ad k) :: As)) (zQf D ad N H.size P) (zXC D ad N H.size tc PX) mc1 ms1 (zFr ad N H.size))
    (h1 : Cond.methodLink own index y ∈ wsL_law) (h2 : Cond.instanceMethod y ∈ wsL_law) (h3 : Cond.selects C y y ∈ wsL_law) (h4 : Cond.initialized C ∈ wsL_law) (h5 : Cond.code y bytes maxL ret ∈ wsL_law)
    (hd : y.cls = C ∧ y.cls ≠ "java/lang/invoke/MethodHandle" ∧ y.cls ≠ "java/lang/invoke/VarHandle" ∧ (parseMethodDescriptor y.desc).map (fun d => d.parameters.length) = some n) (hn : As.length = n) (hR : rm.cells = mc1 ∧ rm.slots = ms1 ∧ rm.frames + 1 ≤ R.frames ∧ 8 + (maxL + 11) + rm.locals ≤ R.locals) (hcs : cells + mc1 ≤ R.cells ∧ slots + ms1 ≤ R.slots)
    (hk : k < N) (hσ : σ k = .inr (ci, fs)) (hc : vwCl[ci]? = some q) (hq : q.1 = C) (hst : st0 = As.reverse ++ .ref (ad k) :: rest) (hrest : (rest.map fun v => v.category).sum ≤ 8) (hdg : decode cc pc = .ok (.invokevirtual index, 3))
    (kx : ∀ (E : String) (ce : Cell) (q9 : Addr) (σ' : Nat → va_E) (H1 : Heap) (locs1 : List Loc), PX σ' → zEx E tc → zH D ad N A H0 σ' H1 locs1 → H1[q9]? = some ce → ce.vm = .none → s.vm.findClass E = some ce.cls → vx_W p l e R s m args below meth c H1 locs1 (cells + mc1) (slots + ms1) Q (F0 m pc ls rest) q9)
    (kk : ∀ (r : UInt32) (σ' : Nat → va_E) (H1 : Heap) (locs1 : List Loc), P r σ' → zH D ad N A H0 σ' H1 locs1 → W p l e R s m args below meth c H1 locs1 (cells + mc1) (slots + ms1) Q (F0 m (pc + 3) ls (.float r :: rest))) : W p l e R s m args below meth c H locs cells slots Q (F0 m pc ls st0) := by
  subst hst
  have hFc : ∀ q, zFr ad N H.size q → A q := fun q h => h.elim (fun ⟨k, hk, e⟩ => e ▸ hH.2.1.2 k _ (zl_at hk)) (fun h => hA q (Nat.le_trans hH.2.2.1 h))
  have cw : CallW R s args own C index y bytes maxL ret (Cond.code y bytes maxL ret :: wsL_law) rm mc1 ms1 n := cwV n hts (zk_in _ (fun w hw => by
    simp only [wsV, List.cons_append, List.nil_append, List.mem_cons] at hw
    rcases hw with rfl | rfl | rfl | rfl | rfl | hw <;> assumption)) rfl hR.1 hR.2.1 hd hR.2.2
  refine vx_callf (vx_runV (C := C) (As := As) (rest := rest) ⟨hx, hb, hml, hown, hts⟩ hM cw ⟨zPreX_blind, hq ▸ va_recv hK.1 hH.1 hc (zl_atE hk hσ), fun U hU hW => ⟨rfl, by rw [hU], by rw [hU]; exact hH.1, hK.warm hW, by rw [hU]; exact (hX.narrow hFc).warm hW⟩⟩ rfl hn hsz rfl (lv_room hrest) hdg hcs) hH.2.2 (fun q _ h => hFc q h) hFc (fun q _ h => hFc q h) (fun E ce q9 u t H1 locs1 ht hvm hw hB hz1 hk1 hS hce hcv hcl => ?_) (fun r u t H1 locs1 ht hvm hw hB hz1 hk1 hS => ?_)
  · rw [ht] at hB
    exact kx E ce q9 u H1 locs1 hw hB.1 ⟨hB.2, zl_D hH.2.1, hS⟩ hce hcv hcl
  · rw [ht] at hB
    exact kk r u H1 locs1 hw ⟨hB, zl_D hH.2.1, hS⟩
theorem zxVv {y : MethodName} {bytes : ByteArray} {maxL nL n index : Nat} {ret : Option FieldType} {own : String} {rm : Room} {As st0 : List Value} {C : String} {ci : Nat} {q : vw_C} {fs : List Value} {P : (Nat → va_E) → Prop} {tc : Int} {PX : (Nat → va_E) → Prop} {mc1 ms1 : Nat} (hx : p.tables.exec = Jvm.exec) (hb : c.code = cc) (hml : c.maxLocals = nL) (hown : s.vm.findClass own = some m.cls) (hts : ∀ w ∈ wsL_law, w.before args s = true) (hsz : ls.size = nL) (hK : zK D T s) (hH : zH D ad N A H0 σ H locs) (hA : ∀ q, H0.size ≤ q → A q) (hX : zXs A s H)
    (hM : vx_Met l y (Cond.code y bytes maxL ret :: wsL_law) rm (zPreX D ad N T σ H.size (.ref (ad k) :: As)) (zQv D ad N H.size P) (zXC D ad N H.size tc PX) mc1 ms1 (zFr ad N H.size))
    (h1 : Cond.methodLink own index y ∈ wsL_law) (h2 : Cond.instanceMethod y ∈ wsL_law) (h3 : Cond.selects C y y ∈ wsL_law) (h4 : Cond.initialized C ∈ wsL_law) (h5 : Cond.code y bytes maxL ret ∈ wsL_law)
    (hd : y.cls = C ∧ y.cls ≠ "java/lang/invoke/MethodHandle" ∧ y.cls ≠ "java/lang/invoke/VarHandle" ∧ (parseMethodDescriptor y.desc).map (fun d => d.parameters.length) = some n) (hn : As.length = n) (hR : rm.cells = mc1 ∧ rm.slots = ms1 ∧ rm.frames + 1 ≤ R.frames ∧ 8 + (maxL + 11) + rm.locals ≤ R.locals) (hcs : cells + mc1 ≤ R.cells ∧ slots + ms1 ≤ R.slots)
    (hk : k < N) (hσ : σ k = .inr (ci, fs)) (hc : vwCl[ci]? = some q) (hq : q.1 = C) (hst : st0 = As.reverse ++ .ref (ad k) :: rest) (hrest : (rest.map fun v => v.category).sum ≤ 8) (hdg : decode cc pc = .ok (.invokevirtual index, 3))
    (kx : ∀ (E : String) (ce : Cell) (q9 : Addr) (σ' : Nat → va_E) (H1 : Heap) (locs1 : List Loc), PX σ' → zEx E tc → zH D ad N A H0 σ' H1 locs1 → H1[q9]? = some ce → ce.vm = .none → s.vm.findClass E = some ce.cls → vx_W p l e R s m args below meth c H1 locs1 (cells + mc1) (slots + ms1) Q (F0 m pc ls rest) q9)
    (kk : ∀ (σ' : Nat → va_E) (H1 : Heap) (locs1 : List Loc), P σ' → zH D ad N A H0 σ' H1 locs1 → W p l e R s m args below meth c H1 locs1 (cells + mc1) (slots + ms1) Q (F0 m (pc + 3) ls rest)) : W p l e R s m args below meth c H locs cells slots Q (F0 m pc ls st0) := by
  subst hst
  have hFc : ∀ q, zFr ad N H.size q → A q := fun q h => h.elim (fun ⟨k, hk, e⟩ => e ▸ hH.2.1.2 k _ (zl_at hk)) (fun h => hA q (Nat.le_trans hH.2.2.1 h))
  have cw : CallW R s args own C index y bytes maxL ret (Cond.code y bytes maxL ret :: wsL_law) rm mc1 ms1 n := cwV n hts (zk_in _ (fun w hw => by
    simp only [wsV, List.cons_append, List.nil_append, List.mem_cons] at hw
    rcases hw with rfl | rfl | rfl | rfl | rfl | hw <;> assumption)) rfl hR.1 hR.2.1 hd hR.2.2
  refine vx_callv (vx_runV (C := C) (As := As) (rest := rest) ⟨hx, hb, hml, hown, hts⟩ hM cw ⟨zPreX_blind, hq ▸ va_recv hK.1 hH.1 hc (zl_atE hk hσ), fun U hU hW => ⟨rfl, by rw [hU], by rw [hU]; exact hH.1, hK.warm hW, by rw [hU]; exact (hX.narrow hFc).warm hW⟩⟩ rfl hn hsz rfl (lv_room hrest) hdg hcs) hH.2.2 (fun q _ h => hFc q h) hFc (fun q _ h => hFc q h) (fun E ce q9 u t H1 locs1 ht hvm hw hB hz1 hk1 hS hce hcv hcl => ?_) (fun u t H1 locs1 ht hvm hw hB hz1 hk1 hS => ?_)
  · rw [ht] at hB
    exact kx E ce q9 u H1 locs1 hw hB.1 ⟨hB.2, zl_D hH.2.1, hS⟩ hce hcv hcl
  · rw [ht] at hB
    exact kk u H1 locs1 hw ⟨hB, zl_D hH.2.1, hS⟩
end ZX
