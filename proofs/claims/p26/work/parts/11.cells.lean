abbrev oC_sp (ad : Nat → Nat) (fieldCount : Int) (trimBound : Int) (planned : Int) : va_E := .inr (6, [.ref (ad 1), .ref (ad 2), .ref (ad 3), .ref (ad 10), .ref (ad 12), .ref (ad 14), .int (zI fieldCount), .int (zI trimBound), .int (zI planned)])
abbrev oC_fd (ad : Nat → Nat) (o : Nat) (colour : Int) (layer : Int) (column : Int) (cornerCount : Int) (crossingCount : Int) (density : Int) (length : Int) (shift : Int) (pull : Int) (underlay : Int) (drawn : Int) : va_E := .inr (0, [.int (zI colour), .int (zI layer), .int (zI column), .ref (ad (o + 1)), .ref (ad (o + 2)), .ref (ad (o + 3)), .ref (ad (o + 4)), .int (zI cornerCount), .int (zI crossingCount), .int (zI density), .int (zI length), .int (zI shift), .int (zI pull), .int (zI underlay), .int (zI drawn)])
abbrev oC_pt (ad : Nat → Nat) (o : Nat) (size : Int) : va_E := .inr (4, [.ref (ad (o + 5)), .ref (ad (o + 6)), .int (zI size)])
abbrev oC_pl (ad : Nat → Nat) (size : Int) (seconds : UInt32) (needleX : Int) (needleY : Int) (colour : Int) : va_E := .inr (3, [.ref (ad 4), .ref (ad 5), .ref (ad 6), .ref (ad 7), .ref (ad 8), .ref (ad 9), .int (zI size), .float seconds, .int (zI needleX), .int (zI needleY), .int (zI colour)])
abbrev oC_ra (ad : Nat → Nat) (cellCount : Int) : va_E := .inr (5, [.ref (ad 11), .int (zI cellCount)])
abbrev oC_pa (ad : Nat → Nat) (size : Int) (format : Int) (faultPlace : Int) (stitchesRead : Int) : va_E := .inr (2, [.ref (ad 13), .int (zI size), .int (zI format), .int (zI faultPlace), .int (zI stitchesRead)])
abbrev oC_ma (ad : Nat → Nat) (headCount : Int) (late : Int) (commandCount : Int) (place : Int) : va_E := .inr (1, [.ref (ad 15), .ref (ad 16), .ref (ad 17), .ref (ad 18), .int (zI headCount), .int (zI late), .int (zI commandCount), .int (zI place)])

def f_J9_floorDiv_7cf53 (p0 p1 : Int) : Option Int := zck ((zR p0 ∧ zR p1) ∧ p1 ≠ 0) (some (p0.fdiv p1))
def f_J9_floorMod_7cf53 (p0 p1 : Int) : Option Int := zck ((zR p0 ∧ zR p1) ∧ p1 ≠ 0) (some (p0.fmod p1))
abbrev rmJ9_floorDiv_7cf53 : Room := { frames := 0, cells := 0, slots := 0, locals := 0 }
abbrev rmJ9_floorMod_7cf53 : Room := { frames := 0, cells := 0, slots := 0, locals := 0 }
theorem hd_J9_floorDiv_7cf53 : yJ9_floorDiv_7cf53.cls ≠ "java/lang/invoke/MethodHandle" ∧ yJ9_floorDiv_7cf53.cls ≠ "java/lang/invoke/VarHandle" ∧ (parseMethodDescriptor yJ9_floorDiv_7cf53.desc).map (fun d => d.parameters.length) = some 2 := by decide +kernel
theorem hd_J9_floorMod_7cf53 : yJ9_floorMod_7cf53.cls ≠ "java/lang/invoke/MethodHandle" ∧ yJ9_floorMod_7cf53.cls ≠ "java/lang/invoke/VarHandle" ∧ (parseMethodDescriptor yJ9_floorMod_7cf53.desc).map (fun d => d.parameters.length) = some 2 := by decide +kernel
theorem z_xor {a b : Int} (h : zR a ∧ zR b) : (0 ≤ zI a ^^^ zI b) ↔ (0 ≤ a ↔ 0 ≤ b) := by
  have hm : ∀ x : Int32, (0 ≤ x) ↔ x.toBitVec.msb = false := fun x => by
    rw [Int32.le_iff_toInt_le, BitVec.msb_eq_toInt]
    show (0 : Int) ≤ x.toBitVec.toInt ↔ _
    simp
  have ha := zI_le (a := 0) (b := a) ⟨zR0, h.1⟩
  have hb := zI_le (a := 0) (b := b) ⟨zR0, h.2⟩
  rw [zI_zero, hm] at ha hb
  rw [hm, Int32.toBitVec_xor, BitVec.msb_xor, ← ha, ← hb]
  cases (zI a).toBitVec.msb <;> cases (zI b).toBitVec.msb <;> simp
theorem z_fdiv1 {a b : Int} (hb : b ≠ 0) (h : (0 ≤ a ↔ 0 ≤ b) ∨ a.tdiv b * b = a) : a.fdiv b = a.tdiv b := by
  rw [Int.fdiv_eq_ediv, Int.tdiv_eq_ediv]
  by_cases hd : b ∣ a
  · simp [hd]
  · have h2 : ¬ a.tdiv b * b = a := fun q => hd ⟨a.tdiv b, by rw [Int.mul_comm]; exact q.symm⟩
    have h1 := h.resolve_right h2
    by_cases ha : 0 ≤ a
    · have := h1.mp ha
      simp [ha, this]
    · have hb2 : ¬ 0 ≤ b := fun q => ha (h1.mpr q)
      have hs : b.sign = -1 := Int.sign_eq_neg_one_of_neg (by omega)
      simp [ha, hb2, hd, hs]
      omega
theorem z_fdiv2 {a b : Int} (hb : b ≠ 0) (h : ¬ (0 ≤ a ↔ 0 ≤ b)) (h2 : ¬ a.tdiv b * b = a) : a.fdiv b = a.tdiv b - 1 := by
  rw [Int.fdiv_eq_ediv, Int.tdiv_eq_ediv]
  have hd : ¬ b ∣ a := fun ⟨c, hc⟩ => h2 (by rw [hc, Int.mul_tdiv_cancel_left _ hb, Int.mul_comm])
  by_cases ha : 0 ≤ a
  · have hb2 : ¬ 0 ≤ b := fun q => h ⟨fun _ => q, fun _ => ha⟩
    simp [ha, hb2, hd]
  · have hb2 : 0 ≤ b := by
      rcases Int.lt_or_le b 0 with q | q
      · exact absurd ⟨fun z => absurd z ha, fun z => absurd z (by omega)⟩ h
      · exact q
    have hs : b.sign = 1 := Int.sign_eq_one_of_pos (by omega)
    simp [ha, hb2, hd, hs]
set_option maxHeartbeats 4000000 in
theorem c_J9_floorDiv_7cf53 {l : Launch} {D : va_G} {cI cZ cF cL cD : ClassId} {ad : Nat → Nat} {N : Nat} (hI : ∀ i j, i < N → j < N → ad i = ad j → i = j) (hN : 19 ≤ N) {σ0 : Nat → va_E} {sz : Nat} {p0 : Int} {p1 : Int} {R0 : Int} (hf : f_J9_floorDiv_7cf53 p0 p1 = some R0) :
    Met l yJ9_floorDiv_7cf53 (Cond.code yJ9_floorDiv_7cf53 cJ9_floorDiv_7cf53 3 (some .int) :: wsL_law) rmJ9_floorDiv_7cf53 (zPre D ad N (zT cI cZ cF cL cD) σ0 sz [.int (zI p0), .int (zI p1)]) (zQi D ad N sz (fun r σ' => r = zI R0 ∧ σ' = σ0)) 0 0 (zFr ad N sz) := by
  refine zMet hI (by decide +kernel) (Nat.le_of_ble_eq_true rfl) ⟨rfl, rfl⟩ ?_
  intro p e s m args below meth c Q hx hb hr hlocks hml hown hts hK hsz hQ hH hA ls hl
  subst hsz
  have hl : lv_has ls 3 [(0, .int (zI p0)), (1, .int (zI p1))] := hl
  obtain ⟨k1, hf⟩ := zck_some hf
  cases hf
  refine lv_iload_n hx hb dJ9_floorDiv_7cf53_0 rfl (lv_at hl 0 rfl) ?_
  refine lv_iload_n hx hb dJ9_floorDiv_7cf53_1 rfl (lv_at hl 1 rfl) ?_
  refine lz_idiv hx hb k1 dJ9_floorDiv_7cf53_2 ?_
  refine lv_istore_n (lv' := [(2, .int (zI (p0.tdiv p1))), (0, .int (zI p0)), (1, .int (zI p1))]) hx hb dJ9_floorDiv_7cf53_3 rfl hl (by decide) rfl (fun ls hl => ?_)
  refine lv_iload_n hx hb dJ9_floorDiv_7cf53_4 rfl (lv_at hl 1 rfl) ?_
  refine lv_iload_n hx hb dJ9_floorDiv_7cf53_5 rfl (lv_at hl 2 rfl) ?_
  refine lv_ixor hx hb dJ9_floorDiv_7cf53_6 ?_
  refine lv_if_ge (tgt := 21) hx hb dJ9_floorDiv_7cf53_7 (by decide) (fun c2 => ?_) (fun c2 => ?_)
  · refine lv_iload_n hx hb dJ9_floorDiv_7cf53_21 rfl (lv_at hl 0 rfl) ?_
    rw [z_xor k1.1] at c2
    exact zreti hx hb hr hlocks hQ hH ⟨by rw [z_fdiv1 k1.2 (Or.inl c2)], rfl⟩ dJ9_floorDiv_7cf53_22
  · rw [z_xor k1.1] at c2
    refine lv_iload_n hx hb dJ9_floorDiv_7cf53_10 rfl (lv_at hl 0 rfl) ?_
    refine lv_iload_n hx hb dJ9_floorDiv_7cf53_11 rfl (lv_at hl 2 rfl) ?_
    refine lz_imul hx hb dJ9_floorDiv_7cf53_12 ?_
    refine lv_iload_n hx hb dJ9_floorDiv_7cf53_13 rfl (lv_at hl 1 rfl) ?_
    have hrr : zR (p0.tdiv p1 * p1) := by
      have e := Int.tmod_add_tdiv_mul p0 p1
      have h1 := Int.natAbs_tmod p0 p1
      have h2 : p0.natAbs % p1.natAbs ≤ p0.natAbs := Nat.mod_le _ _
      have h3 : (p0.tdiv p1 * p1).natAbs ≤ p0.natAbs := by
        rw [Int.natAbs_mul, Int.natAbs_tdiv]
        exact Nat.div_mul_le_self _ _
      obtain ⟨⟨q1, q2⟩, -⟩ := k1.1
      rcases Int.lt_or_le p0 0 with q | q
      · have := Int.tmod_nonneg p1 (show 0 ≤ -p0 by omega)
        rw [Int.neg_tmod] at this
        constructor <;> omega
      · constructor <;> omega
    refine lz_icmp_eq (tgt := 21) hx hb ⟨hrr, k1.1.1⟩ dJ9_floorDiv_7cf53_14 (by decide) (fun c3 => ?_) (fun c3 => ?_)
    · refine lv_iload_n hx hb dJ9_floorDiv_7cf53_21 rfl (lv_at hl 0 rfl) ?_
      exact zreti hx hb hr hlocks hQ hH ⟨by rw [z_fdiv1 k1.2 (Or.inr c3)], rfl⟩ dJ9_floorDiv_7cf53_22
    · refine lv_iload_n hx hb dJ9_floorDiv_7cf53_17 rfl (lv_at hl 0 rfl) ?_
      refine lv_iconst (v := zI 1) hx hb dJ9_floorDiv_7cf53_18 (by decide +kernel) ?_
      refine lz_isub hx hb dJ9_floorDiv_7cf53_19 ?_
      exact zreti hx hb hr hlocks hQ hH ⟨by rw [z_fdiv2 k1.2 c2 c3], rfl⟩ dJ9_floorDiv_7cf53_20
theorem z_fmod1 {a b : Int} (hb : b ≠ 0) (h : (0 ≤ a ↔ 0 ≤ b) ∨ a.tmod b = 0) : a.fmod b = a.tmod b := by
  have e1 := Int.tmod_add_tdiv_mul a b
  have e2 := Int.fmod_add_fdiv_mul a b
  rw [z_fdiv1 hb (h.imp_right (fun q => by omega))] at e2
  omega
theorem z_fmod2 {a b : Int} (hb : b ≠ 0) (h : ¬ (0 ≤ a ↔ 0 ≤ b)) (h2 : ¬ a.tmod b = 0) : a.fmod b = a.tmod b + b := by
  have e1 := Int.tmod_add_tdiv_mul a b
  have e2 := Int.fmod_add_fdiv_mul a b
  rw [z_fdiv2 hb h (fun q => h2 (by omega)), Int.sub_mul] at e2
  omega
set_option maxHeartbeats 4000000 in
theorem c_J9_floorMod_7cf53 {l : Launch} {D : va_G} {cI cZ cF cL cD : ClassId} {ad : Nat → Nat} {N : Nat} (hI : ∀ i j, i < N → j < N → ad i = ad j → i = j) (hN : 19 ≤ N) {σ0 : Nat → va_E} {sz : Nat} {p0 : Int} {p1 : Int} {R0 : Int} (hf : f_J9_floorMod_7cf53 p0 p1 = some R0) :
    Met l yJ9_floorMod_7cf53 (Cond.code yJ9_floorMod_7cf53 cJ9_floorMod_7cf53 3 (some .int) :: wsL_law) rmJ9_floorMod_7cf53 (zPre D ad N (zT cI cZ cF cL cD) σ0 sz [.int (zI p0), .int (zI p1)]) (zQi D ad N sz (fun r σ' => r = zI R0 ∧ σ' = σ0)) 0 0 (zFr ad N sz) := by
  refine zMet hI (by decide +kernel) (Nat.le_of_ble_eq_true rfl) ⟨rfl, rfl⟩ ?_
  intro p e s m args below meth c Q hx hb hr hlocks hml hown hts hK hsz hQ hH hA ls hl
  subst hsz
  have hl : lv_has ls 3 [(0, .int (zI p0)), (1, .int (zI p1))] := hl
  obtain ⟨k1, hf⟩ := zck_some hf
  cases hf
  refine lv_iload_n hx hb dJ9_floorMod_7cf53_0 rfl (lv_at hl 0 rfl) ?_
  refine lv_iload_n hx hb dJ9_floorMod_7cf53_1 rfl (lv_at hl 1 rfl) ?_
  refine lz_irem hx hb k1 dJ9_floorMod_7cf53_2 ?_
  refine lv_istore_n (lv' := [(2, .int (zI (p0.tmod p1))), (0, .int (zI p0)), (1, .int (zI p1))]) hx hb dJ9_floorMod_7cf53_3 rfl hl (by decide) rfl (fun ls hl => ?_)
  refine lv_iload_n hx hb dJ9_floorMod_7cf53_4 rfl (lv_at hl 1 rfl) ?_
  refine lv_iload_n hx hb dJ9_floorMod_7cf53_5 rfl (lv_at hl 2 rfl) ?_
  refine lv_ixor hx hb dJ9_floorMod_7cf53_6 ?_
  refine lv_if_ge (tgt := 18) hx hb dJ9_floorMod_7cf53_7 (by decide) (fun c2 => ?_) (fun c2 => ?_)
  · refine lv_iload_n hx hb dJ9_floorMod_7cf53_18 rfl (lv_at hl 0 rfl) ?_
    rw [z_xor k1.1] at c2
    exact zreti hx hb hr hlocks hQ hH ⟨by rw [z_fmod1 k1.2 (Or.inl c2)], rfl⟩ dJ9_floorMod_7cf53_19
  · rw [z_xor k1.1] at c2
    refine lv_iload_n hx hb dJ9_floorMod_7cf53_10 rfl (lv_at hl 0 rfl) ?_
    have hrr : zR (p0.tmod p1) := by
      have h1 := Int.natAbs_tmod p0 p1
      have h2 : p0.natAbs % p1.natAbs ≤ p0.natAbs := Nat.mod_le _ _
      obtain ⟨⟨q1, q2⟩, -⟩ := k1.1
      rcases Int.lt_or_le p0 0 with q | q
      · have := Int.tmod_nonneg p1 (show 0 ≤ -p0 by omega)
        rw [Int.neg_tmod] at this
        constructor <;> omega
      · have := Int.tmod_nonneg p1 q
        constructor <;> omega
    refine lz_if_eq (tgt := 18) hx hb hrr dJ9_floorMod_7cf53_11 (by decide) (fun c3 => ?_) (fun c3 => ?_)
    · refine lv_iload_n hx hb dJ9_floorMod_7cf53_18 rfl (lv_at hl 0 rfl) ?_
      exact zreti hx hb hr hlocks hQ hH ⟨by rw [z_fmod1 k1.2 (Or.inr c3)], rfl⟩ dJ9_floorMod_7cf53_19
    · refine lv_iload_n hx hb dJ9_floorMod_7cf53_14 rfl (lv_at hl 0 rfl) ?_
      refine lv_iload_n hx hb dJ9_floorMod_7cf53_15 rfl (lv_at hl 2 rfl) ?_
      refine lz_iadd hx hb dJ9_floorMod_7cf53_16 ?_
      exact zreti hx hb hr hlocks hQ hH ⟨by rw [z_fmod2 k1.2 c2 c3], rfl⟩ dJ9_floorMod_7cf53_17
