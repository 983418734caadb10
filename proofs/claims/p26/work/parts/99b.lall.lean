/-! ===== what the law writes down of an object; all of an object is told; what is refused ===== -/
/-- what is written down of an object (B: no head has sewn more) -/
def yLv (S : yS) (dv : Int → Int) (B : Int) : Prop :=
  yWf S ∧ dv 0 = S.1.1 ∧ dv 1 = S.2.1 ∧ dv 2 = S.2.2.1.1 ∧ dv 3 = S.2.2.2.1 ∧
  (0 < S.2.2.2.1 → dv 4 = S.2.2.2.2.2.1 ∧ dv 5 = S.2.2.2.2.2.2.1 ∧ ∀ h, 0 ≤ h → h < S.2.2.2.1 → dv (22 + h) = S.2.2.2.2.2.2.2.2.1 h) ∧
  (∀ f, 0 ≤ f → f < S.1.1 → dv (6 + f) = S.1.2.2.2.2.2.2.1 f ∧ dv (14 + f) = S.1.2.2.2.1 f) ∧
  (∀ f, S.1.1 ≤ f → f < 8 → dv (6 + f) = 0) ∧
  (∀ h, 0 ≤ h → h < S.2.2.2.1 → 0 ≤ S.2.2.2.2.2.2.2.2.2 h ∧ S.2.2.2.2.2.2.2.2.2 h ≤ B)
theorem yq_of {S : yS} {c w : Int} (h0 : 0 ≤ c) (h1 : c < ((yC S.1 S.2.1).length : Int)) (hw : 0 ≤ w ∧ w ≤ 3) : y_ofCommand S c w = (0, yTold ((yC S.1 S.2.1).getD c.toNat (0, 0, 0, 0)) w) := by
  unfold y_ofCommand
  rw [if_neg (by omega), if_neg (by omega)]
theorem yq_touched {S : yS} {f : Int} (h : 0 ≤ f ∧ f < S.1.1) : y_touched S f = (0, qCt (yCel S.1 f) 1024) := by
  unfold y_touched
  rw [if_neg (by omega)]
theorem yq_byteAt {S : yS} {p : Int} (h : 0 ≤ p ∧ p < S.2.2.1.1) : y_byteAt S p = (0, S.2.2.1.2.2 p) := by
  unfold y_byteAt
  rw [if_neg (by omega)]
theorem yq_sewn {S : yS} {p : Int} (h : 0 ≤ p ∧ p < S.2.2.2.1) : y_sewn S p = (0, S.2.2.2.2.2.2.2.2.2 p) := by
  unfold y_sewn
  rw [if_neg (by omega)]
theorem zlt_e {α β : Type} {v : α} {k : α → Option β} : zlt v k = k v := rfl
theorem yl_all {S : yS} {dv : Int → Int} {B : Int} (h : yLv S dv B) : ∃ v, f_L_all S dv = some v := by
  obtain ⟨hW, d0, d1, d2, d3, d4, d5, d5z, d6⟩ := id h
  obtain ⟨hp, hl, hwf, -⟩ := yC_ok hW.1 hW.2.1
  have hn : 0 ≤ S.1.1 ∧ S.1.1 ≤ 8 := hW.1.1.1
  have hf : 0 ≤ S.2.2.1.1 ∧ S.2.2.1.1 ≤ 49924 := hW.2.2.1.1
  have hm : 0 ≤ S.2.2.2.1 ∧ S.2.2.2.1 ≤ 4 := hW.2.2.2.1
  have hc : y_commands S = ((yC S.1 S.2.1).length : Int) := rfl
  have X1 : ∀ x, ∃ r, zlp (fun z : Int64 × Int => f_L_all_L13 S dv z.1 z.2) zFU (x, 0) = some r ∧ True := by
    intro x
    refine zlp_for (fun s : Int64 × Int => s.2) (lo := 0) (hi := ((yC S.1 S.2.1).length : Int)) (fun _ _ => True) (fun _ => True) (by omega) (by omega) ?_ ?_ (x, 0) rfl trivial
    · intro s h0 h1 _
      obtain ⟨v, k⟩ := s
      replace h0 : 0 ≤ k := h0
      replace h1 : k < ((yC S.1 S.2.1).length : Int) := h1
      have X2 : ∀ x, ∃ r, zlp (fun z : Int64 × Int => f_L_all_L25 S dv k z.1 z.2) zFU (x, 0) = some r ∧ True := by
        intro x
        refine zlp_for (fun s : Int64 × Int => s.2) (lo := 0) (hi := 4) (fun _ _ => True) (fun _ => True) (by omega) (by omega) ?_ ?_ (x, 0) rfl trivial
        · intro s i0 i1 _
          obtain ⟨v, i⟩ := s
          replace i0 : 0 ≤ i := i0
          replace i1 : i < 4 := i1
          refine ⟨(v * 127 + (zI (yTold ((yC S.1 S.2.1).getD k.toNat (0, 0, 0, 0)) i)).toInt64, i + 1), ?_, rfl, trivial⟩
          show f_L_all_L25 S dv k v i = _
          unfold f_L_all_L25
          rw [yq_of h0 h1 (by omega)]
          simp (disch := omega) only [zck_t, zck_T, if_neg, zlt]
        · intro s i0 _
          obtain ⟨v, i⟩ := s
          replace i0 : i = 4 := i0
          refine ⟨(v, i), ?_, trivial⟩
          show f_L_all_L25 S dv k v i = _
          unfold f_L_all_L25
          simp (disch := omega) only [zck_t, zck_T, if_pos, zlt]
      obtain ⟨⟨v2, i2⟩, e2, -⟩ := X2 v
      refine ⟨(v2, k + 1), ?_, rfl, trivial⟩
      show f_L_all_L13 S dv v k = _
      unfold f_L_all_L13
      rw [hc]
      simp (disch := omega) only [zck_t, zck_T, if_neg, zlt, e2, zb2_e]
    · intro s h0 _
      obtain ⟨v, k⟩ := s
      replace h0 : k = ((yC S.1 S.2.1).length : Int) := h0
      refine ⟨(v, k), ?_, trivial⟩
      show f_L_all_L13 S dv v k = _
      unfold f_L_all_L13
      rw [hc]
      simp (disch := omega) only [zck_t, zck_T, if_pos, zlt]
  have X3 : ∀ x, ∃ r, zlp (fun z : Int64 × Int => f_L_all_L62 S dv z.1 z.2) zFU (x, 0) = some r ∧ True := by
    intro x
    refine zlp_for (fun s : Int64 × Int => s.2) (lo := 0) (hi := S.1.1) (fun _ _ => True) (fun _ => True) (by omega) (by omega) ?_ ?_ (x, 0) rfl trivial
    · intro s h0 h1 _
      obtain ⟨v, k⟩ := s
      replace h0 : 0 ≤ k := h0
      replace h1 : k < S.1.1 := h1
      refine ⟨(v * 2003 + (zI (qCt (yCel S.1 k) 1024)).toInt64, k + 1), ?_, rfl, trivial⟩
      show f_L_all_L62 S dv v k = _
      unfold f_L_all_L62
      rw [yq_touched ⟨h0, h1⟩]
      simp (disch := omega) only [zck_t, zck_T, if_neg, zlt]
    · intro s h0 _
      obtain ⟨v, k⟩ := s
      replace h0 : k = S.1.1 := h0
      refine ⟨(v, k), ?_, trivial⟩
      show f_L_all_L62 S dv v k = _
      unfold f_L_all_L62
      simp (disch := omega) only [zck_t, zck_T, if_pos, zlt]
  have X4 : ∀ x, ∃ r, zlp (fun z : Int64 × Int => f_L_all_L93 S dv z.1 z.2) zFU (x, 0) = some r ∧ True := by
    intro x
    refine zlp_for2 (fun s : Int64 × Int => s.2) (lo := 0) (hi := S.2.2.1.1) (fun _ _ => True) (fun _ => True) (by omega) (by omega) ?_ ?_ (x, 0) rfl trivial
    · intro s h0 h1 _
      obtain ⟨v, k⟩ := s
      replace h0 : 0 ≤ k := h0
      replace h1 : k < S.2.2.1.1 := h1
      by_cases c : 40 ≤ k
      · right
        refine ⟨(v, k), ?_, trivial⟩
        show f_L_all_L93 S dv v k = _
        unfold f_L_all_L93
        simp (disch := omega) only [zck_t, zck_T, if_neg, if_pos, zlt]
      · left
        refine ⟨(v * 257 + (zI (S.2.2.1.2.2 k)).toInt64, k + 1), ?_, rfl, trivial⟩
        show f_L_all_L93 S dv v k = _
        unfold f_L_all_L93
        rw [yq_byteAt ⟨h0, h1⟩]
        simp (disch := omega) only [zck_t, zck_T, if_neg, zlt]
    · intro s h0 _
      obtain ⟨v, k⟩ := s
      replace h0 : k = S.2.2.1.1 := h0
      refine ⟨(v, k), ?_, trivial⟩
      show f_L_all_L93 S dv v k = _
      unfold f_L_all_L93
      simp (disch := omega) only [zck_t, zck_T, if_pos, zlt]
  have X5 : ∀ x, ∃ r, zlp (fun z : Int64 × Int => f_L_all_L131 S dv z.1 z.2) zFU (x, 0) = some r ∧ True := by
    intro x
    refine zlp_for (fun s : Int64 × Int => s.2) (lo := 0) (hi := S.2.2.2.1) (fun _ _ => True) (fun _ => True) (by omega) (by omega) ?_ ?_ (x, 0) rfl trivial
    · intro s h0 h1 _
      obtain ⟨v, k⟩ := s
      replace h0 : 0 ≤ k := h0
      replace h1 : k < S.2.2.2.1 := h1
      refine ⟨(v * 9001 + (zI (S.2.2.2.2.2.2.2.2.2 k)).toInt64, k + 1), ?_, rfl, trivial⟩
      show f_L_all_L131 S dv v k = _
      unfold f_L_all_L131
      rw [yq_sewn ⟨h0, h1⟩]
      simp (disch := omega) only [zck_t, zck_T, if_neg, zlt]
    · intro s h0 _
      obtain ⟨v, k⟩ := s
      replace h0 : k = S.2.2.2.1 := h0
      refine ⟨(v, k), ?_, trivial⟩
      show f_L_all_L131 S dv v k = _
      unfold f_L_all_L131
      simp (disch := omega) only [zck_t, zck_T, if_pos, zlt]
  unfold f_L_all f_L_all_128
  simp only [zlt]
  obtain ⟨⟨v1, i1⟩, e1, -⟩ := X1 (17 + (zI (y_commands S)).toInt64)
  rw [e1]
  simp only [zb2_e]
  obtain ⟨⟨v2, i2⟩, e2, -⟩ := X3 v1
  rw [e2]
  simp only [zb2_e]
  obtain ⟨⟨v3, i3⟩, e3, -⟩ := X4 v2
  rw [e3]
  simp only [zb2_e]
  obtain ⟨⟨v4, i4⟩, e4, -⟩ := X5 v3
  rw [e4]
  simp only [zb2_e]
  exact ⟨_, rfl⟩
theorem ylc_0 (v : Int64) : ylc v v = 0 := by
  unfold ylc lg_cmp
  simp
theorem yl_refused {S : yS} {dv : Int → Int} {B : Int} (h : yLv S dv B) : f_L_refused S dv = some (1, S) := by
  obtain ⟨v, ev⟩ := yl_all h
  obtain ⟨hW, d0, d1, d2, d3, d4, d5, d5z, d6⟩ := id h
  obtain ⟨hp, hl, hwf, -⟩ := yC_ok hW.1 hW.2.1
  have hn : 0 ≤ S.1.1 ∧ S.1.1 ≤ 8 := hW.1.1.1
  have hf : 0 ≤ S.2.2.1.1 ∧ S.2.2.1.1 ≤ 49924 := hW.2.2.1.1
  have hm : 0 ≤ S.2.2.2.1 ∧ S.2.2.2.1 ≤ 4 := hW.2.2.2.1
  have hc : y_commands S = ((yC S.1 S.2.1).length : Int) := rfl
  have e1 : f_L_call S 0 (-1) 0 0 = some (-2000000002, S) := yx_0 (t := 1) (by decide) (by decide) (Or.inl rfl) (by unfold y_field; rw [if_pos (by omega)]) (by decide) (by unfold y_field; rw [if_pos (by omega)])
  have e2 : f_L_call S 0 0 4 0 = some (-2000000002, S) := yx_0 (t := 1) (by decide) (by decide) (Or.inl rfl) (by unfold y_field; rw [if_neg (by omega), if_pos (by omega)]) (by decide) (by unfold y_field; rw [if_neg (by omega), if_pos (by omega)])
  have e3 : f_L_call S 1 8 0 0 = some (-2000000001, S) := yx_1 (t := 3) (by decide) (by decide) (by decide) (by unfold y_corner; rw [if_pos (by omega)]) (by decide) (by unfold y_corner; rw [if_pos (by omega)])
  have e4 : f_L_call S 1 (-1) 0 0 = some (-2000000001, S) := yx_1 (t := 3) (by decide) (by decide) (by decide) (by unfold y_corner; rw [if_pos (by omega)]) (by decide) (by unfold y_corner; rw [if_pos (by omega)])
  have e5 : f_L_sew S 8 1 1 0 0 0 = some (-2000000001, S) := by
    have e : y_sew S 8 1 1 0 0 0 = (3, S) := by unfold y_sew; rw [if_pos (by omega)]
    unfold f_L_sew
    rw [e, zck_t (by decide), zck_t (by decide), zck_t (show ¬ (3 : Int) = 2 by decide)]
    rfl
  have e6 : f_L_call S 2 8 100 0 = some (-2000000001, S) := yx_2 (t := 3) (by decide) (by decide) (by unfold y_scale; rw [if_pos (by omega)]) (by decide) (by unfold y_scale; rw [if_pos (by omega)])
  have e7 : f_L_call S 3 (-1) 0 0 = some (-2000000002, S) := yx_3 (t := 1) (by decide) (by unfold y_bound; rw [if_pos (by omega)]) (by decide) (by unfold y_bound; rw [if_pos (by omega)])
  have e8 : f_L_call S 4 (y_commands S) 0 0 = some (-2000000001, S) := yx_4 (t := 3) (by rw [hc]; omega) (by decide) (by unfold y_ofCommand; rw [if_pos (by rw [hc]; omega)]) (by decide) rfl
  have hpos : 1 ≤ ((yC S.1 S.2.1).length : Int) := by
    obtain ⟨k, s, r, _, e⟩ := hp
    rw [e, List.length_append]
    show (1 : Int) ≤ ((s.2.1.length + 1 : Nat) : Int)
    omega
  have e9 : f_L_call S 4 0 (-1) 0 = some (-2000000002, S) := yx_4 (t := 1) (by decide) (by decide) (by unfold y_ofCommand; rw [if_neg (by omega), if_pos (by omega)]) (by decide) rfl
  have e10 : f_L_call S 5 (-1) 0 0 = some (-2000000002, S) := yx_5 (t := 1) (by decide) (by unfold y_count; rw [if_pos (by omega)]) (by decide) rfl
  have e11 : f_L_call S 6 6 0 0 = some (-2000000002, S) := yx_6 (t := 1) (by decide) (by unfold y_thread; rw [if_pos (by omega)]) (by decide) rfl
  have e12 : f_L_call S 7 8 0 0 = some (-2000000001, S) := yx_7 (t := 3) (by decide) (by unfold y_covered; rw [if_pos (by omega)]) (by decide)
  have e13 : f_L_call S 8 (-1) 0 0 = some (-2000000001, S) := yx_8 (t := 3) (by decide) (by unfold y_touched; rw [if_pos (by omega)]) (by decide) rfl
  have e14 : f_L_call S 9 (-1) 0 0 = some (-2000000002, S) := yx_9 (t := 1) (by decide) (by unfold y_write; rw [if_pos (by omega)]) (by decide) (by unfold y_write; rw [if_pos (by omega)])
  have e15 : f_L_call S 10 (-1) 0 0 = some (-2000000001, S) := yx_10 (t := 3) (by decide) (by unfold y_byteAt; rw [if_pos (by omega)]) (by decide) rfl
  have e16 : f_L_call S 10 (dv 2) 0 0 = some (-2000000001, S) := yx_10 (t := 3) (by omega) (by unfold y_byteAt; rw [if_pos (by omega)]) (by decide) rfl
  have e17 : f_L_call S 11 (dv 2) 0 0 = some (-2000000001, S) := yx_11 (t := 3) (by omega) (by decide) (by unfold y_damage; rw [if_pos (by omega)]) (by decide) (by unfold y_damage; rw [if_pos (by omega)])
  have e18 : f_L_call S 12 (-1) 0 0 = some (-2000000002, S) := yx_12 (t := 1) (by decide) (by unfold y_shorten; rw [if_pos (by omega)]) (by decide) (by unfold y_shorten; rw [if_pos (by omega)])
  have e19 : f_L_call S 12 (dv 2 + 1) 0 0 = some (-2000000002, S) := yx_12 (t := 1) (by omega) (by unfold y_shorten; rw [if_pos (by omega)]) (by decide) (by unfold y_shorten; rw [if_pos (by omega)])
  have e20 : f_L_call S 13 0 0 0 = some (-2000000002, S) := yx_13 (t := 1) (by decide) (by decide) (by unfold y_start; rw [if_pos (by omega)]) (by decide) (by unfold y_start; rw [if_pos (by omega)])
  have e21 : f_L_call S 13 1 21 0 = some (-2000000002, S) := yx_13 (t := 1) (by decide) (by decide) (by unfold y_start; rw [if_neg (by omega), if_pos (by omega)]) (by decide) (by unfold y_start; rw [if_neg (by omega), if_pos (by omega)])
  have e22 : f_L_call S 14 0 0 0 = some (-2000000002, S) := yx_14 (t := 1) (by decide) (by unfold y_run; rw [if_pos (by omega)]) (by decide) (by unfold y_run; rw [if_pos (by omega)])
  have e23 : f_L_call S 15 4 0 0 = some (-2000000001, S) := yx_15 (t := 3) (by decide) (by unfold y_breaks; rw [if_pos (by omega)]) (by decide) (by unfold y_breaks; rw [if_pos (by omega)])
  have e24 : f_L_call S 16 (-1) 0 0 = some (-2000000001, S) := yx_16 (t := 3) (by decide) (by unfold y_mend; rw [if_pos (by omega)]) (by decide) (by unfold y_mend; rw [if_pos (by omega)])
  have e25 : f_L_call S 17 4 0 0 = some (-2000000001, S) := yx_17 (t := 3) (by decide) (by unfold y_sewn; rw [if_pos (by omega)]) (by decide) rfl
  unfold f_L_refused
  rw [ev, zb1_e]
  rw [e1, zb2_e, zck_t (by decide), if_pos rfl]
  rw [e2, zb2_e, zck_t (by decide), if_pos rfl]
  rw [e3, zb2_e, zck_t (by decide), if_pos rfl]
  rw [e4, zb2_e, zck_t (by decide), if_pos rfl]
  rw [e5, zb2_e, zck_t (by decide), if_pos rfl]
  rw [e6, zb2_e, zck_t (by decide), if_pos rfl]
  rw [e7, zb2_e, zck_t (by decide), if_pos rfl]
  rw [zlt_e]
  rw [e8, zb2_e, zck_t (by decide), if_pos rfl]
  rw [e9, zb2_e, zck_t (by decide), if_pos rfl]
  rw [e10, zb2_e, zck_t (by decide), if_pos rfl]
  rw [e11, zb2_e, zck_t (by decide), if_pos rfl]
  rw [e12, zb2_e, zck_t (by decide), if_pos rfl]
  rw [e13, zb2_e, zck_t (by decide), if_pos rfl]
  rw [e14, zb2_e, zck_t (by decide), if_pos rfl]
  rw [e15, zb2_e, zck_t (by decide), if_pos rfl]
  rw [e16, zb2_e, zck_t (by decide), if_pos rfl]
  unfold f_L_refused_238
  rw [zck_t (by decide), if_neg (by decide)]
  rw [e17, zb2_e, zck_t (by decide), if_pos rfl]
  rw [e18, zb2_e, zck_t (by decide), if_pos rfl]
  rw [e19, zb2_e, zck_t (by decide), if_pos rfl]
  rw [e20, zb2_e, zck_t (by decide), if_pos rfl]
  rw [e21, zb2_e, zck_t (by decide), if_pos rfl]
  rw [e22, zb2_e, zck_t (by decide), if_pos rfl]
  rw [e23, zb2_e, zck_t (by decide), if_pos rfl]
  rw [e24, zb2_e, zck_t (by decide), if_pos rfl]
  rw [e25, zb2_e, zck_t (by decide), if_pos rfl]
  rw [ev, zb1_e, ylc_0, zck_t (by decide), if_pos rfl]
