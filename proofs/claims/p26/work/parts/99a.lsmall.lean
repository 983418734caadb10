/-! ===== the law's pure functions: small ones, calls ===== -/
theorem yus_b (x : Int) : 0 ≤ yus x 1 ∧ yus x 1 ≤ 2147483647 := by
  unfold yus
  have h := pk_ushr (zI x) (zI 1) 1 (by decide)
  generalize ((zI x).toUInt32 >>> ((zI 1).toUInt32 &&& Int32.toUInt32 31)).toInt32 = y at *
  have hb : (zI x).toBitVec.toNat < 4294967296 := (zI x).toBitVec.isLt
  have e : y.toInt = y.toBitVec.toInt := rfl
  rw [e, BitVec.toInt_eq_toNat_of_lt (by rw [h]; omega), h]
  omega
theorem yl_some {x n : Int} (hn : 0 < n ∧ n ≤ 100000) : ∃ r, f_L_some x n = some r ∧ 0 ≤ r ∧ r < n := by
  have hb := yus_b x
  refine ⟨Int.tmod (yus x 1) n, ?_, Int.tmod_nonneg _ hb.1, Int.tmod_lt_of_pos _ hn.1⟩
  unfold f_L_some
  simp (disch := omega) only [zck_t]
theorem yl_size {x : Int} (h : -100 ≤ x ∧ x ≤ 100) : f_L_size x = some (x.natAbs : Int) := by
  unfold f_L_size
  by_cases c : 0 ≤ x
  · rw [show (x.natAbs : Int) = x by omega]
    simp (disch := omega) only [zck_t, if_pos]
  · rw [show (x.natAbs : Int) = -x by omega]
    simp (disch := omega) only [zck_t, if_neg]
theorem yl_both {S S' : yS} {k a b c r : Int} (h : f_L_call S k a b c = some (r, S')) (hr : zR r) : f_L_both S S k a b c = some (r, S', S') := by
  unfold f_L_both
  rw [h]
  simp only [zb2_e]
  simp only [zck_t (show zR r ∧ zR r from ⟨hr, hr⟩), if_true]
theorem yd_1 {S : yS} {a b c : Int} (ha : zR a) (hb : zR b) (hc : zR c) : f_L_does S 1 a b c = if ¬ (y_corner S a b c).1 = 0 then some ((y_corner S a b c).1, 0, (y_corner S a b c).2.2) else some (0, (y_corner S a b c).2.1, (y_corner S a b c).2.2) := by
  unfold f_L_does
  rw [zck_t (by decide), if_neg (by decide), if_pos rfl, zck_t ha, zck_t hb, zck_t hc]
  rfl
theorem yl_1 {S : yS} {a b c : Int} (ha : zR a) (hb : zR b) (hc : zR c) (ht : (y_corner S a b c).1 = 0) : f_L_call S 1 a b c = some ((y_corner S a b c).2.1, (y_corner S a b c).2.2) := by
  unfold f_L_call
  rw [yd_1 ha hb hc, if_neg (not_not_intro ht)]
  rfl
theorem yx_1 {S : yS} {a b c t : Int} (ha : zR a) (hb : zR b) (hc : zR c) (ht : (y_corner S a b c).1 = t) (h0 : ¬ t = 0) (hs : (y_corner S a b c).2.2 = S) : f_L_call S 1 a b c = some (yCode t 0, S) := by
  unfold f_L_call
  rw [yd_1 ha hb hc, ht, if_pos h0, hs]
  rfl
theorem yd_2 {S : yS} {a b c : Int} (ha : zR a) (hb : zR b) : f_L_does S 2 a b c = if ¬ (y_scale S a b).1 = 0 then some ((y_scale S a b).1, 0, (y_scale S a b).2) else some (0, 0, (y_scale S a b).2) := by
  unfold f_L_does
  rw [zck_t (by decide), if_neg (by decide), if_neg (by decide), if_pos rfl, zck_t ha, zck_t hb]
  rfl
theorem yl_2 {S : yS} {a b c : Int} (ha : zR a) (hb : zR b) (ht : (y_scale S a b).1 = 0) : f_L_call S 2 a b c = some (0, (y_scale S a b).2) := by
  unfold f_L_call
  rw [yd_2 ha hb, if_neg (not_not_intro ht)]
  rfl
theorem yx_2 {S : yS} {a b c t : Int} (ha : zR a) (hb : zR b) (ht : (y_scale S a b).1 = t) (h0 : ¬ t = 0) (hs : (y_scale S a b).2 = S) : f_L_call S 2 a b c = some (yCode t 0, S) := by
  unfold f_L_call
  rw [yd_2 ha hb, ht, if_pos h0, hs]
  rfl
theorem yd_3 {S : yS} {a b c : Int} (ha : zR a) : f_L_does S 3 a b c = if ¬ (y_bound S a).1 = 0 then some ((y_bound S a).1, 0, (y_bound S a).2.2) else some (0, (y_bound S a).2.1, (y_bound S a).2.2) := by
  unfold f_L_does
  rw [zck_t (by decide), if_neg (by decide), if_neg (by decide), if_neg (by decide), if_pos rfl, zck_t ha]
  rfl
theorem yl_3 {S : yS} {a b c : Int} (ha : zR a) (ht : (y_bound S a).1 = 0) : f_L_call S 3 a b c = some ((y_bound S a).2.1, (y_bound S a).2.2) := by
  unfold f_L_call
  rw [yd_3 ha, if_neg (not_not_intro ht)]
  rfl
theorem yx_3 {S : yS} {a b c t : Int} (ha : zR a) (ht : (y_bound S a).1 = t) (h0 : ¬ t = 0) (hs : (y_bound S a).2.2 = S) : f_L_call S 3 a b c = some (yCode t 0, S) := by
  unfold f_L_call
  rw [yd_3 ha, ht, if_pos h0, hs]
  rfl
theorem yd_4 {S : yS} {a b c : Int} (ha : zR a) (hb : zR b) : f_L_does S 4 a b c = if ¬ (y_ofCommand S a b).1 = 0 then some ((y_ofCommand S a b).1, 0, S) else some (0, (y_ofCommand S a b).2, S) := by
  unfold f_L_does
  rw [zck_t (by decide), if_neg (by decide), if_neg (by decide), if_neg (by decide), if_neg (by decide), if_pos rfl, zck_t ha, zck_t hb]
  rfl
theorem yl_4 {S : yS} {a b c : Int} (ha : zR a) (hb : zR b) (ht : (y_ofCommand S a b).1 = 0) : f_L_call S 4 a b c = some ((y_ofCommand S a b).2, S) := by
  unfold f_L_call
  rw [yd_4 ha hb, if_neg (not_not_intro ht)]
  rfl
theorem yx_4 {S : yS} {a b c t : Int} (ha : zR a) (hb : zR b) (ht : (y_ofCommand S a b).1 = t) (h0 : ¬ t = 0) (hs : S = S) : f_L_call S 4 a b c = some (yCode t 0, S) := by
  unfold f_L_call
  rw [yd_4 ha hb, ht, if_pos h0, hs]
  rfl
theorem yd_5 {S : yS} {a b c : Int} (ha : zR a) : f_L_does S 5 a b c = if ¬ (y_count S a).1 = 0 then some ((y_count S a).1, 0, S) else some (0, (y_count S a).2, S) := by
  unfold f_L_does
  rw [zck_t (by decide), if_neg (by decide), if_neg (by decide), if_neg (by decide), if_neg (by decide), if_neg (by decide), if_pos rfl, zck_t ha]
  rfl
theorem yl_5 {S : yS} {a b c : Int} (ha : zR a) (ht : (y_count S a).1 = 0) : f_L_call S 5 a b c = some ((y_count S a).2, S) := by
  unfold f_L_call
  rw [yd_5 ha, if_neg (not_not_intro ht)]
  rfl
theorem yx_5 {S : yS} {a b c t : Int} (ha : zR a) (ht : (y_count S a).1 = t) (h0 : ¬ t = 0) (hs : S = S) : f_L_call S 5 a b c = some (yCode t 0, S) := by
  unfold f_L_call
  rw [yd_5 ha, ht, if_pos h0, hs]
  rfl
theorem yd_6 {S : yS} {a b c : Int} (ha : zR a) : f_L_does S 6 a b c = if ¬ (y_thread S a).1 = 0 then some ((y_thread S a).1, 0, S) else some (0, (y_thread S a).2, S) := by
  unfold f_L_does
  rw [zck_t (by decide), if_neg (by decide), if_neg (by decide), if_neg (by decide), if_neg (by decide), if_neg (by decide), if_neg (by decide), if_pos rfl, zck_t ha]
  rfl
theorem yl_6 {S : yS} {a b c : Int} (ha : zR a) (ht : (y_thread S a).1 = 0) : f_L_call S 6 a b c = some ((y_thread S a).2, S) := by
  unfold f_L_call
  rw [yd_6 ha, if_neg (not_not_intro ht)]
  rfl
theorem yx_6 {S : yS} {a b c t : Int} (ha : zR a) (ht : (y_thread S a).1 = t) (h0 : ¬ t = 0) (hs : S = S) : f_L_call S 6 a b c = some (yCode t 0, S) := by
  unfold f_L_call
  rw [yd_6 ha, ht, if_pos h0, hs]
  rfl
theorem yd_8 {S : yS} {a b c : Int} (ha : zR a) : f_L_does S 8 a b c = if ¬ (y_touched S a).1 = 0 then some ((y_touched S a).1, 0, S) else some (0, (y_touched S a).2, S) := by
  unfold f_L_does
  rw [zck_t (by decide), if_neg (by decide), if_neg (by decide), if_neg (by decide), if_neg (by decide), if_neg (by decide), if_neg (by decide), if_neg (by decide), if_neg (by decide), if_pos rfl, zck_t ha]
  rfl
theorem yl_8 {S : yS} {a b c : Int} (ha : zR a) (ht : (y_touched S a).1 = 0) : f_L_call S 8 a b c = some ((y_touched S a).2, S) := by
  unfold f_L_call
  rw [yd_8 ha, if_neg (not_not_intro ht)]
  rfl
theorem yx_8 {S : yS} {a b c t : Int} (ha : zR a) (ht : (y_touched S a).1 = t) (h0 : ¬ t = 0) (hs : S = S) : f_L_call S 8 a b c = some (yCode t 0, S) := by
  unfold f_L_call
  rw [yd_8 ha, ht, if_pos h0, hs]
  rfl
theorem yd_9 {S : yS} {a b c : Int} (ha : zR a) : f_L_does S 9 a b c = if ¬ (y_write S a).1 = 0 then some ((y_write S a).1, 0, (y_write S a).2.2) else some (0, (y_write S a).2.1, (y_write S a).2.2) := by
  unfold f_L_does
  rw [zck_t (by decide), if_neg (by decide), if_neg (by decide), if_neg (by decide), if_neg (by decide), if_neg (by decide), if_neg (by decide), if_neg (by decide), if_neg (by decide), if_neg (by decide), if_pos rfl, zck_t ha]
  rfl
theorem yl_9 {S : yS} {a b c : Int} (ha : zR a) (ht : (y_write S a).1 = 0) : f_L_call S 9 a b c = some ((y_write S a).2.1, (y_write S a).2.2) := by
  unfold f_L_call
  rw [yd_9 ha, if_neg (not_not_intro ht)]
  rfl
theorem yx_9 {S : yS} {a b c t : Int} (ha : zR a) (ht : (y_write S a).1 = t) (h0 : ¬ t = 0) (hs : (y_write S a).2.2 = S) : f_L_call S 9 a b c = some (yCode t 0, S) := by
  unfold f_L_call
  rw [yd_9 ha, ht, if_pos h0, hs]
  rfl
theorem yd_10 {S : yS} {a b c : Int} (ha : zR a) : f_L_does S 10 a b c = if ¬ (y_byteAt S a).1 = 0 then some ((y_byteAt S a).1, 0, S) else some (0, (y_byteAt S a).2, S) := by
  unfold f_L_does
  rw [zck_t (by decide), if_neg (by decide), if_neg (by decide), if_neg (by decide), if_neg (by decide), if_neg (by decide), if_neg (by decide), if_neg (by decide), if_neg (by decide), if_neg (by decide), if_neg (by decide), if_pos rfl, zck_t ha]
  rfl
theorem yl_10 {S : yS} {a b c : Int} (ha : zR a) (ht : (y_byteAt S a).1 = 0) : f_L_call S 10 a b c = some ((y_byteAt S a).2, S) := by
  unfold f_L_call
  rw [yd_10 ha, if_neg (not_not_intro ht)]
  rfl
theorem yx_10 {S : yS} {a b c t : Int} (ha : zR a) (ht : (y_byteAt S a).1 = t) (h0 : ¬ t = 0) (hs : S = S) : f_L_call S 10 a b c = some (yCode t 0, S) := by
  unfold f_L_call
  rw [yd_10 ha, ht, if_pos h0, hs]
  rfl
theorem yd_11 {S : yS} {a b c : Int} (ha : zR a) (hb : zR b) : f_L_does S 11 a b c = if ¬ (y_damage S a b).1 = 0 then some ((y_damage S a b).1, 0, (y_damage S a b).2.2) else some (0, (y_damage S a b).2.1, (y_damage S a b).2.2) := by
  unfold f_L_does
  rw [zck_t (by decide), if_neg (by decide), if_neg (by decide), if_neg (by decide), if_neg (by decide), if_neg (by decide), if_neg (by decide), if_neg (by decide), if_neg (by decide), if_neg (by decide), if_neg (by decide), if_neg (by decide), if_pos rfl, zck_t ha, zck_t hb]
  rfl
theorem yl_11 {S : yS} {a b c : Int} (ha : zR a) (hb : zR b) (ht : (y_damage S a b).1 = 0) : f_L_call S 11 a b c = some ((y_damage S a b).2.1, (y_damage S a b).2.2) := by
  unfold f_L_call
  rw [yd_11 ha hb, if_neg (not_not_intro ht)]
  rfl
theorem yx_11 {S : yS} {a b c t : Int} (ha : zR a) (hb : zR b) (ht : (y_damage S a b).1 = t) (h0 : ¬ t = 0) (hs : (y_damage S a b).2.2 = S) : f_L_call S 11 a b c = some (yCode t 0, S) := by
  unfold f_L_call
  rw [yd_11 ha hb, ht, if_pos h0, hs]
  rfl
theorem yd_12 {S : yS} {a b c : Int} (ha : zR a) : f_L_does S 12 a b c = if ¬ (y_shorten S a).1 = 0 then some ((y_shorten S a).1, 0, (y_shorten S a).2.2) else some (0, (y_shorten S a).2.1, (y_shorten S a).2.2) := by
  unfold f_L_does
  rw [zck_t (by decide), if_neg (by decide), if_neg (by decide), if_neg (by decide), if_neg (by decide), if_neg (by decide), if_neg (by decide), if_neg (by decide), if_neg (by decide), if_neg (by decide), if_neg (by decide), if_neg (by decide), if_neg (by decide), if_pos rfl, zck_t ha]
  rfl
theorem yl_12 {S : yS} {a b c : Int} (ha : zR a) (ht : (y_shorten S a).1 = 0) : f_L_call S 12 a b c = some ((y_shorten S a).2.1, (y_shorten S a).2.2) := by
  unfold f_L_call
  rw [yd_12 ha, if_neg (not_not_intro ht)]
  rfl
theorem yx_12 {S : yS} {a b c t : Int} (ha : zR a) (ht : (y_shorten S a).1 = t) (h0 : ¬ t = 0) (hs : (y_shorten S a).2.2 = S) : f_L_call S 12 a b c = some (yCode t 0, S) := by
  unfold f_L_call
  rw [yd_12 ha, ht, if_pos h0, hs]
  rfl
theorem yd_13 {S : yS} {a b c : Int} (ha : zR a) (hb : zR b) : f_L_does S 13 a b c = if ¬ (y_start S a b).1 = 0 then some ((y_start S a b).1, 0, (y_start S a b).2) else some (0, 0, (y_start S a b).2) := by
  unfold f_L_does
  rw [zck_t (by decide), if_neg (by decide), if_neg (by decide), if_neg (by decide), if_neg (by decide), if_neg (by decide), if_neg (by decide), if_neg (by decide), if_neg (by decide), if_neg (by decide), if_neg (by decide), if_neg (by decide), if_neg (by decide), if_neg (by decide), if_pos rfl, zck_t ha, zck_t hb]
  rfl
theorem yl_13 {S : yS} {a b c : Int} (ha : zR a) (hb : zR b) (ht : (y_start S a b).1 = 0) : f_L_call S 13 a b c = some (0, (y_start S a b).2) := by
  unfold f_L_call
  rw [yd_13 ha hb, if_neg (not_not_intro ht)]
  rfl
theorem yx_13 {S : yS} {a b c t : Int} (ha : zR a) (hb : zR b) (ht : (y_start S a b).1 = t) (h0 : ¬ t = 0) (hs : (y_start S a b).2 = S) : f_L_call S 13 a b c = some (yCode t 0, S) := by
  unfold f_L_call
  rw [yd_13 ha hb, ht, if_pos h0, hs]
  rfl
theorem yd_14 {S : yS} {a b c : Int} (ha : zR a) : f_L_does S 14 a b c = if ¬ (y_run S a).1 = 0 then some ((y_run S a).1, 0, (y_run S a).2.2) else some (0, (y_run S a).2.1, (y_run S a).2.2) := by
  unfold f_L_does
  rw [zck_t (by decide), if_neg (by decide), if_neg (by decide), if_neg (by decide), if_neg (by decide), if_neg (by decide), if_neg (by decide), if_neg (by decide), if_neg (by decide), if_neg (by decide), if_neg (by decide), if_neg (by decide), if_neg (by decide), if_neg (by decide), if_neg (by decide), if_pos rfl, zck_t ha]
  rfl
theorem yl_14 {S : yS} {a b c : Int} (ha : zR a) (ht : (y_run S a).1 = 0) : f_L_call S 14 a b c = some ((y_run S a).2.1, (y_run S a).2.2) := by
  unfold f_L_call
  rw [yd_14 ha, if_neg (not_not_intro ht)]
  rfl
theorem yx_14 {S : yS} {a b c t : Int} (ha : zR a) (ht : (y_run S a).1 = t) (h0 : ¬ t = 0) (hs : (y_run S a).2.2 = S) : f_L_call S 14 a b c = some (yCode t 0, S) := by
  unfold f_L_call
  rw [yd_14 ha, ht, if_pos h0, hs]
  rfl
theorem yd_15 {S : yS} {a b c : Int} (ha : zR a) : f_L_does S 15 a b c = if ¬ (y_breaks S a).1 = 0 then some ((y_breaks S a).1, 0, (y_breaks S a).2) else some (0, 0, (y_breaks S a).2) := by
  unfold f_L_does
  rw [zck_t (by decide), if_neg (by decide), if_neg (by decide), if_neg (by decide), if_neg (by decide), if_neg (by decide), if_neg (by decide), if_neg (by decide), if_neg (by decide), if_neg (by decide), if_neg (by decide), if_neg (by decide), if_neg (by decide), if_neg (by decide), if_neg (by decide), if_neg (by decide), if_pos rfl, zck_t ha]
  rfl
theorem yl_15 {S : yS} {a b c : Int} (ha : zR a) (ht : (y_breaks S a).1 = 0) : f_L_call S 15 a b c = some (0, (y_breaks S a).2) := by
  unfold f_L_call
  rw [yd_15 ha, if_neg (not_not_intro ht)]
  rfl
theorem yx_15 {S : yS} {a b c t : Int} (ha : zR a) (ht : (y_breaks S a).1 = t) (h0 : ¬ t = 0) (hs : (y_breaks S a).2 = S) : f_L_call S 15 a b c = some (yCode t 0, S) := by
  unfold f_L_call
  rw [yd_15 ha, ht, if_pos h0, hs]
  rfl
theorem yd_16 {S : yS} {a b c : Int} (ha : zR a) : f_L_does S 16 a b c = if ¬ (y_mend S a).1 = 0 then some ((y_mend S a).1, 0, (y_mend S a).2.2) else some (0, (y_mend S a).2.1, (y_mend S a).2.2) := by
  unfold f_L_does
  rw [zck_t (by decide), if_neg (by decide), if_neg (by decide), if_neg (by decide), if_neg (by decide), if_neg (by decide), if_neg (by decide), if_neg (by decide), if_neg (by decide), if_neg (by decide), if_neg (by decide), if_neg (by decide), if_neg (by decide), if_neg (by decide), if_neg (by decide), if_neg (by decide), if_neg (by decide), if_pos rfl, zck_t ha]
  rfl
theorem yl_16 {S : yS} {a b c : Int} (ha : zR a) (ht : (y_mend S a).1 = 0) : f_L_call S 16 a b c = some ((y_mend S a).2.1, (y_mend S a).2.2) := by
  unfold f_L_call
  rw [yd_16 ha, if_neg (not_not_intro ht)]
  rfl
theorem yx_16 {S : yS} {a b c t : Int} (ha : zR a) (ht : (y_mend S a).1 = t) (h0 : ¬ t = 0) (hs : (y_mend S a).2.2 = S) : f_L_call S 16 a b c = some (yCode t 0, S) := by
  unfold f_L_call
  rw [yd_16 ha, ht, if_pos h0, hs]
  rfl
theorem yd_17 {S : yS} {a b c : Int} (ha : zR a) : f_L_does S 17 a b c = if ¬ (y_sewn S a).1 = 0 then some ((y_sewn S a).1, 0, S) else some (0, (y_sewn S a).2, S) := by
  unfold f_L_does
  rw [zck_t (by decide), if_neg (by decide), if_neg (by decide), if_neg (by decide), if_neg (by decide), if_neg (by decide), if_neg (by decide), if_neg (by decide), if_neg (by decide), if_neg (by decide), if_neg (by decide), if_neg (by decide), if_neg (by decide), if_neg (by decide), if_neg (by decide), if_neg (by decide), if_neg (by decide), if_neg (by decide), zck_t ha]
  rfl
theorem yl_17 {S : yS} {a b c : Int} (ha : zR a) (ht : (y_sewn S a).1 = 0) : f_L_call S 17 a b c = some ((y_sewn S a).2, S) := by
  unfold f_L_call
  rw [yd_17 ha, if_neg (not_not_intro ht)]
  rfl
theorem yx_17 {S : yS} {a b c t : Int} (ha : zR a) (ht : (y_sewn S a).1 = t) (h0 : ¬ t = 0) (hs : S = S) : f_L_call S 17 a b c = some (yCode t 0, S) := by
  unfold f_L_call
  rw [yd_17 ha, ht, if_pos h0, hs]
  rfl
theorem yd_0 {S : yS} {a b c : Int} (ha : zR a) (hb : zR b) (hc : c = 0 ∨ c = 1) : f_L_does S 0 a b c = if ¬ (y_field S a b c).1 = 0 then some ((y_field S a b c).1, 0, (y_field S a b c).2.2) else some (0, (y_field S a b c).2.1, (y_field S a b c).2.2) := by
  unfold f_L_does f_L_does_98
  rcases hc with q | q
  · subst q
    rw [zck_t (by decide), if_pos rfl, zck_t (by decide), if_neg (by decide), zck_t (by decide), zck_t ha, zck_t hb]
    rfl
  · subst q
    rw [zck_t (by decide), if_pos rfl, zck_t (by decide), if_pos rfl, zck_t (by decide), zck_t ha, zck_t hb]
    rfl
theorem yl_0 {S : yS} {a b c : Int} (ha : zR a) (hb : zR b) (hc : c = 0 ∨ c = 1) (ht : (y_field S a b c).1 = 0) : f_L_call S 0 a b c = some ((y_field S a b c).2.1, (y_field S a b c).2.2) := by
  unfold f_L_call
  rw [yd_0 ha hb hc, if_neg (not_not_intro ht)]
  rfl
theorem yx_0 {S : yS} {a b c t : Int} (ha : zR a) (hb : zR b) (hc : c = 0 ∨ c = 1) (ht : (y_field S a b c).1 = t) (h0 : ¬ t = 0) (hs : (y_field S a b c).2.2 = S) : f_L_call S 0 a b c = some (yCode t 0, S) := by
  unfold f_L_call
  rw [yd_0 ha hb hc, ht, if_pos h0, hs]
  rfl
theorem yx_7 {S : yS} {a b c t : Int} (ha : zR a) (ht : (y_covered S a).1 = t) (h0 : ¬ t = 0) : f_L_call S 7 a b c = some (yCode t 0, S) := by
  unfold f_L_call f_L_does
  rw [zck_t (by decide), if_neg (by decide), if_neg (by decide), if_neg (by decide), if_neg (by decide), if_neg (by decide), if_neg (by decide), if_neg (by decide), if_pos rfl, zck_t ha]
  simp only [zlt]
  rw [ht, if_pos h0]
  rfl
