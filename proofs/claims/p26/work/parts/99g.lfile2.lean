/-! ===== files, as the law tells them ===== -/
theorem yFault_b {S : yS} (h : yWf S) : (-1 ≤ y_fault S ∧ y_fault S ≤ S.2.2.1.1) ∧ zR (y_fault S) ∧ zR (y_reads S) := by
  obtain ⟨-, -, ⟨hl, hfm, hb⟩, -⟩ := h
  have h1 := yRd_le (fm := S.2.2.1.2.1) (b := S.2.2.1.2.2) hl.1 S.2.2.1.1.toNat 0 0
  obtain ⟨h2, h3⟩ := qRd_b (b := S.2.2.1.2.2) hfm hl S.2.2.1.1.toNat 0 0 (Int.le_refl 0) (by omega) (Int.le_refl 0) (Int.le_refl 0)
  unfold y_fault y_reads yRead
  omega
theorem yl_wr {S : yS} {dv : Int → Int} {B p4 : Int} (h : yLv S dv B) : ∃ S' dv', f_L_files_20 S S dv p4 = some (1, S', S', dv') ∧ yLv S' dv' B := by
  obtain ⟨hW, d0, d1, d2, d3, d4, d5, d5z, d6⟩ := id h
  obtain ⟨hp, hl, hwf, hpc⟩ := yC_ok hW.1 hW.2.1
  obtain ⟨fm, ef, f0, f1⟩ := yl_some (x := p4) (n := 2) (by omega)
  have hfm : fm = 0 ∨ fm = 1 := by omega
  have hW' := yW_write (p1 := fm) hW
  have hlen := yFile_len hW hfm
  have hfl := qFile_len hfm hwf
  have hge : ((yC S.1 S.2.1).length : Int) ≤ qSum qPc (yC S.1 S.2.1) := by
    have key : ∀ C : List qC, (∀ m ∈ C, qWf S.1.1 m) → (C.length : Int) ≤ qSum qPc C := by
      intro C
      induction C with
      | nil => intro _; exact Int.le_refl 0
      | cons m C ih =>
        intro hC
        have := qPc_b (hC m (List.mem_cons.mpr (Or.inl rfl)))
        have := ih (fun x hx => hC x (List.mem_cons.mpr (Or.inr hx)))
        rw [qSum_cons, List.length_cons]
        omega
    exact key _ hwf
  have e : y_write S fm = (0, ((yFile fm (yC S.1 S.2.1)).length : Int) + 1, S.1, S.2.1, (((yFile fm (yC S.1 S.2.1)).length : Int) + 1, fm, yByt fm (yC S.1 S.2.1)), S.2.2.2) := by
    unfold y_write
    rw [if_neg (not_not_intro hfm)]
  have ec : f_L_call S 9 fm 0 0 = some ((y_write S fm).2.1, (y_write S fm).2.2) := yl_9 (by omega) (by rw [e])
  rw [e] at ec hW'
  have hR := yRead_w hW.1 hW.2.1 hfm
  have hN : (2 + fm) * ((yC S.1 S.2.1).length : Int) + 1 ≤ ((yFile fm (yC S.1 S.2.1)).length : Int) + 1 ∧ 0 ≤ (2 + fm) * ((yC S.1 S.2.1).length : Int) := by
    show (2 + fm) * ((yC S.1 S.2.1).length : Int) + 1 ≤ ((qFile fm (yC S.1 S.2.1)).length : Int) + 1 ∧ _
    rcases hfm with q | q
    · subst q
      rw [if_pos rfl] at hfl
      omega
    · subst q
      rw [if_neg (by decide)] at hfl
      omega
  have hs0 := qSum_b (g := qIsK 0) (M := 1) (C := yC S.1 S.2.1) (by omega) (fun m hm => qIsK_b)
  refine ⟨(S.1, S.2.1, (((yFile fm (yC S.1 S.2.1)).length : Int) + 1, fm, yByt fm (yC S.1 S.2.1)), S.2.2.2), zup dv 2 (((yFile fm (yC S.1 S.2.1)).length : Int) + 1), ?_, hW', ?_, ?_, ?_, ?_, ?_, ?_, ?_, ?_⟩
  · unfold f_L_files_20
    rw [ef, zb1_e, yl_both ec (by show zR (((yFile fm (yC S.1 S.2.1)).length : Int) + 1); omega), zb3_e, zlt_e, zlt_e, zup_s]
    unfold y_commands y_fault y_reads
    dsimp only
    rw [zck_t (by omega), if_neg (by omega), zlt_e, hR]
    dsimp only
    rw [zck_t (by decide), if_pos rfl, zlt_e, zlt_e]
    have c0 : y_count (S.1, S.2.1, (((yFile fm (yC S.1 S.2.1)).length : Int) + 1, fm, yByt fm (yC S.1 S.2.1)), S.2.2.2) 0 = (0, qSum (qIsK 0) (yC S.1 S.2.1)) := by unfold y_count; rw [if_neg (by omega)]
    rw [c0, zck_t rfl]
    dsimp only
    rw [zck_t (by omega), if_pos rfl]
  · rw [zup_n (by omega)]; exact d0
  · rw [zup_n (by omega)]; exact d1
  · rw [zup_s]
  · rw [zup_n (by omega)]; exact d3
  · intro z
    obtain ⟨x1, x2, x3⟩ := d4 z
    rw [zup_n (by omega), zup_n (by omega)]
    refine ⟨x1, x2, fun i i0 i1 => ?_⟩
    rw [zup_n (by omega)]
    exact x3 i i0 i1
  · intro g g0 g1
    rw [zup_n (by omega), zup_n (by omega)]
    exact d5 g g0 g1
  · intro g g0 g1
    have hn : 0 ≤ S.1.1 := hW.1.1.1.1
    replace g0 : S.1.1 ≤ g := g0
    rw [zup_n (by omega)]
    exact d5z g g0 g1
  · exact d6
theorem yl_files {S : yS} {dv : Int → Int} {B p3 p4 : Int} (h : yLv S dv B) : ∃ S' dv', f_L_files S S dv p3 p4 = some (1, S', S', dv') ∧ yLv S' dv' B := by
  obtain ⟨hW, d0, d1, d2, d3, d4, d5, d5z, d6⟩ := id h
  have hl : 0 ≤ S.2.2.1.1 ∧ S.2.2.1.1 ≤ 49924 := hW.2.2.1.1
  have hby := hW.2.2.1.2.2
  obtain ⟨hF, hFR, -⟩ := yFault_b hW
  obtain ⟨how, eh, h0, h1⟩ := yl_some (x := p3) (n := 6) (by omega)
  unfold f_L_files
  rw [eh, zb1_e, zck_t (by omega)]
  by_cases c1 : how < 2
  · rw [if_pos c1]
    exact yl_wr h
  rw [if_neg c1, zck_t (by omega)]
  by_cases c2 : dv 2 = 0
  · rw [if_pos c2]
    exact yl_wr h
  rw [if_neg c2, zck_t (by omega)]
  by_cases c3 : 5 ≤ how
  · rw [if_pos c3]
    obtain ⟨t, et, t0, t1⟩ := yl_some (x := p4) (n := dv 2 + 1) (by omega)
    have hW' := yW_shorten (p1 := t) hW
    have e : y_shorten S t = (0, S.2.2.1.1, S.1, S.2.1, (t, S.2.2.1.2), S.2.2.2) := by
      unfold y_shorten
      rw [if_neg (by omega)]
    have ec : f_L_call S 12 t 0 0 = some ((y_shorten S t).2.1, (y_shorten S t).2.2) := yl_12 (by omega) (by rw [e])
    rw [e] at ec hW'
    replace hW' : yWf (S.1, S.2.1, (t, S.2.2.1.2), S.2.2.2) := hW'
    replace ec : f_L_call S 12 t 0 0 = some (S.2.2.1.1, (S.1, S.2.1, (t, S.2.2.1.2), S.2.2.2)) := ec
    obtain ⟨hF', hFR', -⟩ := yFault_b hW'
    replace hF' : -1 ≤ y_fault (S.1, S.2.1, (t, S.2.2.1.2), S.2.2.2) ∧ y_fault (S.1, S.2.1, (t, S.2.2.1.2), S.2.2.2) ≤ t := hF'
    refine ⟨(S.1, S.2.1, (t, S.2.2.1.2), S.2.2.2), zup dv 2 t, ?_, hW', ?_, ?_, ?_, ?_, ?_, ?_, ?_, ?_⟩
    · rw [et, zb1_e, zlt_e, yl_both ec (by omega), zb3_e, zck_t (by omega), if_pos d2.symm, zlt_e, zck_t (by omega), if_neg (by omega), zck_t (by omega)]
      by_cases c4 : y_fault S = -1
      · rw [if_pos c4, zck_t (by omega)]
        by_cases c5 : t = S.2.2.1.1
        · rw [if_pos c5]
          unfold f_L_files_288 f_L_files_301 f_L_files_304 f_L_files_309
          have e2 : y_fault (S.1, S.2.1, (t, S.2.2.1.2), S.2.2.2) = -1 := by rw [c5]; exact c4
          rw [e2, zlt_e, zck_t (by decide), if_pos rfl, zck_t (by decide), if_pos rfl, zlt_e, zck_t (Or.inr rfl)]
        · rw [if_neg c5]
          have e2 : ¬ y_fault (S.1, S.2.1, (t, S.2.2.1.2), S.2.2.2) = -1 := by
            intro q
            exact c5 (yRd_one (fm := S.2.2.1.2.1) (b := S.2.2.1.2.2) t0 hl.1 t.toNat S.2.2.1.1.toNat 0 0 0 (Int.le_refl 0) q c4)
          unfold f_L_files_288 f_L_files_301 f_L_files_304 f_L_files_309
          rw [zlt_e, zck_t hFR', if_neg e2, zck_t (by decide), if_pos rfl, zlt_e, zck_t (Or.inr rfl)]
      · rw [if_neg c4]
        unfold f_L_files_304 f_L_files_309
        rw [zlt_e, zck_t (Or.inr rfl)]
    · rw [zup_n (by omega)]; exact d0
    · rw [zup_n (by omega)]; exact d1
    · rw [zup_s]
    · rw [zup_n (by omega)]; exact d3
    · intro z
      obtain ⟨x1, x2, x3⟩ := d4 z
      rw [zup_n (by omega), zup_n (by omega)]
      refine ⟨x1, x2, fun i i0 i1 => ?_⟩
      rw [zup_n (by omega)]
      exact x3 i i0 i1
    · intro g g0 g1
      rw [zup_n (by omega), zup_n (by omega)]
      exact d5 g g0 g1
    · intro g g0 g1
      have hn : 0 ≤ S.1.1 := hW.1.1.1.1
      replace g0 : S.1.1 ≤ g := g0
      rw [zup_n (by omega)]
      exact d5z g g0 g1
    · exact d6
  · rw [if_neg c3]
    obtain ⟨p, ep, p0, p1⟩ := yl_some (x := p4) (n := dv 2) (by omega)
    obtain ⟨v, ev, v0, v1⟩ := yl_some (x := ysr p4 11) (n := 256) (by omega)
    have hbp := hby p p0 (by omega)
    have hW' := yW_damage (p1 := p) (p2 := v) hW
    have e : y_damage S p v = (0, S.2.2.1.2.2 p, S.1, S.2.1, (S.2.2.1.1, S.2.2.1.2.1, zup S.2.2.1.2.2 p v), S.2.2.2) := by
      unfold y_damage
      rw [if_neg (by omega), if_neg (by omega)]
    have ec : f_L_call S 11 p v 0 = some ((y_damage S p v).2.1, (y_damage S p v).2.2) := yl_11 (by omega) (by omega) (by rw [e])
    rw [e] at ec hW'
    replace hW' : yWf (S.1, S.2.1, (S.2.2.1.1, S.2.2.1.2.1, zup S.2.2.1.2.2 p v), S.2.2.2) := hW'
    replace ec : f_L_call S 11 p v 0 = some (S.2.2.1.2.2 p, (S.1, S.2.1, (S.2.2.1.1, S.2.2.1.2.1, zup S.2.2.1.2.2 p v), S.2.2.2)) := ec
    obtain ⟨hF', hFR', -⟩ := yFault_b hW'
    replace hF' : -1 ≤ y_fault (S.1, S.2.1, (S.2.2.1.1, S.2.2.1.2.1, zup S.2.2.1.2.2 p v), S.2.2.2) ∧ y_fault (S.1, S.2.1, (S.2.2.1.1, S.2.2.1.2.1, zup S.2.2.1.2.2 p v), S.2.2.2) ≤ S.2.2.1.1 := hF'
    have hd : y_fault S = -1 → (y_fault (S.1, S.2.1, (S.2.2.1.1, S.2.2.1.2.1, zup S.2.2.1.2.2 p v), S.2.2.2) = -1 ↔ v = S.2.2.1.2.2 p) := fun z => yRead_d (fm := S.2.2.1.2.1) hl.1 ⟨p0, by omega⟩ hby (by omega) z
    have hba : y_byteAt (S.1, S.2.1, (S.2.2.1.1, S.2.2.1.2.1, zup S.2.2.1.2.2 p v), S.2.2.2) p = (0, v) := by
      rw [yq_byteAt (S := (S.1, S.2.1, (S.2.2.1.1, S.2.2.1.2.1, zup S.2.2.1.2.2 p v), S.2.2.2)) ⟨p0, by show p < S.2.2.1.1; omega⟩]
      show (0, zup S.2.2.1.2.2 p v p) = ((0, v) : Int × Int)
      rw [zup_s]
    refine ⟨(S.1, S.2.1, (S.2.2.1.1, S.2.2.1.2.1, zup S.2.2.1.2.2 p v), S.2.2.2), dv, ?_, hW', d0, d1, d2, d3, d4, d5, d5z, d6⟩
    generalize (S.1, S.2.1, (S.2.2.1.1, S.2.2.1.2.1, zup S.2.2.1.2.2 p v), S.2.2.2) = S' at *
    have fin : f_L_files_206 S' S' dv = some (1, S', S', dv) := by
      unfold f_L_files_206
      rw [zlt_e, zck_t (by omega), if_neg (by omega)]
    rw [ep, zb1_e, ev, zb1_e, zck_t (by omega), zlt_e, yq_byteAt (S := S) ⟨p0, by omega⟩, zck_t rfl]
    dsimp only
    rw [zlt_e, zlt_e, yl_both ec (by omega), zb3_e, zck_t hFR]
    by_cases c4 : y_fault S = -1
    · rw [if_pos c4]
      unfold f_L_files_153
      rw [zck_t (by omega), if_pos rfl, zck_t (by omega), zlt_e, hba, zck_t rfl]
      dsimp only
      rw [zck_t (by omega), if_pos rfl, zck_t (by decide), if_neg (by decide), zlt_e, zck_t hFR']
      have hd := hd c4
      by_cases c5 : v = S.2.2.1.2.2 p
      · rw [if_pos (hd.mpr c5)]
        unfold f_L_files_191 f_L_files_203
        rw [zck_t (by omega), if_pos c5, zck_t (by decide), if_pos rfl]
        exact fin
      · rw [if_neg (fun z => c5 (hd.mp z))]
        unfold f_L_files_191 f_L_files_203
        rw [zck_t (by omega), if_neg c5, zck_t (by decide), if_pos rfl]
        exact fin
    · rw [if_neg c4]
      unfold f_L_files_153
      rw [zck_t (by omega), if_pos rfl, zck_t (by omega), zlt_e, hba, zck_t rfl]
      dsimp only
      rw [zck_t (by omega), if_pos rfl, zck_t (by decide), if_pos rfl]
      exact fin
