/-! ===== fields ===== -/
theorem yCz (n : Nat) : qCt (fun _ => 0) (n : Int) = 0 := by
  induction n with
  | zero => exact qCt_0
  | succ n ih => rw [show ((n + 1 : Nat) : Int) = (n : Int) + 1 by omega, qCt_s (by omega), ih]; rfl
theorem yCel0 {f : yF} {i : Int} (h : yP f i = []) : ∀ v, yCel f i v = 0 := by
  intro v
  unfold yCel
  rw [h]
  exact if_neg (fun z => by cases z)
theorem ySm0 {F : Int → Int} (h : ∀ y, 0 ≤ y → y < 32 → F y = 0) : qSm F 0 32 = 0 := by
  have := qSm_b (F := F) (lo := 0) (M := 0) 32 (fun y a b => by have := h y a (by omega); omega)
  rw [show (0 : Int) + ((32 : Nat) : Int) = 32 by rfl] at this
  omega
theorem yq_new {S : yS} {f : Int} (h : 0 ≤ f ∧ f < S.1.1) (hc : S.1.2.2.2.2.2.2.1 f = 0) (hl : S.1.2.2.2.1 f = 0 ∨ S.1.2.2.2.1 f = 1) : y_covered S f = (0, 0) ∧ y_touched S f = (0, 0) := by
  have hP : yP S.1 f = [] := by
    show qPts (S.1.2.2.2.1 f) (S.1.2.2.2.2.2.2.1 f) _ _ _ _ _ _ _ = []
    rw [hc]
    rcases hl with q | q
    · rw [q]; exact qPts_few (by decide)
    · rw [q]; exact qPts_noc (by decide)
  constructor
  · unfold y_covered
    rw [if_neg (by omega)]
    by_cases z : S.1.2.2.2.1 f = 0
    · rw [if_neg (not_not_intro z)]
      have bA := qSm_b (F := qFA (S.1.2.2.2.2.1 f) (S.1.2.2.2.2.2.1 f) (S.1.2.2.2.2.2.2.1 f)) (lo := 0) (M := 32) 32 (fun y _ _ => qRA_b (n := 32))
      rw [show (0 : Int) + ((32 : Nat) : Int) = 32 by rfl] at bA
      rw [ySm0 (F := qFB (S.1.2.2.2.2.1 f) (S.1.2.2.2.2.2.1 f) (S.1.2.2.2.2.2.2.1 f) (S.1.2.2.2.2.2.2.2.1 f) (yCel S.1 f)) (fun y _ _ => qFB_0 (fun v _ _ => yCel0 hP v)), qV_0 (by omega)]
    · rw [if_pos z]
  · have e := qCt_congr (a := yCel S.1 f) (b := fun _ => 0) 1024 (fun v _ _ => yCel0 hP v)
    rw [yCz 1024] at e
    rw [yq_touched h]
    exact congrArg (Prod.mk 0) e
theorem yLv_cong {S : yS} {dv dv' : Int → Int} {B : Int} (h : yLv S dv B) (e : ∀ j, dv' j = dv j) : yLv S dv' B := by
  have : dv' = dv := funext e
  rw [this]
  exact h
theorem zup_id {dv : Int → Int} {i : Int} : zup dv i (dv i + 0) = dv := by
  funext j
  by_cases q : j = i
  · rw [q, zup_s, Int.add_zero]
  · rw [zup_n q]
theorem yl_newf {S : yS} {dv : Int → Int} {B p4 col : Int} (h : yLv S dv B) (hcol : col = 0 ∨ col = 1) : ∃ S' dv', f_L_fields_34 S S dv p4 col = some (1, S', S', dv') ∧ yLv S' dv' B := by
  obtain ⟨hW, d0, d1, d2, d3, d4, d5, d5z, d6⟩ := id h
  have hn : 0 ≤ S.1.1 ∧ S.1.1 ≤ 8 := hW.1.1.1
  obtain ⟨a, ea, a0, a1⟩ := yl_some (x := ysr p4 2) (n := 4) (by omega)
  obtain ⟨b, eb, b0, b1⟩ := yl_some (x := ysr p4 5) (n := 3) (by omega)
  unfold f_L_fields_34
  rw [ea, zb1_e, eb, zb1_e]
  by_cases full : 8 ≤ S.1.1
  · have e : y_field S a b col = (2, 0, S) := by
      unfold y_field
      rw [if_neg (by omega), if_neg (by omega), if_pos full]
    have ec : f_L_call S 0 a b col = some (yCode 2 0, S) := yx_0 (by omega) (by omega) hcol (by rw [e]) (by decide) (by rw [e])
    refine ⟨S, dv, ?_, h⟩
    rw [yl_both ec (by decide), zb3_e, zck_t (by decide), if_pos (by decide)]
    unfold f_L_fields_83
    rw [zck_t (by decide), if_pos (by decide), zck_t (by omega), if_pos (by omega)]
  · have hf : y_field S a b col = (0, S.1.1, (S.1.1 + 1, zup S.1.2.1 S.1.1 a, zup S.1.2.2.1 S.1.1 b, zup S.1.2.2.2.1 S.1.1 col, zup S.1.2.2.2.2.1 S.1.1 (fun _ => 0), zup S.1.2.2.2.2.2.1 S.1.1 (fun _ => 0), zup S.1.2.2.2.2.2.2.1 S.1.1 0, zup S.1.2.2.2.2.2.2.2.1 S.1.1 2, zup S.1.2.2.2.2.2.2.2.2.1 S.1.1 6, zup S.1.2.2.2.2.2.2.2.2.2.1 S.1.1 0, zup S.1.2.2.2.2.2.2.2.2.2.2.1 S.1.1 0, zup S.1.2.2.2.2.2.2.2.2.2.2.2 S.1.1 0), S.2) := by
      unfold y_field
      rw [if_neg (by omega), if_neg (by omega), if_neg full]
    have hW' := yW_field (p1 := a) (p2 := b) (p3 := col) hW hcol
    have ec : f_L_call S 0 a b col = some ((y_field S a b col).2.1, (y_field S a b col).2.2) := yl_0 (by omega) (by omega) hcol (by rw [hf])
    have q1 : (y_field S a b col).2.1 = S.1.1 := by rw [hf]
    have q2 : (y_field S a b col).2.2.1.1 = S.1.1 + 1 := by rw [hf]
    have q3 : (y_field S a b col).2.2.1.2.2.2.1 = zup S.1.2.2.2.1 S.1.1 col := by rw [hf]
    have q4 : (y_field S a b col).2.2.1.2.2.2.2.2.2.1 = zup S.1.2.2.2.2.2.2.1 S.1.1 0 := by rw [hf]
    have q5 : (y_field S a b col).2.2.2 = S.2 := by rw [hf]
    rw [q1] at ec
    generalize (y_field S a b col).2.2 = S' at *
    obtain ⟨nc, nt⟩ := yq_new (S := S') (f := S.1.1) (by omega) (by rw [q4, zup_s]) (by rw [q3, zup_s]; exact hcol)
    refine ⟨S', zup (zup dv (14 + S.1.1) col) 0 (zup dv (14 + S.1.1) col 0 + 1), ?_, hW', ?_, ?_, ?_, ?_, ?_, ?_, ?_, ?_⟩
    · rw [yl_both ec (by omega), zb3_e, zck_t (by omega), if_neg (by omega), zck_t (by omega), zlt_e, zlt_e]
      unfold f_L_fields_83
      rw [zck_t (by omega), if_neg (by omega), zup_s, zup_n (by omega), zck_t (by omega), if_pos (by omega), zck_t (by omega), zlt_e, nc, zck_t rfl, zck_t yfc_R]
      dsimp only
      rw [if_pos (by decide), zck_t (by omega), zlt_e, nt, zck_t rfl]
      dsimp only
      rw [zck_t (by decide), if_pos rfl]
    · rw [zup_s, zup_n (by omega), q2, d0]
    · rw [zup_n (by omega), zup_n (by omega), q5]; exact d1
    · rw [zup_n (by omega), zup_n (by omega), q5]; exact d2
    · rw [zup_n (by omega), zup_n (by omega), q5]; exact d3
    · rw [q5]
      intro z
      obtain ⟨x1, x2, x3⟩ := d4 z
      rw [zup_n (by omega), zup_n (by omega), zup_n (by omega), zup_n (by omega)]
      refine ⟨x1, x2, fun i i0 i1 => ?_⟩
      rw [zup_n (by omega), zup_n (by omega)]
      exact x3 i i0 i1
    · intro f f0 f1
      rw [q2] at f1
      have a1 : zup (zup dv (14 + S.1.1) col) 0 (zup dv (14 + S.1.1) col 0 + 1) (6 + f) = dv (6 + f) := by rw [zup_n (by omega), zup_n (by omega)]
      have a2 : zup (zup dv (14 + S.1.1) col) 0 (zup dv (14 + S.1.1) col 0 + 1) (14 + f) = zup dv (14 + S.1.1) col (14 + f) := zup_n (by omega)
      rw [q3, q4, a1, a2]
      by_cases z : f = S.1.1
      · rw [z, zup_s, zup_s, zup_s]
        exact ⟨d5z _ (by omega) (by omega), rfl⟩
      · rw [zup_n (show 14 + f ≠ 14 + S.1.1 by omega), zup_n z, zup_n z]
        exact d5 f f0 (by omega)
    · intro f f0 f1
      rw [q2] at f0
      rw [zup_n (by omega), zup_n (by omega)]
      exact d5z f (by omega) f1
    · rw [q5]
      exact d6
theorem yl_newf2 {S : yS} {dv : Int → Int} {B p4 : Int} (h : yLv S dv B) : ∃ S' dv', f_L_fields_20 S S dv p4 = some (1, S', S', dv') ∧ yLv S' dv' B := by
  obtain ⟨a, ea, a0, a1⟩ := yl_some (x := p4) (n := 4) (by omega)
  unfold f_L_fields_20
  rw [ea, zb1_e, zck_t (by omega)]
  by_cases z : a = 0
  · rw [if_pos z]
    exact yl_newf h (Or.inr rfl)
  · rw [if_neg z]
    exact yl_newf h (Or.inl rfl)
theorem yl_corner {S : yS} {dv : Int → Int} {B f x y : Int} (h : yLv S dv B) (hf : 0 ≤ f ∧ f < S.1.1) (hx : 0 ≤ x ∧ x < 20) (hy : 0 ≤ y ∧ y < 14) : ∃ S' dv', (zb3 (f_L_both S S 1 f x y) fun r115 s116 s117 =>
        zck (0 ≤ (6 + f) ∧ (6 + f) < 26) <|
        zck (zR r115) <|
        if r115 < 0 then
          f_L_fields_206 s116 s117 dv f r115 (6 + f) (dv (6 + f)) 0
        else
          f_L_fields_206 s116 s117 dv f r115 (6 + f) (dv (6 + f)) 1) = some (1, S', S', dv') ∧ yLv S' dv' B := by
  obtain ⟨hW, d0, d1, d2, d3, d4, d5, d5z, d6⟩ := id h
  have hn : 0 ≤ S.1.1 ∧ S.1.1 ≤ 8 := hW.1.1.1
  have hFd := hW.1.2 f hf.1 hf.2
  obtain ⟨c1, c2, c3, -⟩ := hFd
  obtain ⟨e6, e14⟩ := d5 f hf.1 hf.2
  by_cases full : S.1.2.2.2.2.2.2.1 f < (if S.1.2.2.2.1 f = 0 then 8 else 4)
  · have hW' := yW_corner (p1 := f) (p2 := x) (p3 := y) hW
    have e : y_corner S f x y = (0, S.1.2.2.2.2.2.2.1 f + 1, (S.1.1, S.1.2.1, S.1.2.2.1, S.1.2.2.2.1, zup S.1.2.2.2.2.1 f (zup (S.1.2.2.2.2.1 f) (S.1.2.2.2.2.2.2.1 f) x), zup S.1.2.2.2.2.2.1 f (zup (S.1.2.2.2.2.2.1 f) (S.1.2.2.2.2.2.2.1 f) y), zup S.1.2.2.2.2.2.2.1 f (S.1.2.2.2.2.2.2.1 f + 1), S.1.2.2.2.2.2.2.2), S.2) := by
      unfold y_corner
      rw [if_neg (by omega), if_neg (by omega), if_neg (not_not_intro full)]
    have ec : f_L_call S 1 f x y = some ((y_corner S f x y).2.1, (y_corner S f x y).2.2) := yl_1 (by omega) (by omega) (by omega) (by rw [e])
    have q1 : (y_corner S f x y).2.1 = S.1.2.2.2.2.2.2.1 f + 1 := by rw [e]
    have q2 : (y_corner S f x y).2.2.1.1 = S.1.1 := by rw [e]
    have q3 : (y_corner S f x y).2.2.1.2.2.2.1 = S.1.2.2.2.1 := by rw [e]
    have q4 : (y_corner S f x y).2.2.1.2.2.2.2.2.2.1 = zup S.1.2.2.2.2.2.2.1 f (S.1.2.2.2.2.2.2.1 f + 1) := by rw [e]
    have q5 : (y_corner S f x y).2.2.2 = S.2 := by rw [e]
    rw [q1] at ec
    generalize (y_corner S f x y).2.2 = S' at *
    refine ⟨S', zup dv (6 + f) (dv (6 + f) + 1), ?_, hW', ?_, ?_, ?_, ?_, ?_, ?_, ?_, ?_⟩
    · rw [yl_both ec (by omega), zb3_e, zck_t (by omega), zck_t (by omega), if_neg (by omega)]
      unfold f_L_fields_206
      rw [zck_t (by omega), zlt_e, zck_t (by omega), if_neg (by omega), zck_t (by omega), zup_s, zck_t (by omega), if_pos (by omega)]
    · rw [zup_n (by omega), q2, d0]
    · rw [zup_n (by omega), q5]; exact d1
    · rw [zup_n (by omega), q5]; exact d2
    · rw [zup_n (by omega), q5]; exact d3
    · rw [q5]
      intro z
      obtain ⟨x1, x2, x3⟩ := d4 z
      rw [zup_n (by omega), zup_n (by omega)]
      refine ⟨x1, x2, fun i i0 i1 => ?_⟩
      rw [zup_n (by omega)]
      exact x3 i i0 i1
    · intro g g0 g1
      rw [q2] at g1
      rw [q3, q4, zup_n (show 14 + g ≠ 6 + f by omega)]
      obtain ⟨y1, y2⟩ := d5 g g0 g1
      by_cases z : g = f
      · rw [z, zup_s, zup_s]
        rw [z] at y2
        exact ⟨by omega, y2⟩
      · rw [zup_n (by omega), zup_n z]
        exact ⟨y1, y2⟩
    · intro g g0 g1
      rw [q2] at g0
      rw [zup_n (by omega)]
      exact d5z g (by omega) g1
    · rw [q5]
      exact d6
  · have e : y_corner S f x y = (2, 0, S) := by
      unfold y_corner
      rw [if_neg (by omega), if_neg (by omega), if_pos full]
    have ec : f_L_call S 1 f x y = some (yCode 2 0, S) := yx_1 (by omega) (by omega) (by omega) (by rw [e]) (by decide) (by rw [e])
    refine ⟨S, dv, ?_, h⟩
    rw [yl_both ec (by decide), zb3_e, zck_t (by omega), zck_t (by decide), if_pos (by decide)]
    unfold f_L_fields_206
    rw [zck_t (by omega), zlt_e, zup_id, zck_t (by decide), if_pos (by decide), zck_t (by omega), zck_t (by omega), zck_t (by omega)]
    rcases c1 with q | q
    · rw [q] at e14 full
      rw [if_pos rfl] at full
      rw [if_neg (by omega)]
      unfold f_L_fields_239
      rw [zck_t (by omega), if_pos (by omega)]
    · have := c3 q
      rw [q] at e14 full
      rw [if_neg (by decide)] at full
      rw [if_pos (by omega)]
      unfold f_L_fields_239
      rw [zck_t (by omega), if_pos (by omega)]
theorem yl_sew {S : yS} {dv : Int → Int} {B f p4 un : Int} (h : yLv S dv B) (hf : 0 ≤ f ∧ f < S.1.1) (hu : un = 0 ∨ un = 1) : ∃ S' dv', f_L_fields_292 S S dv p4 f un = some (1, S', S', dv') ∧ yLv S' dv' B := by
  obtain ⟨hW, d0, d1, d2, d3, d4, d5, d5z, d6⟩ := id h
  have hn : 0 ≤ S.1.1 ∧ S.1.1 ≤ 8 := hW.1.1.1
  obtain ⟨a, ea, a0, a1⟩ := yl_some (x := ysr p4 3) (n := 8) (by omega)
  obtain ⟨b, eb, b0, b1⟩ := yl_some (x := ysr p4 6) (n := 11) (by omega)
  obtain ⟨c, ec, c0, c1⟩ := yl_some (x := ysr p4 8) (n := 12) (by omega)
  obtain ⟨d, ed, e0, e1⟩ := yl_some (x := ysr p4 10) (n := 4) (by omega)
  have hW' := yW_sew (p1 := f) (p2 := 1 + a) (p3 := 2 + b) (p4 := c) (p5 := d) (p6 := un) hW hu
  have e : y_sew S f (1 + a) (2 + b) c d un = (0, (S.1.1, S.1.2.1, S.1.2.2.1, S.1.2.2.2.1, S.1.2.2.2.2.1, S.1.2.2.2.2.2.1, S.1.2.2.2.2.2.2.1, zup S.1.2.2.2.2.2.2.2.1 f (1 + a), zup S.1.2.2.2.2.2.2.2.2.1 f (2 + b), zup S.1.2.2.2.2.2.2.2.2.2.1 f c, zup S.1.2.2.2.2.2.2.2.2.2.2.1 f d, zup S.1.2.2.2.2.2.2.2.2.2.2.2 f un), S.2) := by
    unfold y_sew
    rw [if_neg (by omega), if_neg (by omega), if_neg (by omega), if_neg (by omega), if_neg (by omega)]
  have q0 : (y_sew S f (1 + a) (2 + b) c d un).1 = 0 := by rw [e]
  have q2 : (y_sew S f (1 + a) (2 + b) c d un).2.1.1 = S.1.1 := by rw [e]
  have q3 : (y_sew S f (1 + a) (2 + b) c d un).2.1.2.2.2.1 = S.1.2.2.2.1 := by rw [e]
  have q4 : (y_sew S f (1 + a) (2 + b) c d un).2.1.2.2.2.2.2.2.1 = S.1.2.2.2.2.2.2.1 := by rw [e]
  have q5 : (y_sew S f (1 + a) (2 + b) c d un).2.2 = S.2 := by rw [e]
  have es : f_L_sew S f (1 + a) (2 + b) c d un = some (0, (y_sew S f (1 + a) (2 + b) c d un).2) := by
    unfold f_L_sew
    rw [q0, zck_t (by omega), zck_t hu, zck_t (by decide)]
    rfl
  generalize (y_sew S f (1 + a) (2 + b) c d un).2 = S' at *
  refine ⟨S', dv, ?_, hW', by rw [q2]; exact d0, by rw [q5]; exact d1, by rw [q5]; exact d2, by rw [q5]; exact d3, by rw [q5]; exact d4, by rw [q2, q3, q4]; exact d5, by rw [q2]; exact d5z, by rw [q5]; exact d6⟩
  unfold f_L_fields_292
  rw [ea, zb1_e, eb, zb1_e, ec, zb1_e, ed, zb1_e, es, zb2_e, zck_t (by decide), if_pos rfl, zb1_e, zb1_e, zb1_e, zb1_e, es, zb2_e, zck_t (by decide), if_pos rfl]
theorem yl_fields {S : yS} {dv : Int → Int} {B p3 p4 : Int} (h : yLv S dv B) : ∃ S' dv', f_L_fields S S dv p3 p4 = some (1, S', S', dv') ∧ yLv S' dv' B := by
  obtain ⟨hW, d0, d1, d2, d3, d4, d5, d5z, d6⟩ := id h
  have hn : 0 ≤ S.1.1 ∧ S.1.1 ≤ 8 := hW.1.1.1
  have hb : 0 ≤ S.2.1 ∧ S.2.1 ≤ 100 := hW.2.1
  obtain ⟨how, eh, h0, h1⟩ := yl_some (x := p3) (n := 16) (by omega)
  unfold f_L_fields
  rw [eh, zb1_e, zck_t (by omega)]
  by_cases c1 : how < 2
  · rw [if_pos c1]
    exact yl_newf2 h
  rw [if_neg c1, zck_t (by omega)]
  by_cases c2 : dv 0 = 0
  · rw [if_pos c2]
    exact yl_newf2 h
  rw [if_neg c2]
  obtain ⟨f, ef, f0, f1⟩ := yl_some (x := p4) (n := dv 0) (by omega)
  rw [ef, zb1_e, zck_t (by omega)]
  by_cases c3 : 11 ≤ how
  · rw [if_pos c3, zck_t (by omega)]
    by_cases c4 : 14 ≤ how
    · rw [if_pos c4, zck_t (by omega)]
      by_cases c5 : 15 ≤ how
      · rw [if_pos c5, zlt_e]
        obtain ⟨r, er, r0, r1⟩ := yl_some (x := p4) (n := 101) (by omega)
        rw [er, zb1_e, zlt_e, zup_s]
        have hW' := yW_bound (p1 := r) hW
        have e : y_bound S r = (0, S.2.1, S.1, r, S.2.2) := by
          unfold y_bound
          rw [if_neg (by omega)]
        have ec : f_L_call S 3 r 0 0 = some ((y_bound S r).2.1, (y_bound S r).2.2) := yl_3 (by omega) (by rw [e])
        rw [e] at ec hW'
        refine ⟨(S.1, r, S.2.2), zup dv 1 r, ?_, hW', ?_, ?_, ?_, ?_, ?_, ?_, ?_, ?_⟩
        · rw [yl_both ec (by show zR S.2.1; omega), zb3_e, zck_t (by show zR S.2.1 ∧ zR (dv 1); omega), if_pos (by show S.2.1 = dv 1; omega)]
        · rw [zup_n (by omega)]; exact d0
        · rw [zup_s]
        · rw [zup_n (by omega)]; exact d2
        · rw [zup_n (by omega)]; exact d3
        · intro z
          obtain ⟨x1, x2, x3⟩ := d4 z
          rw [zup_n (by omega), zup_n (by omega)]
          refine ⟨x1, x2, fun i i0 i1 => ?_⟩
          rw [zup_n (by omega)]
          exact x3 i i0 i1
        · intro g g0 g1
          rw [zup_n (by omega), zup_n (by omega)]
          exact d5 g g0 g1
        · intro g g0 g1
          replace g0 : S.1.1 ≤ g := g0
          rw [zup_n (by omega)]
          exact d5z g g0 g1
        · exact d6
      · rw [if_neg c5]
        obtain ⟨r, er, r0, r1⟩ := yl_some (x := ysr p4 4) (n := 110) (by omega)
        rw [er, zb1_e]
        by_cases full : qAny (fun i => decide (31 < max (S.1.2.2.2.2.1 f i) (S.1.2.2.2.2.2.1 f i) * (40 + r) / 100)) 0 (S.1.2.2.2.2.2.2.1 f) = true
        · have e : y_scale S f (40 + r) = (2, S) := by
            unfold y_scale
            rw [if_neg (by omega), if_neg (by omega), if_pos full]
          have ec : f_L_call S 2 f (40 + r) 0 = some (yCode 2 0, S) := yx_2 (by omega) (by omega) (by rw [e]) (by decide) (by rw [e])
          refine ⟨S, dv, ?_, h⟩
          rw [yl_both ec (by decide), zb3_e, zck_t (by decide), if_neg (by decide), zck_t (by decide), if_pos (by decide)]
          rfl
        · have hW' := yW_scale (p1 := f) (p2 := 40 + r) hW
          have e : y_scale S f (40 + r) = (0, (S.1.1, S.1.2.1, S.1.2.2.1, S.1.2.2.2.1, zup S.1.2.2.2.2.1 f (yRs (S.1.2.2.2.2.1 f) (S.1.2.2.2.2.2.2.1 f) (40 + r)), zup S.1.2.2.2.2.2.1 f (yRs (S.1.2.2.2.2.2.1 f) (S.1.2.2.2.2.2.2.1 f) (40 + r)), S.1.2.2.2.2.2.2), S.2) := by
            unfold y_scale
            rw [if_neg (by omega), if_neg (by omega), if_neg full]
          have ec : f_L_call S 2 f (40 + r) 0 = some (0, (y_scale S f (40 + r)).2) := yl_2 (by omega) (by omega) (by rw [e])
          have q2 : (y_scale S f (40 + r)).2.1.1 = S.1.1 := by rw [e]
          have q3 : (y_scale S f (40 + r)).2.1.2.2.2.1 = S.1.2.2.2.1 := by rw [e]
          have q4 : (y_scale S f (40 + r)).2.1.2.2.2.2.2.2.1 = S.1.2.2.2.2.2.2.1 := by rw [e]
          have q5 : (y_scale S f (40 + r)).2.2 = S.2 := by rw [e]
          generalize (y_scale S f (40 + r)).2 = S' at *
          refine ⟨S', dv, ?_, hW', by rw [q2]; exact d0, by rw [q5]; exact d1, by rw [q5]; exact d2, by rw [q5]; exact d3, by rw [q5]; exact d4, by rw [q2, q3, q4]; exact d5, by rw [q2]; exact d5z, by rw [q5]; exact d6⟩
          rw [yl_both ec (by decide), zb3_e, zck_t (by decide), if_pos rfl]
          rfl
    · rw [if_neg c4]
      obtain ⟨r, er, r0, r1⟩ := yl_some (x := ysr p4 14) (n := 2) (by omega)
      rw [er, zb1_e, zck_t (by omega)]
      by_cases z : r = 0
      · rw [if_pos z]
        exact yl_sew h (by omega) (Or.inr rfl)
      · rw [if_neg z]
        exact yl_sew h (by omega) (Or.inl rfl)
  · rw [if_neg c3]
    obtain ⟨x, ex, x0, x1⟩ := yl_some (x := ysr p4 3) (n := 20) (by omega)
    obtain ⟨y, ey, y0, y1⟩ := yl_some (x := ysr p4 7) (n := 14) (by omega)
    rw [ex, zb1_e, ey, zb1_e]
    exact yl_corner h (by omega) (by omega) (by omega)
