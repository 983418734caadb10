/-! ===== touched and covered ===== -/
theorem qCells_ct {a b : Int → Int} {S : List Int} (h1 : qCells a S) (h2 : qCells b S) : qCt a 1024 = qCt b 1024 := qCt_congr 1024 (fun v h0 h1' => (h1 v h0 h1').trans (h2 v h0 h1').symm)
theorem qCells_b {a : Int → Int} {S : List Int} (h : qCells a S) : 0 ≤ qCt a 1024 ∧ qCt a 1024 ≤ 1024 ∧ (qCt a 1024 = 0 → ∀ v, 0 ≤ v → v < 1024 → a v = 0) := qCt_b 1024 (fun v h0 h1 => by rw [h v h0 h1]; exact qInd_01)
