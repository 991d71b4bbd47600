theorem nz100 : nz 100 = true := by decide
theorem hund {j c : Nat} (hj : j < 16) (hc : c < 6) : nI (100 * j + c) / 100 = nI j ∧ nI (100 * j + c) - nI (100 * j + c) / 100 * 100 = nI c := by
  have e1 : nI (100 * j + c) / 100 = nI ((100 * j + c) / 100) := pk_div (d := 100) (by omega) (by omega) (by omega)
  have e2 : nI (100 * j + c) - nI (100 * j + c) / 100 * 100 = nI ((100 * j + c) % 100) := pk_rem (d := 100) (by omega) (by omega) (by omega)
  rw [e1] at e2 ⊢
  rw [e2]
  constructor
  · congr 1; omega
  · congr 1; omega
theorem sim_best : Sim_best := by
  intro tc told ts tg cc rc sz bars subj teach seats col cw rs rk rch mt row tp tape mc mr mm mbars msubj mteach mseats mcol mp mk mch mth mbt mopen hR
  have hR0 := hR
  obtain ⟨hrow, htext, ⟨rfl, rfl, rfl, n, r, z, ⟨hn1, hn6, rfl⟩, ⟨hr1, hr9, rfl⟩, ⟨hz, rfl⟩, hbars, hsec, hcw, hroom⟩, ⟨rfl, rfl, k, hk, rfl, hch⟩⟩ := hR
  unfold m_X5_best m_X6_best
  obtain ⟨f, m, o2, eX, eM, hf⟩ := best_rel hn6 hr9 hz hk hbars hsec hcw hch rk mbt mopen
  simp only [fitX hn6 hz hk hsec.ok hcw hch, bk1, eX, eM, bk3, bk4]
  rcases hf with rfl | ⟨j, c, hj, hc, hmv, rfl, rfl⟩
  · rw [if_pos rfl, if_pos (by decide)]
    exact ⟨_, _, _, _, _, _, _, _, _, _, _, rfl, rfl, hR0⟩
  · have hv : okMv n (nI c) (nI c) := Or.inr ⟨c, hc, rfl, rfl⟩
    obtain ⟨d1, d2⟩ := hund (show j < 16 by omega) (show c < 6 by omega)
    rw [if_neg (nI_nm2 (by omega)), if_neg (nI_neg (by omega)), d2, d1]
    simp only [nz100, gd_tt, moved_eq hn6 hz hk hj hsec.ok hcw hv.cls, bk3, bitCount_eq, bk1, tell1_eq, notes1_eq, bk2]
    exact ⟨_, _, _, _, _, _, _, _, _, _, _, rfl, rfl, RRow_1 _ _ _, hR0.2⟩
