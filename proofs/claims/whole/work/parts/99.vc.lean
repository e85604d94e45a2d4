/-! the end: the four turns, the claim -/
theorem lw_all : lw_F := ⟨fun _ _ _ _ _ _ _ _ _ _ hI hN hx hu hn => lc_write hI hN hx hu hn, fun _ _ _ _ _ _ _ _ _ _ hI hN hx hu hn => lc_read hI hN hx hu hn, fun _ _ _ _ _ _ _ _ _ _ hI hN hx hu hn => lc_draw hI hN hx hu hn, fun _ _ _ _ _ _ _ _ _ _ hI hN hx hu hn => lc_reduce hI hN hx hu hn⟩
theorem i_vc : Claimed_1_1 ∧ Claimed_1_2 := lw_claim lw_all
