/-! THE LAW'S LOOP -/
theorem ev_main {L : Nat} (hL : L ≤ 3072) (xs : Nat → Int32) : ev_T 14 190 18 [some (.ref 502), some (.ref 1000), some (.ref 1033), some (.int 0)] [] (1057, 55, ev_upd (ev_upd (ev_I0 L) 1023 0 3) 1033 19 3, ev_A0 xs) (ev_Pi (fun z I A => z = 1)) := sorry
