theorem pure_law (V : EV) (hV : vL V ≤ 3072) : ∃ hR, L_law V (h00 (vB V)) = some (1, hR) := sorry
