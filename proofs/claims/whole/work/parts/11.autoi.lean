def U_X11_doCommand (x1 : Int32) (mA : Nat) (M : Mem) : Mem := if (V_X11_of x1 (10 : Int32) mA M) = 0 then M else (if (M.1 262 x1.toNatClampNeg) = 0 then (if (M.1 263 x1.toNatClampNeg) = 0 then M else (if (V_X11_of x1 (10 : Int32) mA M) = (2 : Int32) then (let M26_0 : Mem := if (M.1 mA (16 : Int32).toNatClampNeg) = x1 then (setI (setI (setI (setI M mA (16 : Int32).toNatClampNeg (-1 : Int32)) mA (17 : Int32).toNatClampNeg (M.1 264 x1.toNatClampNeg)) mA (18 : Int32).toNatClampNeg (M.1 262 x1.toNatClampNeg)) mA (19 : Int32).toNatClampNeg (M.1 263 x1.toNatClampNeg)) else M; M26_0) else (if (V_X11_in ((V_X11_of x1 (0 : Int32) mA M) + (M.1 262 x1.toNatClampNeg)) (0 : Int32) (14 : Int32) M) = 0 then M else (if (V_X11_in ((V_X11_of x1 (1 : Int32) mA M) + (M.1 263 x1.toNatClampNeg)) (0 : Int32) (8 : Int32) M) = 0 then M else (if (V_X11_robotAt ((V_X11_of x1 (0 : Int32) mA M) + (M.1 262 x1.toNatClampNeg)) ((V_X11_of x1 (1 : Int32) mA M) + (M.1 263 x1.toNatClampNeg)) (-1 : Int32) mA M) < 0 then (let Mc2 : Mem := U_X11_set x1 (1 : Int32) ((V_X11_of x1 (1 : Int32) mA M) + (M.1 263 x1.toNatClampNeg)) mA (U_X11_set x1 (0 : Int32) ((V_X11_of x1 (0 : Int32) mA M) + (M.1 262 x1.toNatClampNeg)) mA M); let M19_0 : Mem := if (Mc2.1 mA (16 : Int32).toNatClampNeg) = x1 then (setI (setI Mc2 mA (14 : Int32).toNatClampNeg ((V_X11_of x1 (0 : Int32) mA M) + (M.1 262 x1.toNatClampNeg))) mA (15 : Int32).toNatClampNeg ((V_X11_of x1 (1 : Int32) mA M) + (M.1 263 x1.toNatClampNeg))) else (if 0 ≤ (Mc2.1 mA (16 : Int32).toNatClampNeg) then Mc2 else (if (Mc2.1 mA (14 : Int32).toNatClampNeg) = ((V_X11_of x1 (0 : Int32) mA M) + (M.1 262 x1.toNatClampNeg)) then (if (Mc2.1 mA (15 : Int32).toNatClampNeg) = ((V_X11_of x1 (1 : Int32) mA M) + (M.1 263 x1.toNatClampNeg)) then (U_X11_hold x1 mA Mc2) else Mc2) else Mc2)); M19_0) else (let M23_0 : Mem := if (M.1 mA (16 : Int32).toNatClampNeg) = (V_X11_robotAt ((V_X11_of x1 (0 : Int32) mA M) + (M.1 262 x1.toNatClampNeg)) ((V_X11_of x1 (1 : Int32) mA M) + (M.1 263 x1.toNatClampNeg)) (-1 : Int32) mA M) then (if ((V_X11_robotAt ((V_X11_of x1 (0 : Int32) mA M) + (M.1 262 x1.toNatClampNeg)) ((V_X11_of x1 (1 : Int32) mA M) + (M.1 263 x1.toNatClampNeg)) (-1 : Int32) mA M) / (5 : Int32)) = (x1 / (5 : Int32)) then M else (if ((M.1 mA (3 : Int32).toNatClampNeg) - (M.1 mA (20 : Int32).toNatClampNeg)) < (2 : Int32) then M else (setI (U_X11_hold x1 mA M) mA (10 : Int32).toNatClampNeg (((U_X11_hold x1 mA M).1 mA (10 : Int32).toNatClampNeg) + (1 : Int32))))) else M; M23_0)))))) else (if (V_X11_of x1 (10 : Int32) mA M) = (2 : Int32) then (let M13_0 : Mem := if (M.1 mA (16 : Int32).toNatClampNeg) = x1 then (setI (setI (setI (setI M mA (16 : Int32).toNatClampNeg (-1 : Int32)) mA (17 : Int32).toNatClampNeg (M.1 264 x1.toNatClampNeg)) mA (18 : Int32).toNatClampNeg (M.1 262 x1.toNatClampNeg)) mA (19 : Int32).toNatClampNeg (M.1 263 x1.toNatClampNeg)) else M; M13_0) else (if (V_X11_in ((V_X11_of x1 (0 : Int32) mA M) + (M.1 262 x1.toNatClampNeg)) (0 : Int32) (14 : Int32) M) = 0 then M else (if (V_X11_in ((V_X11_of x1 (1 : Int32) mA M) + (M.1 263 x1.toNatClampNeg)) (0 : Int32) (8 : Int32) M) = 0 then M else (if (V_X11_robotAt ((V_X11_of x1 (0 : Int32) mA M) + (M.1 262 x1.toNatClampNeg)) ((V_X11_of x1 (1 : Int32) mA M) + (M.1 263 x1.toNatClampNeg)) (-1 : Int32) mA M) < 0 then (let Mc1 : Mem := U_X11_set x1 (1 : Int32) ((V_X11_of x1 (1 : Int32) mA M) + (M.1 263 x1.toNatClampNeg)) mA (U_X11_set x1 (0 : Int32) ((V_X11_of x1 (0 : Int32) mA M) + (M.1 262 x1.toNatClampNeg)) mA M); let M6_0 : Mem := if (Mc1.1 mA (16 : Int32).toNatClampNeg) = x1 then (setI (setI Mc1 mA (14 : Int32).toNatClampNeg ((V_X11_of x1 (0 : Int32) mA M) + (M.1 262 x1.toNatClampNeg))) mA (15 : Int32).toNatClampNeg ((V_X11_of x1 (1 : Int32) mA M) + (M.1 263 x1.toNatClampNeg))) else (if 0 ≤ (Mc1.1 mA (16 : Int32).toNatClampNeg) then Mc1 else (if (Mc1.1 mA (14 : Int32).toNatClampNeg) = ((V_X11_of x1 (0 : Int32) mA M) + (M.1 262 x1.toNatClampNeg)) then (if (Mc1.1 mA (15 : Int32).toNatClampNeg) = ((V_X11_of x1 (1 : Int32) mA M) + (M.1 263 x1.toNatClampNeg)) then (U_X11_hold x1 mA Mc1) else Mc1) else Mc1)); M6_0) else (let M10_0 : Mem := if (M.1 mA (16 : Int32).toNatClampNeg) = (V_X11_robotAt ((V_X11_of x1 (0 : Int32) mA M) + (M.1 262 x1.toNatClampNeg)) ((V_X11_of x1 (1 : Int32) mA M) + (M.1 263 x1.toNatClampNeg)) (-1 : Int32) mA M) then (if ((V_X11_robotAt ((V_X11_of x1 (0 : Int32) mA M) + (M.1 262 x1.toNatClampNeg)) ((V_X11_of x1 (1 : Int32) mA M) + (M.1 263 x1.toNatClampNeg)) (-1 : Int32) mA M) / (5 : Int32)) = (x1 / (5 : Int32)) then M else (if ((M.1 mA (3 : Int32).toNatClampNeg) - (M.1 mA (20 : Int32).toNatClampNeg)) < (2 : Int32) then M else (setI (U_X11_hold x1 mA M) mA (10 : Int32).toNatClampNeg (((U_X11_hold x1 mA M).1 mA (10 : Int32).toNatClampNeg) + (1 : Int32))))) else M; M10_0))))))
def P_X11_doCommand (x1 : Int32) (mA : Nat) (M : Mem) : Prop := (¬ ((V_X11_of x1 (10 : Int32) mA M) = 0) → ¬ ((M.1 262 x1.toNatClampNeg) = 0) → ¬ ((V_X11_of x1 (10 : Int32) mA M) = (2 : Int32)) → vp_in (((44 : Int32) + ((16 : Int32) * x1)) + (0 : Int32)) 212) ∧ (¬ ((V_X11_of x1 (10 : Int32) mA M) = 0) → ¬ ((M.1 262 x1.toNatClampNeg) = 0) → ¬ ((V_X11_of x1 (10 : Int32) mA M) = (2 : Int32)) → vp_in (((44 : Int32) + ((16 : Int32) * x1)) + (1 : Int32)) 212) ∧ (¬ ((V_X11_of x1 (10 : Int32) mA M) = 0) → ¬ ((M.1 262 x1.toNatClampNeg) = 0) → ¬ ((V_X11_of x1 (10 : Int32) mA M) = (2 : Int32)) → ¬ ((V_X11_in ((V_X11_of x1 (0 : Int32) mA M) + (M.1 262 x1.toNatClampNeg)) (0 : Int32) (14 : Int32) M) = 0) → ¬ ((V_X11_in ((V_X11_of x1 (1 : Int32) mA M) + (M.1 263 x1.toNatClampNeg)) (0 : Int32) (8 : Int32) M) = 0) → P_X11_robotAt ((V_X11_of x1 (0 : Int32) mA M) + (M.1 262 x1.toNatClampNeg)) ((V_X11_of x1 (1 : Int32) mA M) + (M.1 263 x1.toNatClampNeg)) (-1 : Int32) mA M) ∧ (¬ ((V_X11_of x1 (10 : Int32) mA M) = 0) → ¬ ((M.1 262 x1.toNatClampNeg) = 0) → ¬ ((V_X11_of x1 (10 : Int32) mA M) = (2 : Int32)) → ¬ ((V_X11_in ((V_X11_of x1 (0 : Int32) mA M) + (M.1 262 x1.toNatClampNeg)) (0 : Int32) (14 : Int32) M) = 0) → ¬ ((V_X11_in ((V_X11_of x1 (1 : Int32) mA M) + (M.1 263 x1.toNatClampNeg)) (0 : Int32) (8 : Int32) M) = 0) → (V_X11_robotAt ((V_X11_of x1 (0 : Int32) mA M) + (M.1 262 x1.toNatClampNeg)) ((V_X11_of x1 (1 : Int32) mA M) + (M.1 263 x1.toNatClampNeg)) (-1 : Int32) mA M) < 0 → vp_in (((44 : Int32) + ((16 : Int32) * x1)) + (0 : Int32)) 212) ∧ (¬ ((V_X11_of x1 (10 : Int32) mA M) = 0) → ¬ ((M.1 262 x1.toNatClampNeg) = 0) → ¬ ((V_X11_of x1 (10 : Int32) mA M) = (2 : Int32)) → ¬ ((V_X11_in ((V_X11_of x1 (0 : Int32) mA M) + (M.1 262 x1.toNatClampNeg)) (0 : Int32) (14 : Int32) M) = 0) → ¬ ((V_X11_in ((V_X11_of x1 (1 : Int32) mA M) + (M.1 263 x1.toNatClampNeg)) (0 : Int32) (8 : Int32) M) = 0) → (V_X11_robotAt ((V_X11_of x1 (0 : Int32) mA M) + (M.1 262 x1.toNatClampNeg)) ((V_X11_of x1 (1 : Int32) mA M) + (M.1 263 x1.toNatClampNeg)) (-1 : Int32) mA M) < 0 → vp_in (((44 : Int32) + ((16 : Int32) * x1)) + (1 : Int32)) 212) ∧ (¬ ((V_X11_of x1 (10 : Int32) mA M) = 0) → ¬ ((M.1 262 x1.toNatClampNeg) = 0) → ¬ ((V_X11_of x1 (10 : Int32) mA M) = (2 : Int32)) → ¬ ((V_X11_in ((V_X11_of x1 (0 : Int32) mA M) + (M.1 262 x1.toNatClampNeg)) (0 : Int32) (14 : Int32) M) = 0) → ¬ ((V_X11_in ((V_X11_of x1 (1 : Int32) mA M) + (M.1 263 x1.toNatClampNeg)) (0 : Int32) (8 : Int32) M) = 0) → (V_X11_robotAt ((V_X11_of x1 (0 : Int32) mA M) + (M.1 262 x1.toNatClampNeg)) ((V_X11_of x1 (1 : Int32) mA M) + (M.1 263 x1.toNatClampNeg)) (-1 : Int32) mA M) < 0 → ¬ (((U_X11_set x1 (1 : Int32) ((V_X11_of x1 (1 : Int32) mA M) + (M.1 263 x1.toNatClampNeg)) mA (U_X11_set x1 (0 : Int32) ((V_X11_of x1 (0 : Int32) mA M) + (M.1 262 x1.toNatClampNeg)) mA M)).1 mA (16 : Int32).toNatClampNeg) = x1) → ¬ (0 ≤ ((U_X11_set x1 (1 : Int32) ((V_X11_of x1 (1 : Int32) mA M) + (M.1 263 x1.toNatClampNeg)) mA (U_X11_set x1 (0 : Int32) ((V_X11_of x1 (0 : Int32) mA M) + (M.1 262 x1.toNatClampNeg)) mA M)).1 mA (16 : Int32).toNatClampNeg)) → ((U_X11_set x1 (1 : Int32) ((V_X11_of x1 (1 : Int32) mA M) + (M.1 263 x1.toNatClampNeg)) mA (U_X11_set x1 (0 : Int32) ((V_X11_of x1 (0 : Int32) mA M) + (M.1 262 x1.toNatClampNeg)) mA M)).1 mA (14 : Int32).toNatClampNeg) = ((V_X11_of x1 (0 : Int32) mA M) + (M.1 262 x1.toNatClampNeg)) → ((U_X11_set x1 (1 : Int32) ((V_X11_of x1 (1 : Int32) mA M) + (M.1 263 x1.toNatClampNeg)) mA (U_X11_set x1 (0 : Int32) ((V_X11_of x1 (0 : Int32) mA M) + (M.1 262 x1.toNatClampNeg)) mA M)).1 mA (15 : Int32).toNatClampNeg) = ((V_X11_of x1 (1 : Int32) mA M) + (M.1 263 x1.toNatClampNeg)) → vp_in (((44 : Int32) + ((16 : Int32) * x1)) + (0 : Int32)) 212) ∧ (¬ ((V_X11_of x1 (10 : Int32) mA M) = 0) → ¬ ((M.1 262 x1.toNatClampNeg) = 0) → ¬ ((V_X11_of x1 (10 : Int32) mA M) = (2 : Int32)) → ¬ ((V_X11_in ((V_X11_of x1 (0 : Int32) mA M) + (M.1 262 x1.toNatClampNeg)) (0 : Int32) (14 : Int32) M) = 0) → ¬ ((V_X11_in ((V_X11_of x1 (1 : Int32) mA M) + (M.1 263 x1.toNatClampNeg)) (0 : Int32) (8 : Int32) M) = 0) → (V_X11_robotAt ((V_X11_of x1 (0 : Int32) mA M) + (M.1 262 x1.toNatClampNeg)) ((V_X11_of x1 (1 : Int32) mA M) + (M.1 263 x1.toNatClampNeg)) (-1 : Int32) mA M) < 0 → ¬ (((U_X11_set x1 (1 : Int32) ((V_X11_of x1 (1 : Int32) mA M) + (M.1 263 x1.toNatClampNeg)) mA (U_X11_set x1 (0 : Int32) ((V_X11_of x1 (0 : Int32) mA M) + (M.1 262 x1.toNatClampNeg)) mA M)).1 mA (16 : Int32).toNatClampNeg) = x1) → ¬ (0 ≤ ((U_X11_set x1 (1 : Int32) ((V_X11_of x1 (1 : Int32) mA M) + (M.1 263 x1.toNatClampNeg)) mA (U_X11_set x1 (0 : Int32) ((V_X11_of x1 (0 : Int32) mA M) + (M.1 262 x1.toNatClampNeg)) mA M)).1 mA (16 : Int32).toNatClampNeg)) → ((U_X11_set x1 (1 : Int32) ((V_X11_of x1 (1 : Int32) mA M) + (M.1 263 x1.toNatClampNeg)) mA (U_X11_set x1 (0 : Int32) ((V_X11_of x1 (0 : Int32) mA M) + (M.1 262 x1.toNatClampNeg)) mA M)).1 mA (14 : Int32).toNatClampNeg) = ((V_X11_of x1 (0 : Int32) mA M) + (M.1 262 x1.toNatClampNeg)) → ((U_X11_set x1 (1 : Int32) ((V_X11_of x1 (1 : Int32) mA M) + (M.1 263 x1.toNatClampNeg)) mA (U_X11_set x1 (0 : Int32) ((V_X11_of x1 (0 : Int32) mA M) + (M.1 262 x1.toNatClampNeg)) mA M)).1 mA (15 : Int32).toNatClampNeg) = ((V_X11_of x1 (1 : Int32) mA M) + (M.1 263 x1.toNatClampNeg)) → vp_in (((44 : Int32) + ((16 : Int32) * x1)) + (1 : Int32)) 212) ∧ (¬ ((V_X11_of x1 (10 : Int32) mA M) = 0) → ¬ ((M.1 262 x1.toNatClampNeg) = 0) → ¬ ((V_X11_of x1 (10 : Int32) mA M) = (2 : Int32)) → ¬ ((V_X11_in ((V_X11_of x1 (0 : Int32) mA M) + (M.1 262 x1.toNatClampNeg)) (0 : Int32) (14 : Int32) M) = 0) → ¬ ((V_X11_in ((V_X11_of x1 (1 : Int32) mA M) + (M.1 263 x1.toNatClampNeg)) (0 : Int32) (8 : Int32) M) = 0) → ¬ ((V_X11_robotAt ((V_X11_of x1 (0 : Int32) mA M) + (M.1 262 x1.toNatClampNeg)) ((V_X11_of x1 (1 : Int32) mA M) + (M.1 263 x1.toNatClampNeg)) (-1 : Int32) mA M) < 0) → (M.1 mA (16 : Int32).toNatClampNeg) = (V_X11_robotAt ((V_X11_of x1 (0 : Int32) mA M) + (M.1 262 x1.toNatClampNeg)) ((V_X11_of x1 (1 : Int32) mA M) + (M.1 263 x1.toNatClampNeg)) (-1 : Int32) mA M) → ¬ (((V_X11_robotAt ((V_X11_of x1 (0 : Int32) mA M) + (M.1 262 x1.toNatClampNeg)) ((V_X11_of x1 (1 : Int32) mA M) + (M.1 263 x1.toNatClampNeg)) (-1 : Int32) mA M) / (5 : Int32)) = (x1 / (5 : Int32))) → ¬ (((M.1 mA (3 : Int32).toNatClampNeg) - (M.1 mA (20 : Int32).toNatClampNeg)) < (2 : Int32)) → vp_in (((44 : Int32) + ((16 : Int32) * x1)) + (0 : Int32)) 212) ∧ (¬ ((V_X11_of x1 (10 : Int32) mA M) = 0) → ¬ ((M.1 262 x1.toNatClampNeg) = 0) → ¬ ((V_X11_of x1 (10 : Int32) mA M) = (2 : Int32)) → ¬ ((V_X11_in ((V_X11_of x1 (0 : Int32) mA M) + (M.1 262 x1.toNatClampNeg)) (0 : Int32) (14 : Int32) M) = 0) → ¬ ((V_X11_in ((V_X11_of x1 (1 : Int32) mA M) + (M.1 263 x1.toNatClampNeg)) (0 : Int32) (8 : Int32) M) = 0) → ¬ ((V_X11_robotAt ((V_X11_of x1 (0 : Int32) mA M) + (M.1 262 x1.toNatClampNeg)) ((V_X11_of x1 (1 : Int32) mA M) + (M.1 263 x1.toNatClampNeg)) (-1 : Int32) mA M) < 0) → (M.1 mA (16 : Int32).toNatClampNeg) = (V_X11_robotAt ((V_X11_of x1 (0 : Int32) mA M) + (M.1 262 x1.toNatClampNeg)) ((V_X11_of x1 (1 : Int32) mA M) + (M.1 263 x1.toNatClampNeg)) (-1 : Int32) mA M) → ¬ (((V_X11_robotAt ((V_X11_of x1 (0 : Int32) mA M) + (M.1 262 x1.toNatClampNeg)) ((V_X11_of x1 (1 : Int32) mA M) + (M.1 263 x1.toNatClampNeg)) (-1 : Int32) mA M) / (5 : Int32)) = (x1 / (5 : Int32))) → ¬ (((M.1 mA (3 : Int32).toNatClampNeg) - (M.1 mA (20 : Int32).toNatClampNeg)) < (2 : Int32)) → vp_in (((44 : Int32) + ((16 : Int32) * x1)) + (1 : Int32)) 212) ∧ (¬ ((V_X11_of x1 (10 : Int32) mA M) = 0) → ¬ ((M.1 262 x1.toNatClampNeg) = 0) → (V_X11_of x1 (10 : Int32) mA M) = (2 : Int32) → (M.1 mA (16 : Int32).toNatClampNeg) = x1 → vp_in x1 10) ∧ (¬ ((V_X11_of x1 (10 : Int32) mA M) = 0) → (M.1 262 x1.toNatClampNeg) = 0 → ¬ ((M.1 263 x1.toNatClampNeg) = 0) → ¬ ((V_X11_of x1 (10 : Int32) mA M) = (2 : Int32)) → vp_in (((44 : Int32) + ((16 : Int32) * x1)) + (0 : Int32)) 212) ∧ (¬ ((V_X11_of x1 (10 : Int32) mA M) = 0) → (M.1 262 x1.toNatClampNeg) = 0 → ¬ ((M.1 263 x1.toNatClampNeg) = 0) → ¬ ((V_X11_of x1 (10 : Int32) mA M) = (2 : Int32)) → vp_in (((44 : Int32) + ((16 : Int32) * x1)) + (1 : Int32)) 212) ∧ (¬ ((V_X11_of x1 (10 : Int32) mA M) = 0) → (M.1 262 x1.toNatClampNeg) = 0 → ¬ ((M.1 263 x1.toNatClampNeg) = 0) → ¬ ((V_X11_of x1 (10 : Int32) mA M) = (2 : Int32)) → ¬ ((V_X11_in ((V_X11_of x1 (0 : Int32) mA M) + (M.1 262 x1.toNatClampNeg)) (0 : Int32) (14 : Int32) M) = 0) → ¬ ((V_X11_in ((V_X11_of x1 (1 : Int32) mA M) + (M.1 263 x1.toNatClampNeg)) (0 : Int32) (8 : Int32) M) = 0) → P_X11_robotAt ((V_X11_of x1 (0 : Int32) mA M) + (M.1 262 x1.toNatClampNeg)) ((V_X11_of x1 (1 : Int32) mA M) + (M.1 263 x1.toNatClampNeg)) (-1 : Int32) mA M) ∧ (¬ ((V_X11_of x1 (10 : Int32) mA M) = 0) → (M.1 262 x1.toNatClampNeg) = 0 → ¬ ((M.1 263 x1.toNatClampNeg) = 0) → ¬ ((V_X11_of x1 (10 : Int32) mA M) = (2 : Int32)) → ¬ ((V_X11_in ((V_X11_of x1 (0 : Int32) mA M) + (M.1 262 x1.toNatClampNeg)) (0 : Int32) (14 : Int32) M) = 0) → ¬ ((V_X11_in ((V_X11_of x1 (1 : Int32) mA M) + (M.1 263 x1.toNatClampNeg)) (0 : Int32) (8 : Int32) M) = 0) → (V_X11_robotAt ((V_X11_of x1 (0 : Int32) mA M) + (M.1 262 x1.toNatClampNeg)) ((V_X11_of x1 (1 : Int32) mA M) + (M.1 263 x1.toNatClampNeg)) (-1 : Int32) mA M) < 0 → vp_in (((44 : Int32) + ((16 : Int32) * x1)) + (0 : Int32)) 212) ∧ (¬ ((V_X11_of x1 (10 : Int32) mA M) = 0) → (M.1 262 x1.toNatClampNeg) = 0 → ¬ ((M.1 263 x1.toNatClampNeg) = 0) → ¬ ((V_X11_of x1 (10 : Int32) mA M) = (2 : Int32)) → ¬ ((V_X11_in ((V_X11_of x1 (0 : Int32) mA M) + (M.1 262 x1.toNatClampNeg)) (0 : Int32) (14 : Int32) M) = 0) → ¬ ((V_X11_in ((V_X11_of x1 (1 : Int32) mA M) + (M.1 263 x1.toNatClampNeg)) (0 : Int32) (8 : Int32) M) = 0) → (V_X11_robotAt ((V_X11_of x1 (0 : Int32) mA M) + (M.1 262 x1.toNatClampNeg)) ((V_X11_of x1 (1 : Int32) mA M) + (M.1 263 x1.toNatClampNeg)) (-1 : Int32) mA M) < 0 → vp_in (((44 : Int32) + ((16 : Int32) * x1)) + (1 : Int32)) 212) ∧ (¬ ((V_X11_of x1 (10 : Int32) mA M) = 0) → (M.1 262 x1.toNatClampNeg) = 0 → ¬ ((M.1 263 x1.toNatClampNeg) = 0) → ¬ ((V_X11_of x1 (10 : Int32) mA M) = (2 : Int32)) → ¬ ((V_X11_in ((V_X11_of x1 (0 : Int32) mA M) + (M.1 262 x1.toNatClampNeg)) (0 : Int32) (14 : Int32) M) = 0) → ¬ ((V_X11_in ((V_X11_of x1 (1 : Int32) mA M) + (M.1 263 x1.toNatClampNeg)) (0 : Int32) (8 : Int32) M) = 0) → (V_X11_robotAt ((V_X11_of x1 (0 : Int32) mA M) + (M.1 262 x1.toNatClampNeg)) ((V_X11_of x1 (1 : Int32) mA M) + (M.1 263 x1.toNatClampNeg)) (-1 : Int32) mA M) < 0 → ¬ (((U_X11_set x1 (1 : Int32) ((V_X11_of x1 (1 : Int32) mA M) + (M.1 263 x1.toNatClampNeg)) mA (U_X11_set x1 (0 : Int32) ((V_X11_of x1 (0 : Int32) mA M) + (M.1 262 x1.toNatClampNeg)) mA M)).1 mA (16 : Int32).toNatClampNeg) = x1) → ¬ (0 ≤ ((U_X11_set x1 (1 : Int32) ((V_X11_of x1 (1 : Int32) mA M) + (M.1 263 x1.toNatClampNeg)) mA (U_X11_set x1 (0 : Int32) ((V_X11_of x1 (0 : Int32) mA M) + (M.1 262 x1.toNatClampNeg)) mA M)).1 mA (16 : Int32).toNatClampNeg)) → ((U_X11_set x1 (1 : Int32) ((V_X11_of x1 (1 : Int32) mA M) + (M.1 263 x1.toNatClampNeg)) mA (U_X11_set x1 (0 : Int32) ((V_X11_of x1 (0 : Int32) mA M) + (M.1 262 x1.toNatClampNeg)) mA M)).1 mA (14 : Int32).toNatClampNeg) = ((V_X11_of x1 (0 : Int32) mA M) + (M.1 262 x1.toNatClampNeg)) → ((U_X11_set x1 (1 : Int32) ((V_X11_of x1 (1 : Int32) mA M) + (M.1 263 x1.toNatClampNeg)) mA (U_X11_set x1 (0 : Int32) ((V_X11_of x1 (0 : Int32) mA M) + (M.1 262 x1.toNatClampNeg)) mA M)).1 mA (15 : Int32).toNatClampNeg) = ((V_X11_of x1 (1 : Int32) mA M) + (M.1 263 x1.toNatClampNeg)) → vp_in (((44 : Int32) + ((16 : Int32) * x1)) + (0 : Int32)) 212) ∧ (¬ ((V_X11_of x1 (10 : Int32) mA M) = 0) → (M.1 262 x1.toNatClampNeg) = 0 → ¬ ((M.1 263 x1.toNatClampNeg) = 0) → ¬ ((V_X11_of x1 (10 : Int32) mA M) = (2 : Int32)) → ¬ ((V_X11_in ((V_X11_of x1 (0 : Int32) mA M) + (M.1 262 x1.toNatClampNeg)) (0 : Int32) (14 : Int32) M) = 0) → ¬ ((V_X11_in ((V_X11_of x1 (1 : Int32) mA M) + (M.1 263 x1.toNatClampNeg)) (0 : Int32) (8 : Int32) M) = 0) → (V_X11_robotAt ((V_X11_of x1 (0 : Int32) mA M) + (M.1 262 x1.toNatClampNeg)) ((V_X11_of x1 (1 : Int32) mA M) + (M.1 263 x1.toNatClampNeg)) (-1 : Int32) mA M) < 0 → ¬ (((U_X11_set x1 (1 : Int32) ((V_X11_of x1 (1 : Int32) mA M) + (M.1 263 x1.toNatClampNeg)) mA (U_X11_set x1 (0 : Int32) ((V_X11_of x1 (0 : Int32) mA M) + (M.1 262 x1.toNatClampNeg)) mA M)).1 mA (16 : Int32).toNatClampNeg) = x1) → ¬ (0 ≤ ((U_X11_set x1 (1 : Int32) ((V_X11_of x1 (1 : Int32) mA M) + (M.1 263 x1.toNatClampNeg)) mA (U_X11_set x1 (0 : Int32) ((V_X11_of x1 (0 : Int32) mA M) + (M.1 262 x1.toNatClampNeg)) mA M)).1 mA (16 : Int32).toNatClampNeg)) → ((U_X11_set x1 (1 : Int32) ((V_X11_of x1 (1 : Int32) mA M) + (M.1 263 x1.toNatClampNeg)) mA (U_X11_set x1 (0 : Int32) ((V_X11_of x1 (0 : Int32) mA M) + (M.1 262 x1.toNatClampNeg)) mA M)).1 mA (14 : Int32).toNatClampNeg) = ((V_X11_of x1 (0 : Int32) mA M) + (M.1 262 x1.toNatClampNeg)) → ((U_X11_set x1 (1 : Int32) ((V_X11_of x1 (1 : Int32) mA M) + (M.1 263 x1.toNatClampNeg)) mA (U_X11_set x1 (0 : Int32) ((V_X11_of x1 (0 : Int32) mA M) + (M.1 262 x1.toNatClampNeg)) mA M)).1 mA (15 : Int32).toNatClampNeg) = ((V_X11_of x1 (1 : Int32) mA M) + (M.1 263 x1.toNatClampNeg)) → vp_in (((44 : Int32) + ((16 : Int32) * x1)) + (1 : Int32)) 212) ∧ (¬ ((V_X11_of x1 (10 : Int32) mA M) = 0) → (M.1 262 x1.toNatClampNeg) = 0 → ¬ ((M.1 263 x1.toNatClampNeg) = 0) → ¬ ((V_X11_of x1 (10 : Int32) mA M) = (2 : Int32)) → ¬ ((V_X11_in ((V_X11_of x1 (0 : Int32) mA M) + (M.1 262 x1.toNatClampNeg)) (0 : Int32) (14 : Int32) M) = 0) → ¬ ((V_X11_in ((V_X11_of x1 (1 : Int32) mA M) + (M.1 263 x1.toNatClampNeg)) (0 : Int32) (8 : Int32) M) = 0) → ¬ ((V_X11_robotAt ((V_X11_of x1 (0 : Int32) mA M) + (M.1 262 x1.toNatClampNeg)) ((V_X11_of x1 (1 : Int32) mA M) + (M.1 263 x1.toNatClampNeg)) (-1 : Int32) mA M) < 0) → (M.1 mA (16 : Int32).toNatClampNeg) = (V_X11_robotAt ((V_X11_of x1 (0 : Int32) mA M) + (M.1 262 x1.toNatClampNeg)) ((V_X11_of x1 (1 : Int32) mA M) + (M.1 263 x1.toNatClampNeg)) (-1 : Int32) mA M) → ¬ (((V_X11_robotAt ((V_X11_of x1 (0 : Int32) mA M) + (M.1 262 x1.toNatClampNeg)) ((V_X11_of x1 (1 : Int32) mA M) + (M.1 263 x1.toNatClampNeg)) (-1 : Int32) mA M) / (5 : Int32)) = (x1 / (5 : Int32))) → ¬ (((M.1 mA (3 : Int32).toNatClampNeg) - (M.1 mA (20 : Int32).toNatClampNeg)) < (2 : Int32)) → vp_in (((44 : Int32) + ((16 : Int32) * x1)) + (0 : Int32)) 212) ∧ (¬ ((V_X11_of x1 (10 : Int32) mA M) = 0) → (M.1 262 x1.toNatClampNeg) = 0 → ¬ ((M.1 263 x1.toNatClampNeg) = 0) → ¬ ((V_X11_of x1 (10 : Int32) mA M) = (2 : Int32)) → ¬ ((V_X11_in ((V_X11_of x1 (0 : Int32) mA M) + (M.1 262 x1.toNatClampNeg)) (0 : Int32) (14 : Int32) M) = 0) → ¬ ((V_X11_in ((V_X11_of x1 (1 : Int32) mA M) + (M.1 263 x1.toNatClampNeg)) (0 : Int32) (8 : Int32) M) = 0) → ¬ ((V_X11_robotAt ((V_X11_of x1 (0 : Int32) mA M) + (M.1 262 x1.toNatClampNeg)) ((V_X11_of x1 (1 : Int32) mA M) + (M.1 263 x1.toNatClampNeg)) (-1 : Int32) mA M) < 0) → (M.1 mA (16 : Int32).toNatClampNeg) = (V_X11_robotAt ((V_X11_of x1 (0 : Int32) mA M) + (M.1 262 x1.toNatClampNeg)) ((V_X11_of x1 (1 : Int32) mA M) + (M.1 263 x1.toNatClampNeg)) (-1 : Int32) mA M) → ¬ (((V_X11_robotAt ((V_X11_of x1 (0 : Int32) mA M) + (M.1 262 x1.toNatClampNeg)) ((V_X11_of x1 (1 : Int32) mA M) + (M.1 263 x1.toNatClampNeg)) (-1 : Int32) mA M) / (5 : Int32)) = (x1 / (5 : Int32))) → ¬ (((M.1 mA (3 : Int32).toNatClampNeg) - (M.1 mA (20 : Int32).toNatClampNeg)) < (2 : Int32)) → vp_in (((44 : Int32) + ((16 : Int32) * x1)) + (1 : Int32)) 212) ∧ (¬ ((V_X11_of x1 (10 : Int32) mA M) = 0) → (M.1 262 x1.toNatClampNeg) = 0 → ¬ ((M.1 263 x1.toNatClampNeg) = 0) → (V_X11_of x1 (10 : Int32) mA M) = (2 : Int32) → (M.1 mA (16 : Int32).toNatClampNeg) = x1 → vp_in x1 10)
theorem S_X11_doCommand {sh : List SC} {M : Mem} {x1 : Int32} {mA : Nat} {oA : Nat} (hb1 : ModelAt sh mA oA) (g1 : vp_in x1 10) (g2 : vp_in (((44 : Int32) + ((16 : Int32) * x1)) + (10 : Int32)) 212) (hP : P_X11_doCommand x1 mA M) : Gu m_X11_doCommand [.ref 242, .int x1] sh M (U_X11_doCommand x1 mA M) := by
  refine Sp.of (ls := [some (.ref 242), some (.int x1), none, none, none, none, none, none]) (by decide +kernel) (Nat.le_of_ble_eq_true rfl) rfl ?_
  obtain ⟨g3, g4, g5, g6, g7, g8, g9, g10, g11, g12, g13, g14, g15, g16, g17, g18, g19, g20, g21, g22⟩ := hP
  have k0 : kd sh 242 = some (10 + 7, 0) := hb1.1
  have k1 : rf sh 242 38 = some 262 := hb1.2.2.2.2.2.2.2.2.2.2.2.2.2.2.2.2.2.2.2.2.1
  have k2 : kd sh 262 = some (0, 10) := hb1.2.2.2.2.2.2.2.2.2.2.2.2.2.2.2.2.2.2.2.2.2.2.2.2.2.2.2.2.2.2.2.2.2.2.2.2.2.2.2.2.2.2.2.2.1
  have k3 : rf sh 242 39 = some 263 := hb1.2.2.2.2.2.2.2.2.2.2.2.2.2.2.2.2.2.2.2.2.2.1
  have k4 : kd sh 263 = some (0, 10) := hb1.2.2.2.2.2.2.2.2.2.2.2.2.2.2.2.2.2.2.2.2.2.2.2.2.2.2.2.2.2.2.2.2.2.2.2.2.2.2.2.2.2.2.2.2.2.1
  have k5 : rf sh 242 27 = some mA := hb1.2.2.2.2.2.2.2.2.2.2.2.2.2.2.2.2.2.1
  have k6 : kd sh mA = some (0, 212) := hb1.2.2.2.2.2.2.2.2.2.2.2.2.2.2.2.2.2.2.2.2.2.2.2.2.2.2.2.2.2.2.2.2.2.2.2.2.2.2.2.2.2.2.2.2.2.2.2.2.2.2.2.1
  have k7 : rf sh 242 40 = some 264 := hb1.2.2.2.2.2.2.2.2.2.2.2.2.2.2.2.2.2.2.2.2.2.2.1
  have k8 : kd sh 264 = some (0, 10) := hb1.2.2.2.2.2.2.2.2.2.2.2.2.2.2.2.2.2.2.2.2.2.2.2.2.2.2.2.2.2.2.2.2.2.2.2.2.2.2.2.2.2.2.2.2.2.2.1
  refine r_aload_n e_X11_doCommand_0 rfl ?_
  refine r_getR e_X11_doCommand_1 fl_X11_224 k0 k1 ?_
  refine r_iload_n e_X11_doCommand_4 rfl ?_
  refine r_iaload e_X11_doCommand_5 k2 g1 ?_
  refine p_istore_n_8_2 e_X11_doCommand_6 rfl rfl ?_
  refine r_aload_n e_X11_doCommand_7 rfl ?_
  refine r_getR e_X11_doCommand_8 fl_X11_227 k0 k3 ?_
  refine r_iload_n e_X11_doCommand_11 rfl ?_
  refine r_iaload e_X11_doCommand_12 k4 g1 ?_
  refine p_istore_n_8_3 e_X11_doCommand_13 rfl rfl ?_
  refine r_aload_n e_X11_doCommand_14 rfl ?_
  refine r_iload_n e_X11_doCommand_15 rfl ?_
  refine r_bipush e_X11_doCommand_16 bp_10 ?_
  refine cV2v e_X11_doCommand_18 cl_X11_252 ⟨Nat.le_of_ble_eq_true rfl, Nat.le_of_ble_eq_true rfl⟩ ⟨rfl, rfl⟩ k0 (Nat.le_of_ble_eq_true rfl) (S_X11_of hb1 g2) ?_
  refine p_istore_8_4 e_X11_doCommand_21 rfl rfl ?_
  refine r_iload e_X11_doCommand_23 rfl ?_
  refine r_if_eq e_X11_doCommand_25 (fun h25_0 => ?_) (fun h25_0 => ?_)
  · refine r_return e_X11_doCommand_36 rfl ⟨rfl, rfl⟩ ?_
    (refine ⟨?_, rfl, ?_⟩ <;> ((try unfold U_X11_doCommand); (try simp only [if_pos h25_0]); (try rfl)))
  · refine r_iload_n e_X11_doCommand_28 rfl ?_
    refine r_if_ne e_X11_doCommand_29 (fun h29_1 => ?_) (fun h29_1 => ?_)
    · refine r_iload e_X11_doCommand_37 rfl ?_
      refine r_iconst e_X11_doCommand_39 ic_2 ?_
      refine r_icmp_ne e_X11_doCommand_40 (fun h40_2 => ?_) (fun h40_2 => ?_)
      · refine r_aload_n e_X11_doCommand_92 rfl ?_
        refine r_iload_n e_X11_doCommand_93 rfl ?_
        refine r_iconst e_X11_doCommand_94 ic_0 ?_
        refine cV2v e_X11_doCommand_95 cl_X11_252 ⟨Nat.le_of_ble_eq_true rfl, Nat.le_of_ble_eq_true rfl⟩ ⟨rfl, rfl⟩ k0 (Nat.le_of_ble_eq_true rfl) (S_X11_of hb1 (g3 h25_0 h29_1 h40_2)) ?_
        refine r_iload_n e_X11_doCommand_98 rfl ?_
        refine r_iadd e_X11_doCommand_99 ?_
        refine p_istore_8_5 e_X11_doCommand_100 rfl rfl ?_
        refine r_aload_n e_X11_doCommand_102 rfl ?_
        refine r_iload_n e_X11_doCommand_103 rfl ?_
        refine r_iconst e_X11_doCommand_104 ic_1 ?_
        refine cV2v e_X11_doCommand_105 cl_X11_252 ⟨Nat.le_of_ble_eq_true rfl, Nat.le_of_ble_eq_true rfl⟩ ⟨rfl, rfl⟩ k0 (Nat.le_of_ble_eq_true rfl) (S_X11_of hb1 (g4 h25_0 h29_1 h40_2)) ?_
        refine r_iload_n e_X11_doCommand_108 rfl ?_
        refine r_iadd e_X11_doCommand_109 ?_
        refine p_istore_8_6 e_X11_doCommand_110 rfl rfl ?_
        refine r_iload e_X11_doCommand_112 rfl ?_
        refine r_iconst e_X11_doCommand_114 ic_0 ?_
        refine r_bipush e_X11_doCommand_115 bp_14 ?_
        refine cS3v e_X11_doCommand_117 cl_X11_245 ⟨Nat.le_of_ble_eq_true rfl, Nat.le_of_ble_eq_true rfl⟩ ⟨rfl, rfl⟩  (Nat.le_of_ble_eq_true rfl) (S_X11_in ) ?_
        refine r_if_eq e_X11_doCommand_120 (fun h120_3 => ?_) (fun h120_3 => ?_)
        · refine r_return e_X11_doCommand_134 rfl ⟨rfl, rfl⟩ ?_
          (refine ⟨?_, rfl, ?_⟩ <;> ((try unfold U_X11_doCommand); (try simp only [if_neg h25_0, if_neg h29_1, if_neg h40_2, if_pos h120_3]); (try rfl)))
        · refine r_iload e_X11_doCommand_123 rfl ?_
          refine r_iconst e_X11_doCommand_125 ic_0 ?_
          refine r_bipush e_X11_doCommand_126 bp_8 ?_
          refine cS3v e_X11_doCommand_128 cl_X11_245 ⟨Nat.le_of_ble_eq_true rfl, Nat.le_of_ble_eq_true rfl⟩ ⟨rfl, rfl⟩  (Nat.le_of_ble_eq_true rfl) (S_X11_in ) ?_
          refine r_if_ne e_X11_doCommand_131 (fun h131_4 => ?_) (fun h131_4 => ?_)
          · refine r_aload_n e_X11_doCommand_135 rfl ?_
            refine r_iload e_X11_doCommand_136 rfl ?_
            refine r_iload e_X11_doCommand_138 rfl ?_
            refine r_iconst e_X11_doCommand_140 ic_m1 ?_
            refine cV3v e_X11_doCommand_141 cl_X11_270 ⟨Nat.le_of_ble_eq_true rfl, Nat.le_of_ble_eq_true rfl⟩ ⟨rfl, rfl⟩ k0 (Nat.le_of_ble_eq_true rfl) (S_X11_robotAt hb1 (g5 h25_0 h29_1 h40_2 h120_3 h131_4)) ?_
            refine p_istore_8_7 e_X11_doCommand_144 rfl rfl ?_
            refine r_iload e_X11_doCommand_146 rfl ?_
            refine r_if_lt e_X11_doCommand_148 (fun h148_5 => ?_) (fun h148_5 => ?_)
            · refine r_aload_n e_X11_doCommand_208 rfl ?_
              refine r_iload_n e_X11_doCommand_209 rfl ?_
              refine r_iconst e_X11_doCommand_210 ic_0 ?_
              refine r_iload e_X11_doCommand_211 rfl ?_
              refine cV3u e_X11_doCommand_213 cl_X11_282 ⟨Nat.le_of_ble_eq_true rfl, Nat.le_of_ble_eq_true rfl⟩ ⟨rfl, rfl⟩ k0 (Nat.le_of_ble_eq_true rfl) (S_X11_set hb1 (g6 h25_0 h29_1 h40_2 h120_3 h131_4 h148_5)) ?_
              refine r_aload_n e_X11_doCommand_216 rfl ?_
              refine r_iload_n e_X11_doCommand_217 rfl ?_
              refine r_iconst e_X11_doCommand_218 ic_1 ?_
              refine r_iload e_X11_doCommand_219 rfl ?_
              refine cV3u e_X11_doCommand_221 cl_X11_282 ⟨Nat.le_of_ble_eq_true rfl, Nat.le_of_ble_eq_true rfl⟩ ⟨rfl, rfl⟩ k0 (Nat.le_of_ble_eq_true rfl) (S_X11_set hb1 (g7 h25_0 h29_1 h40_2 h120_3 h131_4 h148_5)) ?_
              obtain ⟨Mc1, e_Mc1⟩ : ∃ z : Mem, z = (U_X11_set x1 (1 : Int32) ((V_X11_of x1 (1 : Int32) mA M) + (M.1 263 x1.toNatClampNeg)) mA (U_X11_set x1 (0 : Int32) ((V_X11_of x1 (0 : Int32) mA M) + (M.1 262 x1.toNatClampNeg)) mA M)) := ⟨_, rfl⟩
              rw [← e_Mc1]
              refine r_aload_n e_X11_doCommand_224 rfl ?_
              refine r_getR e_X11_doCommand_225 fl_X11_212 k0 k5 ?_
              refine r_bipush e_X11_doCommand_228 bp_16 ?_
              refine r_iaload e_X11_doCommand_230 k6 (by unfold vp_in; decide) ?_
              refine r_iload_n e_X11_doCommand_231 rfl ?_
              obtain ⟨M6_0, e_M6_0⟩ : ∃ z : Mem, z = (if (Mc1.1 mA (16 : Int32).toNatClampNeg) = x1 then (setI (setI Mc1 mA (14 : Int32).toNatClampNeg ((V_X11_of x1 (0 : Int32) mA M) + (M.1 262 x1.toNatClampNeg))) mA (15 : Int32).toNatClampNeg ((V_X11_of x1 (1 : Int32) mA M) + (M.1 263 x1.toNatClampNeg))) else (if 0 ≤ (Mc1.1 mA (16 : Int32).toNatClampNeg) then Mc1 else (if (Mc1.1 mA (14 : Int32).toNatClampNeg) = ((V_X11_of x1 (0 : Int32) mA M) + (M.1 262 x1.toNatClampNeg)) then (if (Mc1.1 mA (15 : Int32).toNatClampNeg) = ((V_X11_of x1 (1 : Int32) mA M) + (M.1 263 x1.toNatClampNeg)) then (U_X11_hold x1 mA Mc1) else Mc1) else Mc1))) := ⟨_, rfl⟩
              suffices j295_6 : WP m_X11_doCommand (fun r sh' M'' => r = none ∧ sh' = sh ∧ M'' = (U_X11_doCommand x1 mA M)) 295 [some (.ref 242), some (.int x1), some (.int (M.1 262 x1.toNatClampNeg)), some (.int (M.1 263 x1.toNatClampNeg)), some (.int (V_X11_of x1 (10 : Int32) mA M)), some (.int ((V_X11_of x1 (0 : Int32) mA M) + (M.1 262 x1.toNatClampNeg))), some (.int ((V_X11_of x1 (1 : Int32) mA M) + (M.1 263 x1.toNatClampNeg))), some (.int (V_X11_robotAt ((V_X11_of x1 (0 : Int32) mA M) + (M.1 262 x1.toNatClampNeg)) ((V_X11_of x1 (1 : Int32) mA M) + (M.1 263 x1.toNatClampNeg)) (-1 : Int32) mA M))] [] sh M6_0 0 0 by
                refine r_icmp_ne e_X11_doCommand_232 (fun h232_6 => ?_) (fun h232_6 => ?_)
                · refine r_aload_n e_X11_doCommand_256 rfl ?_
                  refine r_getR e_X11_doCommand_257 fl_X11_212 k0 k5 ?_
                  refine r_bipush e_X11_doCommand_260 bp_16 ?_
                  refine r_iaload e_X11_doCommand_262 k6 (by unfold vp_in; decide) ?_
                  refine r_if_ge e_X11_doCommand_263 (fun h263_7 => ?_) (fun h263_7 => ?_)
                  · rw [show M6_0 = Mc1 from ((e_M6_0.trans (if_neg h232_6)).trans (if_pos h263_7))] at j295_6; exact j295_6
                  · refine r_aload_n e_X11_doCommand_266 rfl ?_
                    refine r_getR e_X11_doCommand_267 fl_X11_212 k0 k5 ?_
                    refine r_bipush e_X11_doCommand_270 bp_14 ?_
                    refine r_iaload e_X11_doCommand_272 k6 (by unfold vp_in; decide) ?_
                    refine r_iload e_X11_doCommand_273 rfl ?_
                    refine r_icmp_ne e_X11_doCommand_275 (fun h275_8 => ?_) (fun h275_8 => ?_)
                    · rw [show M6_0 = Mc1 from (((e_M6_0.trans (if_neg h232_6)).trans (if_neg h263_7)).trans (if_neg h275_8))] at j295_6; exact j295_6
                    · refine r_aload_n e_X11_doCommand_278 rfl ?_
                      refine r_getR e_X11_doCommand_279 fl_X11_212 k0 k5 ?_
                      refine r_bipush e_X11_doCommand_282 bp_15 ?_
                      refine r_iaload e_X11_doCommand_284 k6 (by unfold vp_in; decide) ?_
                      refine r_iload e_X11_doCommand_285 rfl ?_
                      refine r_icmp_ne e_X11_doCommand_287 (fun h287_9 => ?_) (fun h287_9 => ?_)
                      · rw [show M6_0 = Mc1 from ((((e_M6_0.trans (if_neg h232_6)).trans (if_neg h263_7)).trans (if_pos h275_8)).trans (if_neg h287_9))] at j295_6; exact j295_6
                      · refine r_aload_n e_X11_doCommand_290 rfl ?_
                        refine r_iload_n e_X11_doCommand_291 rfl ?_
                        refine cV1u e_X11_doCommand_292 cl_X11_367 ⟨Nat.le_of_ble_eq_true rfl, Nat.le_of_ble_eq_true rfl⟩ ⟨rfl, rfl⟩ k0 (Nat.le_of_ble_eq_true rfl) (S_X11_hold hb1 (by subst e_Mc1; exact g8 h25_0 h29_1 h40_2 h120_3 h131_4 h148_5 h232_6 h263_7 h275_8 h287_9) (by subst e_Mc1; exact g9 h25_0 h29_1 h40_2 h120_3 h131_4 h148_5 h232_6 h263_7 h275_8 h287_9)) ?_
                        rw [show M6_0 = U_X11_hold x1 mA Mc1 from ((((e_M6_0.trans (if_neg h232_6)).trans (if_neg h263_7)).trans (if_pos h275_8)).trans (if_pos h287_9))] at j295_6; exact j295_6
                · refine r_aload_n e_X11_doCommand_235 rfl ?_
                  refine r_getR e_X11_doCommand_236 fl_X11_212 k0 k5 ?_
                  refine r_bipush e_X11_doCommand_239 bp_14 ?_
                  refine r_iload e_X11_doCommand_241 rfl ?_
                  refine r_iastore e_X11_doCommand_243 k6 (by unfold vp_in; decide) ?_
                  refine r_aload_n e_X11_doCommand_244 rfl ?_
                  refine r_getR e_X11_doCommand_245 fl_X11_212 k0 k5 ?_
                  refine r_bipush e_X11_doCommand_248 bp_15 ?_
                  refine r_iload e_X11_doCommand_250 rfl ?_
                  refine r_iastore e_X11_doCommand_252 k6 (by unfold vp_in; decide) ?_
                  refine r_goto e_X11_doCommand_253 ?_
                  rw [show M6_0 = setI (setI Mc1 mA (14 : Int32).toNatClampNeg ((V_X11_of x1 (0 : Int32) mA M) + (M.1 262 x1.toNatClampNeg))) mA (15 : Int32).toNatClampNeg ((V_X11_of x1 (1 : Int32) mA M) + (M.1 263 x1.toNatClampNeg)) from (e_M6_0.trans (if_pos h232_6))] at j295_6; exact j295_6
              refine r_return e_X11_doCommand_295 rfl ⟨rfl, rfl⟩ ?_
              (subst e_M6_0 e_Mc1; refine ⟨?_, rfl, ?_⟩ <;> ((try unfold U_X11_doCommand); (try simp only [if_neg h25_0, if_neg h29_1, if_neg h40_2, if_neg h120_3, if_neg h131_4, if_pos h148_5]); (try rfl)))
            · refine r_aload_n e_X11_doCommand_151 rfl ?_
              refine r_getR e_X11_doCommand_152 fl_X11_212 k0 k5 ?_
              refine r_bipush e_X11_doCommand_155 bp_16 ?_
              refine r_iaload e_X11_doCommand_157 k6 (by unfold vp_in; decide) ?_
              refine r_iload e_X11_doCommand_158 rfl ?_
              obtain ⟨M10_0, e_M10_0⟩ : ∃ z : Mem, z = (if (M.1 mA (16 : Int32).toNatClampNeg) = (V_X11_robotAt ((V_X11_of x1 (0 : Int32) mA M) + (M.1 262 x1.toNatClampNeg)) ((V_X11_of x1 (1 : Int32) mA M) + (M.1 263 x1.toNatClampNeg)) (-1 : Int32) mA M) then (if ((V_X11_robotAt ((V_X11_of x1 (0 : Int32) mA M) + (M.1 262 x1.toNatClampNeg)) ((V_X11_of x1 (1 : Int32) mA M) + (M.1 263 x1.toNatClampNeg)) (-1 : Int32) mA M) / (5 : Int32)) = (x1 / (5 : Int32)) then M else (if ((M.1 mA (3 : Int32).toNatClampNeg) - (M.1 mA (20 : Int32).toNatClampNeg)) < (2 : Int32) then M else (setI (U_X11_hold x1 mA M) mA (10 : Int32).toNatClampNeg (((U_X11_hold x1 mA M).1 mA (10 : Int32).toNatClampNeg) + (1 : Int32))))) else M) := ⟨_, rfl⟩
              suffices j207_10 : WP m_X11_doCommand (fun r sh' M'' => r = none ∧ sh' = sh ∧ M'' = (U_X11_doCommand x1 mA M)) 207 [some (.ref 242), some (.int x1), some (.int (M.1 262 x1.toNatClampNeg)), some (.int (M.1 263 x1.toNatClampNeg)), some (.int (V_X11_of x1 (10 : Int32) mA M)), some (.int ((V_X11_of x1 (0 : Int32) mA M) + (M.1 262 x1.toNatClampNeg))), some (.int ((V_X11_of x1 (1 : Int32) mA M) + (M.1 263 x1.toNatClampNeg))), some (.int (V_X11_robotAt ((V_X11_of x1 (0 : Int32) mA M) + (M.1 262 x1.toNatClampNeg)) ((V_X11_of x1 (1 : Int32) mA M) + (M.1 263 x1.toNatClampNeg)) (-1 : Int32) mA M))] [] sh M10_0 0 0 by
                refine r_icmp_ne e_X11_doCommand_160 (fun h160_10 => ?_) (fun h160_10 => ?_)
                · rw [show M10_0 = M from (e_M10_0.trans (if_neg h160_10))] at j207_10; exact j207_10
                · refine r_iload e_X11_doCommand_163 rfl ?_
                  refine r_iconst e_X11_doCommand_165 ic_5 ?_
                  refine r_idiv e_X11_doCommand_166 (by decide) ?_
                  refine r_iload_n e_X11_doCommand_167 rfl ?_
                  refine r_iconst e_X11_doCommand_168 ic_5 ?_
                  refine r_idiv e_X11_doCommand_169 (by decide) ?_
                  refine r_icmp_eq e_X11_doCommand_170 (fun h170_11 => ?_) (fun h170_11 => ?_)
                  · rw [show M10_0 = M from ((e_M10_0.trans (if_pos h160_10)).trans (if_pos h170_11))] at j207_10; exact j207_10
                  · refine r_aload_n e_X11_doCommand_173 rfl ?_
                    refine r_getR e_X11_doCommand_174 fl_X11_212 k0 k5 ?_
                    refine r_iconst e_X11_doCommand_177 ic_3 ?_
                    refine r_iaload e_X11_doCommand_178 k6 (by unfold vp_in; decide) ?_
                    refine r_aload_n e_X11_doCommand_179 rfl ?_
                    refine r_getR e_X11_doCommand_180 fl_X11_212 k0 k5 ?_
                    refine r_bipush e_X11_doCommand_183 bp_20 ?_
                    refine r_iaload e_X11_doCommand_185 k6 (by unfold vp_in; decide) ?_
                    refine r_isub e_X11_doCommand_186 ?_
                    refine r_iconst e_X11_doCommand_187 ic_2 ?_
                    refine r_icmp_lt e_X11_doCommand_188 (fun h188_12 => ?_) (fun h188_12 => ?_)
                    · rw [show M10_0 = M from (((e_M10_0.trans (if_pos h160_10)).trans (if_neg h170_11)).trans (if_pos h188_12))] at j207_10; exact j207_10
                    · refine r_aload_n e_X11_doCommand_191 rfl ?_
                      refine r_iload_n e_X11_doCommand_192 rfl ?_
                      refine cV1u e_X11_doCommand_193 cl_X11_367 ⟨Nat.le_of_ble_eq_true rfl, Nat.le_of_ble_eq_true rfl⟩ ⟨rfl, rfl⟩ k0 (Nat.le_of_ble_eq_true rfl) (S_X11_hold hb1 (g10 h25_0 h29_1 h40_2 h120_3 h131_4 h148_5 h160_10 h170_11 h188_12) (g11 h25_0 h29_1 h40_2 h120_3 h131_4 h148_5 h160_10 h170_11 h188_12)) ?_
                      refine r_aload_n e_X11_doCommand_196 rfl ?_
                      refine r_getR e_X11_doCommand_197 fl_X11_212 k0 k5 ?_
                      refine r_bipush e_X11_doCommand_200 bp_10 ?_
                      refine r_dup2 e_X11_doCommand_202 rfl rfl ?_
                      refine r_iaload e_X11_doCommand_203 k6 (by unfold vp_in; decide) ?_
                      refine r_iconst e_X11_doCommand_204 ic_1 ?_
                      refine r_iadd e_X11_doCommand_205 ?_
                      refine r_iastore e_X11_doCommand_206 k6 (by unfold vp_in; decide) ?_
                      rw [show M10_0 = setI (U_X11_hold x1 mA M) mA (10 : Int32).toNatClampNeg (((U_X11_hold x1 mA M).1 mA (10 : Int32).toNatClampNeg) + (1 : Int32)) from (((e_M10_0.trans (if_pos h160_10)).trans (if_neg h170_11)).trans (if_neg h188_12))] at j207_10; exact j207_10
              refine r_return e_X11_doCommand_207 rfl ⟨rfl, rfl⟩ ?_
              (subst e_M10_0; refine ⟨?_, rfl, ?_⟩ <;> ((try unfold U_X11_doCommand); (try simp only [if_neg h25_0, if_neg h29_1, if_neg h40_2, if_neg h120_3, if_neg h131_4, if_neg h148_5]); (try rfl)))
          · refine r_return e_X11_doCommand_134 rfl ⟨rfl, rfl⟩ ?_
            (refine ⟨?_, rfl, ?_⟩ <;> ((try unfold U_X11_doCommand); (try simp only [if_neg h25_0, if_neg h29_1, if_neg h40_2, if_neg h120_3, if_pos h131_4]); (try rfl)))
      · refine r_aload_n e_X11_doCommand_43 rfl ?_
        refine r_getR e_X11_doCommand_44 fl_X11_212 k0 k5 ?_
        refine r_bipush e_X11_doCommand_47 bp_16 ?_
        refine r_iaload e_X11_doCommand_49 k6 (by unfold vp_in; decide) ?_
        refine r_iload_n e_X11_doCommand_50 rfl ?_
        obtain ⟨M13_0, e_M13_0⟩ : ∃ z : Mem, z = (if (M.1 mA (16 : Int32).toNatClampNeg) = x1 then (setI (setI (setI (setI M mA (16 : Int32).toNatClampNeg (-1 : Int32)) mA (17 : Int32).toNatClampNeg (M.1 264 x1.toNatClampNeg)) mA (18 : Int32).toNatClampNeg (M.1 262 x1.toNatClampNeg)) mA (19 : Int32).toNatClampNeg (M.1 263 x1.toNatClampNeg)) else M) := ⟨_, rfl⟩
        suffices j91_13 : WP m_X11_doCommand (fun r sh' M'' => r = none ∧ sh' = sh ∧ M'' = (U_X11_doCommand x1 mA M)) 91 [some (.ref 242), some (.int x1), some (.int (M.1 262 x1.toNatClampNeg)), some (.int (M.1 263 x1.toNatClampNeg)), some (.int (V_X11_of x1 (10 : Int32) mA M)), none, none, none] [] sh M13_0 0 0 by
          refine r_icmp_ne e_X11_doCommand_51 (fun h51_13 => ?_) (fun h51_13 => ?_)
          · rw [show M13_0 = M from (e_M13_0.trans (if_neg h51_13))] at j91_13; exact j91_13
          · refine r_aload_n e_X11_doCommand_54 rfl ?_
            refine r_getR e_X11_doCommand_55 fl_X11_212 k0 k5 ?_
            refine r_bipush e_X11_doCommand_58 bp_16 ?_
            refine r_iconst e_X11_doCommand_60 ic_m1 ?_
            refine r_iastore e_X11_doCommand_61 k6 (by unfold vp_in; decide) ?_
            refine r_aload_n e_X11_doCommand_62 rfl ?_
            refine r_getR e_X11_doCommand_63 fl_X11_212 k0 k5 ?_
            refine r_bipush e_X11_doCommand_66 bp_17 ?_
            refine r_aload_n e_X11_doCommand_68 rfl ?_
            refine r_getR e_X11_doCommand_69 fl_X11_230 k0 k7 ?_
            refine r_iload_n e_X11_doCommand_72 rfl ?_
            refine r_ialoade (v := (M.1 264 x1.toNatClampNeg)) e_X11_doCommand_73 k8 (g12 h25_0 h29_1 h40_2 h51_13) (gs_aI (ne_kd k8 k6 (by decide))) ?_
            refine r_iastore e_X11_doCommand_74 k6 (by unfold vp_in; decide) ?_
            refine r_aload_n e_X11_doCommand_75 rfl ?_
            refine r_getR e_X11_doCommand_76 fl_X11_212 k0 k5 ?_
            refine r_bipush e_X11_doCommand_79 bp_18 ?_
            refine r_iload_n e_X11_doCommand_81 rfl ?_
            refine r_iastore e_X11_doCommand_82 k6 (by unfold vp_in; decide) ?_
            refine r_aload_n e_X11_doCommand_83 rfl ?_
            refine r_getR e_X11_doCommand_84 fl_X11_212 k0 k5 ?_
            refine r_bipush e_X11_doCommand_87 bp_19 ?_
            refine r_iload_n e_X11_doCommand_89 rfl ?_
            refine r_iastore e_X11_doCommand_90 k6 (by unfold vp_in; decide) ?_
            rw [show M13_0 = setI (setI (setI (setI M mA (16 : Int32).toNatClampNeg (-1 : Int32)) mA (17 : Int32).toNatClampNeg (M.1 264 x1.toNatClampNeg)) mA (18 : Int32).toNatClampNeg (M.1 262 x1.toNatClampNeg)) mA (19 : Int32).toNatClampNeg (M.1 263 x1.toNatClampNeg) from (e_M13_0.trans (if_pos h51_13))] at j91_13; exact j91_13
        refine r_return e_X11_doCommand_91 rfl ⟨rfl, rfl⟩ ?_
        (subst e_M13_0; refine ⟨?_, rfl, ?_⟩ <;> ((try unfold U_X11_doCommand); (try simp only [if_neg h25_0, if_neg h29_1, if_pos h40_2]); (try rfl)))
    · refine r_iload_n e_X11_doCommand_32 rfl ?_
      refine r_if_ne e_X11_doCommand_33 (fun h33_14 => ?_) (fun h33_14 => ?_)
      · refine r_iload e_X11_doCommand_37 rfl ?_
        refine r_iconst e_X11_doCommand_39 ic_2 ?_
        refine r_icmp_ne e_X11_doCommand_40 (fun h40_15 => ?_) (fun h40_15 => ?_)
        · refine r_aload_n e_X11_doCommand_92 rfl ?_
          refine r_iload_n e_X11_doCommand_93 rfl ?_
          refine r_iconst e_X11_doCommand_94 ic_0 ?_
          refine cV2v e_X11_doCommand_95 cl_X11_252 ⟨Nat.le_of_ble_eq_true rfl, Nat.le_of_ble_eq_true rfl⟩ ⟨rfl, rfl⟩ k0 (Nat.le_of_ble_eq_true rfl) (S_X11_of hb1 (g13 h25_0 h29_1 h33_14 h40_15)) ?_
          refine r_iload_n e_X11_doCommand_98 rfl ?_
          refine r_iadd e_X11_doCommand_99 ?_
          refine p_istore_8_5 e_X11_doCommand_100 rfl rfl ?_
          refine r_aload_n e_X11_doCommand_102 rfl ?_
          refine r_iload_n e_X11_doCommand_103 rfl ?_
          refine r_iconst e_X11_doCommand_104 ic_1 ?_
          refine cV2v e_X11_doCommand_105 cl_X11_252 ⟨Nat.le_of_ble_eq_true rfl, Nat.le_of_ble_eq_true rfl⟩ ⟨rfl, rfl⟩ k0 (Nat.le_of_ble_eq_true rfl) (S_X11_of hb1 (g14 h25_0 h29_1 h33_14 h40_15)) ?_
          refine r_iload_n e_X11_doCommand_108 rfl ?_
          refine r_iadd e_X11_doCommand_109 ?_
          refine p_istore_8_6 e_X11_doCommand_110 rfl rfl ?_
          refine r_iload e_X11_doCommand_112 rfl ?_
          refine r_iconst e_X11_doCommand_114 ic_0 ?_
          refine r_bipush e_X11_doCommand_115 bp_14 ?_
          refine cS3v e_X11_doCommand_117 cl_X11_245 ⟨Nat.le_of_ble_eq_true rfl, Nat.le_of_ble_eq_true rfl⟩ ⟨rfl, rfl⟩  (Nat.le_of_ble_eq_true rfl) (S_X11_in ) ?_
          refine r_if_eq e_X11_doCommand_120 (fun h120_16 => ?_) (fun h120_16 => ?_)
          · refine r_return e_X11_doCommand_134 rfl ⟨rfl, rfl⟩ ?_
            (refine ⟨?_, rfl, ?_⟩ <;> ((try unfold U_X11_doCommand); (try simp only [if_neg h25_0, if_pos h29_1, if_neg h33_14, if_neg h40_15, if_pos h120_16]); (try rfl)))
          · refine r_iload e_X11_doCommand_123 rfl ?_
            refine r_iconst e_X11_doCommand_125 ic_0 ?_
            refine r_bipush e_X11_doCommand_126 bp_8 ?_
            refine cS3v e_X11_doCommand_128 cl_X11_245 ⟨Nat.le_of_ble_eq_true rfl, Nat.le_of_ble_eq_true rfl⟩ ⟨rfl, rfl⟩  (Nat.le_of_ble_eq_true rfl) (S_X11_in ) ?_
            refine r_if_ne e_X11_doCommand_131 (fun h131_17 => ?_) (fun h131_17 => ?_)
            · refine r_aload_n e_X11_doCommand_135 rfl ?_
              refine r_iload e_X11_doCommand_136 rfl ?_
              refine r_iload e_X11_doCommand_138 rfl ?_
              refine r_iconst e_X11_doCommand_140 ic_m1 ?_
              refine cV3v e_X11_doCommand_141 cl_X11_270 ⟨Nat.le_of_ble_eq_true rfl, Nat.le_of_ble_eq_true rfl⟩ ⟨rfl, rfl⟩ k0 (Nat.le_of_ble_eq_true rfl) (S_X11_robotAt hb1 (g15 h25_0 h29_1 h33_14 h40_15 h120_16 h131_17)) ?_
              refine p_istore_8_7 e_X11_doCommand_144 rfl rfl ?_
              refine r_iload e_X11_doCommand_146 rfl ?_
              refine r_if_lt e_X11_doCommand_148 (fun h148_18 => ?_) (fun h148_18 => ?_)
              · refine r_aload_n e_X11_doCommand_208 rfl ?_
                refine r_iload_n e_X11_doCommand_209 rfl ?_
                refine r_iconst e_X11_doCommand_210 ic_0 ?_
                refine r_iload e_X11_doCommand_211 rfl ?_
                refine cV3u e_X11_doCommand_213 cl_X11_282 ⟨Nat.le_of_ble_eq_true rfl, Nat.le_of_ble_eq_true rfl⟩ ⟨rfl, rfl⟩ k0 (Nat.le_of_ble_eq_true rfl) (S_X11_set hb1 (g16 h25_0 h29_1 h33_14 h40_15 h120_16 h131_17 h148_18)) ?_
                refine r_aload_n e_X11_doCommand_216 rfl ?_
                refine r_iload_n e_X11_doCommand_217 rfl ?_
                refine r_iconst e_X11_doCommand_218 ic_1 ?_
                refine r_iload e_X11_doCommand_219 rfl ?_
                refine cV3u e_X11_doCommand_221 cl_X11_282 ⟨Nat.le_of_ble_eq_true rfl, Nat.le_of_ble_eq_true rfl⟩ ⟨rfl, rfl⟩ k0 (Nat.le_of_ble_eq_true rfl) (S_X11_set hb1 (g17 h25_0 h29_1 h33_14 h40_15 h120_16 h131_17 h148_18)) ?_
                obtain ⟨Mc2, e_Mc2⟩ : ∃ z : Mem, z = (U_X11_set x1 (1 : Int32) ((V_X11_of x1 (1 : Int32) mA M) + (M.1 263 x1.toNatClampNeg)) mA (U_X11_set x1 (0 : Int32) ((V_X11_of x1 (0 : Int32) mA M) + (M.1 262 x1.toNatClampNeg)) mA M)) := ⟨_, rfl⟩
                rw [← e_Mc2]
                refine r_aload_n e_X11_doCommand_224 rfl ?_
                refine r_getR e_X11_doCommand_225 fl_X11_212 k0 k5 ?_
                refine r_bipush e_X11_doCommand_228 bp_16 ?_
                refine r_iaload e_X11_doCommand_230 k6 (by unfold vp_in; decide) ?_
                refine r_iload_n e_X11_doCommand_231 rfl ?_
                obtain ⟨M19_0, e_M19_0⟩ : ∃ z : Mem, z = (if (Mc2.1 mA (16 : Int32).toNatClampNeg) = x1 then (setI (setI Mc2 mA (14 : Int32).toNatClampNeg ((V_X11_of x1 (0 : Int32) mA M) + (M.1 262 x1.toNatClampNeg))) mA (15 : Int32).toNatClampNeg ((V_X11_of x1 (1 : Int32) mA M) + (M.1 263 x1.toNatClampNeg))) else (if 0 ≤ (Mc2.1 mA (16 : Int32).toNatClampNeg) then Mc2 else (if (Mc2.1 mA (14 : Int32).toNatClampNeg) = ((V_X11_of x1 (0 : Int32) mA M) + (M.1 262 x1.toNatClampNeg)) then (if (Mc2.1 mA (15 : Int32).toNatClampNeg) = ((V_X11_of x1 (1 : Int32) mA M) + (M.1 263 x1.toNatClampNeg)) then (U_X11_hold x1 mA Mc2) else Mc2) else Mc2))) := ⟨_, rfl⟩
                suffices j295_19 : WP m_X11_doCommand (fun r sh' M'' => r = none ∧ sh' = sh ∧ M'' = (U_X11_doCommand x1 mA M)) 295 [some (.ref 242), some (.int x1), some (.int (M.1 262 x1.toNatClampNeg)), some (.int (M.1 263 x1.toNatClampNeg)), some (.int (V_X11_of x1 (10 : Int32) mA M)), some (.int ((V_X11_of x1 (0 : Int32) mA M) + (M.1 262 x1.toNatClampNeg))), some (.int ((V_X11_of x1 (1 : Int32) mA M) + (M.1 263 x1.toNatClampNeg))), some (.int (V_X11_robotAt ((V_X11_of x1 (0 : Int32) mA M) + (M.1 262 x1.toNatClampNeg)) ((V_X11_of x1 (1 : Int32) mA M) + (M.1 263 x1.toNatClampNeg)) (-1 : Int32) mA M))] [] sh M19_0 0 0 by
                  refine r_icmp_ne e_X11_doCommand_232 (fun h232_19 => ?_) (fun h232_19 => ?_)
                  · refine r_aload_n e_X11_doCommand_256 rfl ?_
                    refine r_getR e_X11_doCommand_257 fl_X11_212 k0 k5 ?_
                    refine r_bipush e_X11_doCommand_260 bp_16 ?_
                    refine r_iaload e_X11_doCommand_262 k6 (by unfold vp_in; decide) ?_
                    refine r_if_ge e_X11_doCommand_263 (fun h263_20 => ?_) (fun h263_20 => ?_)
                    · rw [show M19_0 = Mc2 from ((e_M19_0.trans (if_neg h232_19)).trans (if_pos h263_20))] at j295_19; exact j295_19
                    · refine r_aload_n e_X11_doCommand_266 rfl ?_
                      refine r_getR e_X11_doCommand_267 fl_X11_212 k0 k5 ?_
                      refine r_bipush e_X11_doCommand_270 bp_14 ?_
                      refine r_iaload e_X11_doCommand_272 k6 (by unfold vp_in; decide) ?_
                      refine r_iload e_X11_doCommand_273 rfl ?_
                      refine r_icmp_ne e_X11_doCommand_275 (fun h275_21 => ?_) (fun h275_21 => ?_)
                      · rw [show M19_0 = Mc2 from (((e_M19_0.trans (if_neg h232_19)).trans (if_neg h263_20)).trans (if_neg h275_21))] at j295_19; exact j295_19
                      · refine r_aload_n e_X11_doCommand_278 rfl ?_
                        refine r_getR e_X11_doCommand_279 fl_X11_212 k0 k5 ?_
                        refine r_bipush e_X11_doCommand_282 bp_15 ?_
                        refine r_iaload e_X11_doCommand_284 k6 (by unfold vp_in; decide) ?_
                        refine r_iload e_X11_doCommand_285 rfl ?_
                        refine r_icmp_ne e_X11_doCommand_287 (fun h287_22 => ?_) (fun h287_22 => ?_)
                        · rw [show M19_0 = Mc2 from ((((e_M19_0.trans (if_neg h232_19)).trans (if_neg h263_20)).trans (if_pos h275_21)).trans (if_neg h287_22))] at j295_19; exact j295_19
                        · refine r_aload_n e_X11_doCommand_290 rfl ?_
                          refine r_iload_n e_X11_doCommand_291 rfl ?_
                          refine cV1u e_X11_doCommand_292 cl_X11_367 ⟨Nat.le_of_ble_eq_true rfl, Nat.le_of_ble_eq_true rfl⟩ ⟨rfl, rfl⟩ k0 (Nat.le_of_ble_eq_true rfl) (S_X11_hold hb1 (by subst e_Mc2; exact g18 h25_0 h29_1 h33_14 h40_15 h120_16 h131_17 h148_18 h232_19 h263_20 h275_21 h287_22) (by subst e_Mc2; exact g19 h25_0 h29_1 h33_14 h40_15 h120_16 h131_17 h148_18 h232_19 h263_20 h275_21 h287_22)) ?_
                          rw [show M19_0 = U_X11_hold x1 mA Mc2 from ((((e_M19_0.trans (if_neg h232_19)).trans (if_neg h263_20)).trans (if_pos h275_21)).trans (if_pos h287_22))] at j295_19; exact j295_19
                  · refine r_aload_n e_X11_doCommand_235 rfl ?_
                    refine r_getR e_X11_doCommand_236 fl_X11_212 k0 k5 ?_
                    refine r_bipush e_X11_doCommand_239 bp_14 ?_
                    refine r_iload e_X11_doCommand_241 rfl ?_
                    refine r_iastore e_X11_doCommand_243 k6 (by unfold vp_in; decide) ?_
                    refine r_aload_n e_X11_doCommand_244 rfl ?_
                    refine r_getR e_X11_doCommand_245 fl_X11_212 k0 k5 ?_
                    refine r_bipush e_X11_doCommand_248 bp_15 ?_
                    refine r_iload e_X11_doCommand_250 rfl ?_
                    refine r_iastore e_X11_doCommand_252 k6 (by unfold vp_in; decide) ?_
                    refine r_goto e_X11_doCommand_253 ?_
                    rw [show M19_0 = setI (setI Mc2 mA (14 : Int32).toNatClampNeg ((V_X11_of x1 (0 : Int32) mA M) + (M.1 262 x1.toNatClampNeg))) mA (15 : Int32).toNatClampNeg ((V_X11_of x1 (1 : Int32) mA M) + (M.1 263 x1.toNatClampNeg)) from (e_M19_0.trans (if_pos h232_19))] at j295_19; exact j295_19
                refine r_return e_X11_doCommand_295 rfl ⟨rfl, rfl⟩ ?_
                (subst e_M19_0 e_Mc2; refine ⟨?_, rfl, ?_⟩ <;> ((try unfold U_X11_doCommand); (try simp only [if_neg h25_0, if_pos h29_1, if_neg h33_14, if_neg h40_15, if_neg h120_16, if_neg h131_17, if_pos h148_18]); (try rfl)))
              · refine r_aload_n e_X11_doCommand_151 rfl ?_
                refine r_getR e_X11_doCommand_152 fl_X11_212 k0 k5 ?_
                refine r_bipush e_X11_doCommand_155 bp_16 ?_
                refine r_iaload e_X11_doCommand_157 k6 (by unfold vp_in; decide) ?_
                refine r_iload e_X11_doCommand_158 rfl ?_
                obtain ⟨M23_0, e_M23_0⟩ : ∃ z : Mem, z = (if (M.1 mA (16 : Int32).toNatClampNeg) = (V_X11_robotAt ((V_X11_of x1 (0 : Int32) mA M) + (M.1 262 x1.toNatClampNeg)) ((V_X11_of x1 (1 : Int32) mA M) + (M.1 263 x1.toNatClampNeg)) (-1 : Int32) mA M) then (if ((V_X11_robotAt ((V_X11_of x1 (0 : Int32) mA M) + (M.1 262 x1.toNatClampNeg)) ((V_X11_of x1 (1 : Int32) mA M) + (M.1 263 x1.toNatClampNeg)) (-1 : Int32) mA M) / (5 : Int32)) = (x1 / (5 : Int32)) then M else (if ((M.1 mA (3 : Int32).toNatClampNeg) - (M.1 mA (20 : Int32).toNatClampNeg)) < (2 : Int32) then M else (setI (U_X11_hold x1 mA M) mA (10 : Int32).toNatClampNeg (((U_X11_hold x1 mA M).1 mA (10 : Int32).toNatClampNeg) + (1 : Int32))))) else M) := ⟨_, rfl⟩
                suffices j207_23 : WP m_X11_doCommand (fun r sh' M'' => r = none ∧ sh' = sh ∧ M'' = (U_X11_doCommand x1 mA M)) 207 [some (.ref 242), some (.int x1), some (.int (M.1 262 x1.toNatClampNeg)), some (.int (M.1 263 x1.toNatClampNeg)), some (.int (V_X11_of x1 (10 : Int32) mA M)), some (.int ((V_X11_of x1 (0 : Int32) mA M) + (M.1 262 x1.toNatClampNeg))), some (.int ((V_X11_of x1 (1 : Int32) mA M) + (M.1 263 x1.toNatClampNeg))), some (.int (V_X11_robotAt ((V_X11_of x1 (0 : Int32) mA M) + (M.1 262 x1.toNatClampNeg)) ((V_X11_of x1 (1 : Int32) mA M) + (M.1 263 x1.toNatClampNeg)) (-1 : Int32) mA M))] [] sh M23_0 0 0 by
                  refine r_icmp_ne e_X11_doCommand_160 (fun h160_23 => ?_) (fun h160_23 => ?_)
                  · rw [show M23_0 = M from (e_M23_0.trans (if_neg h160_23))] at j207_23; exact j207_23
                  · refine r_iload e_X11_doCommand_163 rfl ?_
                    refine r_iconst e_X11_doCommand_165 ic_5 ?_
                    refine r_idiv e_X11_doCommand_166 (by decide) ?_
                    refine r_iload_n e_X11_doCommand_167 rfl ?_
                    refine r_iconst e_X11_doCommand_168 ic_5 ?_
                    refine r_idiv e_X11_doCommand_169 (by decide) ?_
                    refine r_icmp_eq e_X11_doCommand_170 (fun h170_24 => ?_) (fun h170_24 => ?_)
                    · rw [show M23_0 = M from ((e_M23_0.trans (if_pos h160_23)).trans (if_pos h170_24))] at j207_23; exact j207_23
                    · refine r_aload_n e_X11_doCommand_173 rfl ?_
                      refine r_getR e_X11_doCommand_174 fl_X11_212 k0 k5 ?_
                      refine r_iconst e_X11_doCommand_177 ic_3 ?_
                      refine r_iaload e_X11_doCommand_178 k6 (by unfold vp_in; decide) ?_
                      refine r_aload_n e_X11_doCommand_179 rfl ?_
                      refine r_getR e_X11_doCommand_180 fl_X11_212 k0 k5 ?_
                      refine r_bipush e_X11_doCommand_183 bp_20 ?_
                      refine r_iaload e_X11_doCommand_185 k6 (by unfold vp_in; decide) ?_
                      refine r_isub e_X11_doCommand_186 ?_
                      refine r_iconst e_X11_doCommand_187 ic_2 ?_
                      refine r_icmp_lt e_X11_doCommand_188 (fun h188_25 => ?_) (fun h188_25 => ?_)
                      · rw [show M23_0 = M from (((e_M23_0.trans (if_pos h160_23)).trans (if_neg h170_24)).trans (if_pos h188_25))] at j207_23; exact j207_23
                      · refine r_aload_n e_X11_doCommand_191 rfl ?_
                        refine r_iload_n e_X11_doCommand_192 rfl ?_
                        refine cV1u e_X11_doCommand_193 cl_X11_367 ⟨Nat.le_of_ble_eq_true rfl, Nat.le_of_ble_eq_true rfl⟩ ⟨rfl, rfl⟩ k0 (Nat.le_of_ble_eq_true rfl) (S_X11_hold hb1 (g20 h25_0 h29_1 h33_14 h40_15 h120_16 h131_17 h148_18 h160_23 h170_24 h188_25) (g21 h25_0 h29_1 h33_14 h40_15 h120_16 h131_17 h148_18 h160_23 h170_24 h188_25)) ?_
                        refine r_aload_n e_X11_doCommand_196 rfl ?_
                        refine r_getR e_X11_doCommand_197 fl_X11_212 k0 k5 ?_
                        refine r_bipush e_X11_doCommand_200 bp_10 ?_
                        refine r_dup2 e_X11_doCommand_202 rfl rfl ?_
                        refine r_iaload e_X11_doCommand_203 k6 (by unfold vp_in; decide) ?_
                        refine r_iconst e_X11_doCommand_204 ic_1 ?_
                        refine r_iadd e_X11_doCommand_205 ?_
                        refine r_iastore e_X11_doCommand_206 k6 (by unfold vp_in; decide) ?_
                        rw [show M23_0 = setI (U_X11_hold x1 mA M) mA (10 : Int32).toNatClampNeg (((U_X11_hold x1 mA M).1 mA (10 : Int32).toNatClampNeg) + (1 : Int32)) from (((e_M23_0.trans (if_pos h160_23)).trans (if_neg h170_24)).trans (if_neg h188_25))] at j207_23; exact j207_23
                refine r_return e_X11_doCommand_207 rfl ⟨rfl, rfl⟩ ?_
                (subst e_M23_0; refine ⟨?_, rfl, ?_⟩ <;> ((try unfold U_X11_doCommand); (try simp only [if_neg h25_0, if_pos h29_1, if_neg h33_14, if_neg h40_15, if_neg h120_16, if_neg h131_17, if_neg h148_18]); (try rfl)))
            · refine r_return e_X11_doCommand_134 rfl ⟨rfl, rfl⟩ ?_
              (refine ⟨?_, rfl, ?_⟩ <;> ((try unfold U_X11_doCommand); (try simp only [if_neg h25_0, if_pos h29_1, if_neg h33_14, if_neg h40_15, if_neg h120_16, if_pos h131_17]); (try rfl)))
        · refine r_aload_n e_X11_doCommand_43 rfl ?_
          refine r_getR e_X11_doCommand_44 fl_X11_212 k0 k5 ?_
          refine r_bipush e_X11_doCommand_47 bp_16 ?_
          refine r_iaload e_X11_doCommand_49 k6 (by unfold vp_in; decide) ?_
          refine r_iload_n e_X11_doCommand_50 rfl ?_
          obtain ⟨M26_0, e_M26_0⟩ : ∃ z : Mem, z = (if (M.1 mA (16 : Int32).toNatClampNeg) = x1 then (setI (setI (setI (setI M mA (16 : Int32).toNatClampNeg (-1 : Int32)) mA (17 : Int32).toNatClampNeg (M.1 264 x1.toNatClampNeg)) mA (18 : Int32).toNatClampNeg (M.1 262 x1.toNatClampNeg)) mA (19 : Int32).toNatClampNeg (M.1 263 x1.toNatClampNeg)) else M) := ⟨_, rfl⟩
          suffices j91_26 : WP m_X11_doCommand (fun r sh' M'' => r = none ∧ sh' = sh ∧ M'' = (U_X11_doCommand x1 mA M)) 91 [some (.ref 242), some (.int x1), some (.int (M.1 262 x1.toNatClampNeg)), some (.int (M.1 263 x1.toNatClampNeg)), some (.int (V_X11_of x1 (10 : Int32) mA M)), none, none, none] [] sh M26_0 0 0 by
            refine r_icmp_ne e_X11_doCommand_51 (fun h51_26 => ?_) (fun h51_26 => ?_)
            · rw [show M26_0 = M from (e_M26_0.trans (if_neg h51_26))] at j91_26; exact j91_26
            · refine r_aload_n e_X11_doCommand_54 rfl ?_
              refine r_getR e_X11_doCommand_55 fl_X11_212 k0 k5 ?_
              refine r_bipush e_X11_doCommand_58 bp_16 ?_
              refine r_iconst e_X11_doCommand_60 ic_m1 ?_
              refine r_iastore e_X11_doCommand_61 k6 (by unfold vp_in; decide) ?_
              refine r_aload_n e_X11_doCommand_62 rfl ?_
              refine r_getR e_X11_doCommand_63 fl_X11_212 k0 k5 ?_
              refine r_bipush e_X11_doCommand_66 bp_17 ?_
              refine r_aload_n e_X11_doCommand_68 rfl ?_
              refine r_getR e_X11_doCommand_69 fl_X11_230 k0 k7 ?_
              refine r_iload_n e_X11_doCommand_72 rfl ?_
              refine r_ialoade (v := (M.1 264 x1.toNatClampNeg)) e_X11_doCommand_73 k8 (g22 h25_0 h29_1 h33_14 h40_15 h51_26) (gs_aI (ne_kd k8 k6 (by decide))) ?_
              refine r_iastore e_X11_doCommand_74 k6 (by unfold vp_in; decide) ?_
              refine r_aload_n e_X11_doCommand_75 rfl ?_
              refine r_getR e_X11_doCommand_76 fl_X11_212 k0 k5 ?_
              refine r_bipush e_X11_doCommand_79 bp_18 ?_
              refine r_iload_n e_X11_doCommand_81 rfl ?_
              refine r_iastore e_X11_doCommand_82 k6 (by unfold vp_in; decide) ?_
              refine r_aload_n e_X11_doCommand_83 rfl ?_
              refine r_getR e_X11_doCommand_84 fl_X11_212 k0 k5 ?_
              refine r_bipush e_X11_doCommand_87 bp_19 ?_
              refine r_iload_n e_X11_doCommand_89 rfl ?_
              refine r_iastore e_X11_doCommand_90 k6 (by unfold vp_in; decide) ?_
              rw [show M26_0 = setI (setI (setI (setI M mA (16 : Int32).toNatClampNeg (-1 : Int32)) mA (17 : Int32).toNatClampNeg (M.1 264 x1.toNatClampNeg)) mA (18 : Int32).toNatClampNeg (M.1 262 x1.toNatClampNeg)) mA (19 : Int32).toNatClampNeg (M.1 263 x1.toNatClampNeg) from (e_M26_0.trans (if_pos h51_26))] at j91_26; exact j91_26
          refine r_return e_X11_doCommand_91 rfl ⟨rfl, rfl⟩ ?_
          (subst e_M26_0; refine ⟨?_, rfl, ?_⟩ <;> ((try unfold U_X11_doCommand); (try simp only [if_neg h25_0, if_pos h29_1, if_neg h33_14, if_pos h40_15]); (try rfl)))
      · refine r_return e_X11_doCommand_36 rfl ⟨rfl, rfl⟩ ?_
        (refine ⟨?_, rfl, ?_⟩ <;> ((try unfold U_X11_doCommand); (try simp only [if_neg h25_0, if_pos h29_1, if_pos h33_14]); (try rfl)))
def V_X11_ball (x1 : Int32) (mA : Nat) (M : Mem) : Int32 := if (V_X11_isMatch  mA M) = 0 then (V_X11_finding (-1003 : Int32) M) else (if (V_X11_in x1 (0 : Int32) (5 : Int32) M) = 0 then (V_X11_finding (-1001 : Int32) M) else (V_X11_ballOf mA (0 : Int32) x1 212 M))
def U_X11_ball (x1 : Int32) (mA : Nat) (M : Mem) : Mem := if (V_X11_isMatch  mA M) = 0 then (U_X11_finding (-1003 : Int32) M) else (if (V_X11_in x1 (0 : Int32) (5 : Int32) M) = 0 then (U_X11_finding (-1001 : Int32) M) else M)
def P_X11_ball (x1 : Int32) (mA : Nat) (M : Mem) : Prop := (¬ ((V_X11_isMatch  mA M) = 0) → ¬ ((V_X11_in x1 (0 : Int32) (5 : Int32) M) = 0) → P_X11_ballOf mA (0 : Int32) x1 212 M)
theorem S_X11_ball {sh : List SC} {M : Mem} {x1 : Int32} {mA : Nat} {oA : Nat} (hb1 : ModelAt sh mA oA)  (hP : P_X11_ball x1 mA M) : Gv m_X11_ball [.ref 242, .int x1] sh M (.int (V_X11_ball x1 mA M)) (U_X11_ball x1 mA M) := by
  refine Sp.of (ls := [some (.ref 242), some (.int x1)]) (by decide +kernel) (Nat.le_of_ble_eq_true rfl) rfl ?_
  have g1 : ¬ ((V_X11_isMatch  mA M) = 0) → ¬ ((V_X11_in x1 (0 : Int32) (5 : Int32) M) = 0) → P_X11_ballOf mA (0 : Int32) x1 212 M := hP
  have k0 : kd sh 242 = some (10 + 7, 0) := hb1.1
  have k1 : rf sh 242 27 = some mA := hb1.2.2.2.2.2.2.2.2.2.2.2.2.2.2.2.2.2.1
  have k2 : kd sh mA = some (0, 212) := hb1.2.2.2.2.2.2.2.2.2.2.2.2.2.2.2.2.2.2.2.2.2.2.2.2.2.2.2.2.2.2.2.2.2.2.2.2.2.2.2.2.2.2.2.2.2.2.2.2.2.2.2.1
  refine r_aload_n e_X11_ball_0 rfl ?_
  refine cV0v e_X11_ball_1 cl_X11_394 ⟨Nat.le_of_ble_eq_true rfl, Nat.le_of_ble_eq_true rfl⟩ ⟨rfl, rfl⟩ k0 (Nat.le_of_ble_eq_true rfl) (S_X11_isMatch hb1) ?_
  refine r_if_ne e_X11_ball_4 (fun h4_0 => ?_) (fun h4_0 => ?_)
  · refine r_iload_n e_X11_ball_15 rfl ?_
    refine r_iconst e_X11_ball_16 ic_0 ?_
    refine r_iconst e_X11_ball_17 ic_5 ?_
    refine cS3v e_X11_ball_18 cl_X11_245 ⟨Nat.le_of_ble_eq_true rfl, Nat.le_of_ble_eq_true rfl⟩ ⟨rfl, rfl⟩  (Nat.le_of_ble_eq_true rfl) (S_X11_in ) ?_
    refine r_if_ne e_X11_ball_21 (fun h21_1 => ?_) (fun h21_1 => ?_)
    · refine r_aload_n e_X11_ball_32 rfl ?_
      refine r_getR e_X11_ball_33 fl_X11_212 k0 k1 ?_
      refine r_iconst e_X11_ball_36 ic_0 ?_
      refine r_iload_n e_X11_ball_37 rfl ?_
      refine cS3v e_X11_ball_38 cl_X11_400 ⟨Nat.le_of_ble_eq_true rfl, Nat.le_of_ble_eq_true rfl⟩ ⟨rfl, rfl⟩  (Nat.le_of_ble_eq_true rfl) (S_X11_ballOf k2 (by first | decide | (unfold vp_in; decide) | exact Or.inl rfl | exact Or.inr rfl) (g1 h4_0 h21_1)) ?_
      refine r_ireturn e_X11_ball_41 rfl ⟨rfl, rfl⟩ ?_
      (refine ⟨?_, rfl, ?_⟩ <;> ((try unfold V_X11_ball); (try unfold U_X11_ball); (try simp only [if_neg h4_0, if_neg h21_1]); (try rfl)))
    · refine r_aload_n e_X11_ball_24 rfl ?_
      refine r_sipush e_X11_ball_25 sp_m1001 ?_
      refine cV1v e_X11_ball_28 cl_X11_178 ⟨Nat.le_of_ble_eq_true rfl, Nat.le_of_ble_eq_true rfl⟩ ⟨rfl, rfl⟩ k0 (Nat.le_of_ble_eq_true rfl) (S_X11_finding hb1 (by first | decide | (unfold vp_in; decide) | exact Or.inl rfl | exact Or.inr rfl)) ?_
      refine r_ireturn e_X11_ball_31 rfl ⟨rfl, rfl⟩ ?_
      (refine ⟨?_, rfl, ?_⟩ <;> ((try unfold V_X11_ball); (try unfold U_X11_ball); (try simp only [if_neg h4_0, if_pos h21_1]); (try rfl)))
  · refine r_aload_n e_X11_ball_7 rfl ?_
    refine r_sipush e_X11_ball_8 sp_m1003 ?_
    refine cV1v e_X11_ball_11 cl_X11_178 ⟨Nat.le_of_ble_eq_true rfl, Nat.le_of_ble_eq_true rfl⟩ ⟨rfl, rfl⟩ k0 (Nat.le_of_ble_eq_true rfl) (S_X11_finding hb1 (by first | decide | (unfold vp_in; decide) | exact Or.inl rfl | exact Or.inr rfl)) ?_
    refine r_ireturn e_X11_ball_14 rfl ⟨rfl, rfl⟩ ?_
    (refine ⟨?_, rfl, ?_⟩ <;> ((try unfold V_X11_ball); (try unfold U_X11_ball); (try simp only [if_pos h4_0]); (try rfl)))
def V_X11_table (x1 : Int32) (x2 : Int32) (M : Mem) : Int32 := if (V_X11_isTeam x1 M) = 0 then (V_X11_finding (-1001 : Int32) M) else (if (V_X11_in x2 (0 : Int32) (2 : Int32) M) = 0 then (V_X11_finding (-1001 : Int32) M) else (if (V_X11_hasPlayed x1 M) = 0 then (V_X11_finding (-1004 : Int32) M) else (let v3_0 : Int32 := if x2 = 0 then (M.1 265 x1.toNatClampNeg) else (if x2 = (1 : Int32) then (M.1 266 x1.toNatClampNeg) else (M.1 267 x1.toNatClampNeg)); v3_0)))
def U_X11_table (x1 : Int32) (x2 : Int32) (M : Mem) : Mem := if (V_X11_isTeam x1 M) = 0 then (U_X11_finding (-1001 : Int32) M) else (if (V_X11_in x2 (0 : Int32) (2 : Int32) M) = 0 then (U_X11_finding (-1001 : Int32) M) else (if (V_X11_hasPlayed x1 M) = 0 then (U_X11_finding (-1004 : Int32) M) else M))
def P_X11_table (x1 : Int32) (x2 : Int32) (M : Mem) : Prop := (¬ ((V_X11_isTeam x1 M) = 0) → ¬ ((V_X11_in x2 (0 : Int32) (2 : Int32) M) = 0) → ¬ ((V_X11_hasPlayed x1 M) = 0) → ¬ (x2 = 0) → ¬ (x2 = (1 : Int32)) → vp_in x1 4) ∧ (¬ ((V_X11_isTeam x1 M) = 0) → ¬ ((V_X11_in x2 (0 : Int32) (2 : Int32) M) = 0) → ¬ ((V_X11_hasPlayed x1 M) = 0) → ¬ (x2 = 0) → x2 = (1 : Int32) → vp_in x1 4) ∧ (¬ ((V_X11_isTeam x1 M) = 0) → ¬ ((V_X11_in x2 (0 : Int32) (2 : Int32) M) = 0) → ¬ ((V_X11_hasPlayed x1 M) = 0) → x2 = 0 → vp_in x1 4)
theorem S_X11_table {sh : List SC} {M : Mem} {x1 : Int32} {x2 : Int32} {mA : Nat} {oA : Nat} (hb1 : ModelAt sh mA oA)  (hP : P_X11_table x1 x2 M) : Gv m_X11_table [.ref 242, .int x1, .int x2] sh M (.int (V_X11_table x1 x2 M)) (U_X11_table x1 x2 M) := by
  refine Sp.of (ls := [some (.ref 242), some (.int x1), some (.int x2)]) (by decide +kernel) (Nat.le_of_ble_eq_true rfl) rfl ?_
  obtain ⟨g1, g2, g3⟩ := hP
  have k0 : kd sh 242 = some (10 + 7, 0) := hb1.1
  have k1 : rf sh 242 45 = some 267 := hb1.2.2.2.2.2.2.2.2.2.2.2.2.2.2.2.2.2.2.2.2.2.2.2.2.2.1
  have k2 : kd sh 267 = some (0, 4) := hb1.2.2.2.2.2.2.2.2.2.2.2.2.2.2.2.2.2.2.2.2.2.2.2.2.2.2.2.2.2.2.2.2.2.2.2.2.2.2.2.2.2.2.2.2.2.2.2.2.2.1
  have k3 : rf sh 242 44 = some 266 := hb1.2.2.2.2.2.2.2.2.2.2.2.2.2.2.2.2.2.2.2.2.2.2.2.2.1
  have k4 : kd sh 266 = some (0, 4) := hb1.2.2.2.2.2.2.2.2.2.2.2.2.2.2.2.2.2.2.2.2.2.2.2.2.2.2.2.2.2.2.2.2.2.2.2.2.2.2.2.2.2.2.2.2.2.2.2.2.1
  have k5 : rf sh 242 43 = some 265 := hb1.2.2.2.2.2.2.2.2.2.2.2.2.2.2.2.2.2.2.2.2.2.2.2.1
  have k6 : kd sh 265 = some (0, 4) := hb1.2.2.2.2.2.2.2.2.2.2.2.2.2.2.2.2.2.2.2.2.2.2.2.2.2.2.2.2.2.2.2.2.2.2.2.2.2.2.2.2.2.2.2.2.2.2.2.1
  refine r_iload_n e_X11_table_0 rfl ?_
  refine cS1v e_X11_table_1 cl_X11_249 ⟨Nat.le_of_ble_eq_true rfl, Nat.le_of_ble_eq_true rfl⟩ ⟨rfl, rfl⟩  (Nat.le_of_ble_eq_true rfl) (S_X11_isTeam ) ?_
  refine r_if_eq e_X11_table_4 (fun h4_0 => ?_) (fun h4_0 => ?_)
  · refine r_aload_n e_X11_table_16 rfl ?_
    refine r_sipush e_X11_table_17 sp_m1001 ?_
    refine cV1v e_X11_table_20 cl_X11_178 ⟨Nat.le_of_ble_eq_true rfl, Nat.le_of_ble_eq_true rfl⟩ ⟨rfl, rfl⟩ k0 (Nat.le_of_ble_eq_true rfl) (S_X11_finding hb1 (by first | decide | (unfold vp_in; decide) | exact Or.inl rfl | exact Or.inr rfl)) ?_
    refine r_ireturn e_X11_table_23 rfl ⟨rfl, rfl⟩ ?_
    (refine ⟨?_, rfl, ?_⟩ <;> ((try unfold V_X11_table); (try unfold U_X11_table); (try simp only [if_pos h4_0]); (try rfl)))
  · refine r_iload_n e_X11_table_7 rfl ?_
    refine r_iconst e_X11_table_8 ic_0 ?_
    refine r_iconst e_X11_table_9 ic_2 ?_
    refine cS3v e_X11_table_10 cl_X11_245 ⟨Nat.le_of_ble_eq_true rfl, Nat.le_of_ble_eq_true rfl⟩ ⟨rfl, rfl⟩  (Nat.le_of_ble_eq_true rfl) (S_X11_in ) ?_
    refine r_if_ne e_X11_table_13 (fun h13_1 => ?_) (fun h13_1 => ?_)
    · refine r_aload_n e_X11_table_24 rfl ?_
      refine r_iload_n e_X11_table_25 rfl ?_
      refine cV1v e_X11_table_26 cl_X11_414 ⟨Nat.le_of_ble_eq_true rfl, Nat.le_of_ble_eq_true rfl⟩ ⟨rfl, rfl⟩ k0 (Nat.le_of_ble_eq_true rfl) (S_X11_hasPlayed hb1) ?_
      refine r_if_ne e_X11_table_29 (fun h29_2 => ?_) (fun h29_2 => ?_)
      · refine r_iload_n e_X11_table_40 rfl ?_
        obtain ⟨v3_0, e_v3_0⟩ : ∃ z : Int32, z = (if x2 = 0 then (M.1 265 x1.toNatClampNeg) else (if x2 = (1 : Int32) then (M.1 266 x1.toNatClampNeg) else (M.1 267 x1.toNatClampNeg))) := ⟨_, rfl⟩
        suffices j73_3 : WP m_X11_table (fun r sh' M'' => r = some (.int (V_X11_table x1 x2 M)) ∧ sh' = sh ∧ M'' = (U_X11_table x1 x2 M)) 73 [some (.ref 242), some (.int x1), some (.int x2)] [.int v3_0] sh M 0 0 by
          refine r_if_ne e_X11_table_41 (fun h41_3 => ?_) (fun h41_3 => ?_)
          · refine r_iload_n e_X11_table_53 rfl ?_
            refine r_iconst e_X11_table_54 ic_1 ?_
            refine r_icmp_ne e_X11_table_55 (fun h55_4 => ?_) (fun h55_4 => ?_)
            · refine r_aload_n e_X11_table_67 rfl ?_
              refine r_getR e_X11_table_68 fl_X11_239 k0 k1 ?_
              refine r_iload_n e_X11_table_71 rfl ?_
              refine r_iaload e_X11_table_72 k2 (g1 h4_0 h13_1 h29_2 h41_3 h55_4) ?_
              rw [show v3_0 = (M.1 267 x1.toNatClampNeg) from ((e_v3_0.trans (if_neg h41_3)).trans (if_neg h55_4))] at j73_3; exact j73_3
            · refine r_aload_n e_X11_table_58 rfl ?_
              refine r_getR e_X11_table_59 fl_X11_236 k0 k3 ?_
              refine r_iload_n e_X11_table_62 rfl ?_
              refine r_iaload e_X11_table_63 k4 (g2 h4_0 h13_1 h29_2 h41_3 h55_4) ?_
              refine r_goto e_X11_table_64 ?_
              rw [show v3_0 = (M.1 266 x1.toNatClampNeg) from ((e_v3_0.trans (if_neg h41_3)).trans (if_pos h55_4))] at j73_3; exact j73_3
          · refine r_aload_n e_X11_table_44 rfl ?_
            refine r_getR e_X11_table_45 fl_X11_233 k0 k5 ?_
            refine r_iload_n e_X11_table_48 rfl ?_
            refine r_iaload e_X11_table_49 k6 (g3 h4_0 h13_1 h29_2 h41_3) ?_
            refine r_goto e_X11_table_50 ?_
            rw [show v3_0 = (M.1 265 x1.toNatClampNeg) from (e_v3_0.trans (if_pos h41_3))] at j73_3; exact j73_3
        refine r_ireturn e_X11_table_73 rfl ⟨rfl, rfl⟩ ?_
        (subst e_v3_0; refine ⟨?_, rfl, ?_⟩ <;> ((try unfold V_X11_table); (try unfold U_X11_table); (try simp only [if_neg h4_0, if_neg h13_1, if_neg h29_2]); (try rfl)))
      · refine r_aload_n e_X11_table_32 rfl ?_
        refine r_sipush e_X11_table_33 sp_m1004 ?_
        refine cV1v e_X11_table_36 cl_X11_178 ⟨Nat.le_of_ble_eq_true rfl, Nat.le_of_ble_eq_true rfl⟩ ⟨rfl, rfl⟩ k0 (Nat.le_of_ble_eq_true rfl) (S_X11_finding hb1 (by first | decide | (unfold vp_in; decide) | exact Or.inl rfl | exact Or.inr rfl)) ?_
        refine r_ireturn e_X11_table_39 rfl ⟨rfl, rfl⟩ ?_
        (refine ⟨?_, rfl, ?_⟩ <;> ((try unfold V_X11_table); (try unfold U_X11_table); (try simp only [if_neg h4_0, if_neg h13_1, if_pos h29_2]); (try rfl)))
    · refine r_aload_n e_X11_table_16 rfl ?_
      refine r_sipush e_X11_table_17 sp_m1001 ?_
      refine cV1v e_X11_table_20 cl_X11_178 ⟨Nat.le_of_ble_eq_true rfl, Nat.le_of_ble_eq_true rfl⟩ ⟨rfl, rfl⟩ k0 (Nat.le_of_ble_eq_true rfl) (S_X11_finding hb1 (by first | decide | (unfold vp_in; decide) | exact Or.inl rfl | exact Or.inr rfl)) ?_
      refine r_ireturn e_X11_table_23 rfl ⟨rfl, rfl⟩ ?_
      (refine ⟨?_, rfl, ?_⟩ <;> ((try unfold V_X11_table); (try unfold U_X11_table); (try simp only [if_neg h4_0, if_pos h13_1]); (try rfl)))
def U_X2_putAtStart (a : Nat) (x1 : Int32) (M : Mem) : Mem := if x1 < 0 then M else (if x1 < (10 : Int32) then (let M2_0 : Mem := if ((U_X5_leave (a + 10 + 2 * x1.toNatClampNeg) M).1 (a + 4) 2) = x1 then (U_X0_go (a + 4) ((V_X2_freeCell a ((U_X5_leave (a + 10 + 2 * x1.toNatClampNeg) M).1 (a + 10 + 2 * x1.toNatClampNeg) 4) ((U_X5_leave (a + 10 + 2 * x1.toNatClampNeg) M).1 (a + 10 + 2 * x1.toNatClampNeg) 5) (U_X5_leave (a + 10 + 2 * x1.toNatClampNeg) M)) - (V_X2_freeCell a ((U_X5_leave (a + 10 + 2 * x1.toNatClampNeg) M).1 (a + 10 + 2 * x1.toNatClampNeg) 4) ((U_X5_leave (a + 10 + 2 * x1.toNatClampNeg) M).1 (a + 10 + 2 * x1.toNatClampNeg) 5) (U_X5_leave (a + 10 + 2 * x1.toNatClampNeg) M)) / (15 : Int32) * (15 : Int32)) ((V_X2_freeCell a ((U_X5_leave (a + 10 + 2 * x1.toNatClampNeg) M).1 (a + 10 + 2 * x1.toNatClampNeg) 4) ((U_X5_leave (a + 10 + 2 * x1.toNatClampNeg) M).1 (a + 10 + 2 * x1.toNatClampNeg) 5) (U_X5_leave (a + 10 + 2 * x1.toNatClampNeg) M)) / (15 : Int32)) (setI (setI (U_X5_leave (a + 10 + 2 * x1.toNatClampNeg) M) (a + 10 + 2 * x1.toNatClampNeg) 2 ((V_X2_freeCell a ((U_X5_leave (a + 10 + 2 * x1.toNatClampNeg) M).1 (a + 10 + 2 * x1.toNatClampNeg) 4) ((U_X5_leave (a + 10 + 2 * x1.toNatClampNeg) M).1 (a + 10 + 2 * x1.toNatClampNeg) 5) (U_X5_leave (a + 10 + 2 * x1.toNatClampNeg) M)) - (V_X2_freeCell a ((U_X5_leave (a + 10 + 2 * x1.toNatClampNeg) M).1 (a + 10 + 2 * x1.toNatClampNeg) 4) ((U_X5_leave (a + 10 + 2 * x1.toNatClampNeg) M).1 (a + 10 + 2 * x1.toNatClampNeg) 5) (U_X5_leave (a + 10 + 2 * x1.toNatClampNeg) M)) / (15 : Int32) * (15 : Int32))) (a + 10 + 2 * x1.toNatClampNeg) 3 ((V_X2_freeCell a ((U_X5_leave (a + 10 + 2 * x1.toNatClampNeg) M).1 (a + 10 + 2 * x1.toNatClampNeg) 4) ((U_X5_leave (a + 10 + 2 * x1.toNatClampNeg) M).1 (a + 10 + 2 * x1.toNatClampNeg) 5) (U_X5_leave (a + 10 + 2 * x1.toNatClampNeg) M)) / (15 : Int32)))) else (setI (setI (U_X5_leave (a + 10 + 2 * x1.toNatClampNeg) M) (a + 10 + 2 * x1.toNatClampNeg) 2 ((V_X2_freeCell a ((U_X5_leave (a + 10 + 2 * x1.toNatClampNeg) M).1 (a + 10 + 2 * x1.toNatClampNeg) 4) ((U_X5_leave (a + 10 + 2 * x1.toNatClampNeg) M).1 (a + 10 + 2 * x1.toNatClampNeg) 5) (U_X5_leave (a + 10 + 2 * x1.toNatClampNeg) M)) - (V_X2_freeCell a ((U_X5_leave (a + 10 + 2 * x1.toNatClampNeg) M).1 (a + 10 + 2 * x1.toNatClampNeg) 4) ((U_X5_leave (a + 10 + 2 * x1.toNatClampNeg) M).1 (a + 10 + 2 * x1.toNatClampNeg) 5) (U_X5_leave (a + 10 + 2 * x1.toNatClampNeg) M)) / (15 : Int32) * (15 : Int32))) (a + 10 + 2 * x1.toNatClampNeg) 3 ((V_X2_freeCell a ((U_X5_leave (a + 10 + 2 * x1.toNatClampNeg) M).1 (a + 10 + 2 * x1.toNatClampNeg) 4) ((U_X5_leave (a + 10 + 2 * x1.toNatClampNeg) M).1 (a + 10 + 2 * x1.toNatClampNeg) 5) (U_X5_leave (a + 10 + 2 * x1.toNatClampNeg) M)) / (15 : Int32))); M2_0) else M)
theorem S_X2_putAtStart {sh : List SC} {M : Mem} {a : Nat} {x1 : Int32}  (hb1 : MatchAt sh a)  : Gu m_X2_putAtStart [.ref a, .int x1] sh M (U_X2_putAtStart a x1 M) := by
  refine Sp.of (ls := [some (.ref a), some (.int x1), none, none]) (by decide +kernel) (Nat.le_of_ble_eq_true rfl) rfl ?_
  have k0 : kd sh a = some (2 + 7, 0) := hb1.1
  have k1 : rf sh a 3 = some (a + 3) := hb1.2.2.2.2.1
  have k2 : kd sh (a + 3) = some (6, 10) := hb1.2.2.2.2.2.2.2.1
  have k3 : rf sh a 4 = some (a + 4) := hb1.2.2.2.2.2.1
  have k4 : kd sh (a + 4) = some (0 + 7, 0) := hb1.2.2.2.2.2.2.2.2.2.1.1
  refine r_iload_n e_X2_putAtStart_0 rfl ?_
  refine r_if_lt e_X2_putAtStart_1 (fun h1_0 => ?_) (fun h1_0 => ?_)
  · refine r_return e_X2_putAtStart_13 rfl ⟨rfl, rfl⟩ ?_
    (refine ⟨?_, rfl, ?_⟩ <;> ((try unfold U_X2_putAtStart); (try simp only [if_pos h1_0]); (try rfl)))
  · refine r_iload_n e_X2_putAtStart_4 rfl ?_
    refine r_aload_n e_X2_putAtStart_5 rfl ?_
    refine r_getR e_X2_putAtStart_6 fl_X2_20 k0 k1 ?_
    refine r_alen (v := (10 : Int32)) e_X2_putAtStart_9 k2 (by decide) rfl ?_
    refine r_icmp_lt e_X2_putAtStart_10 (fun h10_1 => ?_) (fun h10_1 => ?_)
    · refine r_aload_n e_X2_putAtStart_14 rfl ?_
      refine r_getR e_X2_putAtStart_15 fl_X2_20 k0 k1 ?_
      refine r_iload_n e_X2_putAtStart_18 rfl ?_
      refine r_aaload (b := (a + 10 + 2 * x1.toNatClampNeg)) e_X2_putAtStart_19 k2 ⟨by decide, by decide⟩ (vp_guard h1_0 (i_nle h10_1) (by decide)) (hb1.2.2.2.2.2.2.2.2.1 x1.toNatClampNeg (vp_lt (vp_guard h1_0 (i_nle h10_1) (by decide)))).1 ?_
      refine p_astore_n_4_2 e_X2_putAtStart_20 rfl rfl ?_
      refine r_aload_n e_X2_putAtStart_21 rfl ?_
      refine cV0u e_X2_putAtStart_22 cl_X2_94 ⟨Nat.le_of_ble_eq_true rfl, Nat.le_of_ble_eq_true rfl⟩ ⟨rfl, rfl⟩ (show kd sh (a + 10 + 2 * x1.toNatClampNeg) = some (5 + 7, 0) from (hb1.2.2.2.2.2.2.2.2.1 x1.toNatClampNeg (vp_lt (vp_guard h1_0 (i_nle h10_1) (by decide)))).2.1) (Nat.le_of_ble_eq_true rfl) (S_X5_leave (hb1.2.2.2.2.2.2.2.2.1 x1.toNatClampNeg (vp_lt (vp_guard h1_0 (i_nle h10_1) (by decide)))).2) ?_
      refine r_aload_n e_X2_putAtStart_25 rfl ?_
      refine r_aload_n e_X2_putAtStart_26 rfl ?_
      refine r_getI e_X2_putAtStart_27 fl_X2_120 i0 (show kd sh (a + 10 + 2 * x1.toNatClampNeg) = some (5 + 7, 0) from (hb1.2.2.2.2.2.2.2.2.1 x1.toNatClampNeg (vp_lt (vp_guard h1_0 (i_nle h10_1) (by decide)))).2.1) ?_
      refine r_aload_n e_X2_putAtStart_30 rfl ?_
      refine r_getI e_X2_putAtStart_31 fl_X2_123 i0 (show kd sh (a + 10 + 2 * x1.toNatClampNeg) = some (5 + 7, 0) from (hb1.2.2.2.2.2.2.2.2.1 x1.toNatClampNeg (vp_lt (vp_guard h1_0 (i_nle h10_1) (by decide)))).2.1) ?_
      refine cV2v e_X2_putAtStart_34 cl_X2_126 ⟨Nat.le_of_ble_eq_true rfl, Nat.le_of_ble_eq_true rfl⟩ ⟨rfl, rfl⟩ k0 (Nat.le_of_ble_eq_true rfl) (S_X2_freeCell hb1) ?_
      refine p_istore_n_4_3 e_X2_putAtStart_37 rfl rfl ?_
      refine r_aload_n e_X2_putAtStart_38 rfl ?_
      refine r_iload_n e_X2_putAtStart_39 rfl ?_
      refine r_bipush e_X2_putAtStart_40 bp_15 ?_
      refine r_irem e_X2_putAtStart_42 (by decide) ?_
      refine r_putI e_X2_putAtStart_43 fl_X2_130 (show kd sh (a + 10 + 2 * x1.toNatClampNeg) = some (5 + 7, 0) from (hb1.2.2.2.2.2.2.2.2.1 x1.toNatClampNeg (vp_lt (vp_guard h1_0 (i_nle h10_1) (by decide)))).2.1) ?_
      refine r_aload_n e_X2_putAtStart_46 rfl ?_
      refine r_iload_n e_X2_putAtStart_47 rfl ?_
      refine r_bipush e_X2_putAtStart_48 bp_15 ?_
      refine r_idiv e_X2_putAtStart_50 (by decide) ?_
      refine r_putI e_X2_putAtStart_51 fl_X2_131 (show kd sh (a + 10 + 2 * x1.toNatClampNeg) = some (5 + 7, 0) from (hb1.2.2.2.2.2.2.2.2.1 x1.toNatClampNeg (vp_lt (vp_guard h1_0 (i_nle h10_1) (by decide)))).2.1) ?_
      refine r_aload_n e_X2_putAtStart_54 rfl ?_
      refine r_getR e_X2_putAtStart_55 fl_X2_27 k0 k3 ?_
      refine r_getIe e_X2_putAtStart_58 fl_X2_132 i0 k4 ((gs_nI (by decide)).trans (gs_aI (by omega))) ?_
      refine r_iload_n e_X2_putAtStart_61 rfl ?_
      obtain ⟨M2_0, e_M2_0⟩ : ∃ z : Mem, z = (if ((U_X5_leave (a + 10 + 2 * x1.toNatClampNeg) M).1 (a + 4) 2) = x1 then (U_X0_go (a + 4) ((V_X2_freeCell a ((U_X5_leave (a + 10 + 2 * x1.toNatClampNeg) M).1 (a + 10 + 2 * x1.toNatClampNeg) 4) ((U_X5_leave (a + 10 + 2 * x1.toNatClampNeg) M).1 (a + 10 + 2 * x1.toNatClampNeg) 5) (U_X5_leave (a + 10 + 2 * x1.toNatClampNeg) M)) - (V_X2_freeCell a ((U_X5_leave (a + 10 + 2 * x1.toNatClampNeg) M).1 (a + 10 + 2 * x1.toNatClampNeg) 4) ((U_X5_leave (a + 10 + 2 * x1.toNatClampNeg) M).1 (a + 10 + 2 * x1.toNatClampNeg) 5) (U_X5_leave (a + 10 + 2 * x1.toNatClampNeg) M)) / (15 : Int32) * (15 : Int32)) ((V_X2_freeCell a ((U_X5_leave (a + 10 + 2 * x1.toNatClampNeg) M).1 (a + 10 + 2 * x1.toNatClampNeg) 4) ((U_X5_leave (a + 10 + 2 * x1.toNatClampNeg) M).1 (a + 10 + 2 * x1.toNatClampNeg) 5) (U_X5_leave (a + 10 + 2 * x1.toNatClampNeg) M)) / (15 : Int32)) (setI (setI (U_X5_leave (a + 10 + 2 * x1.toNatClampNeg) M) (a + 10 + 2 * x1.toNatClampNeg) 2 ((V_X2_freeCell a ((U_X5_leave (a + 10 + 2 * x1.toNatClampNeg) M).1 (a + 10 + 2 * x1.toNatClampNeg) 4) ((U_X5_leave (a + 10 + 2 * x1.toNatClampNeg) M).1 (a + 10 + 2 * x1.toNatClampNeg) 5) (U_X5_leave (a + 10 + 2 * x1.toNatClampNeg) M)) - (V_X2_freeCell a ((U_X5_leave (a + 10 + 2 * x1.toNatClampNeg) M).1 (a + 10 + 2 * x1.toNatClampNeg) 4) ((U_X5_leave (a + 10 + 2 * x1.toNatClampNeg) M).1 (a + 10 + 2 * x1.toNatClampNeg) 5) (U_X5_leave (a + 10 + 2 * x1.toNatClampNeg) M)) / (15 : Int32) * (15 : Int32))) (a + 10 + 2 * x1.toNatClampNeg) 3 ((V_X2_freeCell a ((U_X5_leave (a + 10 + 2 * x1.toNatClampNeg) M).1 (a + 10 + 2 * x1.toNatClampNeg) 4) ((U_X5_leave (a + 10 + 2 * x1.toNatClampNeg) M).1 (a + 10 + 2 * x1.toNatClampNeg) 5) (U_X5_leave (a + 10 + 2 * x1.toNatClampNeg) M)) / (15 : Int32)))) else (setI (setI (U_X5_leave (a + 10 + 2 * x1.toNatClampNeg) M) (a + 10 + 2 * x1.toNatClampNeg) 2 ((V_X2_freeCell a ((U_X5_leave (a + 10 + 2 * x1.toNatClampNeg) M).1 (a + 10 + 2 * x1.toNatClampNeg) 4) ((U_X5_leave (a + 10 + 2 * x1.toNatClampNeg) M).1 (a + 10 + 2 * x1.toNatClampNeg) 5) (U_X5_leave (a + 10 + 2 * x1.toNatClampNeg) M)) - (V_X2_freeCell a ((U_X5_leave (a + 10 + 2 * x1.toNatClampNeg) M).1 (a + 10 + 2 * x1.toNatClampNeg) 4) ((U_X5_leave (a + 10 + 2 * x1.toNatClampNeg) M).1 (a + 10 + 2 * x1.toNatClampNeg) 5) (U_X5_leave (a + 10 + 2 * x1.toNatClampNeg) M)) / (15 : Int32) * (15 : Int32))) (a + 10 + 2 * x1.toNatClampNeg) 3 ((V_X2_freeCell a ((U_X5_leave (a + 10 + 2 * x1.toNatClampNeg) M).1 (a + 10 + 2 * x1.toNatClampNeg) 4) ((U_X5_leave (a + 10 + 2 * x1.toNatClampNeg) M).1 (a + 10 + 2 * x1.toNatClampNeg) 5) (U_X5_leave (a + 10 + 2 * x1.toNatClampNeg) M)) / (15 : Int32)))) := ⟨_, rfl⟩
      suffices j80_2 : WP m_X2_putAtStart (fun r sh' M'' => r = none ∧ sh' = sh ∧ M'' = (U_X2_putAtStart a x1 M)) 80 [some (.ref a), some (.int x1), some (.ref (a + 10 + 2 * x1.toNatClampNeg)), some (.int (V_X2_freeCell a ((U_X5_leave (a + 10 + 2 * x1.toNatClampNeg) M).1 (a + 10 + 2 * x1.toNatClampNeg) 4) ((U_X5_leave (a + 10 + 2 * x1.toNatClampNeg) M).1 (a + 10 + 2 * x1.toNatClampNeg) 5) (U_X5_leave (a + 10 + 2 * x1.toNatClampNeg) M)))] [] sh M2_0 0 0 by
        refine r_icmp_ne e_X2_putAtStart_62 (fun h62_2 => ?_) (fun h62_2 => ?_)
        · rw [show M2_0 = setI (setI (U_X5_leave (a + 10 + 2 * x1.toNatClampNeg) M) (a + 10 + 2 * x1.toNatClampNeg) 2 ((V_X2_freeCell a ((U_X5_leave (a + 10 + 2 * x1.toNatClampNeg) M).1 (a + 10 + 2 * x1.toNatClampNeg) 4) ((U_X5_leave (a + 10 + 2 * x1.toNatClampNeg) M).1 (a + 10 + 2 * x1.toNatClampNeg) 5) (U_X5_leave (a + 10 + 2 * x1.toNatClampNeg) M)) - (V_X2_freeCell a ((U_X5_leave (a + 10 + 2 * x1.toNatClampNeg) M).1 (a + 10 + 2 * x1.toNatClampNeg) 4) ((U_X5_leave (a + 10 + 2 * x1.toNatClampNeg) M).1 (a + 10 + 2 * x1.toNatClampNeg) 5) (U_X5_leave (a + 10 + 2 * x1.toNatClampNeg) M)) / (15 : Int32) * (15 : Int32))) (a + 10 + 2 * x1.toNatClampNeg) 3 ((V_X2_freeCell a ((U_X5_leave (a + 10 + 2 * x1.toNatClampNeg) M).1 (a + 10 + 2 * x1.toNatClampNeg) 4) ((U_X5_leave (a + 10 + 2 * x1.toNatClampNeg) M).1 (a + 10 + 2 * x1.toNatClampNeg) 5) (U_X5_leave (a + 10 + 2 * x1.toNatClampNeg) M)) / (15 : Int32)) from (e_M2_0.trans (if_neg h62_2))] at j80_2; exact j80_2
        · refine r_aload_n e_X2_putAtStart_65 rfl ?_
          refine r_getR e_X2_putAtStart_66 fl_X2_27 k0 k3 ?_
          refine r_aload_n e_X2_putAtStart_69 rfl ?_
          refine r_getIe e_X2_putAtStart_70 fl_X2_130 i0 (show kd sh (a + 10 + 2 * x1.toNatClampNeg) = some (5 + 7, 0) from (hb1.2.2.2.2.2.2.2.2.1 x1.toNatClampNeg (vp_lt (vp_guard h1_0 (i_nle h10_1) (by decide)))).2.1) ((gs_nI (by decide)).trans gs_eI) ?_
          refine r_aload_n e_X2_putAtStart_73 rfl ?_
          refine r_getIe e_X2_putAtStart_74 fl_X2_131 i0 (show kd sh (a + 10 + 2 * x1.toNatClampNeg) = some (5 + 7, 0) from (hb1.2.2.2.2.2.2.2.2.1 x1.toNatClampNeg (vp_lt (vp_guard h1_0 (i_nle h10_1) (by decide)))).2.1) gs_eI ?_
          refine cV2u e_X2_putAtStart_77 cl_X2_135 ⟨Nat.le_of_ble_eq_true rfl, Nat.le_of_ble_eq_true rfl⟩ ⟨rfl, rfl⟩ k4 (Nat.le_of_ble_eq_true rfl) (S_X0_go hb1.2.2.2.2.2.2.2.2.2.1) ?_
          rw [show M2_0 = U_X0_go (a + 4) ((V_X2_freeCell a ((U_X5_leave (a + 10 + 2 * x1.toNatClampNeg) M).1 (a + 10 + 2 * x1.toNatClampNeg) 4) ((U_X5_leave (a + 10 + 2 * x1.toNatClampNeg) M).1 (a + 10 + 2 * x1.toNatClampNeg) 5) (U_X5_leave (a + 10 + 2 * x1.toNatClampNeg) M)) - (V_X2_freeCell a ((U_X5_leave (a + 10 + 2 * x1.toNatClampNeg) M).1 (a + 10 + 2 * x1.toNatClampNeg) 4) ((U_X5_leave (a + 10 + 2 * x1.toNatClampNeg) M).1 (a + 10 + 2 * x1.toNatClampNeg) 5) (U_X5_leave (a + 10 + 2 * x1.toNatClampNeg) M)) / (15 : Int32) * (15 : Int32)) ((V_X2_freeCell a ((U_X5_leave (a + 10 + 2 * x1.toNatClampNeg) M).1 (a + 10 + 2 * x1.toNatClampNeg) 4) ((U_X5_leave (a + 10 + 2 * x1.toNatClampNeg) M).1 (a + 10 + 2 * x1.toNatClampNeg) 5) (U_X5_leave (a + 10 + 2 * x1.toNatClampNeg) M)) / (15 : Int32)) (setI (setI (U_X5_leave (a + 10 + 2 * x1.toNatClampNeg) M) (a + 10 + 2 * x1.toNatClampNeg) 2 ((V_X2_freeCell a ((U_X5_leave (a + 10 + 2 * x1.toNatClampNeg) M).1 (a + 10 + 2 * x1.toNatClampNeg) 4) ((U_X5_leave (a + 10 + 2 * x1.toNatClampNeg) M).1 (a + 10 + 2 * x1.toNatClampNeg) 5) (U_X5_leave (a + 10 + 2 * x1.toNatClampNeg) M)) - (V_X2_freeCell a ((U_X5_leave (a + 10 + 2 * x1.toNatClampNeg) M).1 (a + 10 + 2 * x1.toNatClampNeg) 4) ((U_X5_leave (a + 10 + 2 * x1.toNatClampNeg) M).1 (a + 10 + 2 * x1.toNatClampNeg) 5) (U_X5_leave (a + 10 + 2 * x1.toNatClampNeg) M)) / (15 : Int32) * (15 : Int32))) (a + 10 + 2 * x1.toNatClampNeg) 3 ((V_X2_freeCell a ((U_X5_leave (a + 10 + 2 * x1.toNatClampNeg) M).1 (a + 10 + 2 * x1.toNatClampNeg) 4) ((U_X5_leave (a + 10 + 2 * x1.toNatClampNeg) M).1 (a + 10 + 2 * x1.toNatClampNeg) 5) (U_X5_leave (a + 10 + 2 * x1.toNatClampNeg) M)) / (15 : Int32))) from (e_M2_0.trans (if_pos h62_2))] at j80_2; exact j80_2
      refine r_return e_X2_putAtStart_80 rfl ⟨rfl, rfl⟩ ?_
      (subst e_M2_0; refine ⟨?_, rfl, ?_⟩ <;> ((try unfold U_X2_putAtStart); (try simp only [if_neg h1_0, if_pos h10_1]); (try rfl)))
    · refine r_return e_X2_putAtStart_13 rfl ⟨rfl, rfl⟩ ?_
      (refine ⟨?_, rfl, ?_⟩ <;> ((try unfold U_X2_putAtStart); (try simp only [if_neg h1_0, if_neg h10_1]); (try rfl)))
def U_X2_putBall (a : Nat) (M : Mem) : Mem := (let Mc1 : Mem := U_X0_lie (a + 4) ((V_X2_freeCell a (7 : Int32) (4 : Int32) M) - (V_X2_freeCell a (7 : Int32) (4 : Int32) M) / (15 : Int32) * (15 : Int32)) ((V_X2_freeCell a (7 : Int32) (4 : Int32) M) / (15 : Int32)) M; Mc1)
theorem S_X2_putBall {sh : List SC} {M : Mem} {a : Nat}  (hb1 : MatchAt sh a)  : Gu m_X2_putBall [.ref a] sh M (U_X2_putBall a M) := by
  refine Sp.of (ls := [some (.ref a), none]) (by decide +kernel) (Nat.le_of_ble_eq_true rfl) rfl ?_
  have k0 : kd sh a = some (2 + 7, 0) := hb1.1
  have k1 : rf sh a 4 = some (a + 4) := hb1.2.2.2.2.2.1
  have k2 : kd sh (a + 4) = some (0 + 7, 0) := hb1.2.2.2.2.2.2.2.2.2.1.1
  refine r_aload_n e_X2_putBall_0 rfl ?_
  refine r_bipush e_X2_putBall_1 bp_7 ?_
  refine r_iconst e_X2_putBall_3 ic_4 ?_
  refine cV2v e_X2_putBall_4 cl_X2_126 ⟨Nat.le_of_ble_eq_true rfl, Nat.le_of_ble_eq_true rfl⟩ ⟨rfl, rfl⟩ k0 (Nat.le_of_ble_eq_true rfl) (S_X2_freeCell hb1) ?_
  refine p_istore_n_2_1 e_X2_putBall_7 rfl rfl ?_
  refine r_aload_n e_X2_putBall_8 rfl ?_
  refine r_getR e_X2_putBall_9 fl_X2_27 k0 k1 ?_
  refine r_iload_n e_X2_putBall_12 rfl ?_
  refine r_bipush e_X2_putBall_13 bp_15 ?_
  refine r_irem e_X2_putBall_15 (by decide) ?_
  refine r_iload_n e_X2_putBall_16 rfl ?_
  refine r_bipush e_X2_putBall_17 bp_15 ?_
  refine r_idiv e_X2_putBall_19 (by decide) ?_
  refine cV2u e_X2_putBall_20 cl_X2_138 ⟨Nat.le_of_ble_eq_true rfl, Nat.le_of_ble_eq_true rfl⟩ ⟨rfl, rfl⟩ k2 (Nat.le_of_ble_eq_true rfl) (S_X0_lie hb1.2.2.2.2.2.2.2.2.2.1) ?_
  obtain ⟨Mc1, e_Mc1⟩ : ∃ z : Mem, z = (U_X0_lie (a + 4) ((V_X2_freeCell a (7 : Int32) (4 : Int32) M) - (V_X2_freeCell a (7 : Int32) (4 : Int32) M) / (15 : Int32) * (15 : Int32)) ((V_X2_freeCell a (7 : Int32) (4 : Int32) M) / (15 : Int32)) M) := ⟨_, rfl⟩
  rw [← e_Mc1]
  refine r_return e_X2_putBall_23 rfl ⟨rfl, rfl⟩ ?_
  (subst e_Mc1; refine ⟨?_, rfl, ?_⟩ <;> ((try unfold U_X2_putBall); (try simp only []); (try rfl)))
def U_X2_doCommand (a : Nat) (x1 : Int32) (M : Mem) : Mem := if x1 < 0 then M else (if x1 < (10 : Int32) then (if (M.1 (a + 10 + 2 * x1.toNatClampNeg) 15) = 0 then (if (M.1 (a + 10 + 2 * x1.toNatClampNeg) 16) = 0 then M else (let M7_0 : Mem := if (M.1 (a + 10 + 2 * x1.toNatClampNeg) 14) = (1 : Int32) then (U_X2_move a (a + 10 + 2 * x1.toNatClampNeg) x1 M) else (if (M.1 (a + 10 + 2 * x1.toNatClampNeg) 14) = (2 : Int32) then (if (M.1 (a + 4) 2) = x1 then (U_X0_free (a + 4) (M.1 (a + 10 + 2 * x1.toNatClampNeg) 15) (M.1 (a + 10 + 2 * x1.toNatClampNeg) 16) (M.1 (a + 10 + 2 * x1.toNatClampNeg) 17) M) else M) else M); M7_0)) else (let M3_0 : Mem := if (M.1 (a + 10 + 2 * x1.toNatClampNeg) 14) = (1 : Int32) then (U_X2_move a (a + 10 + 2 * x1.toNatClampNeg) x1 M) else (if (M.1 (a + 10 + 2 * x1.toNatClampNeg) 14) = (2 : Int32) then (if (M.1 (a + 4) 2) = x1 then (U_X0_free (a + 4) (M.1 (a + 10 + 2 * x1.toNatClampNeg) 15) (M.1 (a + 10 + 2 * x1.toNatClampNeg) 16) (M.1 (a + 10 + 2 * x1.toNatClampNeg) 17) M) else M) else M); M3_0)) else M)
theorem S_X2_doCommand {sh : List SC} {M : Mem} {a : Nat} {x1 : Int32}  (hb1 : MatchAt sh a)  : Gu m_X2_doCommand [.ref a, .int x1] sh M (U_X2_doCommand a x1 M) := by
  refine Sp.of (ls := [some (.ref a), some (.int x1), none]) (by decide +kernel) (Nat.le_of_ble_eq_true rfl) rfl ?_
  have k0 : kd sh a = some (2 + 7, 0) := hb1.1
  have k1 : rf sh a 3 = some (a + 3) := hb1.2.2.2.2.1
  have k2 : kd sh (a + 3) = some (6, 10) := hb1.2.2.2.2.2.2.2.1
  have k3 : rf sh a 4 = some (a + 4) := hb1.2.2.2.2.2.1
  have k4 : kd sh (a + 4) = some (0 + 7, 0) := hb1.2.2.2.2.2.2.2.2.2.1.1
  refine r_iload_n e_X2_doCommand_0 rfl ?_
  refine r_if_lt e_X2_doCommand_1 (fun h1_0 => ?_) (fun h1_0 => ?_)
  · refine r_return e_X2_doCommand_13 rfl ⟨rfl, rfl⟩ ?_
    (refine ⟨?_, rfl, ?_⟩ <;> ((try unfold U_X2_doCommand); (try simp only [if_pos h1_0]); (try rfl)))
  · refine r_iload_n e_X2_doCommand_4 rfl ?_
    refine r_aload_n e_X2_doCommand_5 rfl ?_
    refine r_getR e_X2_doCommand_6 fl_X2_20 k0 k1 ?_
    refine r_alen (v := (10 : Int32)) e_X2_doCommand_9 k2 (by decide) rfl ?_
    refine r_icmp_lt e_X2_doCommand_10 (fun h10_1 => ?_) (fun h10_1 => ?_)
    · refine r_aload_n e_X2_doCommand_14 rfl ?_
      refine r_getR e_X2_doCommand_15 fl_X2_20 k0 k1 ?_
      refine r_iload_n e_X2_doCommand_18 rfl ?_
      refine r_aaload (b := (a + 10 + 2 * x1.toNatClampNeg)) e_X2_doCommand_19 k2 ⟨by decide, by decide⟩ (vp_guard h1_0 (i_nle h10_1) (by decide)) (hb1.2.2.2.2.2.2.2.2.1 x1.toNatClampNeg (vp_lt (vp_guard h1_0 (i_nle h10_1) (by decide)))).1 ?_
      refine p_astore_n_3_2 e_X2_doCommand_20 rfl rfl ?_
      refine r_aload_n e_X2_doCommand_21 rfl ?_
      refine r_getI e_X2_doCommand_22 fl_X2_213 i0 (show kd sh (a + 10 + 2 * x1.toNatClampNeg) = some (5 + 7, 0) from (hb1.2.2.2.2.2.2.2.2.1 x1.toNatClampNeg (vp_lt (vp_guard h1_0 (i_nle h10_1) (by decide)))).2.1) ?_
      refine r_if_ne e_X2_doCommand_25 (fun h25_2 => ?_) (fun h25_2 => ?_)
      · refine r_aload_n e_X2_doCommand_36 rfl ?_
        refine r_getI e_X2_doCommand_37 fl_X2_219 i0 (show kd sh (a + 10 + 2 * x1.toNatClampNeg) = some (5 + 7, 0) from (hb1.2.2.2.2.2.2.2.2.1 x1.toNatClampNeg (vp_lt (vp_guard h1_0 (i_nle h10_1) (by decide)))).2.1) ?_
        refine r_iconst e_X2_doCommand_40 ic_1 ?_
        obtain ⟨M3_0, e_M3_0⟩ : ∃ z : Mem, z = (if (M.1 (a + 10 + 2 * x1.toNatClampNeg) 14) = (1 : Int32) then (U_X2_move a (a + 10 + 2 * x1.toNatClampNeg) x1 M) else (if (M.1 (a + 10 + 2 * x1.toNatClampNeg) 14) = (2 : Int32) then (if (M.1 (a + 4) 2) = x1 then (U_X0_free (a + 4) (M.1 (a + 10 + 2 * x1.toNatClampNeg) 15) (M.1 (a + 10 + 2 * x1.toNatClampNeg) 16) (M.1 (a + 10 + 2 * x1.toNatClampNeg) 17) M) else M) else M)) := ⟨_, rfl⟩
        suffices j91_3 : WP m_X2_doCommand (fun r sh' M'' => r = none ∧ sh' = sh ∧ M'' = (U_X2_doCommand a x1 M)) 91 [some (.ref a), some (.int x1), some (.ref (a + 10 + 2 * x1.toNatClampNeg))] [] sh M3_0 0 0 by
          refine r_icmp_ne e_X2_doCommand_41 (fun h41_3 => ?_) (fun h41_3 => ?_)
          · refine r_aload_n e_X2_doCommand_53 rfl ?_
            refine r_getI e_X2_doCommand_54 fl_X2_219 i0 (show kd sh (a + 10 + 2 * x1.toNatClampNeg) = some (5 + 7, 0) from (hb1.2.2.2.2.2.2.2.2.1 x1.toNatClampNeg (vp_lt (vp_guard h1_0 (i_nle h10_1) (by decide)))).2.1) ?_
            refine r_iconst e_X2_doCommand_57 ic_2 ?_
            refine r_icmp_ne e_X2_doCommand_58 (fun h58_4 => ?_) (fun h58_4 => ?_)
            · rw [show M3_0 = M from ((e_M3_0.trans (if_neg h41_3)).trans (if_neg h58_4))] at j91_3; exact j91_3
            · refine r_aload_n e_X2_doCommand_61 rfl ?_
              refine r_getR e_X2_doCommand_62 fl_X2_27 k0 k3 ?_
              refine r_getI e_X2_doCommand_65 fl_X2_132 i0 k4 ?_
              refine r_iload_n e_X2_doCommand_68 rfl ?_
              refine r_icmp_ne e_X2_doCommand_69 (fun h69_5 => ?_) (fun h69_5 => ?_)
              · rw [show M3_0 = M from (((e_M3_0.trans (if_neg h41_3)).trans (if_pos h58_4)).trans (if_neg h69_5))] at j91_3; exact j91_3
              · refine r_aload_n e_X2_doCommand_72 rfl ?_
                refine r_getR e_X2_doCommand_73 fl_X2_27 k0 k3 ?_
                refine r_aload_n e_X2_doCommand_76 rfl ?_
                refine r_getI e_X2_doCommand_77 fl_X2_213 i0 (show kd sh (a + 10 + 2 * x1.toNatClampNeg) = some (5 + 7, 0) from (hb1.2.2.2.2.2.2.2.2.1 x1.toNatClampNeg (vp_lt (vp_guard h1_0 (i_nle h10_1) (by decide)))).2.1) ?_
                refine r_aload_n e_X2_doCommand_80 rfl ?_
                refine r_getI e_X2_doCommand_81 fl_X2_216 i0 (show kd sh (a + 10 + 2 * x1.toNatClampNeg) = some (5 + 7, 0) from (hb1.2.2.2.2.2.2.2.2.1 x1.toNatClampNeg (vp_lt (vp_guard h1_0 (i_nle h10_1) (by decide)))).2.1) ?_
                refine r_aload_n e_X2_doCommand_84 rfl ?_
                refine r_getI e_X2_doCommand_85 fl_X2_225 i0 (show kd sh (a + 10 + 2 * x1.toNatClampNeg) = some (5 + 7, 0) from (hb1.2.2.2.2.2.2.2.2.1 x1.toNatClampNeg (vp_lt (vp_guard h1_0 (i_nle h10_1) (by decide)))).2.1) ?_
                refine cV3u e_X2_doCommand_88 cl_X2_228 ⟨Nat.le_of_ble_eq_true rfl, Nat.le_of_ble_eq_true rfl⟩ ⟨rfl, rfl⟩ k4 (Nat.le_of_ble_eq_true rfl) (S_X0_free hb1.2.2.2.2.2.2.2.2.2.1) ?_
                rw [show M3_0 = U_X0_free (a + 4) (M.1 (a + 10 + 2 * x1.toNatClampNeg) 15) (M.1 (a + 10 + 2 * x1.toNatClampNeg) 16) (M.1 (a + 10 + 2 * x1.toNatClampNeg) 17) M from (((e_M3_0.trans (if_neg h41_3)).trans (if_pos h58_4)).trans (if_pos h69_5))] at j91_3; exact j91_3
          · refine r_aload_n e_X2_doCommand_44 rfl ?_
            refine r_aload_n e_X2_doCommand_45 rfl ?_
            refine r_iload_n e_X2_doCommand_46 rfl ?_
            refine cV2u e_X2_doCommand_47 cl_X2_222 ⟨Nat.le_of_ble_eq_true rfl, Nat.le_of_ble_eq_true rfl⟩ ⟨rfl, rfl⟩ k0 (Nat.le_of_ble_eq_true rfl) (S_X2_move hb1 (hb1.2.2.2.2.2.2.2.2.1 x1.toNatClampNeg (vp_lt (vp_guard h1_0 (i_nle h10_1) (by decide)))).2) ?_
            refine r_goto e_X2_doCommand_50 ?_
            rw [show M3_0 = U_X2_move a (a + 10 + 2 * x1.toNatClampNeg) x1 M from (e_M3_0.trans (if_pos h41_3))] at j91_3; exact j91_3
        refine r_return e_X2_doCommand_91 rfl ⟨rfl, rfl⟩ ?_
        (subst e_M3_0; refine ⟨?_, rfl, ?_⟩ <;> ((try unfold U_X2_doCommand); (try simp only [if_neg h1_0, if_pos h10_1, if_neg h25_2]); (try rfl)))
      · refine r_aload_n e_X2_doCommand_28 rfl ?_
        refine r_getI e_X2_doCommand_29 fl_X2_216 i0 (show kd sh (a + 10 + 2 * x1.toNatClampNeg) = some (5 + 7, 0) from (hb1.2.2.2.2.2.2.2.2.1 x1.toNatClampNeg (vp_lt (vp_guard h1_0 (i_nle h10_1) (by decide)))).2.1) ?_
        refine r_if_ne e_X2_doCommand_32 (fun h32_6 => ?_) (fun h32_6 => ?_)
        · refine r_aload_n e_X2_doCommand_36 rfl ?_
          refine r_getI e_X2_doCommand_37 fl_X2_219 i0 (show kd sh (a + 10 + 2 * x1.toNatClampNeg) = some (5 + 7, 0) from (hb1.2.2.2.2.2.2.2.2.1 x1.toNatClampNeg (vp_lt (vp_guard h1_0 (i_nle h10_1) (by decide)))).2.1) ?_
          refine r_iconst e_X2_doCommand_40 ic_1 ?_
          obtain ⟨M7_0, e_M7_0⟩ : ∃ z : Mem, z = (if (M.1 (a + 10 + 2 * x1.toNatClampNeg) 14) = (1 : Int32) then (U_X2_move a (a + 10 + 2 * x1.toNatClampNeg) x1 M) else (if (M.1 (a + 10 + 2 * x1.toNatClampNeg) 14) = (2 : Int32) then (if (M.1 (a + 4) 2) = x1 then (U_X0_free (a + 4) (M.1 (a + 10 + 2 * x1.toNatClampNeg) 15) (M.1 (a + 10 + 2 * x1.toNatClampNeg) 16) (M.1 (a + 10 + 2 * x1.toNatClampNeg) 17) M) else M) else M)) := ⟨_, rfl⟩
          suffices j91_7 : WP m_X2_doCommand (fun r sh' M'' => r = none ∧ sh' = sh ∧ M'' = (U_X2_doCommand a x1 M)) 91 [some (.ref a), some (.int x1), some (.ref (a + 10 + 2 * x1.toNatClampNeg))] [] sh M7_0 0 0 by
            refine r_icmp_ne e_X2_doCommand_41 (fun h41_7 => ?_) (fun h41_7 => ?_)
            · refine r_aload_n e_X2_doCommand_53 rfl ?_
              refine r_getI e_X2_doCommand_54 fl_X2_219 i0 (show kd sh (a + 10 + 2 * x1.toNatClampNeg) = some (5 + 7, 0) from (hb1.2.2.2.2.2.2.2.2.1 x1.toNatClampNeg (vp_lt (vp_guard h1_0 (i_nle h10_1) (by decide)))).2.1) ?_
              refine r_iconst e_X2_doCommand_57 ic_2 ?_
              refine r_icmp_ne e_X2_doCommand_58 (fun h58_8 => ?_) (fun h58_8 => ?_)
              · rw [show M7_0 = M from ((e_M7_0.trans (if_neg h41_7)).trans (if_neg h58_8))] at j91_7; exact j91_7
              · refine r_aload_n e_X2_doCommand_61 rfl ?_
                refine r_getR e_X2_doCommand_62 fl_X2_27 k0 k3 ?_
                refine r_getI e_X2_doCommand_65 fl_X2_132 i0 k4 ?_
                refine r_iload_n e_X2_doCommand_68 rfl ?_
                refine r_icmp_ne e_X2_doCommand_69 (fun h69_9 => ?_) (fun h69_9 => ?_)
                · rw [show M7_0 = M from (((e_M7_0.trans (if_neg h41_7)).trans (if_pos h58_8)).trans (if_neg h69_9))] at j91_7; exact j91_7
                · refine r_aload_n e_X2_doCommand_72 rfl ?_
                  refine r_getR e_X2_doCommand_73 fl_X2_27 k0 k3 ?_
                  refine r_aload_n e_X2_doCommand_76 rfl ?_
                  refine r_getI e_X2_doCommand_77 fl_X2_213 i0 (show kd sh (a + 10 + 2 * x1.toNatClampNeg) = some (5 + 7, 0) from (hb1.2.2.2.2.2.2.2.2.1 x1.toNatClampNeg (vp_lt (vp_guard h1_0 (i_nle h10_1) (by decide)))).2.1) ?_
                  refine r_aload_n e_X2_doCommand_80 rfl ?_
                  refine r_getI e_X2_doCommand_81 fl_X2_216 i0 (show kd sh (a + 10 + 2 * x1.toNatClampNeg) = some (5 + 7, 0) from (hb1.2.2.2.2.2.2.2.2.1 x1.toNatClampNeg (vp_lt (vp_guard h1_0 (i_nle h10_1) (by decide)))).2.1) ?_
                  refine r_aload_n e_X2_doCommand_84 rfl ?_
                  refine r_getI e_X2_doCommand_85 fl_X2_225 i0 (show kd sh (a + 10 + 2 * x1.toNatClampNeg) = some (5 + 7, 0) from (hb1.2.2.2.2.2.2.2.2.1 x1.toNatClampNeg (vp_lt (vp_guard h1_0 (i_nle h10_1) (by decide)))).2.1) ?_
                  refine cV3u e_X2_doCommand_88 cl_X2_228 ⟨Nat.le_of_ble_eq_true rfl, Nat.le_of_ble_eq_true rfl⟩ ⟨rfl, rfl⟩ k4 (Nat.le_of_ble_eq_true rfl) (S_X0_free hb1.2.2.2.2.2.2.2.2.2.1) ?_
                  rw [show M7_0 = U_X0_free (a + 4) (M.1 (a + 10 + 2 * x1.toNatClampNeg) 15) (M.1 (a + 10 + 2 * x1.toNatClampNeg) 16) (M.1 (a + 10 + 2 * x1.toNatClampNeg) 17) M from (((e_M7_0.trans (if_neg h41_7)).trans (if_pos h58_8)).trans (if_pos h69_9))] at j91_7; exact j91_7
            · refine r_aload_n e_X2_doCommand_44 rfl ?_
              refine r_aload_n e_X2_doCommand_45 rfl ?_
              refine r_iload_n e_X2_doCommand_46 rfl ?_
              refine cV2u e_X2_doCommand_47 cl_X2_222 ⟨Nat.le_of_ble_eq_true rfl, Nat.le_of_ble_eq_true rfl⟩ ⟨rfl, rfl⟩ k0 (Nat.le_of_ble_eq_true rfl) (S_X2_move hb1 (hb1.2.2.2.2.2.2.2.2.1 x1.toNatClampNeg (vp_lt (vp_guard h1_0 (i_nle h10_1) (by decide)))).2) ?_
              refine r_goto e_X2_doCommand_50 ?_
              rw [show M7_0 = U_X2_move a (a + 10 + 2 * x1.toNatClampNeg) x1 M from (e_M7_0.trans (if_pos h41_7))] at j91_7; exact j91_7
          refine r_return e_X2_doCommand_91 rfl ⟨rfl, rfl⟩ ?_
          (subst e_M7_0; refine ⟨?_, rfl, ?_⟩ <;> ((try unfold U_X2_doCommand); (try simp only [if_neg h1_0, if_pos h10_1, if_pos h25_2, if_neg h32_6]); (try rfl)))
        · refine r_return e_X2_doCommand_35 rfl ⟨rfl, rfl⟩ ?_
          (refine ⟨?_, rfl, ?_⟩ <;> ((try unfold U_X2_doCommand); (try simp only [if_neg h1_0, if_pos h10_1, if_pos h25_2, if_pos h32_6]); (try rfl)))
    · refine r_return e_X2_doCommand_13 rfl ⟨rfl, rfl⟩ ?_
      (refine ⟨?_, rfl, ?_⟩ <;> ((try unfold U_X2_doCommand); (try simp only [if_neg h1_0, if_neg h10_1]); (try rfl)))
def F_X2_thinsCrowd_7 (a : Nat) (x1 : Int32) : Nat → Nat → Int32 → Int32 → Mem → Int32 × Int32
  | 0, i7, u2, u3, M => (u2, u3)
  | n + 1, i7, u2, u3, M => (let v700_0 : Int32 := if (M.1 (a + 10 + 2 * i7) 1) = x1 then (if (2 : Int32) < (V_X5_seenX (a + 10 + 2 * i7) (M.1 (a + 10 + 2 * i7) 2) M) then u2 else (u2 + 1)) else u2; let v700_1 : Int32 := if (M.1 (a + 10 + 2 * i7) 1) = x1 then (if (2 : Int32) < (V_X5_seenX (a + 10 + 2 * i7) (M.1 (a + 10 + 2 * i7) 2) M) then u3 else (nI i7)) else u3; (F_X2_thinsCrowd_7 a x1 n (i7 + 1) v700_0 v700_1 M))
theorem L_X2_thinsCrowd_7 {sh : List SC} {Q : Po} {a : Nat} {x1 : Int32}    (hb1 : MatchAt sh a)   : ∀ (n i7 : Nat) (u2 : Int32) (u3 : Int32) (M : Mem), i7 + n = 10 → WP m_X2_thinsCrowd Q 67 [some (.ref a), some (.int x1), some (.int ((F_X2_thinsCrowd_7 a x1 n i7 u2 u3 M).1)), some (.int ((F_X2_thinsCrowd_7 a x1 n i7 u2 u3 M).2)), none] [] sh M 0 0 → WP m_X2_thinsCrowd Q 7 [some (.ref a), some (.int x1), some (.int u2), some (.int u3), some (.int (nI i7))] [] sh M 0 0 := by
  have k0 : kd sh a = some (2 + 7, 0) := hb1.1
  have k1 : rf sh a 3 = some (a + 3) := hb1.2.2.2.2.1
  have k2 : kd sh (a + 3) = some (6, 10) := hb1.2.2.2.2.2.2.2.1
  intro n
  induction n with
  | zero =>
    intro i7 u2 u3 M hi hq
    have hz : (10 : Int32) ≤ nI i7 := by
      have q : i7 = 10 := by omega
      rw [q]; exact nI_le (Nat.le_refl _) (by decide)
    refine r_iload e_X2_thinsCrowd_7 rfl ?_
    refine r_aload_n e_X2_thinsCrowd_9 rfl ?_
    refine r_getR e_X2_thinsCrowd_10 fl_X2_20 k0 k1 ?_
    refine r_alen (v := (10 : Int32)) e_X2_thinsCrowd_13 k2 (by decide) rfl ?_
    refine r_icmp_ge e_X2_thinsCrowd_14 (fun _ => ?_) (fun hh => absurd hz hh)
    refine d_5_4 ?_
    (simp only [F_X2_thinsCrowd_7] at hq; first | exact hq | (simp only []; exact hq))
  | succ n ih =>
    intro i7 u2 u3 M hi hq
    have hlt_i7 : i7 < 10 := by omega
    have hcl_i7 : (nI i7).toNatClampNeg = i7 := nI_clamp (by omega)
    have hs : ¬ (10 : Int32) ≤ nI i7 := nI_ge (b := 10) hlt_i7 (by decide)
    refine r_iload e_X2_thinsCrowd_7 rfl ?_
    refine r_aload_n e_X2_thinsCrowd_9 rfl ?_
    refine r_getR e_X2_thinsCrowd_10 fl_X2_20 k0 k1 ?_
    refine r_alen (v := (10 : Int32)) e_X2_thinsCrowd_13 k2 (by decide) rfl ?_
    refine r_icmp_ge e_X2_thinsCrowd_14 (fun hh => absurd hh hs) (fun _ => ?_)
    refine r_aload_n e_X2_thinsCrowd_17 rfl ?_
    refine r_getR e_X2_thinsCrowd_18 fl_X2_20 k0 k1 ?_
    refine r_iload e_X2_thinsCrowd_21 rfl ?_
    refine r_aaload (b := (a + 10 + 2 * i7)) e_X2_thinsCrowd_23 k2 ⟨by decide, by decide⟩ (vp_in_nI (Nat.lt_of_lt_of_le hlt_i7 (by decide)) (by decide)) (by rw [hcl_i7]; exact (hb1.2.2.2.2.2.2.2.2.1 i7 (Nat.lt_of_lt_of_le hlt_i7 (by decide))).1) ?_
    refine r_getI e_X2_thinsCrowd_24 fl_X2_207 i3 (show kd sh (a + 10 + 2 * i7) = some (5 + 7, 0) from (hb1.2.2.2.2.2.2.2.2.1 i7 (Nat.lt_of_lt_of_le hlt_i7 (by decide))).2.1) ?_
    refine r_iload_n e_X2_thinsCrowd_27 rfl ?_
    obtain ⟨v700_0, e_v700_0⟩ : ∃ z : Int32, z = (if (M.1 (a + 10 + 2 * i7) 1) = x1 then (if (2 : Int32) < (V_X5_seenX (a + 10 + 2 * i7) (M.1 (a + 10 + 2 * i7) 2) M) then u2 else (u2 + 1)) else u2) := ⟨_, rfl⟩
    obtain ⟨v700_1, e_v700_1⟩ : ∃ z : Int32, z = (if (M.1 (a + 10 + 2 * i7) 1) = x1 then (if (2 : Int32) < (V_X5_seenX (a + 10 + 2 * i7) (M.1 (a + 10 + 2 * i7) 2) M) then u3 else (nI i7)) else u3) := ⟨_, rfl⟩
    suffices j61_700 : WP m_X2_thinsCrowd Q 61 [some (.ref a), some (.int x1), some (.int v700_0), some (.int v700_1), some (.int (nI i7))] [] sh M 0 0 by
      refine r_icmp_ne e_X2_thinsCrowd_28 (fun h28_700 => ?_) (fun h28_700 => ?_)
      · rw [show v700_0 = u2 from (e_v700_0.trans (if_neg h28_700)), show v700_1 = u3 from (e_v700_1.trans (if_neg h28_700))] at j61_700; exact j61_700
      · refine r_aload_n e_X2_thinsCrowd_31 rfl ?_
        refine r_getR e_X2_thinsCrowd_32 fl_X2_20 k0 k1 ?_
        refine r_iload e_X2_thinsCrowd_35 rfl ?_
        refine r_aaload (b := (a + 10 + 2 * i7)) e_X2_thinsCrowd_37 k2 ⟨by decide, by decide⟩ (vp_in_nI (Nat.lt_of_lt_of_le hlt_i7 (by decide)) (by decide)) (by rw [hcl_i7]; exact (hb1.2.2.2.2.2.2.2.2.1 i7 (Nat.lt_of_lt_of_le hlt_i7 (by decide))).1) ?_
        refine r_aload_n e_X2_thinsCrowd_38 rfl ?_
        refine r_getR e_X2_thinsCrowd_39 fl_X2_20 k0 k1 ?_
        refine r_iload e_X2_thinsCrowd_42 rfl ?_
        refine r_aaload (b := (a + 10 + 2 * i7)) e_X2_thinsCrowd_44 k2 ⟨by decide, by decide⟩ (vp_in_nI (Nat.lt_of_lt_of_le hlt_i7 (by decide)) (by decide)) (by rw [hcl_i7]; exact (hb1.2.2.2.2.2.2.2.2.1 i7 (Nat.lt_of_lt_of_le hlt_i7 (by decide))).1) ?_
        refine r_getI e_X2_thinsCrowd_45 fl_X2_130 i0 (show kd sh (a + 10 + 2 * i7) = some (5 + 7, 0) from (hb1.2.2.2.2.2.2.2.2.1 i7 (Nat.lt_of_lt_of_le hlt_i7 (by decide))).2.1) ?_
        refine cV1v e_X2_thinsCrowd_48 cl_X2_185 ⟨Nat.le_of_ble_eq_true rfl, Nat.le_of_ble_eq_true rfl⟩ ⟨rfl, rfl⟩ (show kd sh (a + 10 + 2 * i7) = some (5 + 7, 0) from (hb1.2.2.2.2.2.2.2.2.1 i7 (Nat.lt_of_lt_of_le hlt_i7 (by decide))).2.1) (Nat.le_of_ble_eq_true rfl) (S_X5_seenX (hb1.2.2.2.2.2.2.2.2.1 i7 (Nat.lt_of_lt_of_le hlt_i7 (by decide))).2) ?_
        refine r_iconst e_X2_thinsCrowd_51 ic_2 ?_
        refine r_icmp_gt e_X2_thinsCrowd_52 (fun h52_701 => ?_) (fun h52_701 => ?_)
        · rw [show v700_0 = u2 from ((e_v700_0.trans (if_pos h28_700)).trans (if_pos h52_701)), show v700_1 = u3 from ((e_v700_1.trans (if_pos h28_700)).trans (if_pos h52_701))] at j61_700; exact j61_700
        · refine p_iinc_5_2 e_X2_thinsCrowd_55 rfl ic_1 rfl ?_
          refine r_iload e_X2_thinsCrowd_58 rfl ?_
          refine p_istore_n_5_3 e_X2_thinsCrowd_60 rfl rfl ?_
          rw [show v700_0 = (u2 + 1) from ((e_v700_0.trans (if_pos h28_700)).trans (if_neg h52_701)), show v700_1 = (nI i7) from ((e_v700_1.trans (if_pos h28_700)).trans (if_neg h52_701))] at j61_700; exact j61_700
    refine p_iinc_5_4 e_X2_thinsCrowd_61 rfl ic_1 rfl ?_
    rw [nI_1 i7]
    refine r_goto e_X2_thinsCrowd_64 ?_
    (subst e_v700_1 e_v700_0; simp only [F_X2_thinsCrowd_7] at hq; first | exact ih (i7 + 1) _ _ _ (by omega) hq | (simp only []; exact ih (i7 + 1) _ _ _ (by omega) hq))
def V_X2_thinsCrowd (a : Nat) (x1 : Int32) (M : Mem) : Int32 := if (4 : Int32) ≤ ((F_X2_thinsCrowd_7 a x1 10 0 (0 : Int32) (-1 : Int32) M).1) then (1 : Int32) else (0 : Int32)
theorem Z_X2_thinsCrowd {M : Mem} {a : Nat} {x1 : Int32}   : V_X2_thinsCrowd a x1 M = 0 ∨ V_X2_thinsCrowd a x1 M = 1 := (zi (Or.inr rfl) (Or.inl rfl))
def U_X2_thinsCrowd (a : Nat) (x1 : Int32) (M : Mem) : Mem := if (4 : Int32) ≤ ((F_X2_thinsCrowd_7 a x1 10 0 (0 : Int32) (-1 : Int32) M).1) then (U_X2_putAtStart a ((F_X2_thinsCrowd_7 a x1 10 0 (0 : Int32) (-1 : Int32) M).2) M) else M
theorem S_X2_thinsCrowd {sh : List SC} {M : Mem} {a : Nat} {x1 : Int32}  (hb1 : MatchAt sh a)  : Gv m_X2_thinsCrowd [.ref a, .int x1] sh M (.int (V_X2_thinsCrowd a x1 M)) (U_X2_thinsCrowd a x1 M) := by
  refine Sp.of (ls := [some (.ref a), some (.int x1), none, none, none]) (by decide +kernel) (Nat.le_of_ble_eq_true rfl) rfl ?_
  have k0 : kd sh a = some (2 + 7, 0) := hb1.1
  refine r_iconst e_X2_thinsCrowd_0 ic_0 ?_
  refine p_istore_n_5_2 e_X2_thinsCrowd_1 rfl rfl ?_
  refine r_iconst e_X2_thinsCrowd_2 ic_m1 ?_
  refine p_istore_n_5_3 e_X2_thinsCrowd_3 rfl rfl ?_
  refine r_iconst e_X2_thinsCrowd_4 ic_0 ?_
  refine p_istore_5_4 e_X2_thinsCrowd_5 rfl rfl ?_
  skip
  show WP m_X2_thinsCrowd _ 7 [some (.ref a), some (.int x1), some (.int (0 : Int32)), some (.int (-1 : Int32)), some (.int (nI 0))] [] sh M 0 0
  refine L_X2_thinsCrowd_7 hb1 10 0 (0 : Int32) (-1 : Int32) M (by omega) ?_
  refine r_iload_n e_X2_thinsCrowd_67 rfl ?_
  refine r_iconst e_X2_thinsCrowd_68 ic_4 ?_
  refine r_icmp_ge e_X2_thinsCrowd_69 (fun h69_0 => ?_) (fun h69_0 => ?_)
  · refine r_aload_n e_X2_thinsCrowd_74 rfl ?_
    refine r_iload_n e_X2_thinsCrowd_75 rfl ?_
    refine cV1u e_X2_thinsCrowd_76 cl_X2_101 ⟨Nat.le_of_ble_eq_true rfl, Nat.le_of_ble_eq_true rfl⟩ ⟨rfl, rfl⟩ k0 (Nat.le_of_ble_eq_true rfl) (S_X2_putAtStart hb1) ?_
    refine r_iconst e_X2_thinsCrowd_79 ic_1 ?_
    refine r_zreturn e_X2_thinsCrowd_80 rfl ⟨rfl, rfl⟩ (by first | exact Or.inl rfl | exact Or.inr rfl) ?_
    (refine ⟨?_, rfl, ?_⟩ <;> ((try unfold V_X2_thinsCrowd); (try unfold U_X2_thinsCrowd); (try simp only [if_pos h69_0]); (try rfl)))
  · refine r_iconst e_X2_thinsCrowd_72 ic_0 ?_
    refine r_zreturn e_X2_thinsCrowd_73 rfl ⟨rfl, rfl⟩ (by first | exact Or.inl rfl | exact Or.inr rfl) ?_
    (refine ⟨?_, rfl, ?_⟩ <;> ((try unfold V_X2_thinsCrowd); (try unfold U_X2_thinsCrowd); (try simp only [if_neg h69_0]); (try rfl)))
def V_X10_keep (x1 : Int32) (M : Mem) : Int32 := if (V_X10_isPlace x1 M) = 0 then (V_X10_finding (-1001 : Int32) M) else (if (M.1 122 6) = 0 then (V_X10_finding (-1003 : Int32) M) else (1 : Int32))
def U_X10_keep (x1 : Int32) (M : Mem) : Mem := if (V_X10_isPlace x1 M) = 0 then (U_X10_finding (-1001 : Int32) M) else (if (M.1 122 6) = 0 then (U_X10_finding (-1003 : Int32) M) else (U_X2_copy (182 + 30 * x1.toNatClampNeg) 122 M))
def P_X10_keep (x1 : Int32) (M : Mem) : Prop := (¬ ((V_X10_isPlace x1 M) = 0) → ¬ ((M.1 122 6) = 0) → vp_in x1 2) ∧ (¬ ((V_X10_isPlace x1 M) = 0) → ¬ ((M.1 122 6) = 0) → P_X2_copy (182 + 30 * x1.toNatClampNeg) 122 M)
theorem S_X10_keep {sh : List SC} {M : Mem} {x1 : Int32}  (hb1 : PitchAt sh) (g2 : (M.1 122 6) = 0 ∨ (M.1 122 6) = 1) (hP : P_X10_keep x1 M) : Gv m_X10_keep [.ref 0, .int x1] sh M (.int (V_X10_keep x1 M)) (U_X10_keep x1 M) := by
  refine Sp.of (ls := [some (.ref 0), some (.int x1)]) (by decide +kernel) (Nat.le_of_ble_eq_true rfl) rfl ?_
  obtain ⟨g1, g3⟩ := hP
  have k0 : kd sh 0 = some (9 + 7, 0) := hb1.1
  have k1 : rf sh 0 4 = some 122 := hb1.2.2.2.2.2.1
  have k2 : kd sh 122 = some (2 + 7, 0) := hb1.2.2.2.2.2.2.2.2.2.2.2.2.2.2.2.2.1.1
  have k3 : rf sh 0 6 = some 10 := hb1.2.2.2.2.2.2.2.1
  have k4 : kd sh 10 = some (5, 2) := hb1.2.2.2.2.2.2.2.2.2.2.2.2.1
  refine r_iload_n e_X10_keep_0 rfl ?_
  refine cS1v e_X10_keep_1 cl_X10_154 ⟨Nat.le_of_ble_eq_true rfl, Nat.le_of_ble_eq_true rfl⟩ ⟨rfl, rfl⟩  (Nat.le_of_ble_eq_true rfl) (S_X10_isPlace ) ?_
  refine r_if_ne e_X10_keep_4 (fun h4_0 => ?_) (fun h4_0 => ?_)
  · refine r_aload_n e_X10_keep_15 rfl ?_
    refine r_getR e_X10_keep_16 fl_X10_63 k0 k1 ?_
    refine r_getI e_X10_keep_19 fl_X10_115 i3 k2 ?_
    refine r_if_ne e_X10_keep_22 (fun h22_1 => ?_) (fun h22_1 => ?_)
    · refine r_aload_n e_X10_keep_33 rfl ?_
      refine r_getR e_X10_keep_34 fl_X10_34 k0 k3 ?_
      refine r_iload_n e_X10_keep_37 rfl ?_
      refine r_aaload (b := (182 + 30 * x1.toNatClampNeg)) e_X10_keep_38 k4 ⟨by decide, by decide⟩ (g1 h4_0 h22_1) (hb1.2.2.2.2.2.2.2.2.2.2.2.2.2.1 x1.toNatClampNeg (vp_lt (g1 h4_0 h22_1))).1 ?_
      refine r_aload_n e_X10_keep_39 rfl ?_
      refine r_getR e_X10_keep_40 fl_X10_63 k0 k1 ?_
      refine cV1u e_X10_keep_43 cl_X10_157 ⟨Nat.le_of_ble_eq_true rfl, Nat.le_of_ble_eq_true rfl⟩ ⟨rfl, rfl⟩ (show kd sh (182 + 30 * x1.toNatClampNeg) = some (2 + 7, 0) from (hb1.2.2.2.2.2.2.2.2.2.2.2.2.2.1 x1.toNatClampNeg (vp_lt (g1 h4_0 h22_1))).2.1) (Nat.le_of_ble_eq_true rfl) (S_X2_copy (hb1.2.2.2.2.2.2.2.2.2.2.2.2.2.1 x1.toNatClampNeg (vp_lt (g1 h4_0 h22_1))).2 hb1.2.2.2.2.2.2.2.2.2.2.2.2.2.2.2.2.1 g2 (g3 h4_0 h22_1)) ?_
      refine r_iconst e_X10_keep_46 ic_1 ?_
      refine r_ireturn e_X10_keep_47 rfl ⟨rfl, rfl⟩ ?_
      (refine ⟨?_, rfl, ?_⟩ <;> ((try unfold V_X10_keep); (try unfold U_X10_keep); (try simp only [if_neg h4_0, if_neg h22_1]); (try rfl)))
    · refine r_aload_n e_X10_keep_25 rfl ?_
      refine r_sipush e_X10_keep_26 sp_m1003 ?_
      refine cV1v e_X10_keep_29 cl_X10_70 ⟨Nat.le_of_ble_eq_true rfl, Nat.le_of_ble_eq_true rfl⟩ ⟨rfl, rfl⟩ k0 (Nat.le_of_ble_eq_true rfl) (S_X10_finding hb1) ?_
      refine r_ireturn e_X10_keep_32 rfl ⟨rfl, rfl⟩ ?_
      (refine ⟨?_, rfl, ?_⟩ <;> ((try unfold V_X10_keep); (try unfold U_X10_keep); (try simp only [if_neg h4_0, if_pos h22_1]); (try rfl)))
  · refine r_aload_n e_X10_keep_7 rfl ?_
    refine r_sipush e_X10_keep_8 sp_m1001 ?_
    refine cV1v e_X10_keep_11 cl_X10_70 ⟨Nat.le_of_ble_eq_true rfl, Nat.le_of_ble_eq_true rfl⟩ ⟨rfl, rfl⟩ k0 (Nat.le_of_ble_eq_true rfl) (S_X10_finding hb1) ?_
    refine r_ireturn e_X10_keep_14 rfl ⟨rfl, rfl⟩ ?_
    (refine ⟨?_, rfl, ?_⟩ <;> ((try unfold V_X10_keep); (try unfold U_X10_keep); (try simp only [if_pos h4_0]); (try rfl)))
def V_X10_order (x1 : Int32) (M : Mem) : Int32 := if 0 ≤ x1 then (let v1_0 : Int32 := if 0 ≤ (V_X1_teamAt 11 x1 M) then (V_X1_teamAt 11 x1 M) else (V_X10_finding (-1004 : Int32) M); let M1_1 : Mem := if 0 ≤ (V_X1_teamAt 11 x1 M) then M else (U_X10_finding (-1004 : Int32) M); v1_0) else (V_X10_finding (-1001 : Int32) M)
def U_X10_order (x1 : Int32) (M : Mem) : Mem := if 0 ≤ x1 then (let v1_0 : Int32 := if 0 ≤ (V_X1_teamAt 11 x1 M) then (V_X1_teamAt 11 x1 M) else (V_X10_finding (-1004 : Int32) M); let M1_1 : Mem := if 0 ≤ (V_X1_teamAt 11 x1 M) then M else (U_X10_finding (-1004 : Int32) M); M1_1) else (U_X10_finding (-1001 : Int32) M)
theorem S_X10_order {sh : List SC} {M : Mem} {x1 : Int32}  (hb1 : PitchAt sh)  : Gv m_X10_order [.ref 0, .int x1] sh M (.int (V_X10_order x1 M)) (U_X10_order x1 M) := by
  refine Sp.of (ls := [some (.ref 0), some (.int x1), none]) (by decide +kernel) (Nat.le_of_ble_eq_true rfl) rfl ?_
  have k0 : kd sh 0 = some (9 + 7, 0) := hb1.1
  have k1 : rf sh 0 7 = some 11 := hb1.2.2.2.2.2.2.2.2.1
  have k2 : kd sh 11 = some (1 + 7, 0) := hb1.2.2.2.2.2.2.2.2.2.2.2.2.2.2.2.1.1
  refine r_iload_n e_X10_order_0 rfl ?_
  refine r_if_ge e_X10_order_1 (fun h1_0 => ?_) (fun h1_0 => ?_)
  · refine r_aload_n e_X10_order_12 rfl ?_
    refine r_getR e_X10_order_13 fl_X10_41 k0 k1 ?_
    refine r_iload_n e_X10_order_16 rfl ?_
    refine cV1v e_X10_order_17 cl_X10_189 ⟨Nat.le_of_ble_eq_true rfl, Nat.le_of_ble_eq_true rfl⟩ ⟨rfl, rfl⟩ k2 (Nat.le_of_ble_eq_true rfl) (S_X1_teamAt hb1.2.2.2.2.2.2.2.2.2.2.2.2.2.2.2.1) ?_
    refine p_istore_n_3_2 e_X10_order_20 rfl rfl ?_
    refine r_iload_n e_X10_order_21 rfl ?_
    obtain ⟨v1_0, e_v1_0⟩ : ∃ z : Int32, z = (if 0 ≤ (V_X1_teamAt 11 x1 M) then (V_X1_teamAt 11 x1 M) else (V_X10_finding (-1004 : Int32) M)) := ⟨_, rfl⟩
    obtain ⟨M1_1, e_M1_1⟩ : ∃ z : Mem, z = (if 0 ≤ (V_X1_teamAt 11 x1 M) then M else (U_X10_finding (-1004 : Int32) M)) := ⟨_, rfl⟩
    suffices j36_1 : WP m_X10_order (fun r sh' M'' => r = some (.int (V_X10_order x1 M)) ∧ sh' = sh ∧ M'' = (U_X10_order x1 M)) 36 [some (.ref 0), some (.int x1), some (.int (V_X1_teamAt 11 x1 M))] [.int v1_0] sh M1_1 0 0 by
      refine r_if_ge e_X10_order_22 (fun h22_1 => ?_) (fun h22_1 => ?_)
      · refine r_iload_n e_X10_order_35 rfl ?_
        rw [show v1_0 = (V_X1_teamAt 11 x1 M) from (e_v1_0.trans (if_pos h22_1)), show M1_1 = M from (e_M1_1.trans (if_pos h22_1))] at j36_1; exact j36_1
      · refine r_aload_n e_X10_order_25 rfl ?_
        refine r_sipush e_X10_order_26 sp_m1004 ?_
        refine cV1v e_X10_order_29 cl_X10_70 ⟨Nat.le_of_ble_eq_true rfl, Nat.le_of_ble_eq_true rfl⟩ ⟨rfl, rfl⟩ k0 (Nat.le_of_ble_eq_true rfl) (S_X10_finding hb1) ?_
        refine r_goto e_X10_order_32 ?_
        rw [show v1_0 = (V_X10_finding (-1004 : Int32) M) from (e_v1_0.trans (if_neg h22_1)), show M1_1 = U_X10_finding (-1004 : Int32) M from (e_M1_1.trans (if_neg h22_1))] at j36_1; exact j36_1
    refine r_ireturn e_X10_order_36 rfl ⟨rfl, rfl⟩ ?_
    (subst e_M1_1 e_v1_0; refine ⟨?_, rfl, ?_⟩ <;> ((try unfold V_X10_order); (try unfold U_X10_order); (try simp only [if_pos h1_0]); (try rfl)))
  · refine r_aload_n e_X10_order_4 rfl ?_
    refine r_sipush e_X10_order_5 sp_m1001 ?_
    refine cV1v e_X10_order_8 cl_X10_70 ⟨Nat.le_of_ble_eq_true rfl, Nat.le_of_ble_eq_true rfl⟩ ⟨rfl, rfl⟩ k0 (Nat.le_of_ble_eq_true rfl) (S_X10_finding hb1) ?_
    refine r_ireturn e_X10_order_11 rfl ⟨rfl, rfl⟩ ?_
    (refine ⟨?_, rfl, ?_⟩ <;> ((try unfold V_X10_order); (try unfold U_X10_order); (try simp only [if_neg h1_0]); (try rfl)))
def F_X11_word_0 : Nat → Mem → Mem
  | 0, M => M
  | n + 1, M => if (V_X11_at (M.1 242 4) M) = (32 : Int32) then (F_X11_word_0  n (setI M 242 4 ((M.1 242 4) + (1 : Int32)))) else (if (V_X11_at (M.1 242 4) M) = (10 : Int32) then (F_X11_word_0  n (setI M 242 4 ((M.1 242 4) + (1 : Int32)))) else M)
def T_X11_word_0 : Nat → Mem → Prop
  | 0, M => False
  | n + 1, M => (P_X11_at (M.1 242 4) M) ∧ (if (V_X11_at (M.1 242 4) M) = (32 : Int32) then (T_X11_word_0  n (setI M 242 4 ((M.1 242 4) + (1 : Int32)))) else (if (V_X11_at (M.1 242 4) M) = (10 : Int32) then (T_X11_word_0  n (setI M 242 4 ((M.1 242 4) + (1 : Int32)))) else True))
theorem L_X11_word_0 {sh : List SC} {Q : Po}  {mA : Nat} {oA : Nat}   (hb1 : ModelAt sh mA oA)   : ∀ (n : Nat) (M : Mem), T_X11_word_0  n M → WP m_X11_word Q 39 [some (.ref 242), none] [] sh (F_X11_word_0  n M) 0 0 → WP m_X11_word Q 0 [some (.ref 242), none] [] sh M 0 0 := by
  have k0 : kd sh 242 = some (10 + 7, 0) := hb1.1
  intro n
  induction n with
  | zero =>
    intro M hH hq
    exact hH.elim
  | succ n ih =>
    intro M hH hq
    unfold T_X11_word_0 at hH
    obtain ⟨g1, hH⟩ := hH
    refine r_aload_n e_X11_word_0 rfl ?_
    refine r_aload_n e_X11_word_1 rfl ?_
    refine r_getI e_X11_word_2 fl_X11_11 i0 k0 ?_
    refine cV1v e_X11_word_5 cl_X11_14 ⟨Nat.le_of_ble_eq_true rfl, Nat.le_of_ble_eq_true rfl⟩ ⟨rfl, rfl⟩ k0 (Nat.le_of_ble_eq_true rfl) (S_X11_at hb1 g1) ?_
    refine r_bipush e_X11_word_8 bp_32 ?_
    refine r_icmp_eq e_X11_word_10 (fun h10_0 => ?_) (fun h10_0 => ?_)
    · refine r_aload_n e_X11_word_26 rfl ?_
      refine r_dup e_X11_word_27 rfl ?_
      refine r_getI e_X11_word_28 fl_X11_11 i0 k0 ?_
      refine r_iconst e_X11_word_31 ic_1 ?_
      refine r_iadd e_X11_word_32 ?_
      refine r_putI e_X11_word_33 fl_X11_11 k0 ?_
      refine r_goto e_X11_word_36 ?_
      (simp only [F_X11_word_0, if_pos h10_0] at hq; (try simp only [if_pos h10_0] at hH); first | exact ih _ hH hq | (simp only [if_pos h10_0]; exact ih _ hH hq))
    · refine r_aload_n e_X11_word_13 rfl ?_
      refine r_aload_n e_X11_word_14 rfl ?_
      refine r_getI e_X11_word_15 fl_X11_11 i0 k0 ?_
      refine cV1v e_X11_word_18 cl_X11_14 ⟨Nat.le_of_ble_eq_true rfl, Nat.le_of_ble_eq_true rfl⟩ ⟨rfl, rfl⟩ k0 (Nat.le_of_ble_eq_true rfl) (S_X11_at hb1 g1) ?_
      refine r_bipush e_X11_word_21 bp_10 ?_
      refine r_icmp_ne e_X11_word_23 (fun h23_1 => ?_) (fun h23_1 => ?_)
      · (simp only [F_X11_word_0, if_neg h10_0, if_neg h23_1] at hq; first | exact hq | (simp only [if_neg h10_0, if_neg h23_1]; exact hq))
      · refine r_aload_n e_X11_word_26 rfl ?_
        refine r_dup e_X11_word_27 rfl ?_
        refine r_getI e_X11_word_28 fl_X11_11 i0 k0 ?_
        refine r_iconst e_X11_word_31 ic_1 ?_
        refine r_iadd e_X11_word_32 ?_
        refine r_putI e_X11_word_33 fl_X11_11 k0 ?_
        refine r_goto e_X11_word_36 ?_
        (simp only [F_X11_word_0, if_neg h10_0, if_pos h23_1] at hq; (try simp only [if_neg h10_0, if_pos h23_1] at hH); first | exact ih _ hH hq | (simp only [if_neg h10_0, if_pos h23_1]; exact ih _ hH hq))
def U_X11_word (M : Mem) : Mem := (let M0_0 : Mem := if 0 ≤ (V_X11_at ((F_X11_word_0  FUEL M).1 242 4) (setI (F_X11_word_0  FUEL M) 242 3 ((F_X11_word_0  FUEL M).1 242 4))) then (if (V_X11_isLetter (V_X11_at ((F_X11_word_0  FUEL M).1 242 4) (setI (F_X11_word_0  FUEL M) 242 3 ((F_X11_word_0  FUEL M).1 242 4))) (setJ (setI (setI (F_X11_word_0  FUEL M) 242 3 ((F_X11_word_0  FUEL M).1 242 4)) 242 6 (0 : Int32)) 242 7 (0 : Int64))) = 0 then (if (V_X11_isFigure (V_X11_at ((F_X11_word_0  FUEL M).1 242 4) (setI (F_X11_word_0  FUEL M) 242 3 ((F_X11_word_0  FUEL M).1 242 4))) (setJ (setI (setI (F_X11_word_0  FUEL M) 242 3 ((F_X11_word_0  FUEL M).1 242 4)) 242 6 (0 : Int32)) 242 7 (0 : Int64))) = 0 then (if (V_X11_isSign (V_X11_at ((F_X11_word_0  FUEL M).1 242 4) (setI (F_X11_word_0  FUEL M) 242 3 ((F_X11_word_0  FUEL M).1 242 4))) (setJ (setI (setI (F_X11_word_0  FUEL M) 242 3 ((F_X11_word_0  FUEL M).1 242 4)) 242 6 (0 : Int32)) 242 7 (0 : Int64))) = 0 then (setI (setJ (setI (setI (F_X11_word_0  FUEL M) 242 3 ((F_X11_word_0  FUEL M).1 242 4)) 242 6 (0 : Int32)) 242 7 (0 : Int64)) 242 5 (6 : Int32)) else (setI (setI (setJ (setI (setI (F_X11_word_0  FUEL M) 242 3 ((F_X11_word_0  FUEL M).1 242 4)) 242 6 (0 : Int32)) 242 7 (0 : Int64)) 242 5 (V_X11_at ((F_X11_word_0  FUEL M).1 242 4) (setI (F_X11_word_0  FUEL M) 242 3 ((F_X11_word_0  FUEL M).1 242 4)))) 242 4 (((F_X11_word_0  FUEL M).1 242 4) + (1 : Int32)))) else (U_X11_figures  (setJ (setI (setI (F_X11_word_0  FUEL M) 242 3 ((F_X11_word_0  FUEL M).1 242 4)) 242 6 (0 : Int32)) 242 7 (0 : Int64)))) else (U_X11_letters  (setJ (setI (setI (F_X11_word_0  FUEL M) 242 3 ((F_X11_word_0  FUEL M).1 242 4)) 242 6 (0 : Int32)) 242 7 (0 : Int64)))) else (setI (setJ (setI (setI (F_X11_word_0  FUEL M) 242 3 ((F_X11_word_0  FUEL M).1 242 4)) 242 6 (0 : Int32)) 242 7 (0 : Int64)) 242 5 (0 : Int32)); M0_0)
def P_X11_word (M : Mem) : Prop := (T_X11_word_0  FUEL M) ∧ (P_X11_at ((F_X11_word_0  FUEL M).1 242 4) (setI (F_X11_word_0  FUEL M) 242 3 ((F_X11_word_0  FUEL M).1 242 4))) ∧ (0 ≤ (V_X11_at ((F_X11_word_0  FUEL M).1 242 4) (setI (F_X11_word_0  FUEL M) 242 3 ((F_X11_word_0  FUEL M).1 242 4))) → (V_X11_isLetter (V_X11_at ((F_X11_word_0  FUEL M).1 242 4) (setI (F_X11_word_0  FUEL M) 242 3 ((F_X11_word_0  FUEL M).1 242 4))) (setJ (setI (setI (F_X11_word_0  FUEL M) 242 3 ((F_X11_word_0  FUEL M).1 242 4)) 242 6 (0 : Int32)) 242 7 (0 : Int64))) = 0 → ¬ ((V_X11_isFigure (V_X11_at ((F_X11_word_0  FUEL M).1 242 4) (setI (F_X11_word_0  FUEL M) 242 3 ((F_X11_word_0  FUEL M).1 242 4))) (setJ (setI (setI (F_X11_word_0  FUEL M) 242 3 ((F_X11_word_0  FUEL M).1 242 4)) 242 6 (0 : Int32)) 242 7 (0 : Int64))) = 0) → P_X11_figures  (setJ (setI (setI (F_X11_word_0  FUEL M) 242 3 ((F_X11_word_0  FUEL M).1 242 4)) 242 6 (0 : Int32)) 242 7 (0 : Int64))) ∧ (0 ≤ (V_X11_at ((F_X11_word_0  FUEL M).1 242 4) (setI (F_X11_word_0  FUEL M) 242 3 ((F_X11_word_0  FUEL M).1 242 4))) → ¬ ((V_X11_isLetter (V_X11_at ((F_X11_word_0  FUEL M).1 242 4) (setI (F_X11_word_0  FUEL M) 242 3 ((F_X11_word_0  FUEL M).1 242 4))) (setJ (setI (setI (F_X11_word_0  FUEL M) 242 3 ((F_X11_word_0  FUEL M).1 242 4)) 242 6 (0 : Int32)) 242 7 (0 : Int64))) = 0) → P_X11_letters  (setJ (setI (setI (F_X11_word_0  FUEL M) 242 3 ((F_X11_word_0  FUEL M).1 242 4)) 242 6 (0 : Int32)) 242 7 (0 : Int64)))
theorem S_X11_word {sh : List SC} {M : Mem}  {mA : Nat} {oA : Nat} (hb1 : ModelAt sh mA oA)  (hP : P_X11_word  M) : Gu m_X11_word [.ref 242] sh M (U_X11_word  M) := by
  refine Sp.of (ls := [some (.ref 242), none]) (by decide +kernel) (Nat.le_of_ble_eq_true rfl) rfl ?_
  obtain ⟨g1, g2, g3, g4⟩ := hP
  have k0 : kd sh 242 = some (10 + 7, 0) := hb1.1
  refine L_X11_word_0 hb1 FUEL  M g1 ?_
  refine r_aload_n e_X11_word_39 rfl ?_
  refine r_aload_n e_X11_word_40 rfl ?_
  refine r_getI e_X11_word_41 fl_X11_11 i0 k0 ?_
  refine r_putI e_X11_word_44 fl_X11_18 k0 ?_
  refine r_aload_n e_X11_word_47 rfl ?_
  refine r_aload_n e_X11_word_48 rfl ?_
  refine r_getIe e_X11_word_49 fl_X11_11 i0 k0 (gs_nI (by decide)) ?_
  refine cV1v e_X11_word_52 cl_X11_14 ⟨Nat.le_of_ble_eq_true rfl, Nat.le_of_ble_eq_true rfl⟩ ⟨rfl, rfl⟩ k0 (Nat.le_of_ble_eq_true rfl) (S_X11_at hb1 g2) ?_
  refine p_istore_n_2_1 e_X11_word_55 rfl rfl ?_
  refine r_aload_n e_X11_word_56 rfl ?_
  refine r_iconst e_X11_word_57 ic_0 ?_
  refine r_putI e_X11_word_58 fl_X11_21 k0 ?_
  refine r_aload_n e_X11_word_61 rfl ?_
  refine r_lconst e_X11_word_62 lk_0 ?_
  refine r_putJ e_X11_word_63 fl_X11_24 k0 ?_
  refine r_iload_n e_X11_word_66 rfl ?_
  obtain ⟨M0_0, e_M0_0⟩ : ∃ z : Mem, z = (if 0 ≤ (V_X11_at ((F_X11_word_0  FUEL M).1 242 4) (setI (F_X11_word_0  FUEL M) 242 3 ((F_X11_word_0  FUEL M).1 242 4))) then (if (V_X11_isLetter (V_X11_at ((F_X11_word_0  FUEL M).1 242 4) (setI (F_X11_word_0  FUEL M) 242 3 ((F_X11_word_0  FUEL M).1 242 4))) (setJ (setI (setI (F_X11_word_0  FUEL M) 242 3 ((F_X11_word_0  FUEL M).1 242 4)) 242 6 (0 : Int32)) 242 7 (0 : Int64))) = 0 then (if (V_X11_isFigure (V_X11_at ((F_X11_word_0  FUEL M).1 242 4) (setI (F_X11_word_0  FUEL M) 242 3 ((F_X11_word_0  FUEL M).1 242 4))) (setJ (setI (setI (F_X11_word_0  FUEL M) 242 3 ((F_X11_word_0  FUEL M).1 242 4)) 242 6 (0 : Int32)) 242 7 (0 : Int64))) = 0 then (if (V_X11_isSign (V_X11_at ((F_X11_word_0  FUEL M).1 242 4) (setI (F_X11_word_0  FUEL M) 242 3 ((F_X11_word_0  FUEL M).1 242 4))) (setJ (setI (setI (F_X11_word_0  FUEL M) 242 3 ((F_X11_word_0  FUEL M).1 242 4)) 242 6 (0 : Int32)) 242 7 (0 : Int64))) = 0 then (setI (setJ (setI (setI (F_X11_word_0  FUEL M) 242 3 ((F_X11_word_0  FUEL M).1 242 4)) 242 6 (0 : Int32)) 242 7 (0 : Int64)) 242 5 (6 : Int32)) else (setI (setI (setJ (setI (setI (F_X11_word_0  FUEL M) 242 3 ((F_X11_word_0  FUEL M).1 242 4)) 242 6 (0 : Int32)) 242 7 (0 : Int64)) 242 5 (V_X11_at ((F_X11_word_0  FUEL M).1 242 4) (setI (F_X11_word_0  FUEL M) 242 3 ((F_X11_word_0  FUEL M).1 242 4)))) 242 4 (((F_X11_word_0  FUEL M).1 242 4) + (1 : Int32)))) else (U_X11_figures  (setJ (setI (setI (F_X11_word_0  FUEL M) 242 3 ((F_X11_word_0  FUEL M).1 242 4)) 242 6 (0 : Int32)) 242 7 (0 : Int64)))) else (U_X11_letters  (setJ (setI (setI (F_X11_word_0  FUEL M) 242 3 ((F_X11_word_0  FUEL M).1 242 4)) 242 6 (0 : Int32)) 242 7 (0 : Int64)))) else (setI (setJ (setI (setI (F_X11_word_0  FUEL M) 242 3 ((F_X11_word_0  FUEL M).1 242 4)) 242 6 (0 : Int32)) 242 7 (0 : Int64)) 242 5 (0 : Int32))) := ⟨_, rfl⟩
  suffices j137_0 : WP m_X11_word (fun r sh' M'' => r = none ∧ sh' = sh ∧ M'' = (U_X11_word  M)) 137 [some (.ref 242), some (.int (V_X11_at ((F_X11_word_0  FUEL M).1 242 4) (setI (F_X11_word_0  FUEL M) 242 3 ((F_X11_word_0  FUEL M).1 242 4))))] [] sh M0_0 0 0 by
    refine r_if_ge e_X11_word_67 (fun h67_0 => ?_) (fun h67_0 => ?_)
    · refine r_iload_n e_X11_word_78 rfl ?_
      refine cS1v e_X11_word_79 cl_X11_31 ⟨Nat.le_of_ble_eq_true rfl, Nat.le_of_ble_eq_true rfl⟩ ⟨rfl, rfl⟩  (Nat.le_of_ble_eq_true rfl) (S_X11_isLetter ) ?_
      refine r_if_eq e_X11_word_82 (fun h82_1 => ?_) (fun h82_1 => ?_)
      · refine r_iload_n e_X11_word_92 rfl ?_
        refine cS1v e_X11_word_93 cl_X11_39 ⟨Nat.le_of_ble_eq_true rfl, Nat.le_of_ble_eq_true rfl⟩ ⟨rfl, rfl⟩  (Nat.le_of_ble_eq_true rfl) (S_X11_isFigure ) ?_
        refine r_if_eq e_X11_word_96 (fun h96_2 => ?_) (fun h96_2 => ?_)
        · refine r_iload_n e_X11_word_106 rfl ?_
          refine cS1v e_X11_word_107 cl_X11_45 ⟨Nat.le_of_ble_eq_true rfl, Nat.le_of_ble_eq_true rfl⟩ ⟨rfl, rfl⟩  (Nat.le_of_ble_eq_true rfl) (S_X11_isSign ) ?_
          refine r_if_eq e_X11_word_110 (fun h110_3 => ?_) (fun h110_3 => ?_)
          · refine r_aload_n e_X11_word_131 rfl ?_
            refine r_bipush e_X11_word_132 bp_6 ?_
            refine r_putI e_X11_word_134 fl_X11_28 k0 ?_
            rw [show M0_0 = setI (setJ (setI (setI (F_X11_word_0  FUEL M) 242 3 ((F_X11_word_0  FUEL M).1 242 4)) 242 6 (0 : Int32)) 242 7 (0 : Int64)) 242 5 (6 : Int32) from ((((e_M0_0.trans (if_pos h67_0)).trans (if_pos h82_1)).trans (if_pos h96_2)).trans (if_pos h110_3))] at j137_0; exact j137_0
          · refine r_aload_n e_X11_word_113 rfl ?_
            refine r_iload_n e_X11_word_114 rfl ?_
            refine r_putI e_X11_word_115 fl_X11_28 k0 ?_
            refine r_aload_n e_X11_word_118 rfl ?_
            refine r_dup e_X11_word_119 rfl ?_
            refine r_getIe e_X11_word_120 fl_X11_11 i0 k0 ((gs_nI (by decide)).trans (gs_k.trans ((gs_nI (by decide)).trans (gs_nI (by decide))))) ?_
            refine r_iconst e_X11_word_123 ic_1 ?_
            refine r_iadd e_X11_word_124 ?_
            refine r_putI e_X11_word_125 fl_X11_11 k0 ?_
            refine r_goto e_X11_word_128 ?_
            rw [show M0_0 = setI (setI (setJ (setI (setI (F_X11_word_0  FUEL M) 242 3 ((F_X11_word_0  FUEL M).1 242 4)) 242 6 (0 : Int32)) 242 7 (0 : Int64)) 242 5 (V_X11_at ((F_X11_word_0  FUEL M).1 242 4) (setI (F_X11_word_0  FUEL M) 242 3 ((F_X11_word_0  FUEL M).1 242 4)))) 242 4 (((F_X11_word_0  FUEL M).1 242 4) + (1 : Int32)) from ((((e_M0_0.trans (if_pos h67_0)).trans (if_pos h82_1)).trans (if_pos h96_2)).trans (if_neg h110_3))] at j137_0; exact j137_0
        · refine r_aload_n e_X11_word_99 rfl ?_
          refine cV0u e_X11_word_100 cl_X11_42 ⟨Nat.le_of_ble_eq_true rfl, Nat.le_of_ble_eq_true rfl⟩ ⟨rfl, rfl⟩ k0 (Nat.le_of_ble_eq_true rfl) (S_X11_figures hb1 (g3 h67_0 h82_1 h96_2)) ?_
          refine r_goto e_X11_word_103 ?_
          rw [show M0_0 = U_X11_figures  (setJ (setI (setI (F_X11_word_0  FUEL M) 242 3 ((F_X11_word_0  FUEL M).1 242 4)) 242 6 (0 : Int32)) 242 7 (0 : Int64)) from (((e_M0_0.trans (if_pos h67_0)).trans (if_pos h82_1)).trans (if_neg h96_2))] at j137_0; exact j137_0
      · refine r_aload_n e_X11_word_85 rfl ?_
        refine cV0u e_X11_word_86 cl_X11_35 ⟨Nat.le_of_ble_eq_true rfl, Nat.le_of_ble_eq_true rfl⟩ ⟨rfl, rfl⟩ k0 (Nat.le_of_ble_eq_true rfl) (S_X11_letters hb1 (g4 h67_0 h82_1)) ?_
        refine r_goto e_X11_word_89 ?_
        rw [show M0_0 = U_X11_letters  (setJ (setI (setI (F_X11_word_0  FUEL M) 242 3 ((F_X11_word_0  FUEL M).1 242 4)) 242 6 (0 : Int32)) 242 7 (0 : Int64)) from ((e_M0_0.trans (if_pos h67_0)).trans (if_neg h82_1))] at j137_0; exact j137_0
    · refine r_aload_n e_X11_word_70 rfl ?_
      refine r_iconst e_X11_word_71 ic_0 ?_
      refine r_putI e_X11_word_72 fl_X11_28 k0 ?_
      refine r_goto e_X11_word_75 ?_
      rw [show M0_0 = setI (setJ (setI (setI (F_X11_word_0  FUEL M) 242 3 ((F_X11_word_0  FUEL M).1 242 4)) 242 6 (0 : Int32)) 242 7 (0 : Int64)) 242 5 (0 : Int32) from (e_M0_0.trans (if_neg h67_0))] at j137_0; exact j137_0
  refine r_return e_X11_word_137 rfl ⟨rfl, rfl⟩ ?_
  (subst e_M0_0; refine ⟨?_, rfl, ?_⟩ <;> ((try unfold U_X11_word); (try simp only []); (try rfl)))
