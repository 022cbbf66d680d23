theorem bk_X11_init {X : ZS} {n : Nat} {n1 : Nat} {σ : ZM} {T : ZM → Prop} {p0 : Int} (hp0 : z_l p0 = (11, 15)) (h : (z_l ((n + 1 : Nat) : Int) = (8, 9)) ∧ (n + 1 ≤ n1) ∧ (((n + 1 : Nat) : Int).toNat ≤ (n + 1)) ∧ (((n + 1) + 3) ≤ n1) ∧ ZC X (rX8_init ((n + 1) + 3)) mX8_init [(2, ((n + 1 : Nat) : Int))] (n + 1) (z_new σ ((n + 1 : Nat) : Int)) (zQv (fun σ6 => (p0.toNat ≤ ((n + 1) + 3)) ∧ (z_l ((((n + 1) + 3) + 1 : Nat) : Int) = (5, 2)) ∧ (((n + 1) + 3) + 1 ≤ n1) ∧ (((((n + 1) + 3) + 1 : Nat) : Int).toNat ≤ (((n + 1) + 3) + 1)) ∧ (((((n + 1) + 3) + 1) + 1) ≤ n1) ∧ ZC X (rX5_init ((((n + 1) + 3) + 1) + 1)) mX5_init [(2, ((((n + 1) + 3) + 1 : Nat) : Int))] (((n + 1) + 3) + 1) (z_new (z_up σ6 p0 0 ((n + 1 : Nat) : Int)) ((((n + 1) + 3) + 1 : Nat) : Int)) (zQv (fun σ14 => (p0.toNat ≤ ((((n + 1) + 3) + 1) + 1)) ∧ (z_l ((((((n + 1) + 3) + 1) + 1) + 1 : Nat) : Int) = (6, 3)) ∧ (((((n + 1) + 3) + 1) + 1) + 1 ≤ n1) ∧ (((((((n + 1) + 3) + 1) + 1) + 1 : Nat) : Int).toNat ≤ (((((n + 1) + 3) + 1) + 1) + 1)) ∧ (((((((n + 1) + 3) + 1) + 1) + 1) + 2) ≤ n1) ∧ ZC X (rX6_init ((((((n + 1) + 3) + 1) + 1) + 1) + 2)) mX6_init [(2, ((((((n + 1) + 3) + 1) + 1) + 1 : Nat) : Int)), (0, 6)] (((((n + 1) + 3) + 1) + 1) + 1) (z_new (z_up σ14 p0 1 ((((n + 1) + 3) + 1 : Nat) : Int)) ((((((n + 1) + 3) + 1) + 1) + 1 : Nat) : Int)) (zQv (fun σ22 => (p0.toNat ≤ ((((((n + 1) + 3) + 1) + 1) + 1) + 2)) ∧ (z_l ((((((((n + 1) + 3) + 1) + 1) + 1) + 2) + 1 : Nat) : Int) = (2, 6)) ∧ (((((((n + 1) + 3) + 1) + 1) + 1) + 2) + 1 ≤ n1) ∧ (((((((((n + 1) + 3) + 1) + 1) + 1) + 2) + 1 : Nat) : Int).toNat ≤ (((((((n + 1) + 3) + 1) + 1) + 1) + 2) + 1)) ∧ (((((((((n + 1) + 3) + 1) + 1) + 1) + 2) + 1) + 4) ≤ n1) ∧ ZC X (rX2_init ((((((((n + 1) + 3) + 1) + 1) + 1) + 2) + 1) + 4)) mX2_init [(2, ((((((((n + 1) + 3) + 1) + 1) + 1) + 2) + 1 : Nat) : Int))] (((((((n + 1) + 3) + 1) + 1) + 1) + 2) + 1) (z_new (z_up σ22 p0 2 ((((((n + 1) + 3) + 1) + 1) + 1 : Nat) : Int)) ((((((((n + 1) + 3) + 1) + 1) + 1) + 2) + 1 : Nat) : Int)) (zQv (fun σ30 => (p0.toNat ≤ ((((((((n + 1) + 3) + 1) + 1) + 1) + 2) + 1) + 4)) ∧ (z_l ((((((((((n + 1) + 3) + 1) + 1) + 1) + 2) + 1) + 4) + 1 : Nat) : Int) = (4, 6)) ∧ (((((((((n + 1) + 3) + 1) + 1) + 1) + 2) + 1) + 4) + 1 ≤ n1) ∧ (((((((((((n + 1) + 3) + 1) + 1) + 1) + 2) + 1) + 4) + 1 : Nat) : Int).toNat ≤ (((((((((n + 1) + 3) + 1) + 1) + 1) + 2) + 1) + 4) + 1)) ∧ (((((((((((n + 1) + 3) + 1) + 1) + 1) + 2) + 1) + 4) + 1) + 124) ≤ n1) ∧ ZC X (rX4_init ((((((((((n + 1) + 3) + 1) + 1) + 1) + 2) + 1) + 4) + 1) + 124)) mX4_init [(2, ((((((((((n + 1) + 3) + 1) + 1) + 1) + 2) + 1) + 4) + 1 : Nat) : Int))] (((((((((n + 1) + 3) + 1) + 1) + 1) + 2) + 1) + 4) + 1) (z_new (z_up σ30 p0 3 ((((((((n + 1) + 3) + 1) + 1) + 1) + 2) + 1 : Nat) : Int)) ((((((((((n + 1) + 3) + 1) + 1) + 1) + 2) + 1) + 4) + 1 : Nat) : Int)) (zQv (fun σ38 => (p0.toNat ≤ ((((((((((n + 1) + 3) + 1) + 1) + 1) + 2) + 1) + 4) + 1) + 124)) ∧ (z_l ((((((((((((n + 1) + 3) + 1) + 1) + 1) + 2) + 1) + 4) + 1) + 124) + 1 : Nat) : Int) = (0, 7)) ∧ (((((((((((n + 1) + 3) + 1) + 1) + 1) + 2) + 1) + 4) + 1) + 124) + 1 ≤ n1) ∧ (((((((((((((n + 1) + 3) + 1) + 1) + 1) + 2) + 1) + 4) + 1) + 124) + 1 : Nat) : Int).toNat ≤ (((((((((((n + 1) + 3) + 1) + 1) + 1) + 2) + 1) + 4) + 1) + 124) + 1)) ∧ (((((((((((((n + 1) + 3) + 1) + 1) + 1) + 2) + 1) + 4) + 1) + 124) + 1) + 27) ≤ n1) ∧ ZC X (rX0_init ((((((((((((n + 1) + 3) + 1) + 1) + 1) + 2) + 1) + 4) + 1) + 124) + 1) + 27)) mX0_init [(2, ((((((((((((n + 1) + 3) + 1) + 1) + 1) + 2) + 1) + 4) + 1) + 124) + 1 : Nat) : Int))] (((((((((((n + 1) + 3) + 1) + 1) + 1) + 2) + 1) + 4) + 1) + 124) + 1) (z_new (z_up σ38 p0 4 ((((((((((n + 1) + 3) + 1) + 1) + 1) + 2) + 1) + 4) + 1 : Nat) : Int)) ((((((((((((n + 1) + 3) + 1) + 1) + 1) + 2) + 1) + 4) + 1) + 124) + 1 : Nat) : Int)) (zQv (fun σ46 => (p0.toNat ≤ ((((((((((((n + 1) + 3) + 1) + 1) + 1) + 2) + 1) + 4) + 1) + 124) + 1) + 27)) ∧ (z_l ((((((((((((((n + 1) + 3) + 1) + 1) + 1) + 2) + 1) + 4) + 1) + 124) + 1) + 27) + 1 : Nat) : Int) = (10, 4)) ∧ (((((((((((((n + 1) + 3) + 1) + 1) + 1) + 2) + 1) + 4) + 1) + 124) + 1) + 27) + 1 ≤ n1) ∧ (((((((((((((((n + 1) + 3) + 1) + 1) + 1) + 2) + 1) + 4) + 1) + 124) + 1) + 27) + 1 : Nat) : Int).toNat ≤ (((((((((((((n + 1) + 3) + 1) + 1) + 1) + 2) + 1) + 4) + 1) + 124) + 1) + 27) + 1)) ∧ (((((((((((((((n + 1) + 3) + 1) + 1) + 1) + 2) + 1) + 4) + 1) + 124) + 1) + 27) + 1) + 9) ≤ n1) ∧ ZC X (rX10_init ((((((((((((((n + 1) + 3) + 1) + 1) + 1) + 2) + 1) + 4) + 1) + 124) + 1) + 27) + 1) + 9)) mX10_init [(2, ((((((((((((((n + 1) + 3) + 1) + 1) + 1) + 2) + 1) + 4) + 1) + 124) + 1) + 27) + 1 : Nat) : Int))] (((((((((((((n + 1) + 3) + 1) + 1) + 1) + 2) + 1) + 4) + 1) + 124) + 1) + 27) + 1) (z_new (z_up σ46 p0 5 ((((((((((((n + 1) + 3) + 1) + 1) + 1) + 2) + 1) + 4) + 1) + 124) + 1 : Nat) : Int)) ((((((((((((((n + 1) + 3) + 1) + 1) + 1) + 2) + 1) + 4) + 1) + 124) + 1) + 27) + 1 : Nat) : Int)) (zQv (fun σ54 => (p0.toNat ≤ ((((((((((((((n + 1) + 3) + 1) + 1) + 1) + 2) + 1) + 4) + 1) + 124) + 1) + 27) + 1) + 9)) ∧ (z_l ((((((((((((((((n + 1) + 3) + 1) + 1) + 1) + 2) + 1) + 4) + 1) + 124) + 1) + 27) + 1) + 9) + 1 : Nat) : Int) = (3, 2)) ∧ (((((((((((((((n + 1) + 3) + 1) + 1) + 1) + 2) + 1) + 4) + 1) + 124) + 1) + 27) + 1) + 9) + 1 ≤ n1) ∧ (((((((((((((((((n + 1) + 3) + 1) + 1) + 1) + 2) + 1) + 4) + 1) + 124) + 1) + 27) + 1) + 9) + 1 : Nat) : Int).toNat ≤ (((((((((((((((n + 1) + 3) + 1) + 1) + 1) + 2) + 1) + 4) + 1) + 124) + 1) + 27) + 1) + 9) + 1)) ∧ (((((((((((((((((n + 1) + 3) + 1) + 1) + 1) + 2) + 1) + 4) + 1) + 124) + 1) + 27) + 1) + 9) + 1) + 4) ≤ n1) ∧ ZC X (rX3_init ((((((((((((((((n + 1) + 3) + 1) + 1) + 1) + 2) + 1) + 4) + 1) + 124) + 1) + 27) + 1) + 9) + 1) + 4)) mX3_init [(2, ((((((((((((((((n + 1) + 3) + 1) + 1) + 1) + 2) + 1) + 4) + 1) + 124) + 1) + 27) + 1) + 9) + 1 : Nat) : Int))] (((((((((((((((n + 1) + 3) + 1) + 1) + 1) + 2) + 1) + 4) + 1) + 124) + 1) + 27) + 1) + 9) + 1) (z_new (z_up σ54 p0 6 ((((((((((((((n + 1) + 3) + 1) + 1) + 1) + 2) + 1) + 4) + 1) + 124) + 1) + 27) + 1 : Nat) : Int)) ((((((((((((((((n + 1) + 3) + 1) + 1) + 1) + 2) + 1) + 4) + 1) + 124) + 1) + 27) + 1) + 9) + 1 : Nat) : Int)) (zQv (fun σ62 => (p0.toNat ≤ ((((((((((((((((n + 1) + 3) + 1) + 1) + 1) + 2) + 1) + 4) + 1) + 124) + 1) + 27) + 1) + 9) + 1) + 4)) ∧ (z_l ((((((((((((((((((n + 1) + 3) + 1) + 1) + 1) + 2) + 1) + 4) + 1) + 124) + 1) + 27) + 1) + 9) + 1) + 4) + 1 : Nat) : Int) = (3, 2)) ∧ (((((((((((((((((n + 1) + 3) + 1) + 1) + 1) + 2) + 1) + 4) + 1) + 124) + 1) + 27) + 1) + 9) + 1) + 4) + 1 ≤ n1) ∧ (((((((((((((((((((n + 1) + 3) + 1) + 1) + 1) + 2) + 1) + 4) + 1) + 124) + 1) + 27) + 1) + 9) + 1) + 4) + 1 : Nat) : Int).toNat ≤ (((((((((((((((((n + 1) + 3) + 1) + 1) + 1) + 2) + 1) + 4) + 1) + 124) + 1) + 27) + 1) + 9) + 1) + 4) + 1)) ∧ (((((((((((((((((((n + 1) + 3) + 1) + 1) + 1) + 2) + 1) + 4) + 1) + 124) + 1) + 27) + 1) + 9) + 1) + 4) + 1) + 4) ≤ n1) ∧ ZC X (rX3_init ((((((((((((((((((n + 1) + 3) + 1) + 1) + 1) + 2) + 1) + 4) + 1) + 124) + 1) + 27) + 1) + 9) + 1) + 4) + 1) + 4)) mX3_init [(2, ((((((((((((((((((n + 1) + 3) + 1) + 1) + 1) + 2) + 1) + 4) + 1) + 124) + 1) + 27) + 1) + 9) + 1) + 4) + 1 : Nat) : Int))] (((((((((((((((((n + 1) + 3) + 1) + 1) + 1) + 2) + 1) + 4) + 1) + 124) + 1) + 27) + 1) + 9) + 1) + 4) + 1) (z_new (z_up σ62 p0 7 ((((((((((((((((n + 1) + 3) + 1) + 1) + 1) + 2) + 1) + 4) + 1) + 124) + 1) + 27) + 1) + 9) + 1 : Nat) : Int)) ((((((((((((((((((n + 1) + 3) + 1) + 1) + 1) + 2) + 1) + 4) + 1) + 124) + 1) + 27) + 1) + 9) + 1) + 4) + 1 : Nat) : Int)) (zQv (fun σ70 => (p0.toNat ≤ ((((((((((((((((((n + 1) + 3) + 1) + 1) + 1) + 2) + 1) + 4) + 1) + 124) + 1) + 27) + 1) + 9) + 1) + 4) + 1) + 4)) ∧ (z_l ((((((((((((((((((((n + 1) + 3) + 1) + 1) + 1) + 2) + 1) + 4) + 1) + 124) + 1) + 27) + 1) + 9) + 1) + 4) + 1) + 4) + 1 : Nat) : Int) = (3, 2)) ∧ (((((((((((((((((((n + 1) + 3) + 1) + 1) + 1) + 2) + 1) + 4) + 1) + 124) + 1) + 27) + 1) + 9) + 1) + 4) + 1) + 4) + 1 ≤ n1) ∧ (((((((((((((((((((((n + 1) + 3) + 1) + 1) + 1) + 2) + 1) + 4) + 1) + 124) + 1) + 27) + 1) + 9) + 1) + 4) + 1) + 4) + 1 : Nat) : Int).toNat ≤ (((((((((((((((((((n + 1) + 3) + 1) + 1) + 1) + 2) + 1) + 4) + 1) + 124) + 1) + 27) + 1) + 9) + 1) + 4) + 1) + 4) + 1)) ∧ (((((((((((((((((((((n + 1) + 3) + 1) + 1) + 1) + 2) + 1) + 4) + 1) + 124) + 1) + 27) + 1) + 9) + 1) + 4) + 1) + 4) + 1) + 4) ≤ n1) ∧ ZC X (rX3_init ((((((((((((((((((((n + 1) + 3) + 1) + 1) + 1) + 2) + 1) + 4) + 1) + 124) + 1) + 27) + 1) + 9) + 1) + 4) + 1) + 4) + 1) + 4)) mX3_init [(2, ((((((((((((((((((((n + 1) + 3) + 1) + 1) + 1) + 2) + 1) + 4) + 1) + 124) + 1) + 27) + 1) + 9) + 1) + 4) + 1) + 4) + 1 : Nat) : Int))] (((((((((((((((((((n + 1) + 3) + 1) + 1) + 1) + 2) + 1) + 4) + 1) + 124) + 1) + 27) + 1) + 9) + 1) + 4) + 1) + 4) + 1) (z_new (z_up σ70 p0 8 ((((((((((((((((((n + 1) + 3) + 1) + 1) + 1) + 2) + 1) + 4) + 1) + 124) + 1) + 27) + 1) + 9) + 1) + 4) + 1 : Nat) : Int)) ((((((((((((((((((((n + 1) + 3) + 1) + 1) + 1) + 2) + 1) + 4) + 1) + 124) + 1) + 27) + 1) + 9) + 1) + 4) + 1) + 4) + 1 : Nat) : Int)) (zQv (fun σ78 => (p0.toNat ≤ ((((((((((((((((((((n + 1) + 3) + 1) + 1) + 1) + 2) + 1) + 4) + 1) + 124) + 1) + 27) + 1) + 9) + 1) + 4) + 1) + 4) + 1) + 4)) ∧ (z_l ((((((((((((((((((((((n + 1) + 3) + 1) + 1) + 1) + 2) + 1) + 4) + 1) + 124) + 1) + 27) + 1) + 9) + 1) + 4) + 1) + 4) + 1) + 4) + 1 : Nat) : Int) = (3, 2)) ∧ (((((((((((((((((((((n + 1) + 3) + 1) + 1) + 1) + 2) + 1) + 4) + 1) + 124) + 1) + 27) + 1) + 9) + 1) + 4) + 1) + 4) + 1) + 4) + 1 ≤ n1) ∧ (((((((((((((((((((((((n + 1) + 3) + 1) + 1) + 1) + 2) + 1) + 4) + 1) + 124) + 1) + 27) + 1) + 9) + 1) + 4) + 1) + 4) + 1) + 4) + 1 : Nat) : Int).toNat ≤ (((((((((((((((((((((n + 1) + 3) + 1) + 1) + 1) + 2) + 1) + 4) + 1) + 124) + 1) + 27) + 1) + 9) + 1) + 4) + 1) + 4) + 1) + 4) + 1)) ∧ (((((((((((((((((((((((n + 1) + 3) + 1) + 1) + 1) + 2) + 1) + 4) + 1) + 124) + 1) + 27) + 1) + 9) + 1) + 4) + 1) + 4) + 1) + 4) + 1) + 4) ≤ n1) ∧ ZC X (rX3_init ((((((((((((((((((((((n + 1) + 3) + 1) + 1) + 1) + 2) + 1) + 4) + 1) + 124) + 1) + 27) + 1) + 9) + 1) + 4) + 1) + 4) + 1) + 4) + 1) + 4)) mX3_init [(2, ((((((((((((((((((((((n + 1) + 3) + 1) + 1) + 1) + 2) + 1) + 4) + 1) + 124) + 1) + 27) + 1) + 9) + 1) + 4) + 1) + 4) + 1) + 4) + 1 : Nat) : Int))] (((((((((((((((((((((n + 1) + 3) + 1) + 1) + 1) + 2) + 1) + 4) + 1) + 124) + 1) + 27) + 1) + 9) + 1) + 4) + 1) + 4) + 1) + 4) + 1) (z_new (z_up σ78 p0 9 ((((((((((((((((((((n + 1) + 3) + 1) + 1) + 1) + 2) + 1) + 4) + 1) + 124) + 1) + 27) + 1) + 9) + 1) + 4) + 1) + 4) + 1 : Nat) : Int)) ((((((((((((((((((((((n + 1) + 3) + 1) + 1) + 1) + 2) + 1) + 4) + 1) + 124) + 1) + 27) + 1) + 9) + 1) + 4) + 1) + 4) + 1) + 4) + 1 : Nat) : Int)) (zQv (fun σ86 => (p0.toNat ≤ ((((((((((((((((((((((n + 1) + 3) + 1) + 1) + 1) + 2) + 1) + 4) + 1) + 124) + 1) + 27) + 1) + 9) + 1) + 4) + 1) + 4) + 1) + 4) + 1) + 4)) ∧ (z_l ((((((((((((((((((((((((n + 1) + 3) + 1) + 1) + 1) + 2) + 1) + 4) + 1) + 124) + 1) + 27) + 1) + 9) + 1) + 4) + 1) + 4) + 1) + 4) + 1) + 4) + 1 : Nat) : Int) = (7, 3)) ∧ (((((((((((((((((((((((n + 1) + 3) + 1) + 1) + 1) + 2) + 1) + 4) + 1) + 124) + 1) + 27) + 1) + 9) + 1) + 4) + 1) + 4) + 1) + 4) + 1) + 4) + 1 ≤ n1) ∧ (((((((((((((((((((((((((n + 1) + 3) + 1) + 1) + 1) + 2) + 1) + 4) + 1) + 124) + 1) + 27) + 1) + 9) + 1) + 4) + 1) + 4) + 1) + 4) + 1) + 4) + 1 : Nat) : Int).toNat ≤ (((((((((((((((((((((((n + 1) + 3) + 1) + 1) + 1) + 2) + 1) + 4) + 1) + 124) + 1) + 27) + 1) + 9) + 1) + 4) + 1) + 4) + 1) + 4) + 1) + 4) + 1)) ∧ (((((((((((((((((((((((((n + 1) + 3) + 1) + 1) + 1) + 2) + 1) + 4) + 1) + 124) + 1) + 27) + 1) + 9) + 1) + 4) + 1) + 4) + 1) + 4) + 1) + 4) + 1) + 5) ≤ n1) ∧ ZC X (rX7_init ((((((((((((((((((((((((n + 1) + 3) + 1) + 1) + 1) + 2) + 1) + 4) + 1) + 124) + 1) + 27) + 1) + 9) + 1) + 4) + 1) + 4) + 1) + 4) + 1) + 4) + 1) + 5)) mX7_init [(2, ((((((((((((((((((((((((n + 1) + 3) + 1) + 1) + 1) + 2) + 1) + 4) + 1) + 124) + 1) + 27) + 1) + 9) + 1) + 4) + 1) + 4) + 1) + 4) + 1) + 4) + 1 : Nat) : Int))] (((((((((((((((((((((((n + 1) + 3) + 1) + 1) + 1) + 2) + 1) + 4) + 1) + 124) + 1) + 27) + 1) + 9) + 1) + 4) + 1) + 4) + 1) + 4) + 1) + 4) + 1) (z_new (z_up σ86 p0 10 ((((((((((((((((((((((n + 1) + 3) + 1) + 1) + 1) + 2) + 1) + 4) + 1) + 124) + 1) + 27) + 1) + 9) + 1) + 4) + 1) + 4) + 1) + 4) + 1 : Nat) : Int)) ((((((((((((((((((((((((n + 1) + 3) + 1) + 1) + 1) + 2) + 1) + 4) + 1) + 124) + 1) + 27) + 1) + 9) + 1) + 4) + 1) + 4) + 1) + 4) + 1) + 4) + 1 : Nat) : Int)) (zQv (fun σ94 => (p0.toNat ≤ ((((((((((((((((((((((((n + 1) + 3) + 1) + 1) + 1) + 2) + 1) + 4) + 1) + 124) + 1) + 27) + 1) + 9) + 1) + 4) + 1) + 4) + 1) + 4) + 1) + 4) + 1) + 5)) ∧ (z_l ((((((((((((((((((((((((((n + 1) + 3) + 1) + 1) + 1) + 2) + 1) + 4) + 1) + 124) + 1) + 27) + 1) + 9) + 1) + 4) + 1) + 4) + 1) + 4) + 1) + 4) + 1) + 5) + 1 : Nat) : Int) = (7, 3)) ∧ (((((((((((((((((((((((((n + 1) + 3) + 1) + 1) + 1) + 2) + 1) + 4) + 1) + 124) + 1) + 27) + 1) + 9) + 1) + 4) + 1) + 4) + 1) + 4) + 1) + 4) + 1) + 5) + 1 ≤ n1) ∧ (((((((((((((((((((((((((((n + 1) + 3) + 1) + 1) + 1) + 2) + 1) + 4) + 1) + 124) + 1) + 27) + 1) + 9) + 1) + 4) + 1) + 4) + 1) + 4) + 1) + 4) + 1) + 5) + 1 : Nat) : Int).toNat ≤ (((((((((((((((((((((((((n + 1) + 3) + 1) + 1) + 1) + 2) + 1) + 4) + 1) + 124) + 1) + 27) + 1) + 9) + 1) + 4) + 1) + 4) + 1) + 4) + 1) + 4) + 1) + 5) + 1)) ∧ (((((((((((((((((((((((((((n + 1) + 3) + 1) + 1) + 1) + 2) + 1) + 4) + 1) + 124) + 1) + 27) + 1) + 9) + 1) + 4) + 1) + 4) + 1) + 4) + 1) + 4) + 1) + 5) + 1) + 5) ≤ n1) ∧ ZC X (rX7_init ((((((((((((((((((((((((((n + 1) + 3) + 1) + 1) + 1) + 2) + 1) + 4) + 1) + 124) + 1) + 27) + 1) + 9) + 1) + 4) + 1) + 4) + 1) + 4) + 1) + 4) + 1) + 5) + 1) + 5)) mX7_init [(2, ((((((((((((((((((((((((((n + 1) + 3) + 1) + 1) + 1) + 2) + 1) + 4) + 1) + 124) + 1) + 27) + 1) + 9) + 1) + 4) + 1) + 4) + 1) + 4) + 1) + 4) + 1) + 5) + 1 : Nat) : Int))] (((((((((((((((((((((((((n + 1) + 3) + 1) + 1) + 1) + 2) + 1) + 4) + 1) + 124) + 1) + 27) + 1) + 9) + 1) + 4) + 1) + 4) + 1) + 4) + 1) + 4) + 1) + 5) + 1) (z_new (z_up σ94 p0 11 ((((((((((((((((((((((((n + 1) + 3) + 1) + 1) + 1) + 2) + 1) + 4) + 1) + 124) + 1) + 27) + 1) + 9) + 1) + 4) + 1) + 4) + 1) + 4) + 1) + 4) + 1 : Nat) : Int)) ((((((((((((((((((((((((((n + 1) + 3) + 1) + 1) + 1) + 2) + 1) + 4) + 1) + 124) + 1) + 27) + 1) + 9) + 1) + 4) + 1) + 4) + 1) + 4) + 1) + 4) + 1) + 5) + 1 : Nat) : Int)) (zQv (fun σ102 => (p0.toNat ≤ ((((((((((((((((((((((((((n + 1) + 3) + 1) + 1) + 1) + 2) + 1) + 4) + 1) + 124) + 1) + 27) + 1) + 9) + 1) + 4) + 1) + 4) + 1) + 4) + 1) + 4) + 1) + 5) + 1) + 5)) ∧ (((((((((((((((((((((((((((n + 1) + 3) + 1) + 1) + 1) + 2) + 1) + 4) + 1) + 124) + 1) + 27) + 1) + 9) + 1) + 4) + 1) + 4) + 1) + 4) + 1) + 4) + 1) + 5) + 1) + 5) = n1) ∧ T (z_up (z_up (z_up σ102 p0 12 ((((((((((((((((((((((((((n + 1) + 3) + 1) + 1) + 1) + 2) + 1) + 4) + 1) + 124) + 1) + 27) + 1) + 9) + 1) + 4) + 1) + 4) + 1) + 4) + 1) + 4) + 1) + 5) + 1 : Nat) : Int)) p0 13 (-1)) p0 14 8)))))))))))))))))))))))))))) : ZC X (rX11_init n1) mX11_init [(2, p0)] n σ (zQv T) := by
  show Z X _ _ 0 [(2, p0)] [] _ σ _
  refine Z_aload_n 0 dX11_init_0 rfl rfl ?_
  refine Z_objInit dX11_init_1 ((z_l_pos (by rw [hp0]; decide)).1) mlX11_3 ob_i ob_c (Nat.le_of_ble_eq_true rfl) (Nat.le_of_ble_eq_true rfl) (Nat.le_of_ble_eq_true rfl) ?_
  refine Z_aload_n 0 dX11_init_4 rfl rfl ?_
  obtain ⟨g1, h⟩ := h
  obtain ⟨g2, h⟩ := h
  refine Z_newO (T := TX8) (N := 9) (ci := 8) tyX8 dX11_init_5 rfl (by decide) inX8 tyX8_ok df_8 clX11_9 in_X8 iz_X8 g1 g2 ?_
  refine Z_dup dX11_init_8 (by simp) ?_
  obtain ⟨g3, h⟩ := h
  obtain ⟨g7, h⟩ := h
  refine Z_invI (M' := mX8_init) (ρ' := rX8_init ((n + 1) + 3)) (st := [(2, ((n + 1 : Nat) : Int)), (2, p0)]) [] dX11_init_9 rfl ((z_l_pos (by rw [g1]; decide)).1) rfl rfl rfl (kX8_init.cl (Nat.le_of_ble_eq_true rfl) (Nat.le_add_right _ _) g7 (Nat.le_of_ble_eq_true rfl) (Nat.le_of_ble_eq_true rfl) (Nat.le_of_ble_eq_true rfl)) (mlX11_11 rfl) iX8_init h (z_kv (fun σ6 h => ?_))
  obtain ⟨g8, h⟩ := h
  refine Z_put (T := TX11) (N := 15) (ci := 11) (t := 2) tyX11 0 dX11_init_12 hp0 g8 rfl (by decide) inX11 (by decide) (plX11_12 rfl rfl) rfl tyX11_ok nmX11 rfl (z_nf_o _ _) ?_
  refine Z_aload_n 0 dX11_init_15 rfl rfl ?_
  obtain ⟨g9, h⟩ := h
  obtain ⟨g10, h⟩ := h
  refine Z_newO (T := TX5) (N := 2) (ci := 5) tyX5 dX11_init_16 rfl (by decide) inX5 tyX5_ok df_5 clX11_16 in_X5 iz_X5 g9 g10 ?_
  refine Z_dup dX11_init_19 (by simp) ?_
  obtain ⟨g11, h⟩ := h
  obtain ⟨g15, h⟩ := h
  refine Z_invI (M' := mX5_init) (ρ' := rX5_init ((((n + 1) + 3) + 1) + 1)) (st := [(2, ((((n + 1) + 3) + 1 : Nat) : Int)), (2, p0)]) [] dX11_init_20 rfl ((z_l_pos (by rw [g9]; decide)).1) rfl rfl rfl (kX5_init.cl (Nat.le_of_ble_eq_true rfl) (Nat.le_add_right _ _) g15 (Nat.le_of_ble_eq_true rfl) (Nat.le_of_ble_eq_true rfl) (Nat.le_of_ble_eq_true rfl)) (mlX11_18 rfl) iX5_init h (z_kv (fun σ14 h => ?_))
  obtain ⟨g16, h⟩ := h
  refine Z_put (T := TX11) (N := 15) (ci := 11) (t := 2) tyX11 1 dX11_init_23 hp0 g16 rfl (by decide) inX11 (by decide) (plX11_19 rfl rfl) rfl tyX11_ok nmX11 rfl (z_nf_o _ _) ?_
  refine Z_aload_n 0 dX11_init_26 rfl rfl ?_
  obtain ⟨g17, h⟩ := h
  obtain ⟨g18, h⟩ := h
  refine Z_newO (T := TX6) (N := 3) (ci := 6) tyX6 dX11_init_27 rfl (by decide) inX6 tyX6_ok df_6 clX11_23 in_X6 iz_X6 g17 g18 ?_
  refine Z_dup dX11_init_30 (by simp) ?_
  refine Z_bipush dX11_init_31 (by decide) ?_
  obtain ⟨g19, h⟩ := h
  obtain ⟨g23, h⟩ := h
  refine Z_invI (M' := mX6_init) (ρ' := rX6_init ((((((n + 1) + 3) + 1) + 1) + 1) + 2)) (st := [(2, ((((((n + 1) + 3) + 1) + 1) + 1 : Nat) : Int)), (2, p0)]) [(0, 6)] dX11_init_33 rfl ((z_l_pos (by rw [g17]; decide)).1) rfl rfl rfl (kX6_init.cl (Nat.le_of_ble_eq_true rfl) (Nat.le_add_right _ _) g23 (Nat.le_of_ble_eq_true rfl) (Nat.le_of_ble_eq_true rfl) (Nat.le_of_ble_eq_true rfl)) (mlX11_25 rfl) iX6_init h (z_kv (fun σ22 h => ?_))
  obtain ⟨g24, h⟩ := h
  refine Z_put (T := TX11) (N := 15) (ci := 11) (t := 2) tyX11 2 dX11_init_36 hp0 g24 rfl (by decide) inX11 (by decide) (plX11_28 rfl rfl) rfl tyX11_ok nmX11 rfl (z_nf_o _ _) ?_
  refine Z_aload_n 0 dX11_init_39 rfl rfl ?_
  obtain ⟨g25, h⟩ := h
  obtain ⟨g26, h⟩ := h
  refine Z_newO (T := TX2) (N := 6) (ci := 2) tyX2 dX11_init_40 rfl (by decide) inX2 tyX2_ok df_2 clX11_32 in_X2 iz_X2 g25 g26 ?_
  refine Z_dup dX11_init_43 (by simp) ?_
  obtain ⟨g27, h⟩ := h
  obtain ⟨g31, h⟩ := h
  refine Z_invI (M' := mX2_init) (ρ' := rX2_init ((((((((n + 1) + 3) + 1) + 1) + 1) + 2) + 1) + 4)) (st := [(2, ((((((((n + 1) + 3) + 1) + 1) + 1) + 2) + 1 : Nat) : Int)), (2, p0)]) [] dX11_init_44 rfl ((z_l_pos (by rw [g25]; decide)).1) rfl rfl rfl (kX2_init.cl (Nat.le_of_ble_eq_true rfl) (Nat.le_add_right _ _) g31 (Nat.le_of_ble_eq_true rfl) (Nat.le_of_ble_eq_true rfl) (Nat.le_of_ble_eq_true rfl)) (mlX11_34 rfl) iX2_init h (z_kv (fun σ30 h => ?_))
  obtain ⟨g32, h⟩ := h
  refine Z_put (T := TX11) (N := 15) (ci := 11) (t := 2) tyX11 3 dX11_init_47 hp0 g32 rfl (by decide) inX11 (by decide) (plX11_35 rfl rfl) rfl tyX11_ok nmX11 rfl (z_nf_o _ _) ?_
  refine Z_aload_n 0 dX11_init_50 rfl rfl ?_
  obtain ⟨g33, h⟩ := h
  obtain ⟨g34, h⟩ := h
  refine Z_newO (T := TX4) (N := 6) (ci := 4) tyX4 dX11_init_51 rfl (by decide) inX4 tyX4_ok df_4 clX11_39 in_X4 iz_X4 g33 g34 ?_
  refine Z_dup dX11_init_54 (by simp) ?_
  obtain ⟨g35, h⟩ := h
  obtain ⟨g39, h⟩ := h
  refine Z_invI (M' := mX4_init) (ρ' := rX4_init ((((((((((n + 1) + 3) + 1) + 1) + 1) + 2) + 1) + 4) + 1) + 124)) (st := [(2, ((((((((((n + 1) + 3) + 1) + 1) + 1) + 2) + 1) + 4) + 1 : Nat) : Int)), (2, p0)]) [] dX11_init_55 rfl ((z_l_pos (by rw [g33]; decide)).1) rfl rfl rfl (kX4_init.cl (Nat.le_of_ble_eq_true rfl) (Nat.le_add_right _ _) g39 (Nat.le_of_ble_eq_true rfl) (Nat.le_of_ble_eq_true rfl) (Nat.le_of_ble_eq_true rfl)) (mlX11_41 rfl) iX4_init h (z_kv (fun σ38 h => ?_))
  obtain ⟨g40, h⟩ := h
  refine Z_put (T := TX11) (N := 15) (ci := 11) (t := 2) tyX11 4 dX11_init_58 hp0 g40 rfl (by decide) inX11 (by decide) (plX11_42 rfl rfl) rfl tyX11_ok nmX11 rfl (z_nf_o _ _) ?_
  refine Z_aload_n 0 dX11_init_61 rfl rfl ?_
  obtain ⟨g41, h⟩ := h
  obtain ⟨g42, h⟩ := h
  refine Z_newO (T := TX0) (N := 7) (ci := 0) tyX0 dX11_init_62 rfl (by decide) inX0 tyX0_ok df_0 clX11_46 in_X0 iz_X0 g41 g42 ?_
  refine Z_dup dX11_init_65 (by simp) ?_
  obtain ⟨g43, h⟩ := h
  obtain ⟨g47, h⟩ := h
  refine Z_invI (M' := mX0_init) (ρ' := rX0_init ((((((((((((n + 1) + 3) + 1) + 1) + 1) + 2) + 1) + 4) + 1) + 124) + 1) + 27)) (st := [(2, ((((((((((((n + 1) + 3) + 1) + 1) + 1) + 2) + 1) + 4) + 1) + 124) + 1 : Nat) : Int)), (2, p0)]) [] dX11_init_66 rfl ((z_l_pos (by rw [g41]; decide)).1) rfl rfl rfl (kX0_init.cl (Nat.le_of_ble_eq_true rfl) (Nat.le_add_right _ _) g47 (Nat.le_of_ble_eq_true rfl) (Nat.le_of_ble_eq_true rfl) (Nat.le_of_ble_eq_true rfl)) (mlX11_48 rfl) iX0_init h (z_kv (fun σ46 h => ?_))
  obtain ⟨g48, h⟩ := h
  refine Z_put (T := TX11) (N := 15) (ci := 11) (t := 2) tyX11 5 dX11_init_69 hp0 g48 rfl (by decide) inX11 (by decide) (plX11_49 rfl rfl) rfl tyX11_ok nmX11 rfl (z_nf_o _ _) ?_
  refine Z_aload_n 0 dX11_init_72 rfl rfl ?_
  obtain ⟨g49, h⟩ := h
  obtain ⟨g50, h⟩ := h
  refine Z_newO (T := TX10) (N := 4) (ci := 10) tyX10 dX11_init_73 rfl (by decide) inX10 tyX10_ok df_10 clX11_53 in_X10 iz_X10 g49 g50 ?_
  refine Z_dup dX11_init_76 (by simp) ?_
  obtain ⟨g51, h⟩ := h
  obtain ⟨g55, h⟩ := h
  refine Z_invI (M' := mX10_init) (ρ' := rX10_init ((((((((((((((n + 1) + 3) + 1) + 1) + 1) + 2) + 1) + 4) + 1) + 124) + 1) + 27) + 1) + 9)) (st := [(2, ((((((((((((((n + 1) + 3) + 1) + 1) + 1) + 2) + 1) + 4) + 1) + 124) + 1) + 27) + 1 : Nat) : Int)), (2, p0)]) [] dX11_init_77 rfl ((z_l_pos (by rw [g49]; decide)).1) rfl rfl rfl (kX10_init.cl (Nat.le_of_ble_eq_true rfl) (Nat.le_add_right _ _) g55 (Nat.le_of_ble_eq_true rfl) (Nat.le_of_ble_eq_true rfl) (Nat.le_of_ble_eq_true rfl)) (mlX11_55 rfl) iX10_init h (z_kv (fun σ54 h => ?_))
  obtain ⟨g56, h⟩ := h
  refine Z_put (T := TX11) (N := 15) (ci := 11) (t := 2) tyX11 6 dX11_init_80 hp0 g56 rfl (by decide) inX11 (by decide) (plX11_56 rfl rfl) rfl tyX11_ok nmX11 rfl (z_nf_o _ _) ?_
  refine Z_aload_n 0 dX11_init_83 rfl rfl ?_
  obtain ⟨g57, h⟩ := h
  obtain ⟨g58, h⟩ := h
  refine Z_newO (T := TX3) (N := 2) (ci := 3) tyX3 dX11_init_84 rfl (by decide) inX3 tyX3_ok df_3 clX11_60 in_X3 iz_X3 g57 g58 ?_
  refine Z_dup dX11_init_87 (by simp) ?_
  obtain ⟨g59, h⟩ := h
  obtain ⟨g63, h⟩ := h
  refine Z_invI (M' := mX3_init) (ρ' := rX3_init ((((((((((((((((n + 1) + 3) + 1) + 1) + 1) + 2) + 1) + 4) + 1) + 124) + 1) + 27) + 1) + 9) + 1) + 4)) (st := [(2, ((((((((((((((((n + 1) + 3) + 1) + 1) + 1) + 2) + 1) + 4) + 1) + 124) + 1) + 27) + 1) + 9) + 1 : Nat) : Int)), (2, p0)]) [] dX11_init_88 rfl ((z_l_pos (by rw [g57]; decide)).1) rfl rfl rfl (kX3_init.cl (Nat.le_of_ble_eq_true rfl) (Nat.le_add_right _ _) g63 (Nat.le_of_ble_eq_true rfl) (Nat.le_of_ble_eq_true rfl) (Nat.le_of_ble_eq_true rfl)) (mlX11_62 rfl) iX3_init h (z_kv (fun σ62 h => ?_))
  obtain ⟨g64, h⟩ := h
  refine Z_put (T := TX11) (N := 15) (ci := 11) (t := 2) tyX11 7 dX11_init_91 hp0 g64 rfl (by decide) inX11 (by decide) (plX11_63 rfl rfl) rfl tyX11_ok nmX11 rfl (z_nf_o _ _) ?_
  refine Z_aload_n 0 dX11_init_94 rfl rfl ?_
  obtain ⟨g65, h⟩ := h
  obtain ⟨g66, h⟩ := h
  refine Z_newO (T := TX3) (N := 2) (ci := 3) tyX3 dX11_init_95 rfl (by decide) inX3 tyX3_ok df_3 clX11_60 in_X3 iz_X3 g65 g66 ?_
  refine Z_dup dX11_init_98 (by simp) ?_
  obtain ⟨g67, h⟩ := h
  obtain ⟨g71, h⟩ := h
  refine Z_invI (M' := mX3_init) (ρ' := rX3_init ((((((((((((((((((n + 1) + 3) + 1) + 1) + 1) + 2) + 1) + 4) + 1) + 124) + 1) + 27) + 1) + 9) + 1) + 4) + 1) + 4)) (st := [(2, ((((((((((((((((((n + 1) + 3) + 1) + 1) + 1) + 2) + 1) + 4) + 1) + 124) + 1) + 27) + 1) + 9) + 1) + 4) + 1 : Nat) : Int)), (2, p0)]) [] dX11_init_99 rfl ((z_l_pos (by rw [g65]; decide)).1) rfl rfl rfl (kX3_init.cl (Nat.le_of_ble_eq_true rfl) (Nat.le_add_right _ _) g71 (Nat.le_of_ble_eq_true rfl) (Nat.le_of_ble_eq_true rfl) (Nat.le_of_ble_eq_true rfl)) (mlX11_62 rfl) iX3_init h (z_kv (fun σ70 h => ?_))
  obtain ⟨g72, h⟩ := h
  refine Z_put (T := TX11) (N := 15) (ci := 11) (t := 2) tyX11 8 dX11_init_102 hp0 g72 rfl (by decide) inX11 (by decide) (plX11_67 rfl rfl) rfl tyX11_ok nmX11 rfl (z_nf_o _ _) ?_
  refine Z_aload_n 0 dX11_init_105 rfl rfl ?_
  obtain ⟨g73, h⟩ := h
  obtain ⟨g74, h⟩ := h
  refine Z_newO (T := TX3) (N := 2) (ci := 3) tyX3 dX11_init_106 rfl (by decide) inX3 tyX3_ok df_3 clX11_60 in_X3 iz_X3 g73 g74 ?_
  refine Z_dup dX11_init_109 (by simp) ?_
  obtain ⟨g75, h⟩ := h
  obtain ⟨g79, h⟩ := h
  refine Z_invI (M' := mX3_init) (ρ' := rX3_init ((((((((((((((((((((n + 1) + 3) + 1) + 1) + 1) + 2) + 1) + 4) + 1) + 124) + 1) + 27) + 1) + 9) + 1) + 4) + 1) + 4) + 1) + 4)) (st := [(2, ((((((((((((((((((((n + 1) + 3) + 1) + 1) + 1) + 2) + 1) + 4) + 1) + 124) + 1) + 27) + 1) + 9) + 1) + 4) + 1) + 4) + 1 : Nat) : Int)), (2, p0)]) [] dX11_init_110 rfl ((z_l_pos (by rw [g73]; decide)).1) rfl rfl rfl (kX3_init.cl (Nat.le_of_ble_eq_true rfl) (Nat.le_add_right _ _) g79 (Nat.le_of_ble_eq_true rfl) (Nat.le_of_ble_eq_true rfl) (Nat.le_of_ble_eq_true rfl)) (mlX11_62 rfl) iX3_init h (z_kv (fun σ78 h => ?_))
  obtain ⟨g80, h⟩ := h
  refine Z_put (T := TX11) (N := 15) (ci := 11) (t := 2) tyX11 9 dX11_init_113 hp0 g80 rfl (by decide) inX11 (by decide) (plX11_70 rfl rfl) rfl tyX11_ok nmX11 rfl (z_nf_o _ _) ?_
  refine Z_aload_n 0 dX11_init_116 rfl rfl ?_
  obtain ⟨g81, h⟩ := h
  obtain ⟨g82, h⟩ := h
  refine Z_newO (T := TX3) (N := 2) (ci := 3) tyX3 dX11_init_117 rfl (by decide) inX3 tyX3_ok df_3 clX11_60 in_X3 iz_X3 g81 g82 ?_
  refine Z_dup dX11_init_120 (by simp) ?_
  obtain ⟨g83, h⟩ := h
  obtain ⟨g87, h⟩ := h
  refine Z_invI (M' := mX3_init) (ρ' := rX3_init ((((((((((((((((((((((n + 1) + 3) + 1) + 1) + 1) + 2) + 1) + 4) + 1) + 124) + 1) + 27) + 1) + 9) + 1) + 4) + 1) + 4) + 1) + 4) + 1) + 4)) (st := [(2, ((((((((((((((((((((((n + 1) + 3) + 1) + 1) + 1) + 2) + 1) + 4) + 1) + 124) + 1) + 27) + 1) + 9) + 1) + 4) + 1) + 4) + 1) + 4) + 1 : Nat) : Int)), (2, p0)]) [] dX11_init_121 rfl ((z_l_pos (by rw [g81]; decide)).1) rfl rfl rfl (kX3_init.cl (Nat.le_of_ble_eq_true rfl) (Nat.le_add_right _ _) g87 (Nat.le_of_ble_eq_true rfl) (Nat.le_of_ble_eq_true rfl) (Nat.le_of_ble_eq_true rfl)) (mlX11_62 rfl) iX3_init h (z_kv (fun σ86 h => ?_))
  obtain ⟨g88, h⟩ := h
  refine Z_put (T := TX11) (N := 15) (ci := 11) (t := 2) tyX11 10 dX11_init_124 hp0 g88 rfl (by decide) inX11 (by decide) (plX11_73 rfl rfl) rfl tyX11_ok nmX11 rfl (z_nf_o _ _) ?_
  refine Z_aload_n 0 dX11_init_127 rfl rfl ?_
  obtain ⟨g89, h⟩ := h
  obtain ⟨g90, h⟩ := h
  refine Z_newO (T := TX7) (N := 3) (ci := 7) tyX7 dX11_init_128 rfl (by decide) inX7 tyX7_ok df_7 clX11_76 in_X7 iz_X7 g89 g90 ?_
  refine Z_dup dX11_init_131 (by simp) ?_
  obtain ⟨g91, h⟩ := h
  obtain ⟨g95, h⟩ := h
  refine Z_invI (M' := mX7_init) (ρ' := rX7_init ((((((((((((((((((((((((n + 1) + 3) + 1) + 1) + 1) + 2) + 1) + 4) + 1) + 124) + 1) + 27) + 1) + 9) + 1) + 4) + 1) + 4) + 1) + 4) + 1) + 4) + 1) + 5)) (st := [(2, ((((((((((((((((((((((((n + 1) + 3) + 1) + 1) + 1) + 2) + 1) + 4) + 1) + 124) + 1) + 27) + 1) + 9) + 1) + 4) + 1) + 4) + 1) + 4) + 1) + 4) + 1 : Nat) : Int)), (2, p0)]) [] dX11_init_132 rfl ((z_l_pos (by rw [g89]; decide)).1) rfl rfl rfl (kX7_init.cl (Nat.le_of_ble_eq_true rfl) (Nat.le_add_right _ _) g95 (Nat.le_of_ble_eq_true rfl) (Nat.le_of_ble_eq_true rfl) (Nat.le_of_ble_eq_true rfl)) (mlX11_78 rfl) iX7_init h (z_kv (fun σ94 h => ?_))
  obtain ⟨g96, h⟩ := h
  refine Z_put (T := TX11) (N := 15) (ci := 11) (t := 2) tyX11 11 dX11_init_135 hp0 g96 rfl (by decide) inX11 (by decide) (plX11_79 rfl) rfl tyX11_ok nmX11 rfl (z_nf_o _ _) ?_
  refine Z_aload_n 0 dX11_init_138 rfl rfl ?_
  obtain ⟨g97, h⟩ := h
  obtain ⟨g98, h⟩ := h
  refine Z_newO (T := TX7) (N := 3) (ci := 7) tyX7 dX11_init_139 rfl (by decide) inX7 tyX7_ok df_7 clX11_76 in_X7 iz_X7 g97 g98 ?_
  refine Z_dup dX11_init_142 (by simp) ?_
  obtain ⟨g99, h⟩ := h
  obtain ⟨g103, h⟩ := h
  refine Z_invI (M' := mX7_init) (ρ' := rX7_init ((((((((((((((((((((((((((n + 1) + 3) + 1) + 1) + 1) + 2) + 1) + 4) + 1) + 124) + 1) + 27) + 1) + 9) + 1) + 4) + 1) + 4) + 1) + 4) + 1) + 4) + 1) + 5) + 1) + 5)) (st := [(2, ((((((((((((((((((((((((((n + 1) + 3) + 1) + 1) + 1) + 2) + 1) + 4) + 1) + 124) + 1) + 27) + 1) + 9) + 1) + 4) + 1) + 4) + 1) + 4) + 1) + 4) + 1) + 5) + 1 : Nat) : Int)), (2, p0)]) [] dX11_init_143 rfl ((z_l_pos (by rw [g97]; decide)).1) rfl rfl rfl (kX7_init.cl (Nat.le_of_ble_eq_true rfl) (Nat.le_add_right _ _) g103 (Nat.le_of_ble_eq_true rfl) (Nat.le_of_ble_eq_true rfl) (Nat.le_of_ble_eq_true rfl)) (mlX11_78 rfl) iX7_init h (z_kv (fun σ102 h => ?_))
  obtain ⟨g104, h⟩ := h
  refine Z_put (T := TX11) (N := 15) (ci := 11) (t := 2) tyX11 12 dX11_init_146 hp0 g104 rfl (by decide) inX11 (by decide) (plX11_83 rfl) rfl tyX11_ok nmX11 rfl (z_nf_o _ _) ?_
  refine Z_aload_n 0 dX11_init_149 rfl rfl ?_
  refine Z_iconst dX11_init_150 ?_
  refine Z_put (T := TX11) (N := 15) (ci := 11) (t := 0) tyX11 13 dX11_init_151 hp0 g104 rfl (by decide) inX11 (by decide) (plX11_86 rfl) rfl tyX11_ok nmX11 rfl (z_nf_i _) ?_
  refine Z_aload_n 0 dX11_init_154 rfl rfl ?_
  refine Z_bipush dX11_init_155 (by decide) ?_
  refine Z_put (T := TX11) (N := 15) (ci := 11) (t := 0) tyX11 14 dX11_init_157 hp0 g104 rfl (by decide) inX11 (by decide) (plX11_90 rfl) rfl tyX11_ok nmX11 rfl (z_nf_i _) ?_
  obtain ⟨g105, h⟩ := h
  exact Z_return dX11_init_160 rfl g105 ⟨rfl, h⟩
theorem bk_X11_row {X : ZS} {σ : ZM} {T : Int → ZM → Prop} {x1 : Int} {x2 : Int} {x3 : Int} (h : (Fix σ) ∧ ZC X (rX8_exists zN) mX8_exists [(2, 2), (0, x1)] zN σ (zQz (fun r2 σ3 => ((r2 = false) → T (-2) σ3) ∧ ((r2 = true) → (r32 x2) ∧ ((x2 < 0) → T (-2) σ3) ∧ ((¬ (x2 < 0)) → ((3 < x2) → T (-2) σ3) ∧ ((¬ (3 < x2)) → (r32 x3) ∧ ((x3 ≤ 60) → ((0 ≤ x3) → (Fix σ3) ∧ ZC X (rX8_lay zN) mX8_lay [(2, 2), (0, x1), (0, x2), (0, x3)] zN σ3 (zQv (fun σ8 => T 0 σ8))) ∧ ((¬ (0 ≤ x3)) → T (-3) σ3)) ∧ ((¬ (x3 ≤ 60)) → T (-2) σ3))))))) : ZC X (rX11_row zN) mX11_row [(2, 1), (0, x1), (0, x2), (0, x3)] zN σ (zQi T) := by
  show Z X _ _ 0 [(2, 1), (0, x1), (0, x2), (0, x3)] [] _ σ _
  refine Z_aload_n 0 dX11_row_0 rfl rfl ?_
  obtain ⟨g1, h⟩ := h
  refine Z_get (T := TX11) (N := 15) (ci := 11) (t := 2) 0 dX11_row_1 la_1 (z_leN la_1 (by decide)) rfl (by decide) inX11 (by decide) (flX11_12 rfl) rfl ?_
  refine Z_top (y := 2) ((Fix.get g1 la_1 0 1 (by decide +kernel)).trans (by clear h; omega)) ?_
  refine Z_iload_n 1 dX11_row_4 rfl rfl ?_
  refine Z_invV (T := TX8) (N := 9) (ci := 8) (M' := mX8_exists) (ρ' := rX8_exists zN) (st := []) [(0, x1)] dX11_row_5 rfl rfl la_2 (z_leN la_2 (by decide)) (by decide) rfl rfl (kX8_exists.cl (Nat.le_of_ble_eq_true rfl) (Nat.le_refl _) (Nat.le_refl _) (Nat.le_of_ble_eq_true rfl) (Nat.le_of_ble_eq_true rfl) (Nat.le_of_ble_eq_true rfl)) (mlX11_93 rfl) iX8_exists sX8_exists h (z_kz (fun r2 σ3 h => ?_))
  refine Z_zif_eq (tgt := 26) dX11_row_8 (by decide) (fun c => ?_) (fun c => ?_)
  · replace h := h.1 c
    refine Z_bipush dX11_row_26 (by decide) ?_
    exact Z_ireturn dX11_row_28 rfl rfl ⟨rfl, h⟩
  · replace h := h.2 c
    refine Z_iload_n 2 dX11_row_11 rfl rfl ?_
    obtain ⟨g4, h⟩ := h
    refine Z_if_lt (tgt := 26) dX11_row_12 (by decide) g4 (fun c => ?_) (fun c => ?_)
    · replace h := h.1 c
      refine Z_bipush dX11_row_26 (by decide) ?_
      exact Z_ireturn dX11_row_28 rfl rfl ⟨rfl, h⟩
    · replace h := h.2 c
      refine Z_iload_n 2 dX11_row_15 rfl rfl ?_
      refine Z_iconst dX11_row_16 ?_
      refine Z_icmp_gt (tgt := 26) dX11_row_17 (by decide) g4 ⟨by decide, by decide⟩ (fun c => ?_) (fun c => ?_)
      · replace h := h.1 c
        refine Z_bipush dX11_row_26 (by decide) ?_
        exact Z_ireturn dX11_row_28 rfl rfl ⟨rfl, h⟩
      · replace h := h.2 c
        refine Z_iload_n 3 dX11_row_20 rfl rfl ?_
        refine Z_bipush dX11_row_21 (by decide) ?_
        obtain ⟨g5, h⟩ := h
        refine Z_icmp_le (tgt := 29) dX11_row_23 (by decide) g5 ⟨by decide, by decide⟩ (fun c => ?_) (fun c => ?_)
        · replace h := h.1 c
          refine Z_iload_n 3 dX11_row_29 rfl rfl ?_
          refine Z_if_ge (tgt := 36) dX11_row_30 (by decide) g5 (fun c => ?_) (fun c => ?_)
          · replace h := h.1 c
            refine Z_aload_n 0 dX11_row_36 rfl rfl ?_
            obtain ⟨g6, h⟩ := h
            refine Z_get (T := TX11) (N := 15) (ci := 11) (t := 2) 0 dX11_row_37 la_1 (z_leN la_1 (by decide)) rfl (by decide) inX11 (by decide) (flX11_12 rfl) rfl ?_
            refine Z_top (y := 2) ((Fix.get g6 la_1 0 1 (by decide +kernel)).trans (by clear h; omega)) ?_
            refine Z_iload_n 1 dX11_row_40 rfl rfl ?_
            refine Z_iload_n 2 dX11_row_41 rfl rfl ?_
            refine Z_iload_n 3 dX11_row_42 rfl rfl ?_
            refine Z_invV (T := TX8) (N := 9) (ci := 8) (M' := mX8_lay) (ρ' := rX8_lay zN) (st := []) [(0, x1), (0, x2), (0, x3)] dX11_row_43 rfl rfl la_2 (z_leN la_2 (by decide)) (by decide) rfl rfl (kX8_lay.cl (Nat.le_of_ble_eq_true rfl) (Nat.le_refl _) (Nat.le_refl _) (Nat.le_of_ble_eq_true rfl) (Nat.le_of_ble_eq_true rfl) (Nat.le_of_ble_eq_true rfl)) (mlX11_97 rfl) iX8_lay sX8_lay h (z_kv (fun σ8 h => ?_))
            refine Z_iconst dX11_row_46 ?_
            exact Z_ireturn dX11_row_47 rfl rfl ⟨rfl, h⟩
          · replace h := h.2 c
            refine Z_bipush dX11_row_33 (by decide) ?_
            exact Z_ireturn dX11_row_35 rfl rfl ⟨rfl, h⟩
        · replace h := h.2 c
          refine Z_bipush dX11_row_26 (by decide) ?_
          exact Z_ireturn dX11_row_28 rfl rfl ⟨rfl, h⟩
theorem bk_X11_tear {X : ZS} {σ : ZM} {T : Bool → ZM → Prop} {x1 : Int} (h : (Fix σ) ∧ ZC X (rX8_holds zN) mX8_holds [(2, 2), (0, x1)] zN σ (zQz (fun r2 σ3 => ((r2 = true) → (Fix σ3) ∧ ZC X (rX8_empty zN) mX8_empty [(2, 2), (0, x1)] zN σ3 (zQv (fun σ6 => T true σ6))) ∧ ((r2 = false) → T false σ3)))) : ZC X (rX11_tear zN) mX11_tear [(2, 1), (0, x1)] zN σ (zQz T) := by
  show Z X _ _ 0 [(2, 1), (0, x1)] [] _ σ _
  refine Z_aload_n 0 dX11_tear_0 rfl rfl ?_
  obtain ⟨g1, h⟩ := h
  refine Z_get (T := TX11) (N := 15) (ci := 11) (t := 2) 0 dX11_tear_1 la_1 (z_leN la_1 (by decide)) rfl (by decide) inX11 (by decide) (flX11_12 rfl) rfl ?_
  refine Z_top (y := 2) ((Fix.get g1 la_1 0 1 (by decide +kernel)).trans (by clear h; omega)) ?_
  refine Z_iload_n 1 dX11_tear_4 rfl rfl ?_
  refine Z_invV (T := TX8) (N := 9) (ci := 8) (M' := mX8_holds) (ρ' := rX8_holds zN) (st := []) [(0, x1)] dX11_tear_5 rfl rfl la_2 (z_leN la_2 (by decide)) (by decide) rfl rfl (kX8_holds.cl (Nat.le_of_ble_eq_true rfl) (Nat.le_refl _) (Nat.le_refl _) (Nat.le_of_ble_eq_true rfl) (Nat.le_of_ble_eq_true rfl) (Nat.le_of_ble_eq_true rfl)) (mlX11_101 rfl) iX8_holds sX8_holds h (z_kz (fun r2 σ3 h => ?_))
  refine Z_zif_ne (tgt := 13) dX11_tear_8 (by decide) (fun c => ?_) (fun c => ?_)
  · replace h := h.1 c
    refine Z_aload_n 0 dX11_tear_13 rfl rfl ?_
    obtain ⟨g4, h⟩ := h
    refine Z_get (T := TX11) (N := 15) (ci := 11) (t := 2) 0 dX11_tear_14 la_1 (z_leN la_1 (by decide)) rfl (by decide) inX11 (by decide) (flX11_12 rfl) rfl ?_
    refine Z_top (y := 2) ((Fix.get g4 la_1 0 1 (by decide +kernel)).trans (by clear h; omega)) ?_
    refine Z_iload_n 1 dX11_tear_17 rfl rfl ?_
    refine Z_invV (T := TX8) (N := 9) (ci := 8) (M' := mX8_empty) (ρ' := rX8_empty zN) (st := []) [(0, x1)] dX11_tear_18 rfl rfl la_2 (z_leN la_2 (by decide)) (by decide) rfl rfl (kX8_empty.cl (Nat.le_of_ble_eq_true rfl) (Nat.le_refl _) (Nat.le_refl _) (Nat.le_of_ble_eq_true rfl) (Nat.le_of_ble_eq_true rfl) (Nat.le_of_ble_eq_true rfl)) (mlX11_104 rfl) iX8_empty sX8_empty h (z_kv (fun σ6 h => ?_))
    refine Z_iconst dX11_tear_21 ?_
    exact Z_zreturn dX11_tear_22 rfl (Or.inr rfl) rfl ⟨rfl, true, rfl, h⟩
  · replace h := h.2 c
    refine Z_iconst dX11_tear_11 ?_
    exact Z_zreturn dX11_tear_12 rfl (Or.inl rfl) rfl ⟨rfl, false, rfl, h⟩
theorem bk_X11_write {X : ZS} {σ : ZM} {T : Int → ZM → Prop} {x1 : Int} {x2 : Int} {x3 : Int} (h : (Fix σ) ∧ ZC X (rX8_exists zN) mX8_exists [(2, 2), (0, x1)] zN σ (zQz (fun r2 σ3 => ((r2 = true) → (Fix σ3) ∧ ZC X (rX8_holds zN) mX8_holds [(2, 2), (0, x1)] zN σ3 (zQz (fun r5 σ6 => ((r5 = true) → (Fix σ6) ∧ ZC X (rX8_put zN) mX8_put [(2, 2), (0, x1), (0, x2), (1, x3)] zN σ6 (zQz (fun r8 σ9 => ((r8 = false) → T (-6) σ9) ∧ ((r8 = true) → T 0 σ9)))) ∧ ((r5 = false) → T (-5) σ6)))) ∧ ((r2 = false) → T (-2) σ3)))) : ZC X (rX11_write zN) mX11_write [(2, 1), (0, x1), (0, x2), (1, x3)] zN σ (zQi T) := by
  show Z X _ _ 0 [(2, 1), (0, x1), (0, x2), (1, x3), (9, 0)] [] _ σ _
  refine Z_aload_n 0 dX11_write_0 rfl rfl ?_
  obtain ⟨g1, h⟩ := h
  refine Z_get (T := TX11) (N := 15) (ci := 11) (t := 2) 0 dX11_write_1 la_1 (z_leN la_1 (by decide)) rfl (by decide) inX11 (by decide) (flX11_12 rfl) rfl ?_
  refine Z_top (y := 2) ((Fix.get g1 la_1 0 1 (by decide +kernel)).trans (by clear h; omega)) ?_
  refine Z_iload_n 1 dX11_write_4 rfl rfl ?_
  refine Z_invV (T := TX8) (N := 9) (ci := 8) (M' := mX8_exists) (ρ' := rX8_exists zN) (st := []) [(0, x1)] dX11_write_5 rfl rfl la_2 (z_leN la_2 (by decide)) (by decide) rfl rfl (kX8_exists.cl (Nat.le_of_ble_eq_true rfl) (Nat.le_refl _) (Nat.le_refl _) (Nat.le_of_ble_eq_true rfl) (Nat.le_of_ble_eq_true rfl) (Nat.le_of_ble_eq_true rfl)) (mlX11_93 rfl) iX8_exists sX8_exists h (z_kz (fun r2 σ3 h => ?_))
  refine Z_zif_ne (tgt := 14) dX11_write_8 (by decide) (fun c => ?_) (fun c => ?_)
  · replace h := h.1 c
    refine Z_aload_n 0 dX11_write_14 rfl rfl ?_
    obtain ⟨g4, h⟩ := h
    refine Z_get (T := TX11) (N := 15) (ci := 11) (t := 2) 0 dX11_write_15 la_1 (z_leN la_1 (by decide)) rfl (by decide) inX11 (by decide) (flX11_12 rfl) rfl ?_
    refine Z_top (y := 2) ((Fix.get g4 la_1 0 1 (by decide +kernel)).trans (by clear h; omega)) ?_
    refine Z_iload_n 1 dX11_write_18 rfl rfl ?_
    refine Z_invV (T := TX8) (N := 9) (ci := 8) (M' := mX8_holds) (ρ' := rX8_holds zN) (st := []) [(0, x1)] dX11_write_19 rfl rfl la_2 (z_leN la_2 (by decide)) (by decide) rfl rfl (kX8_holds.cl (Nat.le_of_ble_eq_true rfl) (Nat.le_refl _) (Nat.le_refl _) (Nat.le_of_ble_eq_true rfl) (Nat.le_of_ble_eq_true rfl) (Nat.le_of_ble_eq_true rfl)) (mlX11_101 rfl) iX8_holds sX8_holds h (z_kz (fun r5 σ6 h => ?_))
    refine Z_zif_ne (tgt := 28) dX11_write_22 (by decide) (fun c => ?_) (fun c => ?_)
    · replace h := h.1 c
      refine Z_aload_n 0 dX11_write_28 rfl rfl ?_
      obtain ⟨g7, h⟩ := h
      refine Z_get (T := TX11) (N := 15) (ci := 11) (t := 2) 0 dX11_write_29 la_1 (z_leN la_1 (by decide)) rfl (by decide) inX11 (by decide) (flX11_12 rfl) rfl ?_
      refine Z_top (y := 2) ((Fix.get g7 la_1 0 1 (by decide +kernel)).trans (by clear h; omega)) ?_
      refine Z_iload_n 1 dX11_write_32 rfl rfl ?_
      refine Z_iload_n 2 dX11_write_33 rfl rfl ?_
      refine Z_lload_n 3 dX11_write_34 rfl rfl ?_
      refine Z_invV (T := TX8) (N := 9) (ci := 8) (M' := mX8_put) (ρ' := rX8_put zN) (st := []) [(0, x1), (0, x2), (1, x3)] dX11_write_35 rfl rfl la_2 (z_leN la_2 (by decide)) (by decide) rfl rfl (kX8_put.cl (Nat.le_of_ble_eq_true rfl) (Nat.le_refl _) (Nat.le_refl _) (Nat.le_of_ble_eq_true rfl) (Nat.le_of_ble_eq_true rfl) (Nat.le_of_ble_eq_true rfl)) (mlX11_107 rfl) iX8_put sX8_put h (z_kz (fun r8 σ9 h => ?_))
      refine Z_zif_eq (tgt := 45) dX11_write_38 (by decide) (fun c => ?_) (fun c => ?_)
      · replace h := h.1 c
        refine Z_bipush dX11_write_45 (by decide) ?_
        exact Z_ireturn dX11_write_47 rfl rfl ⟨rfl, h⟩
      · replace h := h.2 c
        refine Z_iconst dX11_write_41 ?_
        refine Z_goto (tgt := 47) dX11_write_42 (by decide) ?_
        exact Z_ireturn dX11_write_47 rfl rfl ⟨rfl, h⟩
    · replace h := h.2 c
      refine Z_bipush dX11_write_25 (by decide) ?_
      exact Z_ireturn dX11_write_27 rfl rfl ⟨rfl, h⟩
  · replace h := h.2 c
    refine Z_bipush dX11_write_11 (by decide) ?_
    exact Z_ireturn dX11_write_13 rfl rfl ⟨rfl, h⟩
theorem bk_X11_seen {X : ZS} {σ : ZM} {T : Int → ZM → Prop} {x1 : Int} (h : (Fix σ) ∧ ZC X (rX8_exists zN) mX8_exists [(2, 2), (0, x1)] zN σ (zQz (fun r2 σ3 => ((r2 = true) → (Fix σ3) ∧ ZC X (rX8_holds zN) mX8_holds [(2, 2), (0, x1)] zN σ3 (zQz (fun r5 σ6 => ((r5 = true) → (Fix σ6) ∧ ZC X (rX8_startReading zN) mX8_startReading [(2, 2), (0, x1)] zN σ6 (zQv (fun σ9 => ZC X (rX11_readSights zN) mX11_readSights [(2, 1)] zN σ9 (zQz (fun r10 σ11 => ((r10 = true) → (Fix σ11) ∧ (z_l (σ11 1 12) = (7, 3)) ∧ T (σ11 ((σ11 1 12) + 1) 2) (z_up (z_up (z_up σ11 1 11 (σ11 1 12)) 1 12 (σ11 1 11)) 141 6 0)) ∧ ((r10 = false) → (Fix σ11) ∧ T (σ11 2 8) σ11)))))) ∧ ((r5 = false) → T (-5) σ6)))) ∧ ((r2 = false) → T (-2) σ3)))) : ZC X (rX11_seen zN) mX11_seen [(2, 1), (0, x1)] zN σ (zQi T) := by
  show Z X _ _ 0 [(2, 1), (0, x1), (9, 0)] [] _ σ _
  refine Z_aload_n 0 dX11_seen_0 rfl rfl ?_
  obtain ⟨g1, h⟩ := h
  refine Z_get (T := TX11) (N := 15) (ci := 11) (t := 2) 0 dX11_seen_1 la_1 (z_leN la_1 (by decide)) rfl (by decide) inX11 (by decide) (flX11_12 rfl) rfl ?_
  refine Z_top (y := 2) ((Fix.get g1 la_1 0 1 (by decide +kernel)).trans (by clear h; omega)) ?_
  refine Z_iload_n 1 dX11_seen_4 rfl rfl ?_
  refine Z_invV (T := TX8) (N := 9) (ci := 8) (M' := mX8_exists) (ρ' := rX8_exists zN) (st := []) [(0, x1)] dX11_seen_5 rfl rfl la_2 (z_leN la_2 (by decide)) (by decide) rfl rfl (kX8_exists.cl (Nat.le_of_ble_eq_true rfl) (Nat.le_refl _) (Nat.le_refl _) (Nat.le_of_ble_eq_true rfl) (Nat.le_of_ble_eq_true rfl) (Nat.le_of_ble_eq_true rfl)) (mlX11_93 rfl) iX8_exists sX8_exists h (z_kz (fun r2 σ3 h => ?_))
  refine Z_zif_ne (tgt := 14) dX11_seen_8 (by decide) (fun c => ?_) (fun c => ?_)
  · replace h := h.1 c
    refine Z_aload_n 0 dX11_seen_14 rfl rfl ?_
    obtain ⟨g4, h⟩ := h
    refine Z_get (T := TX11) (N := 15) (ci := 11) (t := 2) 0 dX11_seen_15 la_1 (z_leN la_1 (by decide)) rfl (by decide) inX11 (by decide) (flX11_12 rfl) rfl ?_
    refine Z_top (y := 2) ((Fix.get g4 la_1 0 1 (by decide +kernel)).trans (by clear h; omega)) ?_
    refine Z_iload_n 1 dX11_seen_18 rfl rfl ?_
    refine Z_invV (T := TX8) (N := 9) (ci := 8) (M' := mX8_holds) (ρ' := rX8_holds zN) (st := []) [(0, x1)] dX11_seen_19 rfl rfl la_2 (z_leN la_2 (by decide)) (by decide) rfl rfl (kX8_holds.cl (Nat.le_of_ble_eq_true rfl) (Nat.le_refl _) (Nat.le_refl _) (Nat.le_of_ble_eq_true rfl) (Nat.le_of_ble_eq_true rfl) (Nat.le_of_ble_eq_true rfl)) (mlX11_101 rfl) iX8_holds sX8_holds h (z_kz (fun r5 σ6 h => ?_))
    refine Z_zif_ne (tgt := 28) dX11_seen_22 (by decide) (fun c => ?_) (fun c => ?_)
    · replace h := h.1 c
      refine Z_aload_n 0 dX11_seen_28 rfl rfl ?_
      obtain ⟨g7, h⟩ := h
      refine Z_get (T := TX11) (N := 15) (ci := 11) (t := 2) 0 dX11_seen_29 la_1 (z_leN la_1 (by decide)) rfl (by decide) inX11 (by decide) (flX11_12 rfl) rfl ?_
      refine Z_top (y := 2) ((Fix.get g7 la_1 0 1 (by decide +kernel)).trans (by clear h; omega)) ?_
      refine Z_iload_n 1 dX11_seen_32 rfl rfl ?_
      refine Z_invV (T := TX8) (N := 9) (ci := 8) (M' := mX8_startReading) (ρ' := rX8_startReading zN) (st := []) [(0, x1)] dX11_seen_33 rfl rfl la_2 (z_leN la_2 (by decide)) (by decide) rfl rfl (kX8_startReading.cl (Nat.le_of_ble_eq_true rfl) (Nat.le_refl _) (Nat.le_refl _) (Nat.le_of_ble_eq_true rfl) (Nat.le_of_ble_eq_true rfl) (Nat.le_of_ble_eq_true rfl)) (mlX11_111 rfl) iX8_startReading sX8_startReading h (z_kv (fun σ9 h => ?_))
      refine Z_aload_n 0 dX11_seen_36 rfl rfl ?_
      refine Z_invV (T := TX11) (N := 15) (ci := 11) (M' := mX11_readSights) (ρ' := rX11_readSights zN) (st := []) [] dX11_seen_37 rfl rfl la_1 (z_leN la_1 (by decide)) (by decide) rfl rfl (kX11_readSights.cl (Nat.le_of_ble_eq_true rfl) (Nat.le_refl _) (Nat.le_refl _) (Nat.le_of_ble_eq_true rfl) (Nat.le_of_ble_eq_true rfl) (Nat.le_of_ble_eq_true rfl)) (mlX11_114 rfl) iX11_readSights sX11_readSights h (z_kz (fun r10 σ11 h => ?_))
      refine Z_zif_ne (tgt := 51) dX11_seen_40 (by decide) (fun c => ?_) (fun c => ?_)
      · replace h := h.1 c
        refine Z_aload_n 0 dX11_seen_51 rfl rfl ?_
        refine Z_get (T := TX11) (N := 15) (ci := 11) (t := 2) 11 dX11_seen_52 la_1 (z_leN la_1 (by decide)) rfl (by decide) inX11 (by decide) (flX11_79 rfl) rfl ?_
        refine Z_astore_n (L' := [(2, 1), (0, x1), (2, (σ11 1 11))]) 2 dX11_seen_55 rfl (Nat.le_of_ble_eq_true rfl) rfl ?_
        refine Z_aload_n 0 dX11_seen_56 rfl rfl ?_
        refine Z_aload_n 0 dX11_seen_57 rfl rfl ?_
        refine Z_get (T := TX11) (N := 15) (ci := 11) (t := 2) 12 dX11_seen_58 la_1 (z_leN la_1 (by decide)) rfl (by decide) inX11 (by decide) (flX11_83 rfl) rfl ?_
        refine Z_put (T := TX11) (N := 15) (ci := 11) (t := 2) tyX11 11 dX11_seen_61 la_1 (z_leN la_1 (by decide)) rfl (by decide) inX11 (by decide) (plX11_79 rfl) rfl tyX11_ok nmX11 rfl (z_nf_o _ _) ?_
        refine Z_aload_n 0 dX11_seen_64 rfl rfl ?_
        refine Z_aload_n 2 dX11_seen_65 rfl rfl ?_
        refine Z_put (T := TX11) (N := 15) (ci := 11) (t := 2) tyX11 12 dX11_seen_66 la_1 (z_leN la_1 (by decide)) rfl (by decide) inX11 (by decide) (plX11_83 rfl) rfl tyX11_ok nmX11 rfl (z_nf_o _ _) ?_
        refine Z_aload_n 0 dX11_seen_69 rfl rfl ?_
        obtain ⟨g12, h⟩ := h
        refine Z_get (T := TX11) (N := 15) (ci := 11) (t := 2) 5 dX11_seen_70 la_1 (z_leN la_1 (by decide)) rfl (by decide) inX11 (by decide) (flX11_49 rfl) rfl ?_
        refine Z_top (y := 141) ((Fix.get (Fix.upF (Fix.upF g12 la_1 11 (by decide +kernel)) la_1 12 (by decide +kernel)) la_1 5 140 (by decide +kernel)).trans (by clear h; omega)) ?_
        refine Z_iconst dX11_seen_73 ?_
        refine Z_put (T := TX0) (N := 7) (ci := 0) (t := 0) tyX0 6 dX11_seen_74 la_141 (z_leN la_141 (by decide)) rfl (by decide) inX0 (by decide) (plX11_121 rfl) rfl tyX0_ok nmX0 rfl (z_nf_z (Or.inl rfl)) ?_
        refine Z_aload_n 0 dX11_seen_77 rfl rfl ?_
        refine Z_get (T := TX11) (N := 15) (ci := 11) (t := 2) 11 dX11_seen_78 la_1 (z_leN la_1 (by decide)) rfl (by decide) inX11 (by decide) (flX11_79 rfl) rfl ?_
        refine Z_top ((z_up_ne _ (Or.inl (by decide))).trans ((z_up_ne _ (Or.inr (by decide))).trans (z_up_same _ _ _ _))) ?_
        obtain ⟨g13, h⟩ := h
        refine Z_get (T := TX7) (N := 3) (ci := 7) (t := 2) 0 dX11_seen_81 g13 (z_leN g13 (by decide)) rfl (by decide) inX7 (by decide) (flX11_125 rfl) rfl ?_
        refine Z_top (y := ((σ11 1 12) + 1)) (Fix.get (Fix.upF (Fix.upF (Fix.upF g12 la_1 11 (by decide +kernel)) la_1 12 (by decide +kernel)) la_141 6 (by decide +kernel)) g13 0 1 (by decide +kernel)) ?_
        refine Z_get (T := TX6) (N := 3) (ci := 6) (t := 0) 2 dX11_seen_84 (zo_7_0 g13) (z_leN (zo_7_0 g13) (by decide)) rfl (by decide) inX6 (by decide) (flX11_128 rfl) rfl ?_
        refine Z_top ((z_up_ne _ (Or.inl (z_nek (zo_7_0 g13) la_141 (by decide)))).trans ((z_up_ne _ (Or.inl (z_nek (zo_7_0 g13) la_1 (by decide)))).trans (z_up_ne _ (Or.inl (z_nek (zo_7_0 g13) la_1 (by decide)))))) ?_
        exact Z_ireturn dX11_seen_87 rfl rfl ⟨rfl, h⟩
      · replace h := h.2 c
        refine Z_aload_n 0 dX11_seen_43 rfl rfl ?_
        obtain ⟨g14, h⟩ := h
        refine Z_get (T := TX11) (N := 15) (ci := 11) (t := 2) 0 dX11_seen_44 la_1 (z_leN la_1 (by decide)) rfl (by decide) inX11 (by decide) (flX11_12 rfl) rfl ?_
        refine Z_top (y := 2) ((Fix.get g14 la_1 0 1 (by decide +kernel)).trans (by clear h; omega)) ?_
        refine Z_get (T := TX8) (N := 9) (ci := 8) (t := 0) 8 dX11_seen_47 la_2 (z_leN la_2 (by decide)) rfl (by decide) inX8 (by decide) (flX11_118 rfl) rfl ?_
        exact Z_ireturn dX11_seen_50 rfl rfl ⟨rfl, h⟩
    · replace h := h.2 c
      refine Z_bipush dX11_seen_25 (by decide) ?_
      exact Z_ireturn dX11_seen_27 rfl rfl ⟨rfl, h⟩
  · replace h := h.2 c
    refine Z_bipush dX11_seen_11 (by decide) ?_
    exact Z_ireturn dX11_seen_13 rfl rfl ⟨rfl, h⟩
theorem bk_X11_see {X : ZS} {σ : ZM} {T : Int → ZM → Prop} {x1 : Int} {x2 : Int} {x3 : Int} {x4 : Int} (h : ZC X (rX11_isPlace zN) mX11_isPlace [(0, x1), (0, x2)] zN σ (zQz (fun r1 σ2 => ((r1 = false) → T (-4) σ2) ∧ ((r1 = true) → ZC X (rX11_isWithin zN) mX11_isWithin [(0, x3), (0, (-1000)), (0, 1000)] zN σ2 (zQz (fun r3 σ4 => ((r3 = false) → T (-4) σ4) ∧ ((r3 = true) → ZC X (rX11_isWithin zN) mX11_isWithin [(0, x4), (0, 0), (0, 100)] zN σ4 (zQz (fun r5 σ6 => ((r5 = true) → (z_l (σ6 1 11) = (7, 3)) ∧ (Fix σ6) ∧ (r32 (σ6 ((σ6 1 11) + 1) 2)) ∧ (((σ6 ((σ6 1 11) + 1) 2) < 8) → ZC X (rX6_holds zN) mX6_holds [(2, ((σ6 1 11) + 1)), (0, x1), (0, x2)] zN σ6 (zQz (fun r10 σ11 => ((r10 = false) → (z_l (σ11 1 11) = (7, 3)) ∧ ZC X (rX7_add zN) mX7_add [(2, (σ11 1 11)), (0, x1), (0, x2), (0, x3), (0, x4)] zN σ11 (zQv (fun σ14 => (Fix σ14) ∧ (z_l (σ14 1 11) = (7, 3)) ∧ T ((σ14 ((σ14 1 11) + 1) 2) - 1) (z_up σ14 141 6 0)))) ∧ ((r10 = true) → T (-9) σ11)))) ∧ ((¬ ((σ6 ((σ6 1 11) + 1) 2) < 8)) → T (-8) σ6)) ∧ ((r5 = false) → T (-4) σ6)))))))))) : ZC X (rX11_see zN) mX11_see [(2, 1), (0, x1), (0, x2), (0, x3), (0, x4)] zN σ (zQi T) := by
  show Z X _ _ 0 [(2, 1), (0, x1), (0, x2), (0, x3), (0, x4)] [] _ σ _
  refine Z_iload_n 1 dX11_see_0 rfl rfl ?_
  refine Z_iload_n 2 dX11_see_1 rfl rfl ?_
  refine Z_invS (M' := mX11_isPlace) (ρ' := rX11_isPlace zN) (st := []) [(0, x1), (0, x2)] dX11_see_2 rfl rfl (kX11_isPlace.cl (Nat.le_of_ble_eq_true rfl) (Nat.le_refl _) (Nat.le_refl _) (Nat.le_of_ble_eq_true rfl) (Nat.le_of_ble_eq_true rfl) (Nat.le_of_ble_eq_true rfl)) (mlX11_131 rfl) sX11_isPlace h (z_kz (fun r1 σ2 h => ?_))
  refine Z_zif_eq (tgt := 32) dX11_see_5 (by decide) (fun c => ?_) (fun c => ?_)
  · replace h := h.1 c
    refine Z_bipush dX11_see_32 (by decide) ?_
    exact Z_ireturn dX11_see_34 rfl rfl ⟨rfl, h⟩
  · replace h := h.2 c
    refine Z_iload_n 3 dX11_see_8 rfl rfl ?_
    refine Z_sipush dX11_see_9 (by decide) ?_
    refine Z_sipush dX11_see_12 (by decide) ?_
    refine Z_invS (M' := mX11_isWithin) (ρ' := rX11_isWithin zN) (st := []) [(0, x3), (0, (-1000)), (0, 1000)] dX11_see_15 rfl rfl (kX11_isWithin.cl (Nat.le_of_ble_eq_true rfl) (Nat.le_refl _) (Nat.le_refl _) (Nat.le_of_ble_eq_true rfl) (Nat.le_of_ble_eq_true rfl) (Nat.le_of_ble_eq_true rfl)) (mlX11_135 rfl) sX11_isWithin h (z_kz (fun r3 σ4 h => ?_))
    refine Z_zif_eq (tgt := 32) dX11_see_18 (by decide) (fun c => ?_) (fun c => ?_)
    · replace h := h.1 c
      refine Z_bipush dX11_see_32 (by decide) ?_
      exact Z_ireturn dX11_see_34 rfl rfl ⟨rfl, h⟩
    · replace h := h.2 c
      refine Z_iload dX11_see_21 rfl ?_
      refine Z_iconst dX11_see_23 ?_
      refine Z_bipush dX11_see_24 (by decide) ?_
      refine Z_invS (M' := mX11_isWithin) (ρ' := rX11_isWithin zN) (st := []) [(0, x4), (0, 0), (0, 100)] dX11_see_26 rfl rfl (kX11_isWithin.cl (Nat.le_of_ble_eq_true rfl) (Nat.le_refl _) (Nat.le_refl _) (Nat.le_of_ble_eq_true rfl) (Nat.le_of_ble_eq_true rfl) (Nat.le_of_ble_eq_true rfl)) (mlX11_135 rfl) sX11_isWithin h (z_kz (fun r5 σ6 h => ?_))
      refine Z_zif_ne (tgt := 35) dX11_see_29 (by decide) (fun c => ?_) (fun c => ?_)
      · replace h := h.1 c
        refine Z_aload_n 0 dX11_see_35 rfl rfl ?_
        refine Z_get (T := TX11) (N := 15) (ci := 11) (t := 2) 11 dX11_see_36 la_1 (z_leN la_1 (by decide)) rfl (by decide) inX11 (by decide) (flX11_79 rfl) rfl ?_
        obtain ⟨g7, h⟩ := h
        obtain ⟨g8, h⟩ := h
        refine Z_get (T := TX7) (N := 3) (ci := 7) (t := 2) 0 dX11_see_39 g7 (z_leN g7 (by decide)) rfl (by decide) inX7 (by decide) (flX11_125 rfl) rfl ?_
        refine Z_top (y := ((σ6 1 11) + 1)) (Fix.get g8 g7 0 1 (by decide +kernel)) ?_
        refine Z_get (T := TX6) (N := 3) (ci := 6) (t := 0) 2 dX11_see_42 (zo_7_0 g7) (z_leN (zo_7_0 g7) (by decide)) rfl (by decide) inX6 (by decide) (flX11_128 rfl) rfl ?_
        refine Z_bipush dX11_see_45 (by decide) ?_
        obtain ⟨g9, h⟩ := h
        refine Z_icmp_lt (tgt := 53) dX11_see_47 (by decide) g9 ⟨by decide, by decide⟩ (fun c => ?_) (fun c => ?_)
        · replace h := h.1 c
          refine Z_aload_n 0 dX11_see_53 rfl rfl ?_
          refine Z_get (T := TX11) (N := 15) (ci := 11) (t := 2) 11 dX11_see_54 la_1 (z_leN la_1 (by decide)) rfl (by decide) inX11 (by decide) (flX11_79 rfl) rfl ?_
          refine Z_get (T := TX7) (N := 3) (ci := 7) (t := 2) 0 dX11_see_57 g7 (z_leN g7 (by decide)) rfl (by decide) inX7 (by decide) (flX11_125 rfl) rfl ?_
          refine Z_top (y := ((σ6 1 11) + 1)) (Fix.get g8 g7 0 1 (by decide +kernel)) ?_
          refine Z_iload_n 1 dX11_see_60 rfl rfl ?_
          refine Z_iload_n 2 dX11_see_61 rfl rfl ?_
          refine Z_invV (T := TX6) (N := 3) (ci := 6) (M' := mX6_holds) (ρ' := rX6_holds zN) (st := []) [(0, x1), (0, x2)] dX11_see_62 rfl rfl (zo_7_0 g7) (z_leN (zo_7_0 g7) (by decide)) (by decide) rfl rfl (kX6_holds.cl (Nat.le_of_ble_eq_true rfl) (Nat.le_refl _) (Nat.le_refl _) (Nat.le_of_ble_eq_true rfl) (Nat.le_of_ble_eq_true rfl) (Nat.le_of_ble_eq_true rfl)) (mlX11_139 rfl) iX6_holds sX6_holds h (z_kz (fun r10 σ11 h => ?_))
          refine Z_zif_eq (tgt := 71) dX11_see_65 (by decide) (fun c => ?_) (fun c => ?_)
          · replace h := h.1 c
            refine Z_aload_n 0 dX11_see_71 rfl rfl ?_
            refine Z_get (T := TX11) (N := 15) (ci := 11) (t := 2) 11 dX11_see_72 la_1 (z_leN la_1 (by decide)) rfl (by decide) inX11 (by decide) (flX11_79 rfl) rfl ?_
            refine Z_iload_n 1 dX11_see_75 rfl rfl ?_
            refine Z_iload_n 2 dX11_see_76 rfl rfl ?_
            refine Z_iload_n 3 dX11_see_77 rfl rfl ?_
            refine Z_iload dX11_see_78 rfl ?_
            obtain ⟨g12, h⟩ := h
            refine Z_invV (T := TX7) (N := 3) (ci := 7) (M' := mX7_add) (ρ' := rX7_add zN) (st := []) [(0, x1), (0, x2), (0, x3), (0, x4)] dX11_see_80 rfl rfl g12 (z_leN g12 (by decide)) (by decide) rfl rfl (kX7_add.cl (Nat.le_of_ble_eq_true rfl) (Nat.le_refl _) (Nat.le_refl _) (Nat.le_of_ble_eq_true rfl) (Nat.le_of_ble_eq_true rfl) (Nat.le_of_ble_eq_true rfl)) (mlX11_141 rfl) iX7_add sX7_add h (z_kv (fun σ14 h => ?_))
            refine Z_aload_n 0 dX11_see_83 rfl rfl ?_
            obtain ⟨g15, h⟩ := h
            refine Z_get (T := TX11) (N := 15) (ci := 11) (t := 2) 5 dX11_see_84 la_1 (z_leN la_1 (by decide)) rfl (by decide) inX11 (by decide) (flX11_49 rfl) rfl ?_
            refine Z_top (y := 141) ((Fix.get g15 la_1 5 140 (by decide +kernel)).trans (by clear h; omega)) ?_
            refine Z_iconst dX11_see_87 ?_
            refine Z_put (T := TX0) (N := 7) (ci := 0) (t := 0) tyX0 6 dX11_see_88 la_141 (z_leN la_141 (by decide)) rfl (by decide) inX0 (by decide) (plX11_121 rfl) rfl tyX0_ok nmX0 rfl (z_nf_z (Or.inl rfl)) ?_
            refine Z_aload_n 0 dX11_see_91 rfl rfl ?_
            refine Z_get (T := TX11) (N := 15) (ci := 11) (t := 2) 11 dX11_see_92 la_1 (z_leN la_1 (by decide)) rfl (by decide) inX11 (by decide) (flX11_79 rfl) rfl ?_
            refine Z_top (z_up_ne _ (Or.inl (by decide))) ?_
            obtain ⟨g16, h⟩ := h
            refine Z_get (T := TX7) (N := 3) (ci := 7) (t := 2) 0 dX11_see_95 g16 (z_leN g16 (by decide)) rfl (by decide) inX7 (by decide) (flX11_125 rfl) rfl ?_
            refine Z_top (y := ((σ14 1 11) + 1)) (Fix.get (Fix.upF g15 la_141 6 (by decide +kernel)) g16 0 1 (by decide +kernel)) ?_
            refine Z_get (T := TX6) (N := 3) (ci := 6) (t := 0) 2 dX11_see_98 (zo_7_0 g16) (z_leN (zo_7_0 g16) (by decide)) rfl (by decide) inX6 (by decide) (flX11_128 rfl) rfl ?_
            refine Z_top (z_up_ne _ (Or.inl (z_nek (zo_7_0 g16) la_141 (by decide)))) ?_
            refine Z_iconst dX11_see_101 ?_
            refine Z_isub dX11_see_102 ?_
            exact Z_ireturn dX11_see_103 rfl rfl ⟨rfl, h⟩
          · replace h := h.2 c
            refine Z_bipush dX11_see_68 (by decide) ?_
            exact Z_ireturn dX11_see_70 rfl rfl ⟨rfl, h⟩
        · replace h := h.2 c
          refine Z_bipush dX11_see_50 (by decide) ?_
          exact Z_ireturn dX11_see_52 rfl rfl ⟨rfl, h⟩
      · replace h := h.2 c
        refine Z_bipush dX11_see_32 (by decide) ?_
        exact Z_ireturn dX11_see_34 rfl rfl ⟨rfl, h⟩
theorem bk_X11_drop {X : ZS} {σ : ZM} {T : Int → ZM → Prop} {x1 : Int} (h : (z_l (σ 1 11) = (7, 3)) ∧ (Fix σ) ∧ ZC X (rX6_has zN) mX6_has [(2, ((σ 1 11) + 1)), (0, x1)] zN σ (zQz (fun r3 σ4 => ((r3 = true) → (z_l (σ4 1 11) = (7, 3)) ∧ ZC X (rX7_remove zN) mX7_remove [(2, (σ4 1 11)), (0, x1)] zN σ4 (zQv (fun σ7 => (Fix σ7) ∧ (z_l (σ7 1 11) = (7, 3)) ∧ T (σ7 ((σ7 1 11) + 1) 2) (z_up σ7 141 6 0)))) ∧ ((r3 = false) → T (-2) σ4)))) : ZC X (rX11_drop zN) mX11_drop [(2, 1), (0, x1)] zN σ (zQi T) := by
  show Z X _ _ 0 [(2, 1), (0, x1)] [] _ σ _
  refine Z_aload_n 0 dX11_drop_0 rfl rfl ?_
  refine Z_get (T := TX11) (N := 15) (ci := 11) (t := 2) 11 dX11_drop_1 la_1 (z_leN la_1 (by decide)) rfl (by decide) inX11 (by decide) (flX11_79 rfl) rfl ?_
  obtain ⟨g1, h⟩ := h
  obtain ⟨g2, h⟩ := h
  refine Z_get (T := TX7) (N := 3) (ci := 7) (t := 2) 0 dX11_drop_4 g1 (z_leN g1 (by decide)) rfl (by decide) inX7 (by decide) (flX11_125 rfl) rfl ?_
  refine Z_top (y := ((σ 1 11) + 1)) (Fix.get g2 g1 0 1 (by decide +kernel)) ?_
  refine Z_iload_n 1 dX11_drop_7 rfl rfl ?_
  refine Z_invV (T := TX6) (N := 3) (ci := 6) (M' := mX6_has) (ρ' := rX6_has zN) (st := []) [(0, x1)] dX11_drop_8 rfl rfl (zo_7_0 g1) (z_leN (zo_7_0 g1) (by decide)) (by decide) rfl rfl (kX6_has.cl (Nat.le_of_ble_eq_true rfl) (Nat.le_refl _) (Nat.le_refl _) (Nat.le_of_ble_eq_true rfl) (Nat.le_of_ble_eq_true rfl) (Nat.le_of_ble_eq_true rfl)) (mlX11_145 rfl) iX6_has sX6_has h (z_kz (fun r3 σ4 h => ?_))
  refine Z_zif_ne (tgt := 17) dX11_drop_11 (by decide) (fun c => ?_) (fun c => ?_)
  · replace h := h.1 c
    refine Z_aload_n 0 dX11_drop_17 rfl rfl ?_
    refine Z_get (T := TX11) (N := 15) (ci := 11) (t := 2) 11 dX11_drop_18 la_1 (z_leN la_1 (by decide)) rfl (by decide) inX11 (by decide) (flX11_79 rfl) rfl ?_
    refine Z_iload_n 1 dX11_drop_21 rfl rfl ?_
    obtain ⟨g5, h⟩ := h
    refine Z_invV (T := TX7) (N := 3) (ci := 7) (M' := mX7_remove) (ρ' := rX7_remove zN) (st := []) [(0, x1)] dX11_drop_22 rfl rfl g5 (z_leN g5 (by decide)) (by decide) rfl rfl (kX7_remove.cl (Nat.le_of_ble_eq_true rfl) (Nat.le_refl _) (Nat.le_refl _) (Nat.le_of_ble_eq_true rfl) (Nat.le_of_ble_eq_true rfl) (Nat.le_of_ble_eq_true rfl)) (mlX11_148 rfl) iX7_remove sX7_remove h (z_kv (fun σ7 h => ?_))
    refine Z_aload_n 0 dX11_drop_25 rfl rfl ?_
    obtain ⟨g8, h⟩ := h
    refine Z_get (T := TX11) (N := 15) (ci := 11) (t := 2) 5 dX11_drop_26 la_1 (z_leN la_1 (by decide)) rfl (by decide) inX11 (by decide) (flX11_49 rfl) rfl ?_
    refine Z_top (y := 141) ((Fix.get g8 la_1 5 140 (by decide +kernel)).trans (by clear h; omega)) ?_
    refine Z_iconst dX11_drop_29 ?_
    refine Z_put (T := TX0) (N := 7) (ci := 0) (t := 0) tyX0 6 dX11_drop_30 la_141 (z_leN la_141 (by decide)) rfl (by decide) inX0 (by decide) (plX11_121 rfl) rfl tyX0_ok nmX0 rfl (z_nf_z (Or.inl rfl)) ?_
    refine Z_aload_n 0 dX11_drop_33 rfl rfl ?_
    refine Z_get (T := TX11) (N := 15) (ci := 11) (t := 2) 11 dX11_drop_34 la_1 (z_leN la_1 (by decide)) rfl (by decide) inX11 (by decide) (flX11_79 rfl) rfl ?_
    refine Z_top (z_up_ne _ (Or.inl (by decide))) ?_
    obtain ⟨g9, h⟩ := h
    refine Z_get (T := TX7) (N := 3) (ci := 7) (t := 2) 0 dX11_drop_37 g9 (z_leN g9 (by decide)) rfl (by decide) inX7 (by decide) (flX11_125 rfl) rfl ?_
    refine Z_top (y := ((σ7 1 11) + 1)) (Fix.get (Fix.upF g8 la_141 6 (by decide +kernel)) g9 0 1 (by decide +kernel)) ?_
    refine Z_get (T := TX6) (N := 3) (ci := 6) (t := 0) 2 dX11_drop_40 (zo_7_0 g9) (z_leN (zo_7_0 g9) (by decide)) rfl (by decide) inX6 (by decide) (flX11_128 rfl) rfl ?_
    refine Z_top (z_up_ne _ (Or.inl (z_nek (zo_7_0 g9) la_141 (by decide)))) ?_
    exact Z_ireturn dX11_drop_43 rfl rfl ⟨rfl, h⟩
  · replace h := h.2 c
    refine Z_bipush dX11_drop_14 (by decide) ?_
    exact Z_ireturn dX11_drop_16 rfl rfl ⟨rfl, h⟩
theorem bk_X11_straight {X : ZS} {σ : ZM} {T : Int → ZM → Prop} {x1 : Int} (h : ZC X (rX11_addSloped zN) mX11_addSloped [(2, 1), (0, x1), (0, 8000)] zN σ (zQi (fun r1 σ2 => T r1 σ2))) : ZC X (rX11_straight zN) mX11_straight [(2, 1), (0, x1)] zN σ (zQi T) := by
  show Z X _ _ 0 [(2, 1), (0, x1)] [] _ σ _
  refine Z_aload_n 0 dX11_straight_0 rfl rfl ?_
  refine Z_iload_n 1 dX11_straight_1 rfl rfl ?_
  refine Z_sipush dX11_straight_2 (by decide) ?_
  refine Z_invV (T := TX11) (N := 15) (ci := 11) (M' := mX11_addSloped) (ρ' := rX11_addSloped zN) (st := []) [(0, x1), (0, 8000)] dX11_straight_5 rfl rfl la_1 (z_leN la_1 (by decide)) (by decide) rfl rfl (kX11_addSloped.cl (Nat.le_of_ble_eq_true rfl) (Nat.le_refl _) (Nat.le_refl _) (Nat.le_of_ble_eq_true rfl) (Nat.le_of_ble_eq_true rfl) (Nat.le_of_ble_eq_true rfl)) (mlX11_151 rfl) iX11_addSloped sX11_addSloped h (z_ki (fun r1 σ2 h => ?_))
  exact Z_ireturn dX11_straight_8 rfl rfl ⟨rfl, h⟩
theorem bk_X11_capped {X : ZS} {σ : ZM} {T : Int → ZM → Prop} {x1 : Int} {x2 : Int} (h : ZC X (rX11_addSloped zN) mX11_addSloped [(2, 1), (0, x1), (0, x2)] zN σ (zQi (fun r1 σ2 => T r1 σ2))) : ZC X (rX11_capped zN) mX11_capped [(2, 1), (0, x1), (0, x2)] zN σ (zQi T) := by
  show Z X _ _ 0 [(2, 1), (0, x1), (0, x2)] [] _ σ _
  refine Z_aload_n 0 dX11_capped_0 rfl rfl ?_
  refine Z_iload_n 1 dX11_capped_1 rfl rfl ?_
  refine Z_iload_n 2 dX11_capped_2 rfl rfl ?_
  refine Z_invV (T := TX11) (N := 15) (ci := 11) (M' := mX11_addSloped) (ρ' := rX11_addSloped zN) (st := []) [(0, x1), (0, x2)] dX11_capped_3 rfl rfl la_1 (z_leN la_1 (by decide)) (by decide) rfl rfl (kX11_addSloped.cl (Nat.le_of_ble_eq_true rfl) (Nat.le_refl _) (Nat.le_refl _) (Nat.le_of_ble_eq_true rfl) (Nat.le_of_ble_eq_true rfl) (Nat.le_of_ble_eq_true rfl)) (mlX11_151 rfl) iX11_addSloped sX11_addSloped h (z_ki (fun r1 σ2 h => ?_))
  exact Z_ireturn dX11_capped_6 rfl rfl ⟨rfl, h⟩
theorem bk_X11_table {X : ZS} {σ : ZM} {T : Int → ZM → Prop} {x1 : Int} (h : (Fix σ) ∧ ZC X (rX8_exists zN) mX8_exists [(2, 2), (0, x1)] zN σ (zQz (fun r2 σ3 => ((r2 = true) → (Fix σ3) ∧ ZC X (rX5_isFull zN) mX5_isFull [(2, 6)] zN σ3 (zQz (fun r5 σ6 => ((r5 = false) → (Fix σ6) ∧ ZC X (rX8_holds zN) mX8_holds [(2, 2), (0, x1)] zN σ6 (zQz (fun r8 σ9 => ((r8 = true) → (Fix σ9) ∧ ZC X (rX8_startReading zN) mX8_startReading [(2, 2), (0, x1)] zN σ9 (zQv (fun σ12 => ZC X (rX11_readTable zN) mX11_readTable [(2, 1)] zN σ12 (zQz (fun r13 σ14 => ((r13 = false) → (Fix σ14) ∧ T (σ14 2 8) σ14) ∧ ((r13 = true) → (Fix σ14) ∧ ZC X (rX5_keepDraft zN) mX5_keepDraft [(2, 6)] zN σ14 (zQi (fun r17 σ18 => T r17 σ18)))))))) ∧ ((r8 = false) → T (-5) σ9)))) ∧ ((r5 = true) → T (-8) σ6)))) ∧ ((r2 = false) → T (-2) σ3)))) : ZC X (rX11_table zN) mX11_table [(2, 1), (0, x1)] zN σ (zQi T) := by
  show Z X _ _ 0 [(2, 1), (0, x1)] [] _ σ _
  refine Z_aload_n 0 dX11_table_0 rfl rfl ?_
  obtain ⟨g1, h⟩ := h
  refine Z_get (T := TX11) (N := 15) (ci := 11) (t := 2) 0 dX11_table_1 la_1 (z_leN la_1 (by decide)) rfl (by decide) inX11 (by decide) (flX11_12 rfl) rfl ?_
  refine Z_top (y := 2) ((Fix.get g1 la_1 0 1 (by decide +kernel)).trans (by clear h; omega)) ?_
  refine Z_iload_n 1 dX11_table_4 rfl rfl ?_
  refine Z_invV (T := TX8) (N := 9) (ci := 8) (M' := mX8_exists) (ρ' := rX8_exists zN) (st := []) [(0, x1)] dX11_table_5 rfl rfl la_2 (z_leN la_2 (by decide)) (by decide) rfl rfl (kX8_exists.cl (Nat.le_of_ble_eq_true rfl) (Nat.le_refl _) (Nat.le_refl _) (Nat.le_of_ble_eq_true rfl) (Nat.le_of_ble_eq_true rfl) (Nat.le_of_ble_eq_true rfl)) (mlX11_93 rfl) iX8_exists sX8_exists h (z_kz (fun r2 σ3 h => ?_))
  refine Z_zif_ne (tgt := 14) dX11_table_8 (by decide) (fun c => ?_) (fun c => ?_)
  · replace h := h.1 c
    refine Z_aload_n 0 dX11_table_14 rfl rfl ?_
    obtain ⟨g4, h⟩ := h
    refine Z_get (T := TX11) (N := 15) (ci := 11) (t := 2) 1 dX11_table_15 la_1 (z_leN la_1 (by decide)) rfl (by decide) inX11 (by decide) (flX11_19 rfl) rfl ?_
    refine Z_top (y := 6) ((Fix.get g4 la_1 1 5 (by decide +kernel)).trans (by clear h; omega)) ?_
    refine Z_invV (T := TX5) (N := 2) (ci := 5) (M' := mX5_isFull) (ρ' := rX5_isFull zN) (st := []) [] dX11_table_18 rfl rfl la_6 (z_leN la_6 (by decide)) (by decide) rfl rfl (kX5_isFull.cl (Nat.le_of_ble_eq_true rfl) (Nat.le_refl _) (Nat.le_refl _) (Nat.le_of_ble_eq_true rfl) (Nat.le_of_ble_eq_true rfl) (Nat.le_of_ble_eq_true rfl)) (mlX11_155 rfl) iX5_isFull sX5_isFull h (z_kz (fun r5 σ6 h => ?_))
    refine Z_zif_eq (tgt := 27) dX11_table_21 (by decide) (fun c => ?_) (fun c => ?_)
    · replace h := h.1 c
      refine Z_aload_n 0 dX11_table_27 rfl rfl ?_
      obtain ⟨g7, h⟩ := h
      refine Z_get (T := TX11) (N := 15) (ci := 11) (t := 2) 0 dX11_table_28 la_1 (z_leN la_1 (by decide)) rfl (by decide) inX11 (by decide) (flX11_12 rfl) rfl ?_
      refine Z_top (y := 2) ((Fix.get g7 la_1 0 1 (by decide +kernel)).trans (by clear h; omega)) ?_
      refine Z_iload_n 1 dX11_table_31 rfl rfl ?_
      refine Z_invV (T := TX8) (N := 9) (ci := 8) (M' := mX8_holds) (ρ' := rX8_holds zN) (st := []) [(0, x1)] dX11_table_32 rfl rfl la_2 (z_leN la_2 (by decide)) (by decide) rfl rfl (kX8_holds.cl (Nat.le_of_ble_eq_true rfl) (Nat.le_refl _) (Nat.le_refl _) (Nat.le_of_ble_eq_true rfl) (Nat.le_of_ble_eq_true rfl) (Nat.le_of_ble_eq_true rfl)) (mlX11_101 rfl) iX8_holds sX8_holds h (z_kz (fun r8 σ9 h => ?_))
      refine Z_zif_ne (tgt := 41) dX11_table_35 (by decide) (fun c => ?_) (fun c => ?_)
      · replace h := h.1 c
        refine Z_aload_n 0 dX11_table_41 rfl rfl ?_
        obtain ⟨g10, h⟩ := h
        refine Z_get (T := TX11) (N := 15) (ci := 11) (t := 2) 0 dX11_table_42 la_1 (z_leN la_1 (by decide)) rfl (by decide) inX11 (by decide) (flX11_12 rfl) rfl ?_
        refine Z_top (y := 2) ((Fix.get g10 la_1 0 1 (by decide +kernel)).trans (by clear h; omega)) ?_
        refine Z_iload_n 1 dX11_table_45 rfl rfl ?_
        refine Z_invV (T := TX8) (N := 9) (ci := 8) (M' := mX8_startReading) (ρ' := rX8_startReading zN) (st := []) [(0, x1)] dX11_table_46 rfl rfl la_2 (z_leN la_2 (by decide)) (by decide) rfl rfl (kX8_startReading.cl (Nat.le_of_ble_eq_true rfl) (Nat.le_refl _) (Nat.le_refl _) (Nat.le_of_ble_eq_true rfl) (Nat.le_of_ble_eq_true rfl) (Nat.le_of_ble_eq_true rfl)) (mlX11_111 rfl) iX8_startReading sX8_startReading h (z_kv (fun σ12 h => ?_))
        refine Z_aload_n 0 dX11_table_49 rfl rfl ?_
        refine Z_invV (T := TX11) (N := 15) (ci := 11) (M' := mX11_readTable) (ρ' := rX11_readTable zN) (st := []) [] dX11_table_50 rfl rfl la_1 (z_leN la_1 (by decide)) (by decide) rfl rfl (kX11_readTable.cl (Nat.le_of_ble_eq_true rfl) (Nat.le_refl _) (Nat.le_refl _) (Nat.le_of_ble_eq_true rfl) (Nat.le_of_ble_eq_true rfl) (Nat.le_of_ble_eq_true rfl)) (mlX11_158 rfl) iX11_readTable sX11_readTable h (z_kz (fun r13 σ14 h => ?_))
        refine Z_zif_eq (tgt := 66) dX11_table_53 (by decide) (fun c => ?_) (fun c => ?_)
        · replace h := h.1 c
          refine Z_aload_n 0 dX11_table_66 rfl rfl ?_
          obtain ⟨g15, h⟩ := h
          refine Z_get (T := TX11) (N := 15) (ci := 11) (t := 2) 0 dX11_table_67 la_1 (z_leN la_1 (by decide)) rfl (by decide) inX11 (by decide) (flX11_12 rfl) rfl ?_
          refine Z_top (y := 2) ((Fix.get g15 la_1 0 1 (by decide +kernel)).trans (by clear h; omega)) ?_
          refine Z_get (T := TX8) (N := 9) (ci := 8) (t := 0) 8 dX11_table_70 la_2 (z_leN la_2 (by decide)) rfl (by decide) inX8 (by decide) (flX11_118 rfl) rfl ?_
          exact Z_ireturn dX11_table_73 rfl rfl ⟨rfl, h⟩
        · replace h := h.2 c
          refine Z_aload_n 0 dX11_table_56 rfl rfl ?_
          obtain ⟨g16, h⟩ := h
          refine Z_get (T := TX11) (N := 15) (ci := 11) (t := 2) 1 dX11_table_57 la_1 (z_leN la_1 (by decide)) rfl (by decide) inX11 (by decide) (flX11_19 rfl) rfl ?_
          refine Z_top (y := 6) ((Fix.get g16 la_1 1 5 (by decide +kernel)).trans (by clear h; omega)) ?_
          refine Z_invV (T := TX5) (N := 2) (ci := 5) (M' := mX5_keepDraft) (ρ' := rX5_keepDraft zN) (st := []) [] dX11_table_60 rfl rfl la_6 (z_leN la_6 (by decide)) (by decide) rfl rfl (kX5_keepDraft.cl (Nat.le_of_ble_eq_true rfl) (Nat.le_refl _) (Nat.le_refl _) (Nat.le_of_ble_eq_true rfl) (Nat.le_of_ble_eq_true rfl) (Nat.le_of_ble_eq_true rfl)) (mlX11_161 rfl) iX5_keepDraft sX5_keepDraft h (z_ki (fun r17 σ18 h => ?_))
          refine Z_goto (tgt := 73) dX11_table_63 (by decide) ?_
          exact Z_ireturn dX11_table_73 rfl rfl ⟨rfl, h⟩
      · replace h := h.2 c
        refine Z_bipush dX11_table_38 (by decide) ?_
        exact Z_ireturn dX11_table_40 rfl rfl ⟨rfl, h⟩
    · replace h := h.2 c
      refine Z_bipush dX11_table_24 (by decide) ?_
      exact Z_ireturn dX11_table_26 rfl rfl ⟨rfl, h⟩
  · replace h := h.2 c
    refine Z_bipush dX11_table_11 (by decide) ?_
    exact Z_ireturn dX11_table_13 rfl rfl ⟨rfl, h⟩
theorem bk_X11_sum {X : ZS} {σ : ZM} {T : Int → ZM → Prop} {x1 : Int} {x2 : Int} (h : (Fix σ) ∧ ZC X (rX5_has zN) mX5_has [(2, 6), (0, x1)] zN σ (zQz (fun r2 σ3 => ((r2 = false) → T (-2) σ3) ∧ ((r2 = true) → (Fix σ3) ∧ ZC X (rX5_has zN) mX5_has [(2, 6), (0, x2)] zN σ3 (zQz (fun r5 σ6 => ((r5 = true) → (Fix σ6) ∧ ZC X (rX5_isFull zN) mX5_isFull [(2, 6)] zN σ6 (zQz (fun r8 σ9 => ((r8 = false) → (Fix σ9) ∧ ZC X (rX5_draftBoth zN) mX5_draftBoth [(2, 6), (0, x1), (0, x2)] zN σ9 (zQz (fun r11 σ12 => ((r11 = false) → T (-4) σ12) ∧ ((r11 = true) → (Fix σ12) ∧ ZC X (rX5_keepDraft zN) mX5_keepDraft [(2, 6)] zN σ12 (zQi (fun r14 σ15 => T r14 σ15)))))) ∧ ((r8 = true) → T (-8) σ9)))) ∧ ((r5 = false) → T (-2) σ6))))))) : ZC X (rX11_sum zN) mX11_sum [(2, 1), (0, x1), (0, x2)] zN σ (zQi T) := by
  show Z X _ _ 0 [(2, 1), (0, x1), (0, x2)] [] _ σ _
  refine Z_aload_n 0 dX11_sum_0 rfl rfl ?_
  obtain ⟨g1, h⟩ := h
  refine Z_get (T := TX11) (N := 15) (ci := 11) (t := 2) 1 dX11_sum_1 la_1 (z_leN la_1 (by decide)) rfl (by decide) inX11 (by decide) (flX11_19 rfl) rfl ?_
  refine Z_top (y := 6) ((Fix.get g1 la_1 1 5 (by decide +kernel)).trans (by clear h; omega)) ?_
  refine Z_iload_n 1 dX11_sum_4 rfl rfl ?_
  refine Z_invV (T := TX5) (N := 2) (ci := 5) (M' := mX5_has) (ρ' := rX5_has zN) (st := []) [(0, x1)] dX11_sum_5 rfl rfl la_6 (z_leN la_6 (by decide)) (by decide) rfl rfl (kX5_has.cl (Nat.le_of_ble_eq_true rfl) (Nat.le_refl _) (Nat.le_refl _) (Nat.le_of_ble_eq_true rfl) (Nat.le_of_ble_eq_true rfl) (Nat.le_of_ble_eq_true rfl)) (mlX11_165 rfl) iX5_has sX5_has h (z_kz (fun r2 σ3 h => ?_))
  refine Z_zif_eq (tgt := 22) dX11_sum_8 (by decide) (fun c => ?_) (fun c => ?_)
  · replace h := h.1 c
    refine Z_bipush dX11_sum_22 (by decide) ?_
    exact Z_ireturn dX11_sum_24 rfl rfl ⟨rfl, h⟩
  · replace h := h.2 c
    refine Z_aload_n 0 dX11_sum_11 rfl rfl ?_
    obtain ⟨g4, h⟩ := h
    refine Z_get (T := TX11) (N := 15) (ci := 11) (t := 2) 1 dX11_sum_12 la_1 (z_leN la_1 (by decide)) rfl (by decide) inX11 (by decide) (flX11_19 rfl) rfl ?_
    refine Z_top (y := 6) ((Fix.get g4 la_1 1 5 (by decide +kernel)).trans (by clear h; omega)) ?_
    refine Z_iload_n 2 dX11_sum_15 rfl rfl ?_
    refine Z_invV (T := TX5) (N := 2) (ci := 5) (M' := mX5_has) (ρ' := rX5_has zN) (st := []) [(0, x2)] dX11_sum_16 rfl rfl la_6 (z_leN la_6 (by decide)) (by decide) rfl rfl (kX5_has.cl (Nat.le_of_ble_eq_true rfl) (Nat.le_refl _) (Nat.le_refl _) (Nat.le_of_ble_eq_true rfl) (Nat.le_of_ble_eq_true rfl) (Nat.le_of_ble_eq_true rfl)) (mlX11_165 rfl) iX5_has sX5_has h (z_kz (fun r5 σ6 h => ?_))
    refine Z_zif_ne (tgt := 25) dX11_sum_19 (by decide) (fun c => ?_) (fun c => ?_)
    · replace h := h.1 c
      refine Z_aload_n 0 dX11_sum_25 rfl rfl ?_
      obtain ⟨g7, h⟩ := h
      refine Z_get (T := TX11) (N := 15) (ci := 11) (t := 2) 1 dX11_sum_26 la_1 (z_leN la_1 (by decide)) rfl (by decide) inX11 (by decide) (flX11_19 rfl) rfl ?_
      refine Z_top (y := 6) ((Fix.get g7 la_1 1 5 (by decide +kernel)).trans (by clear h; omega)) ?_
      refine Z_invV (T := TX5) (N := 2) (ci := 5) (M' := mX5_isFull) (ρ' := rX5_isFull zN) (st := []) [] dX11_sum_29 rfl rfl la_6 (z_leN la_6 (by decide)) (by decide) rfl rfl (kX5_isFull.cl (Nat.le_of_ble_eq_true rfl) (Nat.le_refl _) (Nat.le_refl _) (Nat.le_of_ble_eq_true rfl) (Nat.le_of_ble_eq_true rfl) (Nat.le_of_ble_eq_true rfl)) (mlX11_155 rfl) iX5_isFull sX5_isFull h (z_kz (fun r8 σ9 h => ?_))
      refine Z_zif_eq (tgt := 38) dX11_sum_32 (by decide) (fun c => ?_) (fun c => ?_)
      · replace h := h.1 c
        refine Z_aload_n 0 dX11_sum_38 rfl rfl ?_
        obtain ⟨g10, h⟩ := h
        refine Z_get (T := TX11) (N := 15) (ci := 11) (t := 2) 1 dX11_sum_39 la_1 (z_leN la_1 (by decide)) rfl (by decide) inX11 (by decide) (flX11_19 rfl) rfl ?_
        refine Z_top (y := 6) ((Fix.get g10 la_1 1 5 (by decide +kernel)).trans (by clear h; omega)) ?_
        refine Z_iload_n 1 dX11_sum_42 rfl rfl ?_
        refine Z_iload_n 2 dX11_sum_43 rfl rfl ?_
        refine Z_invV (T := TX5) (N := 2) (ci := 5) (M' := mX5_draftBoth) (ρ' := rX5_draftBoth zN) (st := []) [(0, x1), (0, x2)] dX11_sum_44 rfl rfl la_6 (z_leN la_6 (by decide)) (by decide) rfl rfl (kX5_draftBoth.cl (Nat.le_of_ble_eq_true rfl) (Nat.le_refl _) (Nat.le_refl _) (Nat.le_of_ble_eq_true rfl) (Nat.le_of_ble_eq_true rfl) (Nat.le_of_ble_eq_true rfl)) (mlX11_166 rfl) iX5_draftBoth sX5_draftBoth h (z_kz (fun r11 σ12 h => ?_))
        refine Z_zif_eq (tgt := 60) dX11_sum_47 (by decide) (fun c => ?_) (fun c => ?_)
        · replace h := h.1 c
          refine Z_bipush dX11_sum_60 (by decide) ?_
          exact Z_ireturn dX11_sum_62 rfl rfl ⟨rfl, h⟩
        · replace h := h.2 c
          refine Z_aload_n 0 dX11_sum_50 rfl rfl ?_
          obtain ⟨g13, h⟩ := h
          refine Z_get (T := TX11) (N := 15) (ci := 11) (t := 2) 1 dX11_sum_51 la_1 (z_leN la_1 (by decide)) rfl (by decide) inX11 (by decide) (flX11_19 rfl) rfl ?_
          refine Z_top (y := 6) ((Fix.get g13 la_1 1 5 (by decide +kernel)).trans (by clear h; omega)) ?_
          refine Z_invV (T := TX5) (N := 2) (ci := 5) (M' := mX5_keepDraft) (ρ' := rX5_keepDraft zN) (st := []) [] dX11_sum_54 rfl rfl la_6 (z_leN la_6 (by decide)) (by decide) rfl rfl (kX5_keepDraft.cl (Nat.le_of_ble_eq_true rfl) (Nat.le_refl _) (Nat.le_refl _) (Nat.le_of_ble_eq_true rfl) (Nat.le_of_ble_eq_true rfl) (Nat.le_of_ble_eq_true rfl)) (mlX11_161 rfl) iX5_keepDraft sX5_keepDraft h (z_ki (fun r14 σ15 h => ?_))
          refine Z_goto (tgt := 62) dX11_sum_57 (by decide) ?_
          exact Z_ireturn dX11_sum_62 rfl rfl ⟨rfl, h⟩
      · replace h := h.2 c
        refine Z_bipush dX11_sum_35 (by decide) ?_
        exact Z_ireturn dX11_sum_37 rfl rfl ⟨rfl, h⟩
    · replace h := h.2 c
      refine Z_bipush dX11_sum_22 (by decide) ?_
      exact Z_ireturn dX11_sum_24 rfl rfl ⟨rfl, h⟩
theorem bk_X11_unlike {X : ZS} {σ : ZM} {T : Int → ZM → Prop} {x1 : Int} {x2 : Int} (h : (Fix σ) ∧ ZC X (rX5_has zN) mX5_has [(2, 6), (0, x1)] zN σ (zQz (fun r2 σ3 => ((r2 = false) → T (-1) σ3) ∧ ((r2 = true) → ZC X (rX11_isWithin zN) mX11_isWithin [(0, x2), (0, 0), (0, 80)] zN σ3 (zQz (fun r4 σ5 => ((r4 = false) → T (-1) σ5) ∧ ((r4 = true) → (Fix σ5) ∧ ZC X (rX5_tell zN) mX5_tell [(2, 6), (0, x1), (0, x2)] zN σ5 (zQi (fun r7 σ8 => T r7 σ8))))))))) : ZC X (rX11_unlike zN) mX11_unlike [(2, 1), (0, x1), (0, x2)] zN σ (zQi T) := by
  show Z X _ _ 0 [(2, 1), (0, x1), (0, x2)] [] _ σ _
  refine Z_aload_n 0 dX11_unlike_0 rfl rfl ?_
  obtain ⟨g1, h⟩ := h
  refine Z_get (T := TX11) (N := 15) (ci := 11) (t := 2) 1 dX11_unlike_1 la_1 (z_leN la_1 (by decide)) rfl (by decide) inX11 (by decide) (flX11_19 rfl) rfl ?_
  refine Z_top (y := 6) ((Fix.get g1 la_1 1 5 (by decide +kernel)).trans (by clear h; omega)) ?_
  refine Z_iload_n 1 dX11_unlike_4 rfl rfl ?_
  refine Z_invV (T := TX5) (N := 2) (ci := 5) (M' := mX5_has) (ρ' := rX5_has zN) (st := []) [(0, x1)] dX11_unlike_5 rfl rfl la_6 (z_leN la_6 (by decide)) (by decide) rfl rfl (kX5_has.cl (Nat.le_of_ble_eq_true rfl) (Nat.le_refl _) (Nat.le_refl _) (Nat.le_of_ble_eq_true rfl) (Nat.le_of_ble_eq_true rfl) (Nat.le_of_ble_eq_true rfl)) (mlX11_165 rfl) iX5_has sX5_has h (z_kz (fun r2 σ3 h => ?_))
  refine Z_zif_eq (tgt := 33) dX11_unlike_8 (by decide) (fun c => ?_) (fun c => ?_)
  · replace h := h.1 c
    refine Z_iconst dX11_unlike_33 ?_
    exact Z_ireturn dX11_unlike_34 rfl rfl ⟨rfl, h⟩
  · replace h := h.2 c
    refine Z_iload_n 2 dX11_unlike_11 rfl rfl ?_
    refine Z_iconst dX11_unlike_12 ?_
    refine Z_bipush dX11_unlike_13 (by decide) ?_
    refine Z_invS (M' := mX11_isWithin) (ρ' := rX11_isWithin zN) (st := []) [(0, x2), (0, 0), (0, 80)] dX11_unlike_15 rfl rfl (kX11_isWithin.cl (Nat.le_of_ble_eq_true rfl) (Nat.le_refl _) (Nat.le_refl _) (Nat.le_of_ble_eq_true rfl) (Nat.le_of_ble_eq_true rfl) (Nat.le_of_ble_eq_true rfl)) (mlX11_135 rfl) sX11_isWithin h (z_kz (fun r4 σ5 h => ?_))
    refine Z_zif_eq (tgt := 33) dX11_unlike_18 (by decide) (fun c => ?_) (fun c => ?_)
    · replace h := h.1 c
      refine Z_iconst dX11_unlike_33 ?_
      exact Z_ireturn dX11_unlike_34 rfl rfl ⟨rfl, h⟩
    · replace h := h.2 c
      refine Z_aload_n 0 dX11_unlike_21 rfl rfl ?_
      obtain ⟨g6, h⟩ := h
      refine Z_get (T := TX11) (N := 15) (ci := 11) (t := 2) 1 dX11_unlike_22 la_1 (z_leN la_1 (by decide)) rfl (by decide) inX11 (by decide) (flX11_19 rfl) rfl ?_
      refine Z_top (y := 6) ((Fix.get g6 la_1 1 5 (by decide +kernel)).trans (by clear h; omega)) ?_
      refine Z_iload_n 1 dX11_unlike_25 rfl rfl ?_
      refine Z_iload_n 2 dX11_unlike_26 rfl rfl ?_
      refine Z_invV (T := TX5) (N := 2) (ci := 5) (M' := mX5_tell) (ρ' := rX5_tell zN) (st := []) [(0, x1), (0, x2)] dX11_unlike_27 rfl rfl la_6 (z_leN la_6 (by decide)) (by decide) rfl rfl (kX5_tell.cl (Nat.le_of_ble_eq_true rfl) (Nat.le_refl _) (Nat.le_refl _) (Nat.le_of_ble_eq_true rfl) (Nat.le_of_ble_eq_true rfl) (Nat.le_of_ble_eq_true rfl)) (mlX11_169 rfl) iX5_tell sX5_tell h (z_ki (fun r7 σ8 h => ?_))
      refine Z_goto (tgt := 34) dX11_unlike_30 (by decide) ?_
      exact Z_ireturn dX11_unlike_34 rfl rfl ⟨rfl, h⟩
theorem bk_X11_use {X : ZS} {σ : ZM} {T : Bool → ZM → Prop} {x1 : Int} (h : (r32 x1) ∧ ((x1 = (-1)) → (Fix σ) ∧ T true (z_up (z_up σ 1 13 x1) 141 6 0)) ∧ ((¬ x1 = (-1)) → (Fix σ) ∧ ZC X (rX5_has zN) mX5_has [(2, 6), (0, x1)] zN σ (zQz (fun r4 σ5 => ((r4 = true) → (Fix σ5) ∧ T true (z_up (z_up σ5 1 13 x1) 141 6 0)) ∧ ((r4 = false) → T false σ5))))) : ZC X (rX11_use zN) mX11_use [(2, 1), (0, x1)] zN σ (zQz T) := by
  show Z X _ _ 0 [(2, 1), (0, x1)] [] _ σ _
  refine Z_iload_n 1 dX11_use_0 rfl rfl ?_
  refine Z_iconst dX11_use_1 ?_
  obtain ⟨g1, h⟩ := h
  refine Z_icmp_eq (tgt := 18) dX11_use_2 (by decide) g1 ⟨by decide, by decide⟩ (fun c => ?_) (fun c => ?_)
  · replace h := h.1 c
    refine Z_aload_n 0 dX11_use_18 rfl rfl ?_
    refine Z_iload_n 1 dX11_use_19 rfl rfl ?_
    refine Z_put (T := TX11) (N := 15) (ci := 11) (t := 0) tyX11 13 dX11_use_20 la_1 (z_leN la_1 (by decide)) rfl (by decide) inX11 (by decide) (plX11_86 rfl) rfl tyX11_ok nmX11 rfl (z_nf_i _) ?_
    refine Z_aload_n 0 dX11_use_23 rfl rfl ?_
    obtain ⟨g2, h⟩ := h
    refine Z_get (T := TX11) (N := 15) (ci := 11) (t := 2) 5 dX11_use_24 la_1 (z_leN la_1 (by decide)) rfl (by decide) inX11 (by decide) (flX11_49 rfl) rfl ?_
    refine Z_top (y := 141) ((Fix.get (Fix.upF g2 la_1 13 (by decide +kernel)) la_1 5 140 (by decide +kernel)).trans (by clear h; omega)) ?_
    refine Z_iconst dX11_use_27 ?_
    refine Z_put (T := TX0) (N := 7) (ci := 0) (t := 0) tyX0 6 dX11_use_28 la_141 (z_leN la_141 (by decide)) rfl (by decide) inX0 (by decide) (plX11_121 rfl) rfl tyX0_ok nmX0 rfl (z_nf_z (Or.inl rfl)) ?_
    refine Z_iconst dX11_use_31 ?_
    exact Z_zreturn dX11_use_32 rfl (Or.inr rfl) rfl ⟨rfl, true, rfl, h⟩
  · replace h := h.2 c
    refine Z_aload_n 0 dX11_use_5 rfl rfl ?_
    obtain ⟨g3, h⟩ := h
    refine Z_get (T := TX11) (N := 15) (ci := 11) (t := 2) 1 dX11_use_6 la_1 (z_leN la_1 (by decide)) rfl (by decide) inX11 (by decide) (flX11_19 rfl) rfl ?_
    refine Z_top (y := 6) ((Fix.get g3 la_1 1 5 (by decide +kernel)).trans (by clear h; omega)) ?_
    refine Z_iload_n 1 dX11_use_9 rfl rfl ?_
    refine Z_invV (T := TX5) (N := 2) (ci := 5) (M' := mX5_has) (ρ' := rX5_has zN) (st := []) [(0, x1)] dX11_use_10 rfl rfl la_6 (z_leN la_6 (by decide)) (by decide) rfl rfl (kX5_has.cl (Nat.le_of_ble_eq_true rfl) (Nat.le_refl _) (Nat.le_refl _) (Nat.le_of_ble_eq_true rfl) (Nat.le_of_ble_eq_true rfl) (Nat.le_of_ble_eq_true rfl)) (mlX11_165 rfl) iX5_has sX5_has h (z_kz (fun r4 σ5 h => ?_))
    refine Z_zif_ne (tgt := 18) dX11_use_13 (by decide) (fun c => ?_) (fun c => ?_)
    · replace h := h.1 c
      refine Z_aload_n 0 dX11_use_18 rfl rfl ?_
      refine Z_iload_n 1 dX11_use_19 rfl rfl ?_
      refine Z_put (T := TX11) (N := 15) (ci := 11) (t := 0) tyX11 13 dX11_use_20 la_1 (z_leN la_1 (by decide)) rfl (by decide) inX11 (by decide) (plX11_86 rfl) rfl tyX11_ok nmX11 rfl (z_nf_i _) ?_
      refine Z_aload_n 0 dX11_use_23 rfl rfl ?_
      obtain ⟨g6, h⟩ := h
      refine Z_get (T := TX11) (N := 15) (ci := 11) (t := 2) 5 dX11_use_24 la_1 (z_leN la_1 (by decide)) rfl (by decide) inX11 (by decide) (flX11_49 rfl) rfl ?_
      refine Z_top (y := 141) ((Fix.get (Fix.upF g6 la_1 13 (by decide +kernel)) la_1 5 140 (by decide +kernel)).trans (by clear h; omega)) ?_
      refine Z_iconst dX11_use_27 ?_
      refine Z_put (T := TX0) (N := 7) (ci := 0) (t := 0) tyX0 6 dX11_use_28 la_141 (z_leN la_141 (by decide)) rfl (by decide) inX0 (by decide) (plX11_121 rfl) rfl tyX0_ok nmX0 rfl (z_nf_z (Or.inl rfl)) ?_
      refine Z_iconst dX11_use_31 ?_
      exact Z_zreturn dX11_use_32 rfl (Or.inr rfl) rfl ⟨rfl, true, rfl, h⟩
    · replace h := h.2 c
      refine Z_iconst dX11_use_16 ?_
      exact Z_zreturn dX11_use_17 rfl (Or.inl rfl) rfl ⟨rfl, false, rfl, h⟩
theorem bk_X11_nearest {X : ZS} {σ : ZM} {T : Bool → ZM → Prop} {x1 : Int} (h : ZC X (rX11_isWithin zN) mX11_isWithin [(0, x1), (0, 1), (0, 8)] zN σ (zQz (fun r1 σ2 => ((r1 = true) → T true (z_up σ2 1 14 x1)) ∧ ((r1 = false) → T false σ2)))) : ZC X (rX11_nearest zN) mX11_nearest [(2, 1), (0, x1)] zN σ (zQz T) := by
  show Z X _ _ 0 [(2, 1), (0, x1)] [] _ σ _
  refine Z_iload_n 1 dX11_nearest_0 rfl rfl ?_
  refine Z_iconst dX11_nearest_1 ?_
  refine Z_bipush dX11_nearest_2 (by decide) ?_
  refine Z_invS (M' := mX11_isWithin) (ρ' := rX11_isWithin zN) (st := []) [(0, x1), (0, 1), (0, 8)] dX11_nearest_4 rfl rfl (kX11_isWithin.cl (Nat.le_of_ble_eq_true rfl) (Nat.le_refl _) (Nat.le_refl _) (Nat.le_of_ble_eq_true rfl) (Nat.le_of_ble_eq_true rfl) (Nat.le_of_ble_eq_true rfl)) (mlX11_135 rfl) sX11_isWithin h (z_kz (fun r1 σ2 h => ?_))
  refine Z_zif_ne (tgt := 12) dX11_nearest_7 (by decide) (fun c => ?_) (fun c => ?_)
  · replace h := h.1 c
    refine Z_aload_n 0 dX11_nearest_12 rfl rfl ?_
    refine Z_iload_n 1 dX11_nearest_13 rfl rfl ?_
    refine Z_put (T := TX11) (N := 15) (ci := 11) (t := 0) tyX11 14 dX11_nearest_14 la_1 (z_leN la_1 (by decide)) rfl (by decide) inX11 (by decide) (plX11_90 rfl) rfl tyX11_ok nmX11 rfl (z_nf_i _) ?_
    refine Z_iconst dX11_nearest_17 ?_
    exact Z_zreturn dX11_nearest_18 rfl (Or.inr rfl) rfl ⟨rfl, true, rfl, h⟩
  · replace h := h.2 c
    refine Z_iconst dX11_nearest_10 ?_
    exact Z_zreturn dX11_nearest_11 rfl (Or.inl rfl) rfl ⟨rfl, false, rfl, h⟩
theorem bk_X11_ask {X : ZS} {σ : ZM} {T : Int → ZM → Prop} {x1 : Int} {x2 : Int} (h : ZC X (rX11_isPlace zN) mX11_isPlace [(0, x1), (0, x2)] zN σ (zQz (fun r1 σ2 => ((r1 = true) → ZC X (rX11_canGuess zN) mX11_canGuess [(2, 1)] zN σ2 (zQz (fun r3 σ4 => ((r3 = true) → (Fix σ4) ∧ ZC X (rX6_clear zN) mX6_clear [(2, 8)] zN σ4 (zQv (fun σ7 => (Fix σ7) ∧ ZC X (rX6_add zN) mX6_add [(2, 8), (0, x1), (0, x2)] zN σ7 (zQv (fun σ10 => ZC X (rX11_guessForAsked zN) mX11_guessForAsked [(2, 1)] zN σ10 (zQi (fun r11 σ12 => T r11 σ12))))))) ∧ ((r3 = false) → T (-5) σ4)))) ∧ ((r1 = false) → T (-4) σ2)))) : ZC X (rX11_ask zN) mX11_ask [(2, 1), (0, x1), (0, x2)] zN σ (zQi T) := by
  show Z X _ _ 0 [(2, 1), (0, x1), (0, x2)] [] _ σ _
  refine Z_iload_n 1 dX11_ask_0 rfl rfl ?_
  refine Z_iload_n 2 dX11_ask_1 rfl rfl ?_
  refine Z_invS (M' := mX11_isPlace) (ρ' := rX11_isPlace zN) (st := []) [(0, x1), (0, x2)] dX11_ask_2 rfl rfl (kX11_isPlace.cl (Nat.le_of_ble_eq_true rfl) (Nat.le_refl _) (Nat.le_refl _) (Nat.le_of_ble_eq_true rfl) (Nat.le_of_ble_eq_true rfl) (Nat.le_of_ble_eq_true rfl)) (mlX11_131 rfl) sX11_isPlace h (z_kz (fun r1 σ2 h => ?_))
  refine Z_zif_ne (tgt := 11) dX11_ask_5 (by decide) (fun c => ?_) (fun c => ?_)
  · replace h := h.1 c
    refine Z_aload_n 0 dX11_ask_11 rfl rfl ?_
    refine Z_invV (T := TX11) (N := 15) (ci := 11) (M' := mX11_canGuess) (ρ' := rX11_canGuess zN) (st := []) [] dX11_ask_12 rfl rfl la_1 (z_leN la_1 (by decide)) (by decide) rfl rfl (kX11_canGuess.cl (Nat.le_of_ble_eq_true rfl) (Nat.le_refl _) (Nat.le_refl _) (Nat.le_of_ble_eq_true rfl) (Nat.le_of_ble_eq_true rfl) (Nat.le_of_ble_eq_true rfl)) (mlX11_172 rfl) iX11_canGuess sX11_canGuess h (z_kz (fun r3 σ4 h => ?_))
    refine Z_zif_ne (tgt := 21) dX11_ask_15 (by decide) (fun c => ?_) (fun c => ?_)
    · replace h := h.1 c
      refine Z_aload_n 0 dX11_ask_21 rfl rfl ?_
      obtain ⟨g5, h⟩ := h
      refine Z_get (T := TX11) (N := 15) (ci := 11) (t := 2) 2 dX11_ask_22 la_1 (z_leN la_1 (by decide)) rfl (by decide) inX11 (by decide) (flX11_28 rfl) rfl ?_
      refine Z_top (y := 8) ((Fix.get g5 la_1 2 7 (by decide +kernel)).trans (by clear h; omega)) ?_
      refine Z_invV (T := TX6) (N := 3) (ci := 6) (M' := mX6_clear) (ρ' := rX6_clear zN) (st := []) [] dX11_ask_25 rfl rfl la_8 (z_leN la_8 (by decide)) (by decide) rfl rfl (kX6_clear.cl (Nat.le_of_ble_eq_true rfl) (Nat.le_refl _) (Nat.le_refl _) (Nat.le_of_ble_eq_true rfl) (Nat.le_of_ble_eq_true rfl) (Nat.le_of_ble_eq_true rfl)) (mlX11_175 rfl) iX6_clear sX6_clear h (z_kv (fun σ7 h => ?_))
      refine Z_aload_n 0 dX11_ask_28 rfl rfl ?_
      obtain ⟨g8, h⟩ := h
      refine Z_get (T := TX11) (N := 15) (ci := 11) (t := 2) 2 dX11_ask_29 la_1 (z_leN la_1 (by decide)) rfl (by decide) inX11 (by decide) (flX11_28 rfl) rfl ?_
      refine Z_top (y := 8) ((Fix.get g8 la_1 2 7 (by decide +kernel)).trans (by clear h; omega)) ?_
      refine Z_iload_n 1 dX11_ask_32 rfl rfl ?_
      refine Z_iload_n 2 dX11_ask_33 rfl rfl ?_
      refine Z_invV (T := TX6) (N := 3) (ci := 6) (M' := mX6_add) (ρ' := rX6_add zN) (st := []) [(0, x1), (0, x2)] dX11_ask_34 rfl rfl la_8 (z_leN la_8 (by decide)) (by decide) rfl rfl (kX6_add.cl (Nat.le_of_ble_eq_true rfl) (Nat.le_refl _) (Nat.le_refl _) (Nat.le_of_ble_eq_true rfl) (Nat.le_of_ble_eq_true rfl) (Nat.le_of_ble_eq_true rfl)) (mlX11_178 rfl) iX6_add sX6_add h (z_kv (fun σ10 h => ?_))
      refine Z_aload_n 0 dX11_ask_37 rfl rfl ?_
      refine Z_invV (T := TX11) (N := 15) (ci := 11) (M' := mX11_guessForAsked) (ρ' := rX11_guessForAsked zN) (st := []) [] dX11_ask_38 rfl rfl la_1 (z_leN la_1 (by decide)) (by decide) rfl rfl (kX11_guessForAsked.cl (Nat.le_of_ble_eq_true rfl) (Nat.le_refl _) (Nat.le_refl _) (Nat.le_of_ble_eq_true rfl) (Nat.le_of_ble_eq_true rfl) (Nat.le_of_ble_eq_true rfl)) (mlX11_181 rfl) iX11_guessForAsked sX11_guessForAsked h (z_ki (fun r11 σ12 h => ?_))
      exact Z_ireturn dX11_ask_41 rfl rfl ⟨rfl, h⟩
    · replace h := h.2 c
      refine Z_bipush dX11_ask_18 (by decide) ?_
      exact Z_ireturn dX11_ask_20 rfl rfl ⟨rfl, h⟩
  · replace h := h.2 c
    refine Z_bipush dX11_ask_8 (by decide) ?_
    exact Z_ireturn dX11_ask_10 rfl rfl ⟨rfl, h⟩
theorem bk_X11_mean {X : ZS} {σ : ZM} {T : Int → ZM → Prop} {x1 : Int} (h : (Fix σ) ∧ ZC X (rX8_exists zN) mX8_exists [(2, 2), (0, x1)] zN σ (zQz (fun r2 σ3 => ((r2 = true) → (Fix σ3) ∧ ZC X (rX8_holds zN) mX8_holds [(2, 2), (0, x1)] zN σ3 (zQz (fun r5 σ6 => ((r5 = true) → (Fix σ6) ∧ ZC X (rX8_startReading zN) mX8_startReading [(2, 2), (0, x1)] zN σ6 (zQv (fun σ9 => ZC X (rX11_readAsked zN) mX11_readAsked [(2, 1)] zN σ9 (zQz (fun r10 σ11 => ((r10 = true) → ZC X (rX11_canGuess zN) mX11_canGuess [(2, 1)] zN σ11 (zQz (fun r12 σ13 => ((r12 = false) → T (-10) σ13) ∧ ((r12 = true) → ZC X (rX11_guessForAsked zN) mX11_guessForAsked [(2, 1)] zN σ13 (zQi (fun r14 σ15 => T r14 σ15)))))) ∧ ((r10 = false) → (Fix σ11) ∧ T (σ11 2 8) σ11)))))) ∧ ((r5 = false) → T (-5) σ6)))) ∧ ((r2 = false) → T (-2) σ3)))) : ZC X (rX11_mean zN) mX11_mean [(2, 1), (0, x1)] zN σ (zQi T) := by
  show Z X _ _ 0 [(2, 1), (0, x1)] [] _ σ _
  refine Z_aload_n 0 dX11_mean_0 rfl rfl ?_
  obtain ⟨g1, h⟩ := h
  refine Z_get (T := TX11) (N := 15) (ci := 11) (t := 2) 0 dX11_mean_1 la_1 (z_leN la_1 (by decide)) rfl (by decide) inX11 (by decide) (flX11_12 rfl) rfl ?_
  refine Z_top (y := 2) ((Fix.get g1 la_1 0 1 (by decide +kernel)).trans (by clear h; omega)) ?_
  refine Z_iload_n 1 dX11_mean_4 rfl rfl ?_
  refine Z_invV (T := TX8) (N := 9) (ci := 8) (M' := mX8_exists) (ρ' := rX8_exists zN) (st := []) [(0, x1)] dX11_mean_5 rfl rfl la_2 (z_leN la_2 (by decide)) (by decide) rfl rfl (kX8_exists.cl (Nat.le_of_ble_eq_true rfl) (Nat.le_refl _) (Nat.le_refl _) (Nat.le_of_ble_eq_true rfl) (Nat.le_of_ble_eq_true rfl) (Nat.le_of_ble_eq_true rfl)) (mlX11_93 rfl) iX8_exists sX8_exists h (z_kz (fun r2 σ3 h => ?_))
  refine Z_zif_ne (tgt := 14) dX11_mean_8 (by decide) (fun c => ?_) (fun c => ?_)
  · replace h := h.1 c
    refine Z_aload_n 0 dX11_mean_14 rfl rfl ?_
    obtain ⟨g4, h⟩ := h
    refine Z_get (T := TX11) (N := 15) (ci := 11) (t := 2) 0 dX11_mean_15 la_1 (z_leN la_1 (by decide)) rfl (by decide) inX11 (by decide) (flX11_12 rfl) rfl ?_
    refine Z_top (y := 2) ((Fix.get g4 la_1 0 1 (by decide +kernel)).trans (by clear h; omega)) ?_
    refine Z_iload_n 1 dX11_mean_18 rfl rfl ?_
    refine Z_invV (T := TX8) (N := 9) (ci := 8) (M' := mX8_holds) (ρ' := rX8_holds zN) (st := []) [(0, x1)] dX11_mean_19 rfl rfl la_2 (z_leN la_2 (by decide)) (by decide) rfl rfl (kX8_holds.cl (Nat.le_of_ble_eq_true rfl) (Nat.le_refl _) (Nat.le_refl _) (Nat.le_of_ble_eq_true rfl) (Nat.le_of_ble_eq_true rfl) (Nat.le_of_ble_eq_true rfl)) (mlX11_101 rfl) iX8_holds sX8_holds h (z_kz (fun r5 σ6 h => ?_))
    refine Z_zif_ne (tgt := 28) dX11_mean_22 (by decide) (fun c => ?_) (fun c => ?_)
    · replace h := h.1 c
      refine Z_aload_n 0 dX11_mean_28 rfl rfl ?_
      obtain ⟨g7, h⟩ := h
      refine Z_get (T := TX11) (N := 15) (ci := 11) (t := 2) 0 dX11_mean_29 la_1 (z_leN la_1 (by decide)) rfl (by decide) inX11 (by decide) (flX11_12 rfl) rfl ?_
      refine Z_top (y := 2) ((Fix.get g7 la_1 0 1 (by decide +kernel)).trans (by clear h; omega)) ?_
      refine Z_iload_n 1 dX11_mean_32 rfl rfl ?_
      refine Z_invV (T := TX8) (N := 9) (ci := 8) (M' := mX8_startReading) (ρ' := rX8_startReading zN) (st := []) [(0, x1)] dX11_mean_33 rfl rfl la_2 (z_leN la_2 (by decide)) (by decide) rfl rfl (kX8_startReading.cl (Nat.le_of_ble_eq_true rfl) (Nat.le_refl _) (Nat.le_refl _) (Nat.le_of_ble_eq_true rfl) (Nat.le_of_ble_eq_true rfl) (Nat.le_of_ble_eq_true rfl)) (mlX11_111 rfl) iX8_startReading sX8_startReading h (z_kv (fun σ9 h => ?_))
      refine Z_aload_n 0 dX11_mean_36 rfl rfl ?_
      refine Z_invV (T := TX11) (N := 15) (ci := 11) (M' := mX11_readAsked) (ρ' := rX11_readAsked zN) (st := []) [] dX11_mean_37 rfl rfl la_1 (z_leN la_1 (by decide)) (by decide) rfl rfl (kX11_readAsked.cl (Nat.le_of_ble_eq_true rfl) (Nat.le_refl _) (Nat.le_refl _) (Nat.le_of_ble_eq_true rfl) (Nat.le_of_ble_eq_true rfl) (Nat.le_of_ble_eq_true rfl)) (mlX11_184 rfl) iX11_readAsked sX11_readAsked h (z_kz (fun r10 σ11 h => ?_))
      refine Z_zif_ne (tgt := 51) dX11_mean_40 (by decide) (fun c => ?_) (fun c => ?_)
      · replace h := h.1 c
        refine Z_aload_n 0 dX11_mean_51 rfl rfl ?_
        refine Z_invV (T := TX11) (N := 15) (ci := 11) (M' := mX11_canGuess) (ρ' := rX11_canGuess zN) (st := []) [] dX11_mean_52 rfl rfl la_1 (z_leN la_1 (by decide)) (by decide) rfl rfl (kX11_canGuess.cl (Nat.le_of_ble_eq_true rfl) (Nat.le_refl _) (Nat.le_refl _) (Nat.le_of_ble_eq_true rfl) (Nat.le_of_ble_eq_true rfl) (Nat.le_of_ble_eq_true rfl)) (mlX11_172 rfl) iX11_canGuess sX11_canGuess h (z_kz (fun r12 σ13 h => ?_))
        refine Z_zif_eq (tgt := 65) dX11_mean_55 (by decide) (fun c => ?_) (fun c => ?_)
        · replace h := h.1 c
          refine Z_bipush dX11_mean_65 (by decide) ?_
          exact Z_ireturn dX11_mean_67 rfl rfl ⟨rfl, h⟩
        · replace h := h.2 c
          refine Z_aload_n 0 dX11_mean_58 rfl rfl ?_
          refine Z_invV (T := TX11) (N := 15) (ci := 11) (M' := mX11_guessForAsked) (ρ' := rX11_guessForAsked zN) (st := []) [] dX11_mean_59 rfl rfl la_1 (z_leN la_1 (by decide)) (by decide) rfl rfl (kX11_guessForAsked.cl (Nat.le_of_ble_eq_true rfl) (Nat.le_refl _) (Nat.le_refl _) (Nat.le_of_ble_eq_true rfl) (Nat.le_of_ble_eq_true rfl) (Nat.le_of_ble_eq_true rfl)) (mlX11_181 rfl) iX11_guessForAsked sX11_guessForAsked h (z_ki (fun r14 σ15 h => ?_))
          refine Z_goto (tgt := 67) dX11_mean_62 (by decide) ?_
          exact Z_ireturn dX11_mean_67 rfl rfl ⟨rfl, h⟩
      · replace h := h.2 c
        refine Z_aload_n 0 dX11_mean_43 rfl rfl ?_
        obtain ⟨g16, h⟩ := h
        refine Z_get (T := TX11) (N := 15) (ci := 11) (t := 2) 0 dX11_mean_44 la_1 (z_leN la_1 (by decide)) rfl (by decide) inX11 (by decide) (flX11_12 rfl) rfl ?_
        refine Z_top (y := 2) ((Fix.get g16 la_1 0 1 (by decide +kernel)).trans (by clear h; omega)) ?_
        refine Z_get (T := TX8) (N := 9) (ci := 8) (t := 0) 8 dX11_mean_47 la_2 (z_leN la_2 (by decide)) rfl (by decide) inX8 (by decide) (flX11_118 rfl) rfl ?_
        exact Z_ireturn dX11_mean_50 rfl rfl ⟨rfl, h⟩
    · replace h := h.2 c
      refine Z_bipush dX11_mean_25 (by decide) ?_
      exact Z_ireturn dX11_mean_27 rfl rfl ⟨rfl, h⟩
  · replace h := h.2 c
    refine Z_bipush dX11_mean_11 (by decide) ?_
    exact Z_ireturn dX11_mean_13 rfl rfl ⟨rfl, h⟩
theorem bk_X11_answer {X : ZS} {σ : ZM} {T : Bool → ZM → Prop} {x1 : Int} (h : (Fix σ) ∧ (r32 (σ 141 6)) ∧ ((¬ (σ 141 6) = 0) → (r32 x1) ∧ ((¬ x1 = 0) → ((¬ x1 = 1) → ((¬ x1 = 2) → ((x1 < 10) → T false σ) ∧ ((¬ (x1 < 10)) → (z_l (σ 1 11) = (7, 3)) ∧ ZC X (rX6_has zN) mX6_has [(2, ((σ 1 11) + 1)), (0, (x1 - 10))] zN σ (zQz (fun r5 σ6 => ((r5 = true) → (Fix σ6) ∧ (0 ≤ (x1 - 10)) ∧ ((x1 - 10) < 8) ∧ ZC X (rX11_setResult zN) mX11_setResult [(2, 1), (2, (σ6 142 (x1 - 10))), (2, 147)] zN σ6 (zQz (fun r10 σ11 => T r10 σ11))) ∧ ((r5 = false) → T false σ6))))) ∧ ((x1 = 2) → ZC X (rX11_setResult zN) mX11_setResult [(2, 1), (2, 145), (2, 147)] zN σ (zQz (fun r12 σ13 => T r12 σ13)))) ∧ ((x1 = 1) → ZC X (rX11_setResult zN) mX11_setResult [(2, 1), (2, 149), (2, 151)] zN σ (zQz (fun r14 σ15 => T r14 σ15)))) ∧ ((x1 = 0) → ZC X (rX11_setResult zN) mX11_setResult [(2, 1), (2, 143), (2, 147)] zN σ (zQz (fun r16 σ17 => T r16 σ17)))) ∧ (((σ 141 6) = 0) → T false σ)) : ZC X (rX11_answer zN) mX11_answer [(2, 1), (0, x1)] zN σ (zQz T) := by
  show Z X _ _ 0 [(2, 1), (0, x1)] [] _ σ _
  refine Z_aload_n 0 dX11_answer_0 rfl rfl ?_
  obtain ⟨g1, h⟩ := h
  refine Z_get (T := TX11) (N := 15) (ci := 11) (t := 2) 5 dX11_answer_1 la_1 (z_leN la_1 (by decide)) rfl (by decide) inX11 (by decide) (flX11_49 rfl) rfl ?_
  refine Z_top (y := 141) ((Fix.get g1 la_1 5 140 (by decide +kernel)).trans (by clear h; omega)) ?_
  refine Z_get (T := TX0) (N := 7) (ci := 0) (t := 0) 6 dX11_answer_4 la_141 (z_leN la_141 (by decide)) rfl (by decide) inX0 (by decide) (flX11_121 rfl) rfl ?_
  obtain ⟨g2, h⟩ := h
  refine Z_if_ne (tgt := 12) dX11_answer_7 (by decide) g2 (fun c => ?_) (fun c => ?_)
  · replace h := h.1 c
    refine Z_iload_n 1 dX11_answer_12 rfl rfl ?_
    obtain ⟨g3, h⟩ := h
    refine Z_if_ne (tgt := 35) dX11_answer_13 (by decide) g3 (fun c => ?_) (fun c => ?_)
    · replace h := h.1 c
      refine Z_iload_n 1 dX11_answer_35 rfl rfl ?_
      refine Z_iconst dX11_answer_36 ?_
      refine Z_icmp_ne (tgt := 59) dX11_answer_37 (by decide) g3 ⟨by decide, by decide⟩ (fun c => ?_) (fun c => ?_)
      · replace h := h.1 c
        refine Z_iload_n 1 dX11_answer_59 rfl rfl ?_
        refine Z_iconst dX11_answer_60 ?_
        refine Z_icmp_ne (tgt := 83) dX11_answer_61 (by decide) g3 ⟨by decide, by decide⟩ (fun c => ?_) (fun c => ?_)
        · replace h := h.1 c
          refine Z_iload_n 1 dX11_answer_83 rfl rfl ?_
          refine Z_bipush dX11_answer_84 (by decide) ?_
          refine Z_icmp_lt (tgt := 106) dX11_answer_86 (by decide) g3 ⟨by decide, by decide⟩ (fun c => ?_) (fun c => ?_)
          · replace h := h.1 c
            refine Z_iconst dX11_answer_106 ?_
            exact Z_zreturn dX11_answer_107 rfl (Or.inl rfl) rfl ⟨rfl, false, rfl, h⟩
          · replace h := h.2 c
            refine Z_aload_n 0 dX11_answer_89 rfl rfl ?_
            refine Z_get (T := TX11) (N := 15) (ci := 11) (t := 2) 11 dX11_answer_90 la_1 (z_leN la_1 (by decide)) rfl (by decide) inX11 (by decide) (flX11_79 rfl) rfl ?_
            obtain ⟨g4, h⟩ := h
            refine Z_get (T := TX7) (N := 3) (ci := 7) (t := 2) 0 dX11_answer_93 g4 (z_leN g4 (by decide)) rfl (by decide) inX7 (by decide) (flX11_125 rfl) rfl ?_
            refine Z_top (y := ((σ 1 11) + 1)) (Fix.get g1 g4 0 1 (by decide +kernel)) ?_
            refine Z_iload_n 1 dX11_answer_96 rfl rfl ?_
            refine Z_bipush dX11_answer_97 (by decide) ?_
            refine Z_isub dX11_answer_99 ?_
            refine Z_invV (T := TX6) (N := 3) (ci := 6) (M' := mX6_has) (ρ' := rX6_has zN) (st := []) [(0, (x1 - 10))] dX11_answer_100 rfl rfl (zo_7_0 g4) (z_leN (zo_7_0 g4) (by decide)) (by decide) rfl rfl (kX6_has.cl (Nat.le_of_ble_eq_true rfl) (Nat.le_refl _) (Nat.le_refl _) (Nat.le_of_ble_eq_true rfl) (Nat.le_of_ble_eq_true rfl) (Nat.le_of_ble_eq_true rfl)) (mlX11_145 rfl) iX6_has sX6_has h (z_kz (fun r5 σ6 h => ?_))
            refine Z_zif_ne (tgt := 108) dX11_answer_103 (by decide) (fun c => ?_) (fun c => ?_)
            · replace h := h.1 c
              refine Z_aload_n 0 dX11_answer_108 rfl rfl ?_
              refine Z_aload_n 0 dX11_answer_109 rfl rfl ?_
              obtain ⟨g7, h⟩ := h
              refine Z_get (T := TX11) (N := 15) (ci := 11) (t := 2) 5 dX11_answer_110 la_1 (z_leN la_1 (by decide)) rfl (by decide) inX11 (by decide) (flX11_49 rfl) rfl ?_
              refine Z_top (y := 141) ((Fix.get g7 la_1 5 140 (by decide +kernel)).trans (by clear h; omega)) ?_
              refine Z_get (T := TX0) (N := 7) (ci := 0) (t := 2) 0 dX11_answer_113 la_141 (z_leN la_141 (by decide)) rfl (by decide) inX0 (by decide) (flX11_207 rfl) rfl ?_
              refine Z_top (y := 142) ((Fix.get g7 la_141 0 1 (by decide +kernel)).trans (by clear h; omega)) ?_
              refine Z_iload_n 1 dX11_answer_116 rfl rfl ?_
              refine Z_bipush dX11_answer_117 (by decide) ?_
              refine Z_isub dX11_answer_119 ?_
              obtain ⟨g8, h⟩ := h
              obtain ⟨g9, h⟩ := h
              refine Z_aald dX11_answer_120 la_142 (z_leN la_142 (by decide)) g8 g9 ?_
              refine Z_aload_n 0 dX11_answer_121 rfl rfl ?_
              refine Z_get (T := TX11) (N := 15) (ci := 11) (t := 2) 5 dX11_answer_122 la_1 (z_leN la_1 (by decide)) rfl (by decide) inX11 (by decide) (flX11_49 rfl) rfl ?_
              refine Z_top (y := 141) ((Fix.get g7 la_1 5 140 (by decide +kernel)).trans (by clear h; omega)) ?_
              refine Z_get (T := TX0) (N := 7) (ci := 0) (t := 2) 3 dX11_answer_125 la_141 (z_leN la_141 (by decide)) rfl (by decide) inX0 (by decide) (flX11_191 rfl) rfl ?_
              refine Z_top (y := 147) ((Fix.get g7 la_141 3 6 (by decide +kernel)).trans (by clear h; omega)) ?_
              refine Z_invV (T := TX11) (N := 15) (ci := 11) (M' := mX11_setResult) (ρ' := rX11_setResult zN) (st := []) [(2, (σ6 142 (x1 - 10))), (2, 147)] dX11_answer_128 rfl rfl la_1 (z_leN la_1 (by decide)) (by decide) rfl rfl (kX11_setResult.cl (Nat.le_of_ble_eq_true rfl) (Nat.le_refl _) (Nat.le_refl _) (Nat.le_of_ble_eq_true rfl) (Nat.le_of_ble_eq_true rfl) (Nat.le_of_ble_eq_true rfl)) (mlX11_194 rfl) iX11_setResult sX11_setResult h (z_kz (fun r10 σ11 h => ?_))
              exact Z_zreturn dX11_answer_131 rfl (zb_01 _) rfl ⟨rfl, r10, rfl, h⟩
            · replace h := h.2 c
              refine Z_iconst dX11_answer_106 ?_
              exact Z_zreturn dX11_answer_107 rfl (Or.inl rfl) rfl ⟨rfl, false, rfl, h⟩
        · replace h := h.2 c
          refine Z_aload_n 0 dX11_answer_64 rfl rfl ?_
          refine Z_aload_n 0 dX11_answer_65 rfl rfl ?_
          refine Z_get (T := TX11) (N := 15) (ci := 11) (t := 2) 5 dX11_answer_66 la_1 (z_leN la_1 (by decide)) rfl (by decide) inX11 (by decide) (flX11_49 rfl) rfl ?_
          refine Z_top (y := 141) ((Fix.get g1 la_1 5 140 (by decide +kernel)).trans (by clear h; omega)) ?_
          refine Z_get (T := TX0) (N := 7) (ci := 0) (t := 2) 2 dX11_answer_69 la_141 (z_leN la_141 (by decide)) rfl (by decide) inX0 (by decide) (flX11_204 rfl) rfl ?_
          refine Z_top (y := 145) ((Fix.get g1 la_141 2 4 (by decide +kernel)).trans (by clear h; omega)) ?_
          refine Z_aload_n 0 dX11_answer_72 rfl rfl ?_
          refine Z_get (T := TX11) (N := 15) (ci := 11) (t := 2) 5 dX11_answer_73 la_1 (z_leN la_1 (by decide)) rfl (by decide) inX11 (by decide) (flX11_49 rfl) rfl ?_
          refine Z_top (y := 141) ((Fix.get g1 la_1 5 140 (by decide +kernel)).trans (by clear h; omega)) ?_
          refine Z_get (T := TX0) (N := 7) (ci := 0) (t := 2) 3 dX11_answer_76 la_141 (z_leN la_141 (by decide)) rfl (by decide) inX0 (by decide) (flX11_191 rfl) rfl ?_
          refine Z_top (y := 147) ((Fix.get g1 la_141 3 6 (by decide +kernel)).trans (by clear h; omega)) ?_
          refine Z_invV (T := TX11) (N := 15) (ci := 11) (M' := mX11_setResult) (ρ' := rX11_setResult zN) (st := []) [(2, 145), (2, 147)] dX11_answer_79 rfl rfl la_1 (z_leN la_1 (by decide)) (by decide) rfl rfl (kX11_setResult.cl (Nat.le_of_ble_eq_true rfl) (Nat.le_refl _) (Nat.le_refl _) (Nat.le_of_ble_eq_true rfl) (Nat.le_of_ble_eq_true rfl) (Nat.le_of_ble_eq_true rfl)) (mlX11_194 rfl) iX11_setResult sX11_setResult h (z_kz (fun r12 σ13 h => ?_))
          exact Z_zreturn dX11_answer_82 rfl (zb_01 _) rfl ⟨rfl, r12, rfl, h⟩
      · replace h := h.2 c
        refine Z_aload_n 0 dX11_answer_40 rfl rfl ?_
        refine Z_aload_n 0 dX11_answer_41 rfl rfl ?_
        refine Z_get (T := TX11) (N := 15) (ci := 11) (t := 2) 5 dX11_answer_42 la_1 (z_leN la_1 (by decide)) rfl (by decide) inX11 (by decide) (flX11_49 rfl) rfl ?_
        refine Z_top (y := 141) ((Fix.get g1 la_1 5 140 (by decide +kernel)).trans (by clear h; omega)) ?_
        refine Z_get (T := TX0) (N := 7) (ci := 0) (t := 2) 4 dX11_answer_45 la_141 (z_leN la_141 (by decide)) rfl (by decide) inX0 (by decide) (flX11_198 rfl) rfl ?_
        refine Z_top (y := 149) ((Fix.get g1 la_141 4 8 (by decide +kernel)).trans (by clear h; omega)) ?_
        refine Z_aload_n 0 dX11_answer_48 rfl rfl ?_
        refine Z_get (T := TX11) (N := 15) (ci := 11) (t := 2) 5 dX11_answer_49 la_1 (z_leN la_1 (by decide)) rfl (by decide) inX11 (by decide) (flX11_49 rfl) rfl ?_
        refine Z_top (y := 141) ((Fix.get g1 la_1 5 140 (by decide +kernel)).trans (by clear h; omega)) ?_
        refine Z_get (T := TX0) (N := 7) (ci := 0) (t := 2) 5 dX11_answer_52 la_141 (z_leN la_141 (by decide)) rfl (by decide) inX0 (by decide) (flX11_201 rfl) rfl ?_
        refine Z_top (y := 151) ((Fix.get g1 la_141 5 10 (by decide +kernel)).trans (by clear h; omega)) ?_
        refine Z_invV (T := TX11) (N := 15) (ci := 11) (M' := mX11_setResult) (ρ' := rX11_setResult zN) (st := []) [(2, 149), (2, 151)] dX11_answer_55 rfl rfl la_1 (z_leN la_1 (by decide)) (by decide) rfl rfl (kX11_setResult.cl (Nat.le_of_ble_eq_true rfl) (Nat.le_refl _) (Nat.le_refl _) (Nat.le_of_ble_eq_true rfl) (Nat.le_of_ble_eq_true rfl) (Nat.le_of_ble_eq_true rfl)) (mlX11_194 rfl) iX11_setResult sX11_setResult h (z_kz (fun r14 σ15 h => ?_))
        exact Z_zreturn dX11_answer_58 rfl (zb_01 _) rfl ⟨rfl, r14, rfl, h⟩
    · replace h := h.2 c
      refine Z_aload_n 0 dX11_answer_16 rfl rfl ?_
      refine Z_aload_n 0 dX11_answer_17 rfl rfl ?_
      refine Z_get (T := TX11) (N := 15) (ci := 11) (t := 2) 5 dX11_answer_18 la_1 (z_leN la_1 (by decide)) rfl (by decide) inX11 (by decide) (flX11_49 rfl) rfl ?_
      refine Z_top (y := 141) ((Fix.get g1 la_1 5 140 (by decide +kernel)).trans (by clear h; omega)) ?_
      refine Z_get (T := TX0) (N := 7) (ci := 0) (t := 2) 1 dX11_answer_21 la_141 (z_leN la_141 (by decide)) rfl (by decide) inX0 (by decide) (flX11_187 rfl) rfl ?_
      refine Z_top (y := 143) ((Fix.get g1 la_141 1 2 (by decide +kernel)).trans (by clear h; omega)) ?_
      refine Z_aload_n 0 dX11_answer_24 rfl rfl ?_
      refine Z_get (T := TX11) (N := 15) (ci := 11) (t := 2) 5 dX11_answer_25 la_1 (z_leN la_1 (by decide)) rfl (by decide) inX11 (by decide) (flX11_49 rfl) rfl ?_
      refine Z_top (y := 141) ((Fix.get g1 la_1 5 140 (by decide +kernel)).trans (by clear h; omega)) ?_
      refine Z_get (T := TX0) (N := 7) (ci := 0) (t := 2) 3 dX11_answer_28 la_141 (z_leN la_141 (by decide)) rfl (by decide) inX0 (by decide) (flX11_191 rfl) rfl ?_
      refine Z_top (y := 147) ((Fix.get g1 la_141 3 6 (by decide +kernel)).trans (by clear h; omega)) ?_
      refine Z_invV (T := TX11) (N := 15) (ci := 11) (M' := mX11_setResult) (ρ' := rX11_setResult zN) (st := []) [(2, 143), (2, 147)] dX11_answer_31 rfl rfl la_1 (z_leN la_1 (by decide)) (by decide) rfl rfl (kX11_setResult.cl (Nat.le_of_ble_eq_true rfl) (Nat.le_refl _) (Nat.le_refl _) (Nat.le_of_ble_eq_true rfl) (Nat.le_of_ble_eq_true rfl) (Nat.le_of_ble_eq_true rfl)) (mlX11_194 rfl) iX11_setResult sX11_setResult h (z_kz (fun r16 σ17 h => ?_))
      exact Z_zreturn dX11_answer_34 rfl (zb_01 _) rfl ⟨rfl, r16, rfl, h⟩
  · replace h := h.2 c
    refine Z_iconst dX11_answer_10 ?_
    exact Z_zreturn dX11_answer_11 rfl (Or.inl rfl) rfl ⟨rfl, false, rfl, h⟩
theorem bk_X11_leftOut {X : ZS} {σ : ZM} {T : Bool → ZM → Prop} {x1 : Int} (h : ZC X (rX11_leaveOut zN) mX11_leaveOut [(2, 1), (0, (σ 1 13)), (0, x1)] zN σ (zQz (fun r1 σ2 => ((r1 = false) → T false σ2) ∧ ((r1 = true) → (Fix σ2) ∧ ZC X (rX11_setResult zN) mX11_setResult [(2, 1), (2, 185), (2, 187)] zN σ2 (zQz (fun r4 σ5 => ((r4 = false) → T false σ5) ∧ ((r4 = true) → T true σ5))))))) : ZC X (rX11_leftOut zN) mX11_leftOut [(2, 1), (0, x1)] zN σ (zQz T) := by
  show Z X _ _ 0 [(2, 1), (0, x1)] [] _ σ _
  refine Z_aload_n 0 dX11_leftOut_0 rfl rfl ?_
  refine Z_aload_n 0 dX11_leftOut_1 rfl rfl ?_
  refine Z_get (T := TX11) (N := 15) (ci := 11) (t := 0) 13 dX11_leftOut_2 la_1 (z_leN la_1 (by decide)) rfl (by decide) inX11 (by decide) (flX11_86 rfl) rfl ?_
  refine Z_iload_n 1 dX11_leftOut_5 rfl rfl ?_
  refine Z_invV (T := TX11) (N := 15) (ci := 11) (M' := mX11_leaveOut) (ρ' := rX11_leaveOut zN) (st := []) [(0, (σ 1 13)), (0, x1)] dX11_leftOut_6 rfl rfl la_1 (z_leN la_1 (by decide)) (by decide) rfl rfl (kX11_leaveOut.cl (Nat.le_of_ble_eq_true rfl) (Nat.le_refl _) (Nat.le_refl _) (Nat.le_of_ble_eq_true rfl) (Nat.le_of_ble_eq_true rfl) (Nat.le_of_ble_eq_true rfl)) (mlX11_211 rfl) iX11_leaveOut sX11_leaveOut h (z_kz (fun r1 σ2 h => ?_))
  refine Z_zif_eq (tgt := 37) dX11_leftOut_9 (by decide) (fun c => ?_) (fun c => ?_)
  · replace h := h.1 c
    refine Z_iconst dX11_leftOut_37 ?_
    exact Z_zreturn dX11_leftOut_38 rfl (Or.inl rfl) rfl ⟨rfl, false, rfl, h⟩
  · replace h := h.2 c
    refine Z_aload_n 0 dX11_leftOut_12 rfl rfl ?_
    refine Z_aload_n 0 dX11_leftOut_13 rfl rfl ?_
    obtain ⟨g3, h⟩ := h
    refine Z_get (T := TX11) (N := 15) (ci := 11) (t := 2) 8 dX11_leftOut_14 la_1 (z_leN la_1 (by decide)) rfl (by decide) inX11 (by decide) (flX11_67 rfl) rfl ?_
    refine Z_top (y := 184) ((Fix.get g3 la_1 8 183 (by decide +kernel)).trans (by clear h; omega)) ?_
    refine Z_get (T := TX3) (N := 2) (ci := 3) (t := 2) 0 dX11_leftOut_17 la_184 (z_leN la_184 (by decide)) rfl (by decide) inX3 (by decide) (flX11_214 rfl) rfl ?_
    refine Z_top (y := 185) ((Fix.get g3 la_184 0 1 (by decide +kernel)).trans (by clear h; omega)) ?_
    refine Z_aload_n 0 dX11_leftOut_20 rfl rfl ?_
    refine Z_get (T := TX11) (N := 15) (ci := 11) (t := 2) 8 dX11_leftOut_21 la_1 (z_leN la_1 (by decide)) rfl (by decide) inX11 (by decide) (flX11_67 rfl) rfl ?_
    refine Z_top (y := 184) ((Fix.get g3 la_1 8 183 (by decide +kernel)).trans (by clear h; omega)) ?_
    refine Z_get (T := TX3) (N := 2) (ci := 3) (t := 2) 1 dX11_leftOut_24 la_184 (z_leN la_184 (by decide)) rfl (by decide) inX3 (by decide) (flX11_217 rfl) rfl ?_
    refine Z_top (y := 187) ((Fix.get g3 la_184 1 3 (by decide +kernel)).trans (by clear h; omega)) ?_
    refine Z_invV (T := TX11) (N := 15) (ci := 11) (M' := mX11_setResult) (ρ' := rX11_setResult zN) (st := []) [(2, 185), (2, 187)] dX11_leftOut_27 rfl rfl la_1 (z_leN la_1 (by decide)) (by decide) rfl rfl (kX11_setResult.cl (Nat.le_of_ble_eq_true rfl) (Nat.le_refl _) (Nat.le_refl _) (Nat.le_of_ble_eq_true rfl) (Nat.le_of_ble_eq_true rfl) (Nat.le_of_ble_eq_true rfl)) (mlX11_194 rfl) iX11_setResult sX11_setResult h (z_kz (fun r4 σ5 h => ?_))
    refine Z_zif_eq (tgt := 37) dX11_leftOut_30 (by decide) (fun c => ?_) (fun c => ?_)
    · replace h := h.1 c
      refine Z_iconst dX11_leftOut_37 ?_
      exact Z_zreturn dX11_leftOut_38 rfl (Or.inl rfl) rfl ⟨rfl, false, rfl, h⟩
    · replace h := h.2 c
      refine Z_iconst dX11_leftOut_33 ?_
      refine Z_goto (tgt := 38) dX11_leftOut_34 (by decide) ?_
      exact Z_zreturn dX11_leftOut_38 rfl (Or.inr rfl) rfl ⟨rfl, true, rfl, h⟩
theorem bk_X11_worst {X : ZS} {σ : ZM} {T : Int → ZM → Prop}  (h : ZC X (rX11_findWorst zN) mX11_findWorst [(2, 1), (0, (σ 1 13))] zN σ (zQi (fun r1 σ2 => T r1 σ2))) : ZC X (rX11_worst zN) mX11_worst [(2, 1)] zN σ (zQi T) := by
  show Z X _ _ 0 [(2, 1)] [] _ σ _
  refine Z_aload_n 0 dX11_worst_0 rfl rfl ?_
  refine Z_aload_n 0 dX11_worst_1 rfl rfl ?_
  refine Z_get (T := TX11) (N := 15) (ci := 11) (t := 0) 13 dX11_worst_2 la_1 (z_leN la_1 (by decide)) rfl (by decide) inX11 (by decide) (flX11_86 rfl) rfl ?_
  refine Z_invV (T := TX11) (N := 15) (ci := 11) (M' := mX11_findWorst) (ρ' := rX11_findWorst zN) (st := []) [(0, (σ 1 13))] dX11_worst_5 rfl rfl la_1 (z_leN la_1 (by decide)) (by decide) rfl rfl (kX11_findWorst.cl (Nat.le_of_ble_eq_true rfl) (Nat.le_refl _) (Nat.le_refl _) (Nat.le_of_ble_eq_true rfl) (Nat.le_of_ble_eq_true rfl) (Nat.le_of_ble_eq_true rfl)) (mlX11_218 rfl) iX11_findWorst sX11_findWorst h (z_ki (fun r1 σ2 h => ?_))
  exact Z_ireturn dX11_worst_8 rfl rfl ⟨rfl, h⟩
theorem bk_X11_best {X : ZS} {σ : ZM} {T : Int → ZM → Prop}  (h : Z X (rX11_best zN) mX11_best 4 [(2, 1), (0, (-1)), (0, 0)] [] zN σ (zQi T)) : ZC X (rX11_best zN) mX11_best [(2, 1)] zN σ (zQi T) := by
  show Z X _ _ 0 [(2, 1), (9, 0), (9, 0)] [] _ σ _
  refine Z_iconst dX11_best_0 ?_
  refine Z_istore_n (L' := [(2, 1), (0, (-1)), (9, 0)]) 1 dX11_best_1 rfl (Nat.le_of_ble_eq_true rfl) rfl ?_
  refine Z_iconst dX11_best_2 ?_
  refine Z_istore_n (L' := [(2, 1), (0, (-1)), (0, 0)]) 2 dX11_best_3 rfl (Nat.le_of_ble_eq_true rfl) rfl ?_
  exact Z_few (z_few_k (z_few_k (z_few_k z_few_0))) h
theorem bk_X11_best_4 {X : ZS} {σ : ZM} {T : Int → ZM → Prop} {x1 : Int} {x2 : Int} (h : (Fix σ) ∧ (r32 x2) ∧ (r32 (σ 6 1)) ∧ (((σ 6 1) ≤ x2) → T x1 σ) ∧ ((¬ ((σ 6 1) ≤ x2)) → ZC X (rX11_findWorst zN) mX11_findWorst [(2, 1), (0, x2)] zN σ (zQi (fun r4 σ5 => (r32 r4) ∧ ((¬ r4 = (-1)) → (r32 x1) ∧ ((x1 = (-1)) → (Fix σ5) ∧ ZC X (rX3_copyFrom zN) mX3_copyFrom [(2, 194), (2, 189)] zN σ5 (zQv (fun σ10 => Z X (rX11_best zN) mX11_best 4 [(2, 1), (0, x2), (0, (x2 + 1))] [] zN σ10 (zQi T)))) ∧ ((¬ x1 = (-1)) → (Fix σ5) ∧ ZC X (rX10_isLarger zN) mX10_isLarger [(2, 169), (2, 194), (2, 189)] zN σ5 (zQz (fun r12 σ13 => ((r12 = false) → Z X (rX11_best zN) mX11_best 4 [(2, 1), (0, x1), (0, (x2 + 1))] [] zN σ13 (zQi T)) ∧ ((r12 = true) → (Fix σ13) ∧ ZC X (rX3_copyFrom zN) mX3_copyFrom [(2, 194), (2, 189)] zN σ13 (zQv (fun σ16 => Z X (rX11_best zN) mX11_best 4 [(2, 1), (0, x2), (0, (x2 + 1))] [] zN σ16 (zQi T)))))))) ∧ ((r4 = (-1)) → Z X (rX11_best zN) mX11_best 4 [(2, 1), (0, x1), (0, (x2 + 1))] [] zN σ5 (zQi T)))))) : Z X (rX11_best zN) mX11_best 4 [(2, 1), (0, x1), (0, x2)] [] zN σ (zQi T) := by
  refine Z_iload_n 2 dX11_best_4 rfl rfl ?_
  refine Z_aload_n 0 dX11_best_5 rfl rfl ?_
  obtain ⟨g1, h⟩ := h
  refine Z_get (T := TX11) (N := 15) (ci := 11) (t := 2) 1 dX11_best_6 la_1 (z_leN la_1 (by decide)) rfl (by decide) inX11 (by decide) (flX11_19 rfl) rfl ?_
  refine Z_top (y := 6) ((Fix.get g1 la_1 1 5 (by decide +kernel)).trans (by clear h; omega)) ?_
  refine Z_get (T := TX5) (N := 2) (ci := 5) (t := 0) 1 dX11_best_9 la_6 (z_leN la_6 (by decide)) rfl (by decide) inX5 (by decide) (flX11_222 rfl) rfl ?_
  obtain ⟨g2, h⟩ := h
  obtain ⟨g3, h⟩ := h
  refine Z_icmp_ge (tgt := 69) dX11_best_12 (by decide) g2 g3 (fun c => ?_) (fun c => ?_)
  · replace h := h.1 c
    refine Z_iload_n 1 dX11_best_69 rfl rfl ?_
    exact Z_ireturn dX11_best_70 rfl rfl ⟨rfl, h⟩
  · replace h := h.2 c
    refine Z_aload_n 0 dX11_best_15 rfl rfl ?_
    refine Z_iload_n 2 dX11_best_16 rfl rfl ?_
    refine Z_invV (T := TX11) (N := 15) (ci := 11) (M' := mX11_findWorst) (ρ' := rX11_findWorst zN) (st := []) [(0, x2)] dX11_best_17 rfl rfl la_1 (z_leN la_1 (by decide)) (by decide) rfl rfl (kX11_findWorst.cl (Nat.le_of_ble_eq_true rfl) (Nat.le_refl _) (Nat.le_refl _) (Nat.le_of_ble_eq_true rfl) (Nat.le_of_ble_eq_true rfl) (Nat.le_of_ble_eq_true rfl)) (mlX11_218 rfl) iX11_findWorst sX11_findWorst h (z_ki (fun r4 σ5 h => ?_))
    refine Z_iconst dX11_best_20 ?_
    obtain ⟨g6, h⟩ := h
    refine Z_icmp_ne (tgt := 27) dX11_best_21 (by decide) g6 ⟨by decide, by decide⟩ (fun c => ?_) (fun c => ?_)
    · replace h := h.1 c
      refine Z_iload_n 1 dX11_best_27 rfl rfl ?_
      refine Z_iconst dX11_best_28 ?_
      obtain ⟨g7, h⟩ := h
      refine Z_icmp_eq (tgt := 50) dX11_best_29 (by decide) g7 ⟨by decide, by decide⟩ (fun c => ?_) (fun c => ?_)
      · replace h := h.1 c
        refine Z_aload_n 0 dX11_best_50 rfl rfl ?_
        obtain ⟨g8, h⟩ := h
        refine Z_get (T := TX11) (N := 15) (ci := 11) (t := 2) 10 dX11_best_51 la_1 (z_leN la_1 (by decide)) rfl (by decide) inX11 (by decide) (flX11_73 rfl) rfl ?_
        refine Z_top (y := 194) ((Fix.get g8 la_1 10 193 (by decide +kernel)).trans (by clear h; omega)) ?_
        refine Z_aload_n 0 dX11_best_54 rfl rfl ?_
        refine Z_get (T := TX11) (N := 15) (ci := 11) (t := 2) 9 dX11_best_55 la_1 (z_leN la_1 (by decide)) rfl (by decide) inX11 (by decide) (flX11_70 rfl) rfl ?_
        refine Z_top (y := 189) ((Fix.get g8 la_1 9 188 (by decide +kernel)).trans (by clear h; omega)) ?_
        refine Z_invV (T := TX3) (N := 2) (ci := 3) (M' := mX3_copyFrom) (ρ' := rX3_copyFrom zN) (st := []) [(2, 189)] dX11_best_58 rfl rfl la_194 (z_leN la_194 (by decide)) (by decide) rfl rfl (kX3_copyFrom.cl (Nat.le_of_ble_eq_true rfl) (Nat.le_refl _) (Nat.le_refl _) (Nat.le_of_ble_eq_true rfl) (Nat.le_of_ble_eq_true rfl) (Nat.le_of_ble_eq_true rfl)) (mlX11_227 rfl) iX3_copyFrom sX3_copyFrom h (z_kv (fun σ10 h => ?_))
        refine Z_iload_n 2 dX11_best_61 rfl rfl ?_
        refine Z_istore_n (L' := [(2, 1), (0, x2), (0, x2)]) 1 dX11_best_62 rfl (Nat.le_of_ble_eq_true rfl) rfl ?_
        refine Z_iinc (L' := [(2, 1), (0, x2), (0, (x2 + 1))]) dX11_best_63 rfl (Nat.le_of_ble_eq_true rfl) rfl ?_
        refine Z_goto (tgt := 4) dX11_best_66 (by decide) ?_
        exact Z_few (z_few_k (z_few_k (z_few_k z_few_0))) h
      · replace h := h.2 c
        refine Z_aload_n 0 dX11_best_32 rfl rfl ?_
        obtain ⟨g11, h⟩ := h
        refine Z_get (T := TX11) (N := 15) (ci := 11) (t := 2) 6 dX11_best_33 la_1 (z_leN la_1 (by decide)) rfl (by decide) inX11 (by decide) (flX11_56 rfl) rfl ?_
        refine Z_top (y := 169) ((Fix.get g11 la_1 6 168 (by decide +kernel)).trans (by clear h; omega)) ?_
        refine Z_aload_n 0 dX11_best_36 rfl rfl ?_
        refine Z_get (T := TX11) (N := 15) (ci := 11) (t := 2) 10 dX11_best_37 la_1 (z_leN la_1 (by decide)) rfl (by decide) inX11 (by decide) (flX11_73 rfl) rfl ?_
        refine Z_top (y := 194) ((Fix.get g11 la_1 10 193 (by decide +kernel)).trans (by clear h; omega)) ?_
        refine Z_aload_n 0 dX11_best_40 rfl rfl ?_
        refine Z_get (T := TX11) (N := 15) (ci := 11) (t := 2) 9 dX11_best_41 la_1 (z_leN la_1 (by decide)) rfl (by decide) inX11 (by decide) (flX11_70 rfl) rfl ?_
        refine Z_top (y := 189) ((Fix.get g11 la_1 9 188 (by decide +kernel)).trans (by clear h; omega)) ?_
        refine Z_invV (T := TX10) (N := 4) (ci := 10) (M' := mX10_isLarger) (ρ' := rX10_isLarger zN) (st := []) [(2, 194), (2, 189)] dX11_best_44 rfl rfl la_169 (z_leN la_169 (by decide)) (by decide) rfl rfl (kX10_isLarger.cl (Nat.le_of_ble_eq_true rfl) (Nat.le_refl _) (Nat.le_refl _) (Nat.le_of_ble_eq_true rfl) (Nat.le_of_ble_eq_true rfl) (Nat.le_of_ble_eq_true rfl)) (mlX11_223 rfl) iX10_isLarger sX10_isLarger h (z_kz (fun r12 σ13 h => ?_))
        refine Z_zif_eq (tgt := 63) dX11_best_47 (by decide) (fun c => ?_) (fun c => ?_)
        · replace h := h.1 c
          refine Z_iinc (L' := [(2, 1), (0, x1), (0, (x2 + 1))]) dX11_best_63 rfl (Nat.le_of_ble_eq_true rfl) rfl ?_
          refine Z_goto (tgt := 4) dX11_best_66 (by decide) ?_
          exact Z_few (z_few_k (z_few_k (z_few_k z_few_0))) h
        · replace h := h.2 c
          refine Z_aload_n 0 dX11_best_50 rfl rfl ?_
          obtain ⟨g14, h⟩ := h
          refine Z_get (T := TX11) (N := 15) (ci := 11) (t := 2) 10 dX11_best_51 la_1 (z_leN la_1 (by decide)) rfl (by decide) inX11 (by decide) (flX11_73 rfl) rfl ?_
          refine Z_top (y := 194) ((Fix.get g14 la_1 10 193 (by decide +kernel)).trans (by clear h; omega)) ?_
          refine Z_aload_n 0 dX11_best_54 rfl rfl ?_
          refine Z_get (T := TX11) (N := 15) (ci := 11) (t := 2) 9 dX11_best_55 la_1 (z_leN la_1 (by decide)) rfl (by decide) inX11 (by decide) (flX11_70 rfl) rfl ?_
          refine Z_top (y := 189) ((Fix.get g14 la_1 9 188 (by decide +kernel)).trans (by clear h; omega)) ?_
          refine Z_invV (T := TX3) (N := 2) (ci := 3) (M' := mX3_copyFrom) (ρ' := rX3_copyFrom zN) (st := []) [(2, 189)] dX11_best_58 rfl rfl la_194 (z_leN la_194 (by decide)) (by decide) rfl rfl (kX3_copyFrom.cl (Nat.le_of_ble_eq_true rfl) (Nat.le_refl _) (Nat.le_refl _) (Nat.le_of_ble_eq_true rfl) (Nat.le_of_ble_eq_true rfl) (Nat.le_of_ble_eq_true rfl)) (mlX11_227 rfl) iX3_copyFrom sX3_copyFrom h (z_kv (fun σ16 h => ?_))
          refine Z_iload_n 2 dX11_best_61 rfl rfl ?_
          refine Z_istore_n (L' := [(2, 1), (0, x2), (0, x2)]) 1 dX11_best_62 rfl (Nat.le_of_ble_eq_true rfl) rfl ?_
          refine Z_iinc (L' := [(2, 1), (0, x2), (0, (x2 + 1))]) dX11_best_63 rfl (Nat.le_of_ble_eq_true rfl) rfl ?_
          refine Z_goto (tgt := 4) dX11_best_66 (by decide) ?_
          exact Z_few (z_few_k (z_few_k (z_few_k z_few_0))) h
    · replace h := h.2 c
      refine Z_goto (tgt := 63) dX11_best_24 (by decide) ?_
      refine Z_iinc (L' := [(2, 1), (0, x1), (0, (x2 + 1))]) dX11_best_63 rfl (Nat.le_of_ble_eq_true rfl) rfl ?_
      refine Z_goto (tgt := 4) dX11_best_66 (by decide) ?_
      exact Z_few (z_few_k (z_few_k (z_few_k z_few_0))) h
theorem bk_X11_allowed {X : ZS} {σ : ZM} {T : Int → ZM → Prop} {x1 : Int} (h : (Fix σ) ∧ ZC X (rX5_has zN) mX5_has [(2, 6), (0, x1)] zN σ (zQz (fun r2 σ3 => ((r2 = true) → (Fix σ3) ∧ (z_l (σ3 1 11) = (7, 3)) ∧ ZC X (rX2_chooseAllBut zN) mX2_chooseAllBut [(2, 11), (0, (-1)), (0, (σ3 ((σ3 1 11) + 1) 2))] zN σ3 (zQv (fun σ7 => (Fix σ7) ∧ ZC X (rX2_measure zN) mX2_measure [(2, 11), (2, (σ7 1 11)), (2, 6), (0, x1), (0, 0)] zN σ7 (zQv (fun σ10 => (Fix σ10) ∧ ZC X (rX2_fillSquare zN) mX2_fillSquare [(2, 11), (2, 16)] zN σ10 (zQv (fun σ13 => (Fix σ13) ∧ ZC X (rX2_unknowns zN) mX2_unknowns [(2, 11)] zN σ13 (zQi (fun r15 σ16 => ZC X (rX4_judge zN) mX4_judge [(2, 16), (0, r15)] zN σ16 (zQi (fun r17 σ18 => T r17 σ18))))))))))) ∧ ((r2 = false) → T (-1) σ3)))) : ZC X (rX11_allowed zN) mX11_allowed [(2, 1), (0, x1)] zN σ (zQi T) := by
  show Z X _ _ 0 [(2, 1), (0, x1)] [] _ σ _
  refine Z_aload_n 0 dX11_allowed_0 rfl rfl ?_
  obtain ⟨g1, h⟩ := h
  refine Z_get (T := TX11) (N := 15) (ci := 11) (t := 2) 1 dX11_allowed_1 la_1 (z_leN la_1 (by decide)) rfl (by decide) inX11 (by decide) (flX11_19 rfl) rfl ?_
  refine Z_top (y := 6) ((Fix.get g1 la_1 1 5 (by decide +kernel)).trans (by clear h; omega)) ?_
  refine Z_iload_n 1 dX11_allowed_4 rfl rfl ?_
  refine Z_invV (T := TX5) (N := 2) (ci := 5) (M' := mX5_has) (ρ' := rX5_has zN) (st := []) [(0, x1)] dX11_allowed_5 rfl rfl la_6 (z_leN la_6 (by decide)) (by decide) rfl rfl (kX5_has.cl (Nat.le_of_ble_eq_true rfl) (Nat.le_refl _) (Nat.le_refl _) (Nat.le_of_ble_eq_true rfl) (Nat.le_of_ble_eq_true rfl) (Nat.le_of_ble_eq_true rfl)) (mlX11_165 rfl) iX5_has sX5_has h (z_kz (fun r2 σ3 h => ?_))
  refine Z_zif_ne (tgt := 13) dX11_allowed_8 (by decide) (fun c => ?_) (fun c => ?_)
  · replace h := h.1 c
    refine Z_aload_n 0 dX11_allowed_13 rfl rfl ?_
    obtain ⟨g4, h⟩ := h
    refine Z_get (T := TX11) (N := 15) (ci := 11) (t := 2) 3 dX11_allowed_14 la_1 (z_leN la_1 (by decide)) rfl (by decide) inX11 (by decide) (flX11_35 rfl) rfl ?_
    refine Z_top (y := 11) ((Fix.get g4 la_1 3 10 (by decide +kernel)).trans (by clear h; omega)) ?_
    refine Z_iconst dX11_allowed_17 ?_
    refine Z_aload_n 0 dX11_allowed_18 rfl rfl ?_
    refine Z_get (T := TX11) (N := 15) (ci := 11) (t := 2) 11 dX11_allowed_19 la_1 (z_leN la_1 (by decide)) rfl (by decide) inX11 (by decide) (flX11_79 rfl) rfl ?_
    obtain ⟨g5, h⟩ := h
    refine Z_get (T := TX7) (N := 3) (ci := 7) (t := 2) 0 dX11_allowed_22 g5 (z_leN g5 (by decide)) rfl (by decide) inX7 (by decide) (flX11_125 rfl) rfl ?_
    refine Z_top (y := ((σ3 1 11) + 1)) (Fix.get g4 g5 0 1 (by decide +kernel)) ?_
    refine Z_get (T := TX6) (N := 3) (ci := 6) (t := 0) 2 dX11_allowed_25 (zo_7_0 g5) (z_leN (zo_7_0 g5) (by decide)) rfl (by decide) inX6 (by decide) (flX11_128 rfl) rfl ?_
    refine Z_invV (T := TX2) (N := 6) (ci := 2) (M' := mX2_chooseAllBut) (ρ' := rX2_chooseAllBut zN) (st := []) [(0, (-1)), (0, (σ3 ((σ3 1 11) + 1) 2))] dX11_allowed_28 rfl rfl la_11 (z_leN la_11 (by decide)) (by decide) rfl rfl (kX2_chooseAllBut.cl (Nat.le_of_ble_eq_true rfl) (Nat.le_refl _) (Nat.le_refl _) (Nat.le_of_ble_eq_true rfl) (Nat.le_of_ble_eq_true rfl) (Nat.le_of_ble_eq_true rfl)) (mlX11_231 rfl) iX2_chooseAllBut sX2_chooseAllBut h (z_kv (fun σ7 h => ?_))
    refine Z_aload_n 0 dX11_allowed_31 rfl rfl ?_
    obtain ⟨g8, h⟩ := h
    refine Z_get (T := TX11) (N := 15) (ci := 11) (t := 2) 3 dX11_allowed_32 la_1 (z_leN la_1 (by decide)) rfl (by decide) inX11 (by decide) (flX11_35 rfl) rfl ?_
    refine Z_top (y := 11) ((Fix.get g8 la_1 3 10 (by decide +kernel)).trans (by clear h; omega)) ?_
    refine Z_aload_n 0 dX11_allowed_35 rfl rfl ?_
    refine Z_get (T := TX11) (N := 15) (ci := 11) (t := 2) 11 dX11_allowed_36 la_1 (z_leN la_1 (by decide)) rfl (by decide) inX11 (by decide) (flX11_79 rfl) rfl ?_
    refine Z_aload_n 0 dX11_allowed_39 rfl rfl ?_
    refine Z_get (T := TX11) (N := 15) (ci := 11) (t := 2) 1 dX11_allowed_40 la_1 (z_leN la_1 (by decide)) rfl (by decide) inX11 (by decide) (flX11_19 rfl) rfl ?_
    refine Z_top (y := 6) ((Fix.get g8 la_1 1 5 (by decide +kernel)).trans (by clear h; omega)) ?_
    refine Z_iload_n 1 dX11_allowed_43 rfl rfl ?_
    refine Z_iconst dX11_allowed_44 ?_
    refine Z_invV (T := TX2) (N := 6) (ci := 2) (M' := mX2_measure) (ρ' := rX2_measure zN) (st := []) [(2, (σ7 1 11)), (2, 6), (0, x1), (0, 0)] dX11_allowed_45 rfl rfl la_11 (z_leN la_11 (by decide)) (by decide) rfl rfl (kX2_measure.cl (Nat.le_of_ble_eq_true rfl) (Nat.le_refl _) (Nat.le_refl _) (Nat.le_of_ble_eq_true rfl) (Nat.le_of_ble_eq_true rfl) (Nat.le_of_ble_eq_true rfl)) (mlX11_234 rfl) iX2_measure sX2_measure h (z_kv (fun σ10 h => ?_))
    refine Z_aload_n 0 dX11_allowed_48 rfl rfl ?_
    obtain ⟨g11, h⟩ := h
    refine Z_get (T := TX11) (N := 15) (ci := 11) (t := 2) 3 dX11_allowed_49 la_1 (z_leN la_1 (by decide)) rfl (by decide) inX11 (by decide) (flX11_35 rfl) rfl ?_
    refine Z_top (y := 11) ((Fix.get g11 la_1 3 10 (by decide +kernel)).trans (by clear h; omega)) ?_
    refine Z_aload_n 0 dX11_allowed_52 rfl rfl ?_
    refine Z_get (T := TX11) (N := 15) (ci := 11) (t := 2) 4 dX11_allowed_53 la_1 (z_leN la_1 (by decide)) rfl (by decide) inX11 (by decide) (flX11_42 rfl) rfl ?_
    refine Z_top (y := 16) ((Fix.get g11 la_1 4 15 (by decide +kernel)).trans (by clear h; omega)) ?_
    refine Z_invV (T := TX2) (N := 6) (ci := 2) (M' := mX2_fillSquare) (ρ' := rX2_fillSquare zN) (st := []) [(2, 16)] dX11_allowed_56 rfl rfl la_11 (z_leN la_11 (by decide)) (by decide) rfl rfl (kX2_fillSquare.cl (Nat.le_of_ble_eq_true rfl) (Nat.le_refl _) (Nat.le_refl _) (Nat.le_of_ble_eq_true rfl) (Nat.le_of_ble_eq_true rfl) (Nat.le_of_ble_eq_true rfl)) (mlX11_238 rfl) iX2_fillSquare sX2_fillSquare h (z_kv (fun σ13 h => ?_))
    refine Z_aload_n 0 dX11_allowed_59 rfl rfl ?_
    obtain ⟨g14, h⟩ := h
    refine Z_get (T := TX11) (N := 15) (ci := 11) (t := 2) 4 dX11_allowed_60 la_1 (z_leN la_1 (by decide)) rfl (by decide) inX11 (by decide) (flX11_42 rfl) rfl ?_
    refine Z_top (y := 16) ((Fix.get g14 la_1 4 15 (by decide +kernel)).trans (by clear h; omega)) ?_
    refine Z_aload_n 0 dX11_allowed_63 rfl rfl ?_
    refine Z_get (T := TX11) (N := 15) (ci := 11) (t := 2) 3 dX11_allowed_64 la_1 (z_leN la_1 (by decide)) rfl (by decide) inX11 (by decide) (flX11_35 rfl) rfl ?_
    refine Z_top (y := 11) ((Fix.get g14 la_1 3 10 (by decide +kernel)).trans (by clear h; omega)) ?_
    refine Z_invV (T := TX2) (N := 6) (ci := 2) (M' := mX2_unknowns) (ρ' := rX2_unknowns zN) (st := [(2, 16)]) [] dX11_allowed_67 rfl rfl la_11 (z_leN la_11 (by decide)) (by decide) rfl rfl (kX2_unknowns.cl (Nat.le_of_ble_eq_true rfl) (Nat.le_refl _) (Nat.le_refl _) (Nat.le_of_ble_eq_true rfl) (Nat.le_of_ble_eq_true rfl) (Nat.le_of_ble_eq_true rfl)) (mlX11_242 rfl) iX2_unknowns sX2_unknowns h (z_ki (fun r15 σ16 h => ?_))
    refine Z_invV (T := TX4) (N := 6) (ci := 4) (M' := mX4_judge) (ρ' := rX4_judge zN) (st := []) [(0, r15)] dX11_allowed_70 rfl rfl la_16 (z_leN la_16 (by decide)) (by decide) rfl rfl (kX4_judge.cl (Nat.le_of_ble_eq_true rfl) (Nat.le_refl _) (Nat.le_refl _) (Nat.le_of_ble_eq_true rfl) (Nat.le_of_ble_eq_true rfl) (Nat.le_of_ble_eq_true rfl)) (mlX11_245 rfl) iX4_judge sX4_judge h (z_ki (fun r17 σ18 h => ?_))
    exact Z_ireturn dX11_allowed_73 rfl rfl ⟨rfl, h⟩
  · replace h := h.2 c
    refine Z_iconst dX11_allowed_11 ?_
    exact Z_ireturn dX11_allowed_12 rfl rfl ⟨rfl, h⟩
theorem bk_X11_pairs {X : ZS} {σ : ZM} {T : Int → ZM → Prop} {x1 : Int} {x2 : Int} (h : Z X (rX11_pairs zN) mX11_pairs 5 [(2, 1), (0, x1), (0, x2), (0, 0), (0, 0), (9, 0)] [] zN σ (zQi T)) : ZC X (rX11_pairs zN) mX11_pairs [(2, 1), (0, x1), (0, x2)] zN σ (zQi T) := by
  show Z X _ _ 0 [(2, 1), (0, x1), (0, x2), (9, 0), (9, 0), (9, 0)] [] _ σ _
  refine Z_iconst dX11_pairs_0 ?_
  refine Z_istore_n (L' := [(2, 1), (0, x1), (0, x2), (0, 0), (9, 0), (9, 0)]) 3 dX11_pairs_1 rfl (Nat.le_of_ble_eq_true rfl) rfl ?_
  refine Z_iconst dX11_pairs_2 ?_
  refine Z_istore (L' := [(2, 1), (0, x1), (0, x2), (0, 0), (0, 0), (9, 0)]) dX11_pairs_3 (Nat.le_of_ble_eq_true rfl) rfl ?_
  exact Z_few (z_few_k (z_few_k (z_few_k (z_few_k (z_few_k (z_few_k z_few_0)))))) h
theorem bk_X11_pairs_5 {X : ZS} {σ : ZM} {T : Int → ZM → Prop} {x1 : Int} {x2 : Int} {x3 : Int} {x4 : Int} (h : (z_l (σ 1 11) = (7, 3)) ∧ (Fix σ) ∧ (r32 x4) ∧ (r32 (σ ((σ 1 11) + 1) 2)) ∧ (((σ ((σ 1 11) + 1) 2) ≤ x4) → T x3 σ) ∧ ((¬ ((σ ((σ 1 11) + 1) 2) ≤ x4)) → Z X (rX11_pairs zN) mX11_pairs 23 [(2, 1), (0, x1), (0, x2), (0, x3), (0, x4), (0, 0)] [] zN σ (zQi T))) : Z X (rX11_pairs zN) mX11_pairs 5 [(2, 1), (0, x1), (0, x2), (0, x3), (0, x4), (9, 0)] [] zN σ (zQi T) := by
  refine Z_iload dX11_pairs_5 rfl ?_
  refine Z_aload_n 0 dX11_pairs_7 rfl rfl ?_
  refine Z_get (T := TX11) (N := 15) (ci := 11) (t := 2) 11 dX11_pairs_8 la_1 (z_leN la_1 (by decide)) rfl (by decide) inX11 (by decide) (flX11_79 rfl) rfl ?_
  obtain ⟨g1, h⟩ := h
  obtain ⟨g2, h⟩ := h
  refine Z_get (T := TX7) (N := 3) (ci := 7) (t := 2) 0 dX11_pairs_11 g1 (z_leN g1 (by decide)) rfl (by decide) inX7 (by decide) (flX11_125 rfl) rfl ?_
  refine Z_top (y := ((σ 1 11) + 1)) (Fix.get g2 g1 0 1 (by decide +kernel)) ?_
  refine Z_get (T := TX6) (N := 3) (ci := 6) (t := 0) 2 dX11_pairs_14 (zo_7_0 g1) (z_leN (zo_7_0 g1) (by decide)) rfl (by decide) inX6 (by decide) (flX11_128 rfl) rfl ?_
  obtain ⟨g3, h⟩ := h
  obtain ⟨g4, h⟩ := h
  refine Z_icmp_ge (tgt := 67) dX11_pairs_17 (by decide) g3 g4 (fun c => ?_) (fun c => ?_)
  · replace h := h.1 c
    refine Z_iload_n 3 dX11_pairs_67 rfl rfl ?_
    exact Z_ireturn dX11_pairs_68 rfl rfl ⟨rfl, h⟩
  · replace h := h.2 c
    refine Z_iconst dX11_pairs_20 ?_
    refine Z_istore (L' := [(2, 1), (0, x1), (0, x2), (0, x3), (0, x4), (0, 0)]) dX11_pairs_21 (Nat.le_of_ble_eq_true rfl) rfl ?_
    exact Z_few (z_few_k (z_few_k (z_few_k (z_few_k (z_few_k (z_few_k z_few_0)))))) h
theorem bk_X11_pairs_23 {X : ZS} {σ : ZM} {T : Int → ZM → Prop} {x1 : Int} {x2 : Int} {x3 : Int} {x4 : Int} {x5 : Int} (h : (r32 x5) ∧ (r32 x4) ∧ ((x4 ≤ x5) → Z X (rX11_pairs zN) mX11_pairs 5 [(2, 1), (0, x1), (0, x2), (0, x3), (0, (x4 + 1)), (9, 0)] [] zN σ (zQi T)) ∧ ((¬ (x4 ≤ x5)) → (z_l (σ 1 11) = (7, 3)) ∧ (Fix σ) ∧ ZC X (rX6_way zN) mX6_way [(2, ((σ 1 11) + 1)), (0, x4), (0, x5)] zN σ (zQi (fun r5 σ6 => ZC X (rX11_isWithin zN) mX11_isWithin [(0, r5), (0, x1), (0, x2)] zN σ6 (zQz (fun r7 σ8 => ((r7 = false) → Z X (rX11_pairs zN) mX11_pairs 23 [(2, 1), (0, x1), (0, x2), (0, x3), (0, x4), (0, (x5 + 1))] [] zN σ8 (zQi T)) ∧ ((r7 = true) → Z X (rX11_pairs zN) mX11_pairs 23 [(2, 1), (0, x1), (0, x2), (0, (x3 + 1)), (0, x4), (0, (x5 + 1))] [] zN σ8 (zQi T)))))))) : Z X (rX11_pairs zN) mX11_pairs 23 [(2, 1), (0, x1), (0, x2), (0, x3), (0, x4), (0, x5)] [] zN σ (zQi T) := by
  refine Z_iload dX11_pairs_23 rfl ?_
  refine Z_iload dX11_pairs_25 rfl ?_
  obtain ⟨g1, h⟩ := h
  obtain ⟨g2, h⟩ := h
  refine Z_icmp_ge (tgt := 61) dX11_pairs_27 (by decide) g1 g2 (fun c => ?_) (fun c => ?_)
  · replace h := h.1 c
    refine Z_iinc (L' := [(2, 1), (0, x1), (0, x2), (0, x3), (0, (x4 + 1)), (0, x5)]) dX11_pairs_61 rfl (Nat.le_of_ble_eq_true rfl) rfl ?_
    refine Z_goto (tgt := 5) dX11_pairs_64 (by decide) ?_
    exact Z_few (z_few_k (z_few_k (z_few_k (z_few_k (z_few_k (z_few_d z_few_0)))))) h
  · replace h := h.2 c
    refine Z_aload_n 0 dX11_pairs_30 rfl rfl ?_
    refine Z_get (T := TX11) (N := 15) (ci := 11) (t := 2) 11 dX11_pairs_31 la_1 (z_leN la_1 (by decide)) rfl (by decide) inX11 (by decide) (flX11_79 rfl) rfl ?_
    obtain ⟨g3, h⟩ := h
    obtain ⟨g4, h⟩ := h
    refine Z_get (T := TX7) (N := 3) (ci := 7) (t := 2) 0 dX11_pairs_34 g3 (z_leN g3 (by decide)) rfl (by decide) inX7 (by decide) (flX11_125 rfl) rfl ?_
    refine Z_top (y := ((σ 1 11) + 1)) (Fix.get g4 g3 0 1 (by decide +kernel)) ?_
    refine Z_iload dX11_pairs_37 rfl ?_
    refine Z_iload dX11_pairs_39 rfl ?_
    refine Z_invV (T := TX6) (N := 3) (ci := 6) (M' := mX6_way) (ρ' := rX6_way zN) (st := []) [(0, x4), (0, x5)] dX11_pairs_41 rfl rfl (zo_7_0 g3) (z_leN (zo_7_0 g3) (by decide)) (by decide) rfl rfl (kX6_way.cl (Nat.le_of_ble_eq_true rfl) (Nat.le_refl _) (Nat.le_refl _) (Nat.le_of_ble_eq_true rfl) (Nat.le_of_ble_eq_true rfl) (Nat.le_of_ble_eq_true rfl)) (mlX11_248 rfl) iX6_way sX6_way h (z_ki (fun r5 σ6 h => ?_))
    refine Z_iload_n 1 dX11_pairs_44 rfl rfl ?_
    refine Z_iload_n 2 dX11_pairs_45 rfl rfl ?_
    refine Z_invS (M' := mX11_isWithin) (ρ' := rX11_isWithin zN) (st := []) [(0, r5), (0, x1), (0, x2)] dX11_pairs_46 rfl rfl (kX11_isWithin.cl (Nat.le_of_ble_eq_true rfl) (Nat.le_refl _) (Nat.le_refl _) (Nat.le_of_ble_eq_true rfl) (Nat.le_of_ble_eq_true rfl) (Nat.le_of_ble_eq_true rfl)) (mlX11_135 rfl) sX11_isWithin h (z_kz (fun r7 σ8 h => ?_))
    refine Z_zif_eq (tgt := 55) dX11_pairs_49 (by decide) (fun c => ?_) (fun c => ?_)
    · replace h := h.1 c
      refine Z_iinc (L' := [(2, 1), (0, x1), (0, x2), (0, x3), (0, x4), (0, (x5 + 1))]) dX11_pairs_55 rfl (Nat.le_of_ble_eq_true rfl) rfl ?_
      refine Z_goto (tgt := 23) dX11_pairs_58 (by decide) ?_
      exact Z_few (z_few_k (z_few_k (z_few_k (z_few_k (z_few_k (z_few_k z_few_0)))))) h
    · replace h := h.2 c
      refine Z_iinc (L' := [(2, 1), (0, x1), (0, x2), (0, (x3 + 1)), (0, x4), (0, x5)]) dX11_pairs_52 rfl (Nat.le_of_ble_eq_true rfl) rfl ?_
      refine Z_iinc (L' := [(2, 1), (0, x1), (0, x2), (0, (x3 + 1)), (0, x4), (0, (x5 + 1))]) dX11_pairs_55 rfl (Nat.le_of_ble_eq_true rfl) rfl ?_
      refine Z_goto (tgt := 23) dX11_pairs_58 (by decide) ?_
      exact Z_few (z_few_k (z_few_k (z_few_k (z_few_k (z_few_k (z_few_k z_few_0)))))) h
theorem bk_X11_band {X : ZS} {σ : ZM} {T : Bool → ZM → Prop} {x1 : Int} {x2 : Int} (h : ZC X (rX11_pairs zN) mX11_pairs [(2, 1), (0, x1), (0, x2)] zN σ (zQi (fun r1 σ2 => (r32 r1) ∧ ((¬ r1 = 0) → Z X (rX11_band zN) mX11_band 19 [(2, 1), (0, x1), (0, x2), (0, r1), (1, 0), (9, 0), (0, 0), (9, 0), (9, 0), (9, 0)] [] zN σ2 (zQz T)) ∧ ((r1 = 0) → T false σ2)))) : ZC X (rX11_band zN) mX11_band [(2, 1), (0, x1), (0, x2)] zN σ (zQz T) := by
  show Z X _ _ 0 [(2, 1), (0, x1), (0, x2), (9, 0), (9, 0), (9, 0), (9, 0), (9, 0), (9, 0), (9, 0)] [] _ σ _
  refine Z_aload_n 0 dX11_band_0 rfl rfl ?_
  refine Z_iload_n 1 dX11_band_1 rfl rfl ?_
  refine Z_iload_n 2 dX11_band_2 rfl rfl ?_
  refine Z_invV (T := TX11) (N := 15) (ci := 11) (M' := mX11_pairs) (ρ' := rX11_pairs zN) (st := []) [(0, x1), (0, x2)] dX11_band_3 rfl rfl la_1 (z_leN la_1 (by decide)) (by decide) rfl rfl (kX11_pairs.cl (Nat.le_of_ble_eq_true rfl) (Nat.le_refl _) (Nat.le_refl _) (Nat.le_of_ble_eq_true rfl) (Nat.le_of_ble_eq_true rfl) (Nat.le_of_ble_eq_true rfl)) (mlX11_251 rfl) iX11_pairs sX11_pairs h (z_ki (fun r1 σ2 h => ?_))
  refine Z_istore_n (L' := [(2, 1), (0, x1), (0, x2), (0, r1), (9, 0), (9, 0), (9, 0), (9, 0), (9, 0), (9, 0)]) 3 dX11_band_6 rfl (Nat.le_of_ble_eq_true rfl) rfl ?_
  refine Z_iload_n 3 dX11_band_7 rfl rfl ?_
  obtain ⟨g3, h⟩ := h
  refine Z_if_ne (tgt := 13) dX11_band_8 (by decide) g3 (fun c => ?_) (fun c => ?_)
  · replace h := h.1 c
    refine Z_lconst (x := 0) dX11_band_13 rfl ?_
    refine Z_lstore (L' := [(2, 1), (0, x1), (0, x2), (0, r1), (1, 0), (9, 0), (9, 0), (9, 0), (9, 0), (9, 0)]) dX11_band_14 (Nat.le_of_ble_eq_true rfl) rfl ?_
    refine Z_iconst dX11_band_16 ?_
    refine Z_istore (L' := [(2, 1), (0, x1), (0, x2), (0, r1), (1, 0), (9, 0), (0, 0), (9, 0), (9, 0), (9, 0)]) dX11_band_17 (Nat.le_of_ble_eq_true rfl) rfl ?_
    exact Z_few (z_few_k (z_few_k (z_few_k (z_few_k (z_few_k (z_few_k (z_few_k (z_few_k (z_few_k (z_few_k z_few_0)))))))))) h
  · replace h := h.2 c
    refine Z_iconst dX11_band_11 ?_
    exact Z_zreturn dX11_band_12 rfl (Or.inl rfl) rfl ⟨rfl, false, rfl, h⟩
theorem bk_X11_band_19 {X : ZS} {σ : ZM} {T : Bool → ZM → Prop} {x1 : Int} {x2 : Int} {x3 : Int} {x4 : Int} {x6 : Int} (h : (z_l (σ 1 11) = (7, 3)) ∧ (Fix σ) ∧ (r32 x6) ∧ (r32 (σ ((σ 1 11) + 1) 2)) ∧ (((σ ((σ 1 11) + 1) 2) ≤ x6) → ZC X (rX9_put zN) mX9_put [(2, 185), (1, x4)] zN σ (zQv (fun σ6 => (Fix σ6) ∧ (r32 x3) ∧ ZC X (rX9_put zN) mX9_put [(2, 187), (1, (2 * x3))] zN σ6 (zQv (fun σ10 => (Fix σ10) ∧ ZC X (rX11_setResult zN) mX11_setResult [(2, 1), (2, 185), (2, 187)] zN σ10 (zQz (fun r12 σ13 => T r12 σ13))))))) ∧ ((¬ ((σ ((σ 1 11) + 1) 2) ≤ x6)) → Z X (rX11_band zN) mX11_band 37 [(2, 1), (0, x1), (0, x2), (0, x3), (1, x4), (9, 0), (0, x6), (0, 0), (9, 0), (9, 0)] [] zN σ (zQz T))) : Z X (rX11_band zN) mX11_band 19 [(2, 1), (0, x1), (0, x2), (0, x3), (1, x4), (9, 0), (0, x6), (9, 0), (9, 0), (9, 0)] [] zN σ (zQz T) := by
  refine Z_iload dX11_band_19 rfl ?_
  refine Z_aload_n 0 dX11_band_21 rfl rfl ?_
  refine Z_get (T := TX11) (N := 15) (ci := 11) (t := 2) 11 dX11_band_22 la_1 (z_leN la_1 (by decide)) rfl (by decide) inX11 (by decide) (flX11_79 rfl) rfl ?_
  obtain ⟨g1, h⟩ := h
  obtain ⟨g2, h⟩ := h
  refine Z_get (T := TX7) (N := 3) (ci := 7) (t := 2) 0 dX11_band_25 g1 (z_leN g1 (by decide)) rfl (by decide) inX7 (by decide) (flX11_125 rfl) rfl ?_
  refine Z_top (y := ((σ 1 11) + 1)) (Fix.get g2 g1 0 1 (by decide +kernel)) ?_
  refine Z_get (T := TX6) (N := 3) (ci := 6) (t := 0) 2 dX11_band_28 (zo_7_0 g1) (z_leN (zo_7_0 g1) (by decide)) rfl (by decide) inX6 (by decide) (flX11_128 rfl) rfl ?_
  obtain ⟨g3, h⟩ := h
  obtain ⟨g4, h⟩ := h
  refine Z_icmp_ge (tgt := 112) dX11_band_31 (by decide) g3 g4 (fun c => ?_) (fun c => ?_)
  · replace h := h.1 c
    refine Z_aload_n 0 dX11_band_112 rfl rfl ?_
    refine Z_get (T := TX11) (N := 15) (ci := 11) (t := 2) 8 dX11_band_113 la_1 (z_leN la_1 (by decide)) rfl (by decide) inX11 (by decide) (flX11_67 rfl) rfl ?_
    refine Z_top (y := 184) ((Fix.get g2 la_1 8 183 (by decide +kernel)).trans (by clear h; omega)) ?_
    refine Z_get (T := TX3) (N := 2) (ci := 3) (t := 2) 0 dX11_band_116 la_184 (z_leN la_184 (by decide)) rfl (by decide) inX3 (by decide) (flX11_214 rfl) rfl ?_
    refine Z_top (y := 185) ((Fix.get g2 la_184 0 1 (by decide +kernel)).trans (by clear h; omega)) ?_
    refine Z_lload dX11_band_119 rfl ?_
    refine Z_invV (T := TX9) (N := 3) (ci := 9) (M' := mX9_put) (ρ' := rX9_put zN) (st := []) [(1, x4)] dX11_band_121 rfl rfl la_185 (z_leN la_185 (by decide)) (by decide) rfl rfl (kX9_put.cl (Nat.le_of_ble_eq_true rfl) (Nat.le_refl _) (Nat.le_refl _) (Nat.le_of_ble_eq_true rfl) (Nat.le_of_ble_eq_true rfl) (Nat.le_of_ble_eq_true rfl)) (mlX11_258 rfl) iX9_put sX9_put h (z_kv (fun σ6 h => ?_))
    refine Z_aload_n 0 dX11_band_124 rfl rfl ?_
    obtain ⟨g7, h⟩ := h
    refine Z_get (T := TX11) (N := 15) (ci := 11) (t := 2) 8 dX11_band_125 la_1 (z_leN la_1 (by decide)) rfl (by decide) inX11 (by decide) (flX11_67 rfl) rfl ?_
    refine Z_top (y := 184) ((Fix.get g7 la_1 8 183 (by decide +kernel)).trans (by clear h; omega)) ?_
    refine Z_get (T := TX3) (N := 2) (ci := 3) (t := 2) 1 dX11_band_128 la_184 (z_leN la_184 (by decide)) rfl (by decide) inX3 (by decide) (flX11_217 rfl) rfl ?_
    refine Z_top (y := 187) ((Fix.get g7 la_184 1 3 (by decide +kernel)).trans (by clear h; omega)) ?_
    refine Z_ldc2 (x := 2) dX11_band_131 ctX11_263 rfl ?_
    refine Z_iload_n 3 dX11_band_134 rfl rfl ?_
    obtain ⟨g8, h⟩ := h
    refine Z_i2l dX11_band_135 g8 ?_
    refine Z_lmul dX11_band_136 ?_
    refine Z_invV (T := TX9) (N := 3) (ci := 9) (M' := mX9_put) (ρ' := rX9_put zN) (st := []) [(1, (2 * x3))] dX11_band_137 rfl rfl la_187 (z_leN la_187 (by decide)) (by decide) rfl rfl (kX9_put.cl (Nat.le_of_ble_eq_true rfl) (Nat.le_refl _) (Nat.le_refl _) (Nat.le_of_ble_eq_true rfl) (Nat.le_of_ble_eq_true rfl) (Nat.le_of_ble_eq_true rfl)) (mlX11_258 rfl) iX9_put sX9_put h (z_kv (fun σ10 h => ?_))
    refine Z_aload_n 0 dX11_band_140 rfl rfl ?_
    refine Z_aload_n 0 dX11_band_141 rfl rfl ?_
    obtain ⟨g11, h⟩ := h
    refine Z_get (T := TX11) (N := 15) (ci := 11) (t := 2) 8 dX11_band_142 la_1 (z_leN la_1 (by decide)) rfl (by decide) inX11 (by decide) (flX11_67 rfl) rfl ?_
    refine Z_top (y := 184) ((Fix.get g11 la_1 8 183 (by decide +kernel)).trans (by clear h; omega)) ?_
    refine Z_get (T := TX3) (N := 2) (ci := 3) (t := 2) 0 dX11_band_145 la_184 (z_leN la_184 (by decide)) rfl (by decide) inX3 (by decide) (flX11_214 rfl) rfl ?_
    refine Z_top (y := 185) ((Fix.get g11 la_184 0 1 (by decide +kernel)).trans (by clear h; omega)) ?_
    refine Z_aload_n 0 dX11_band_148 rfl rfl ?_
    refine Z_get (T := TX11) (N := 15) (ci := 11) (t := 2) 8 dX11_band_149 la_1 (z_leN la_1 (by decide)) rfl (by decide) inX11 (by decide) (flX11_67 rfl) rfl ?_
    refine Z_top (y := 184) ((Fix.get g11 la_1 8 183 (by decide +kernel)).trans (by clear h; omega)) ?_
    refine Z_get (T := TX3) (N := 2) (ci := 3) (t := 2) 1 dX11_band_152 la_184 (z_leN la_184 (by decide)) rfl (by decide) inX3 (by decide) (flX11_217 rfl) rfl ?_
    refine Z_top (y := 187) ((Fix.get g11 la_184 1 3 (by decide +kernel)).trans (by clear h; omega)) ?_
    refine Z_invV (T := TX11) (N := 15) (ci := 11) (M' := mX11_setResult) (ρ' := rX11_setResult zN) (st := []) [(2, 185), (2, 187)] dX11_band_155 rfl rfl la_1 (z_leN la_1 (by decide)) (by decide) rfl rfl (kX11_setResult.cl (Nat.le_of_ble_eq_true rfl) (Nat.le_refl _) (Nat.le_refl _) (Nat.le_of_ble_eq_true rfl) (Nat.le_of_ble_eq_true rfl) (Nat.le_of_ble_eq_true rfl)) (mlX11_194 rfl) iX11_setResult sX11_setResult h (z_kz (fun r12 σ13 h => ?_))
    exact Z_zreturn dX11_band_158 rfl (zb_01 _) rfl ⟨rfl, r12, rfl, h⟩
  · replace h := h.2 c
    refine Z_iconst dX11_band_34 ?_
    refine Z_istore (L' := [(2, 1), (0, x1), (0, x2), (0, x3), (1, x4), (9, 0), (0, x6), (0, 0), (9, 0), (9, 0)]) dX11_band_35 (Nat.le_of_ble_eq_true rfl) rfl ?_
    exact Z_few (z_few_k (z_few_k (z_few_k (z_few_k (z_few_k (z_few_k (z_few_k (z_few_k (z_few_k (z_few_k z_few_0)))))))))) h
theorem bk_X11_band_37 {X : ZS} {σ : ZM} {T : Bool → ZM → Prop} {x1 : Int} {x2 : Int} {x3 : Int} {x4 : Int} {x6 : Int} {x7 : Int} (h : (r32 x7) ∧ (r32 x6) ∧ ((x6 ≤ x7) → Z X (rX11_band zN) mX11_band 19 [(2, 1), (0, x1), (0, x2), (0, x3), (1, x4), (9, 0), (0, (x6 + 1)), (9, 0), (9, 0), (9, 0)] [] zN σ (zQz T)) ∧ ((¬ (x6 ≤ x7)) → (z_l (σ 1 11) = (7, 3)) ∧ (Fix σ) ∧ ZC X (rX6_way zN) mX6_way [(2, ((σ 1 11) + 1)), (0, x6), (0, x7)] zN σ (zQi (fun r5 σ6 => ZC X (rX11_isWithin zN) mX11_isWithin [(0, r5), (0, x1), (0, x2)] zN σ6 (zQz (fun r7 σ8 => ((r7 = false) → Z X (rX11_band zN) mX11_band 37 [(2, 1), (0, x1), (0, x2), (0, x3), (1, x4), (9, 0), (0, x6), (0, (x7 + 1)), (9, 0), (9, 0)] [] zN σ8 (zQz T)) ∧ ((r7 = true) → (z_l (σ8 1 11) = (7, 3)) ∧ (Fix σ8) ∧ (0 ≤ x6) ∧ (x6 < 8) ∧ (0 ≤ x7) ∧ (x7 < 8) ∧ (r32 ((σ8 ((σ8 1 11) + 4) x6) - (σ8 ((σ8 1 11) + 4) x7))) ∧ Z X (rX11_band zN) mX11_band 37 [(2, 1), (0, x1), (0, x2), (0, x3), (1, (x4 + (((σ8 ((σ8 1 11) + 4) x6) - (σ8 ((σ8 1 11) + 4) x7)) * ((σ8 ((σ8 1 11) + 4) x6) - (σ8 ((σ8 1 11) + 4) x7))))), (9, 0), (0, x6), (0, (x7 + 1)), (9, 0), (9, 0)] [] zN σ8 (zQz T)))))))) : Z X (rX11_band zN) mX11_band 37 [(2, 1), (0, x1), (0, x2), (0, x3), (1, x4), (9, 0), (0, x6), (0, x7), (9, 0), (9, 0)] [] zN σ (zQz T) := by
  refine Z_iload dX11_band_37 rfl ?_
  refine Z_iload dX11_band_39 rfl ?_
  obtain ⟨g1, h⟩ := h
  obtain ⟨g2, h⟩ := h
  refine Z_icmp_ge (tgt := 106) dX11_band_41 (by decide) g1 g2 (fun c => ?_) (fun c => ?_)
  · replace h := h.1 c
    refine Z_iinc (L' := [(2, 1), (0, x1), (0, x2), (0, x3), (1, x4), (9, 0), (0, (x6 + 1)), (0, x7), (9, 0), (9, 0)]) dX11_band_106 rfl (Nat.le_of_ble_eq_true rfl) rfl ?_
    refine Z_goto (tgt := 19) dX11_band_109 (by decide) ?_
    exact Z_few (z_few_k (z_few_k (z_few_k (z_few_k (z_few_k (z_few_k (z_few_k (z_few_d (z_few_k (z_few_k z_few_0)))))))))) h
  · replace h := h.2 c
    refine Z_aload_n 0 dX11_band_44 rfl rfl ?_
    refine Z_get (T := TX11) (N := 15) (ci := 11) (t := 2) 11 dX11_band_45 la_1 (z_leN la_1 (by decide)) rfl (by decide) inX11 (by decide) (flX11_79 rfl) rfl ?_
    obtain ⟨g3, h⟩ := h
    obtain ⟨g4, h⟩ := h
    refine Z_get (T := TX7) (N := 3) (ci := 7) (t := 2) 0 dX11_band_48 g3 (z_leN g3 (by decide)) rfl (by decide) inX7 (by decide) (flX11_125 rfl) rfl ?_
    refine Z_top (y := ((σ 1 11) + 1)) (Fix.get g4 g3 0 1 (by decide +kernel)) ?_
    refine Z_iload dX11_band_51 rfl ?_
    refine Z_iload dX11_band_53 rfl ?_
    refine Z_invV (T := TX6) (N := 3) (ci := 6) (M' := mX6_way) (ρ' := rX6_way zN) (st := []) [(0, x6), (0, x7)] dX11_band_55 rfl rfl (zo_7_0 g3) (z_leN (zo_7_0 g3) (by decide)) (by decide) rfl rfl (kX6_way.cl (Nat.le_of_ble_eq_true rfl) (Nat.le_refl _) (Nat.le_refl _) (Nat.le_of_ble_eq_true rfl) (Nat.le_of_ble_eq_true rfl) (Nat.le_of_ble_eq_true rfl)) (mlX11_248 rfl) iX6_way sX6_way h (z_ki (fun r5 σ6 h => ?_))
    refine Z_iload_n 1 dX11_band_58 rfl rfl ?_
    refine Z_iload_n 2 dX11_band_59 rfl rfl ?_
    refine Z_invS (M' := mX11_isWithin) (ρ' := rX11_isWithin zN) (st := []) [(0, r5), (0, x1), (0, x2)] dX11_band_60 rfl rfl (kX11_isWithin.cl (Nat.le_of_ble_eq_true rfl) (Nat.le_refl _) (Nat.le_refl _) (Nat.le_of_ble_eq_true rfl) (Nat.le_of_ble_eq_true rfl) (Nat.le_of_ble_eq_true rfl)) (mlX11_135 rfl) sX11_isWithin h (z_kz (fun r7 σ8 h => ?_))
    refine Z_zif_eq (tgt := 100) dX11_band_63 (by decide) (fun c => ?_) (fun c => ?_)
    · replace h := h.1 c
      refine Z_iinc (L' := [(2, 1), (0, x1), (0, x2), (0, x3), (1, x4), (9, 0), (0, x6), (0, (x7 + 1)), (9, 0), (9, 0)]) dX11_band_100 rfl (Nat.le_of_ble_eq_true rfl) rfl ?_
      refine Z_goto (tgt := 37) dX11_band_103 (by decide) ?_
      exact Z_few (z_few_k (z_few_k (z_few_k (z_few_k (z_few_k (z_few_k (z_few_k (z_few_k (z_few_k (z_few_k z_few_0)))))))))) h
    · replace h := h.2 c
      refine Z_aload_n 0 dX11_band_66 rfl rfl ?_
      refine Z_get (T := TX11) (N := 15) (ci := 11) (t := 2) 11 dX11_band_67 la_1 (z_leN la_1 (by decide)) rfl (by decide) inX11 (by decide) (flX11_79 rfl) rfl ?_
      obtain ⟨g9, h⟩ := h
      obtain ⟨g10, h⟩ := h
      refine Z_get (T := TX7) (N := 3) (ci := 7) (t := 2) 1 dX11_band_70 g9 (z_leN g9 (by decide)) rfl (by decide) inX7 (by decide) (flX11_254 rfl) rfl ?_
      refine Z_top (y := ((σ8 1 11) + 4)) (Fix.get g10 g9 1 4 (by decide +kernel)) ?_
      refine Z_iload dX11_band_73 rfl ?_
      obtain ⟨g11, h⟩ := h
      obtain ⟨g12, h⟩ := h
      refine Z_iald dX11_band_75 (zo_7_1 g9) (z_leN (zo_7_1 g9) (by decide)) g11 g12 ?_
      refine Z_aload_n 0 dX11_band_76 rfl rfl ?_
      refine Z_get (T := TX11) (N := 15) (ci := 11) (t := 2) 11 dX11_band_77 la_1 (z_leN la_1 (by decide)) rfl (by decide) inX11 (by decide) (flX11_79 rfl) rfl ?_
      refine Z_get (T := TX7) (N := 3) (ci := 7) (t := 2) 1 dX11_band_80 g9 (z_leN g9 (by decide)) rfl (by decide) inX7 (by decide) (flX11_254 rfl) rfl ?_
      refine Z_top (y := ((σ8 1 11) + 4)) (Fix.get g10 g9 1 4 (by decide +kernel)) ?_
      refine Z_iload dX11_band_83 rfl ?_
      obtain ⟨g13, h⟩ := h
      obtain ⟨g14, h⟩ := h
      refine Z_iald dX11_band_85 (zo_7_1 g9) (z_leN (zo_7_1 g9) (by decide)) g13 g14 ?_
      refine Z_isub dX11_band_86 ?_
      obtain ⟨g15, h⟩ := h
      refine Z_i2l dX11_band_87 g15 ?_
      refine Z_lstore (L' := [(2, 1), (0, x1), (0, x2), (0, x3), (1, x4), (9, 0), (0, x6), (0, x7), (1, ((σ8 ((σ8 1 11) + 4) x6) - (σ8 ((σ8 1 11) + 4) x7))), (9, 0)]) dX11_band_88 (Nat.le_of_ble_eq_true rfl) rfl ?_
      refine Z_lload dX11_band_90 rfl ?_
      refine Z_lload dX11_band_92 rfl ?_
      refine Z_lload dX11_band_94 rfl ?_
      refine Z_lmul dX11_band_96 ?_
      refine Z_ladd dX11_band_97 ?_
      refine Z_lstore (L' := [(2, 1), (0, x1), (0, x2), (0, x3), (1, (x4 + (((σ8 ((σ8 1 11) + 4) x6) - (σ8 ((σ8 1 11) + 4) x7)) * ((σ8 ((σ8 1 11) + 4) x6) - (σ8 ((σ8 1 11) + 4) x7))))), (9, 0), (0, x6), (0, x7), (1, ((σ8 ((σ8 1 11) + 4) x6) - (σ8 ((σ8 1 11) + 4) x7))), (9, 0)]) dX11_band_98 (Nat.le_of_ble_eq_true rfl) rfl ?_
      refine Z_iinc (L' := [(2, 1), (0, x1), (0, x2), (0, x3), (1, (x4 + (((σ8 ((σ8 1 11) + 4) x6) - (σ8 ((σ8 1 11) + 4) x7)) * ((σ8 ((σ8 1 11) + 4) x6) - (σ8 ((σ8 1 11) + 4) x7))))), (9, 0), (0, x6), (0, (x7 + 1)), (1, ((σ8 ((σ8 1 11) + 4) x6) - (σ8 ((σ8 1 11) + 4) x7))), (9, 0)]) dX11_band_100 rfl (Nat.le_of_ble_eq_true rfl) rfl ?_
      refine Z_goto (tgt := 37) dX11_band_103 (by decide) ?_
      exact Z_few (z_few_k (z_few_k (z_few_k (z_few_k (z_few_k (z_few_k (z_few_k (z_few_k (z_few_d (z_few_k z_few_0)))))))))) h
theorem bk_X11_look {X : ZS} {σ : ZM} {T : Int → ZM → Prop} {x1 : Int} (h : (r32 x1) ∧ ((¬ x1 = 0) → ((¬ x1 = 1) → ((¬ x1 = 2) → T (-1) σ) ∧ ((x1 = 2) → (Fix σ) ∧ T (σ 182 1) σ)) ∧ ((x1 = 1) → (Fix σ) ∧ (r32 (σ 180 1)) ∧ T (max 1 (σ 180 1)) σ)) ∧ ((x1 = 0) → (Fix σ) ∧ T (σ 180 2) σ)) : ZC X (rX11_look zN) mX11_look [(2, 1), (0, x1)] zN σ (zQi T) := by
  show Z X _ _ 0 [(2, 1), (0, x1)] [] _ σ _
  refine Z_iload_n 1 dX11_look_0 rfl rfl ?_
  obtain ⟨g1, h⟩ := h
  refine Z_if_ne (tgt := 15) dX11_look_1 (by decide) g1 (fun c => ?_) (fun c => ?_)
  · replace h := h.1 c
    refine Z_iload_n 1 dX11_look_15 rfl rfl ?_
    refine Z_iconst dX11_look_16 ?_
    refine Z_icmp_ne (tgt := 35) dX11_look_17 (by decide) g1 ⟨by decide, by decide⟩ (fun c => ?_) (fun c => ?_)
    · replace h := h.1 c
      refine Z_iload_n 1 dX11_look_35 rfl rfl ?_
      refine Z_iconst dX11_look_36 ?_
      refine Z_icmp_ne (tgt := 53) dX11_look_37 (by decide) g1 ⟨by decide, by decide⟩ (fun c => ?_) (fun c => ?_)
      · replace h := h.1 c
        refine Z_iconst dX11_look_53 ?_
        exact Z_ireturn dX11_look_54 rfl rfl ⟨rfl, h⟩
      · replace h := h.2 c
        refine Z_aload_n 0 dX11_look_40 rfl rfl ?_
        obtain ⟨g2, h⟩ := h
        refine Z_get (T := TX11) (N := 15) (ci := 11) (t := 2) 7 dX11_look_41 la_1 (z_leN la_1 (by decide)) rfl (by decide) inX11 (by decide) (flX11_63 rfl) rfl ?_
        refine Z_top (y := 179) ((Fix.get g2 la_1 7 178 (by decide +kernel)).trans (by clear h; omega)) ?_
        refine Z_get (T := TX3) (N := 2) (ci := 3) (t := 2) 1 dX11_look_44 la_179 (z_leN la_179 (by decide)) rfl (by decide) inX3 (by decide) (flX11_217 rfl) rfl ?_
        refine Z_top (y := 182) ((Fix.get g2 la_179 1 3 (by decide +kernel)).trans (by clear h; omega)) ?_
        refine Z_get (T := TX9) (N := 3) (ci := 9) (t := 0) 1 dX11_look_47 la_182 (z_leN la_182 (by decide)) rfl (by decide) inX9 (by decide) (flX11_268 rfl) rfl ?_
        refine Z_goto (tgt := 54) dX11_look_50 (by decide) ?_
        exact Z_ireturn dX11_look_54 rfl rfl ⟨rfl, h⟩
    · replace h := h.2 c
      refine Z_iconst dX11_look_20 ?_
      refine Z_aload_n 0 dX11_look_21 rfl rfl ?_
      obtain ⟨g3, h⟩ := h
      refine Z_get (T := TX11) (N := 15) (ci := 11) (t := 2) 7 dX11_look_22 la_1 (z_leN la_1 (by decide)) rfl (by decide) inX11 (by decide) (flX11_63 rfl) rfl ?_
      refine Z_top (y := 179) ((Fix.get g3 la_1 7 178 (by decide +kernel)).trans (by clear h; omega)) ?_
      refine Z_get (T := TX3) (N := 2) (ci := 3) (t := 2) 0 dX11_look_25 la_179 (z_leN la_179 (by decide)) rfl (by decide) inX3 (by decide) (flX11_214 rfl) rfl ?_
      refine Z_top (y := 180) ((Fix.get g3 la_179 0 1 (by decide +kernel)).trans (by clear h; omega)) ?_
      refine Z_get (T := TX9) (N := 3) (ci := 9) (t := 0) 1 dX11_look_28 la_180 (z_leN la_180 (by decide)) rfl (by decide) inX9 (by decide) (flX11_268 rfl) rfl ?_
      obtain ⟨g4, h⟩ := h
      refine Z_jmax dX11_look_31 (mlX11_269 rfl) ⟨by decide, by decide⟩ g4 (Nat.le_refl _) (Nat.le_of_ble_eq_true rfl) (Nat.le_of_ble_eq_true rfl) (Nat.le_of_ble_eq_true rfl) ?_
      exact Z_ireturn dX11_look_34 rfl rfl ⟨rfl, h⟩
  · replace h := h.2 c
    refine Z_aload_n 0 dX11_look_4 rfl rfl ?_
    obtain ⟨g5, h⟩ := h
    refine Z_get (T := TX11) (N := 15) (ci := 11) (t := 2) 7 dX11_look_5 la_1 (z_leN la_1 (by decide)) rfl (by decide) inX11 (by decide) (flX11_63 rfl) rfl ?_
    refine Z_top (y := 179) ((Fix.get g5 la_1 7 178 (by decide +kernel)).trans (by clear h; omega)) ?_
    refine Z_get (T := TX3) (N := 2) (ci := 3) (t := 2) 0 dX11_look_8 la_179 (z_leN la_179 (by decide)) rfl (by decide) inX3 (by decide) (flX11_214 rfl) rfl ?_
    refine Z_top (y := 180) ((Fix.get g5 la_179 0 1 (by decide +kernel)).trans (by clear h; omega)) ?_
    refine Z_get (T := TX9) (N := 3) (ci := 9) (t := 0) 2 dX11_look_11 la_180 (z_leN la_180 (by decide)) rfl (by decide) inX9 (by decide) (flX11_265 rfl) rfl ?_
    exact Z_ireturn dX11_look_14 rfl rfl ⟨rfl, h⟩
theorem bk_X11_part {X : ZS} {σ : ZM} {T : Int → ZM → Prop} {x1 : Int} {x2 : Int} (h : (r32 x1) ∧ ((x1 = 0) → (Fix σ) ∧ (r32 x2) ∧ ((x2 < 0) → T 0 σ) ∧ ((¬ (x2 < 0)) → (r32 (σ 180 1)) ∧ (((σ 180 1) ≤ x2) → T 0 σ) ∧ ((¬ ((σ 180 1) ≤ x2)) → (0 ≤ x2) ∧ (x2 < 12) ∧ T (σ 181 x2) σ))) ∧ ((¬ x1 = 0) → (Fix σ) ∧ (r32 x2) ∧ ((x2 < 0) → T 0 σ) ∧ ((¬ (x2 < 0)) → (r32 (σ 182 1)) ∧ (((σ 182 1) ≤ x2) → T 0 σ) ∧ ((¬ ((σ 182 1) ≤ x2)) → (0 ≤ x2) ∧ (x2 < 12) ∧ T (σ 183 x2) σ)))) : ZC X (rX11_part zN) mX11_part [(2, 1), (0, x1), (0, x2)] zN σ (zQi T) := by
  show Z X _ _ 0 [(2, 1), (0, x1), (0, x2), (9, 0)] [] _ σ _
  refine Z_iload_n 1 dX11_part_0 rfl rfl ?_
  obtain ⟨g1, h⟩ := h
  refine Z_if_eq (tgt := 14) dX11_part_1 (by decide) g1 (fun c => ?_) (fun c => ?_)
  · replace h := h.1 c
    refine Z_aload_n 0 dX11_part_14 rfl rfl ?_
    obtain ⟨g2, h⟩ := h
    refine Z_get (T := TX11) (N := 15) (ci := 11) (t := 2) 7 dX11_part_15 la_1 (z_leN la_1 (by decide)) rfl (by decide) inX11 (by decide) (flX11_63 rfl) rfl ?_
    refine Z_top (y := 179) ((Fix.get g2 la_1 7 178 (by decide +kernel)).trans (by clear h; omega)) ?_
    refine Z_get (T := TX3) (N := 2) (ci := 3) (t := 2) 0 dX11_part_18 la_179 (z_leN la_179 (by decide)) rfl (by decide) inX3 (by decide) (flX11_214 rfl) rfl ?_
    refine Z_top (y := 180) ((Fix.get g2 la_179 0 1 (by decide +kernel)).trans (by clear h; omega)) ?_
    refine Z_astore_n (L' := [(2, 1), (0, x1), (0, x2), (2, 180)]) 3 dX11_part_21 rfl (Nat.le_of_ble_eq_true rfl) rfl ?_
    refine Z_iload_n 2 dX11_part_22 rfl rfl ?_
    obtain ⟨g3, h⟩ := h
    refine Z_if_lt (tgt := 43) dX11_part_23 (by decide) g3 (fun c => ?_) (fun c => ?_)
    · replace h := h.1 c
      refine Z_iconst dX11_part_43 ?_
      exact Z_ireturn dX11_part_44 rfl rfl ⟨rfl, h⟩
    · replace h := h.2 c
      refine Z_iload_n 2 dX11_part_26 rfl rfl ?_
      refine Z_aload_n 3 dX11_part_27 rfl rfl ?_
      refine Z_get (T := TX9) (N := 3) (ci := 9) (t := 0) 1 dX11_part_28 la_180 (z_leN la_180 (by decide)) rfl (by decide) inX9 (by decide) (flX11_268 rfl) rfl ?_
      obtain ⟨g4, h⟩ := h
      refine Z_icmp_ge (tgt := 43) dX11_part_31 (by decide) g3 g4 (fun c => ?_) (fun c => ?_)
      · replace h := h.1 c
        refine Z_iconst dX11_part_43 ?_
        exact Z_ireturn dX11_part_44 rfl rfl ⟨rfl, h⟩
      · replace h := h.2 c
        refine Z_aload_n 3 dX11_part_34 rfl rfl ?_
        refine Z_get (T := TX9) (N := 3) (ci := 9) (t := 2) 0 dX11_part_35 la_180 (z_leN la_180 (by decide)) rfl (by decide) inX9 (by decide) (flX11_274 rfl) rfl ?_
        refine Z_top (y := 181) ((Fix.get g2 la_180 0 1 (by decide +kernel)).trans (by clear h; omega)) ?_
        refine Z_iload_n 2 dX11_part_38 rfl rfl ?_
        obtain ⟨g5, h⟩ := h
        obtain ⟨g6, h⟩ := h
        refine Z_iald dX11_part_39 la_181 (z_leN la_181 (by decide)) g5 g6 ?_
        refine Z_goto (tgt := 44) dX11_part_40 (by decide) ?_
        exact Z_ireturn dX11_part_44 rfl rfl ⟨rfl, h⟩
  · replace h := h.2 c
    refine Z_aload_n 0 dX11_part_4 rfl rfl ?_
    obtain ⟨g7, h⟩ := h
    refine Z_get (T := TX11) (N := 15) (ci := 11) (t := 2) 7 dX11_part_5 la_1 (z_leN la_1 (by decide)) rfl (by decide) inX11 (by decide) (flX11_63 rfl) rfl ?_
    refine Z_top (y := 179) ((Fix.get g7 la_1 7 178 (by decide +kernel)).trans (by clear h; omega)) ?_
    refine Z_get (T := TX3) (N := 2) (ci := 3) (t := 2) 1 dX11_part_8 la_179 (z_leN la_179 (by decide)) rfl (by decide) inX3 (by decide) (flX11_217 rfl) rfl ?_
    refine Z_top (y := 182) ((Fix.get g7 la_179 1 3 (by decide +kernel)).trans (by clear h; omega)) ?_
    refine Z_goto (tgt := 21) dX11_part_11 (by decide) ?_
    refine Z_astore_n (L' := [(2, 1), (0, x1), (0, x2), (2, 182)]) 3 dX11_part_21 rfl (Nat.le_of_ble_eq_true rfl) rfl ?_
    refine Z_iload_n 2 dX11_part_22 rfl rfl ?_
    obtain ⟨g8, h⟩ := h
    refine Z_if_lt (tgt := 43) dX11_part_23 (by decide) g8 (fun c => ?_) (fun c => ?_)
    · replace h := h.1 c
      refine Z_iconst dX11_part_43 ?_
      exact Z_ireturn dX11_part_44 rfl rfl ⟨rfl, h⟩
    · replace h := h.2 c
      refine Z_iload_n 2 dX11_part_26 rfl rfl ?_
      refine Z_aload_n 3 dX11_part_27 rfl rfl ?_
      refine Z_get (T := TX9) (N := 3) (ci := 9) (t := 0) 1 dX11_part_28 la_182 (z_leN la_182 (by decide)) rfl (by decide) inX9 (by decide) (flX11_268 rfl) rfl ?_
      obtain ⟨g9, h⟩ := h
      refine Z_icmp_ge (tgt := 43) dX11_part_31 (by decide) g8 g9 (fun c => ?_) (fun c => ?_)
      · replace h := h.1 c
        refine Z_iconst dX11_part_43 ?_
        exact Z_ireturn dX11_part_44 rfl rfl ⟨rfl, h⟩
      · replace h := h.2 c
        refine Z_aload_n 3 dX11_part_34 rfl rfl ?_
        refine Z_get (T := TX9) (N := 3) (ci := 9) (t := 2) 0 dX11_part_35 la_182 (z_leN la_182 (by decide)) rfl (by decide) inX9 (by decide) (flX11_274 rfl) rfl ?_
        refine Z_top (y := 183) ((Fix.get g7 la_182 0 1 (by decide +kernel)).trans (by clear h; omega)) ?_
        refine Z_iload_n 2 dX11_part_38 rfl rfl ?_
        obtain ⟨g10, h⟩ := h
        obtain ⟨g11, h⟩ := h
        refine Z_iald dX11_part_39 la_183 (z_leN la_183 (by decide)) g10 g11 ?_
        refine Z_goto (tgt := 44) dX11_part_40 (by decide) ?_
        exact Z_ireturn dX11_part_44 rfl rfl ⟨rfl, h⟩
theorem bk_X11_told {X : ZS} {σ : ZM} {T : Int → ZM → Prop} {x1 : Int} {x2 : Int} (h : (z_l (σ 1 11) = (7, 3)) ∧ (Fix σ) ∧ ZC X (rX6_has zN) mX6_has [(2, ((σ 1 11) + 1)), (0, x1)] zN σ (zQz (fun r3 σ4 => ((r3 = true) → (r32 x2) ∧ ((x2 = 0) → (z_l (σ4 1 11) = (7, 3)) ∧ (Fix σ4) ∧ (0 ≤ x1) ∧ (x1 < (((z_l (((σ4 1 11) + 1) + 1)).2 : Nat) : Int)) ∧ T (σ4 (((σ4 1 11) + 1) + 1) x1) σ4) ∧ ((x2 = 1) → (z_l (σ4 1 11) = (7, 3)) ∧ (Fix σ4) ∧ (0 ≤ x1) ∧ (x1 < (((z_l (((σ4 1 11) + 1) + 2)).2 : Nat) : Int)) ∧ T (σ4 (((σ4 1 11) + 1) + 2) x1) σ4) ∧ ((x2 = 2) → (z_l (σ4 1 11) = (7, 3)) ∧ (Fix σ4) ∧ (0 ≤ x1) ∧ (x1 < 8) ∧ T (σ4 ((σ4 1 11) + 4) x1) σ4) ∧ ((x2 = 3) → (z_l (σ4 1 11) = (7, 3)) ∧ (Fix σ4) ∧ (0 ≤ x1) ∧ (x1 < 8) ∧ T (σ4 ((σ4 1 11) + 5) x1) σ4) ∧ ((x2 < 0 ∨ 3 < x2) → T (-10000) σ4)) ∧ ((r3 = false) → T (-10000) σ4)))) : ZC X (rX11_told zN) mX11_told [(2, 1), (0, x1), (0, x2)] zN σ (zQi T) := by
  show Z X _ _ 0 [(2, 1), (0, x1), (0, x2)] [] _ σ _
  refine Z_aload_n 0 dX11_told_0 rfl rfl ?_
  refine Z_get (T := TX11) (N := 15) (ci := 11) (t := 2) 11 dX11_told_1 la_1 (z_leN la_1 (by decide)) rfl (by decide) inX11 (by decide) (flX11_79 rfl) rfl ?_
  obtain ⟨g1, h⟩ := h
  obtain ⟨g2, h⟩ := h
  refine Z_get (T := TX7) (N := 3) (ci := 7) (t := 2) 0 dX11_told_4 g1 (z_leN g1 (by decide)) rfl (by decide) inX7 (by decide) (flX11_125 rfl) rfl ?_
  refine Z_top (y := ((σ 1 11) + 1)) (Fix.get g2 g1 0 1 (by decide +kernel)) ?_
  refine Z_iload_n 1 dX11_told_7 rfl rfl ?_
  refine Z_invV (T := TX6) (N := 3) (ci := 6) (M' := mX6_has) (ρ' := rX6_has zN) (st := []) [(0, x1)] dX11_told_8 rfl rfl (zo_7_0 g1) (z_leN (zo_7_0 g1) (by decide)) (by decide) rfl rfl (kX6_has.cl (Nat.le_of_ble_eq_true rfl) (Nat.le_refl _) (Nat.le_refl _) (Nat.le_of_ble_eq_true rfl) (Nat.le_of_ble_eq_true rfl) (Nat.le_of_ble_eq_true rfl)) (mlX11_145 rfl) iX6_has sX6_has h (z_kz (fun r3 σ4 h => ?_))
  refine Z_zif_ne (tgt := 18) dX11_told_11 (by decide) (fun c => ?_) (fun c => ?_)
  · replace h := h.1 c
    refine Z_iload_n 2 dX11_told_18 rfl rfl ?_
    obtain ⟨g5, h⟩ := h
    by_cases c0 : x2 = 0
    · replace h := h.1 c0
      refine Z_tabIn (tgt := 48) dX11_told_19 g5 0 c0 (by decide) (by decide) rfl (by decide) ?_
      refine Z_aload_n 0 dX11_told_48 rfl rfl ?_
      refine Z_get (T := TX11) (N := 15) (ci := 11) (t := 2) 11 dX11_told_49 la_1 (z_leN la_1 (by decide)) rfl (by decide) inX11 (by decide) (flX11_79 rfl) rfl ?_
      obtain ⟨g6, h⟩ := h
      obtain ⟨g7, h⟩ := h
      refine Z_get (T := TX7) (N := 3) (ci := 7) (t := 2) 0 dX11_told_52 g6 (z_leN g6 (by decide)) rfl (by decide) inX7 (by decide) (flX11_125 rfl) rfl ?_
      refine Z_top (y := ((σ4 1 11) + 1)) (Fix.get g7 g6 0 1 (by decide +kernel)) ?_
      refine Z_get (T := TX6) (N := 3) (ci := 6) (t := 2) 0 dX11_told_55 (zo_7_0 g6) (z_leN (zo_7_0 g6) (by decide)) rfl (by decide) inX6 (by decide) (flX11_277 rfl) rfl ?_
      refine Z_top (y := (((σ4 1 11) + 1) + 1)) (Fix.get g7 (zo_7_0 g6) 0 1 (by decide +kernel)) ?_
      refine Z_iload_n 1 dX11_told_58 rfl rfl ?_
      obtain ⟨g8, h⟩ := h
      obtain ⟨g9, h⟩ := h
      refine Z_iald dX11_told_59 (zo_6_0 (zo_7_0 g6)) (z_leN (zo_6_0 (zo_7_0 g6)) (by decide)) g8 g9 ?_
      exact Z_ireturn dX11_told_60 rfl rfl ⟨rfl, h⟩
    replace h := h.2
    by_cases c1 : x2 = 1
    · replace h := h.1 c1
      refine Z_tabIn (tgt := 61) dX11_told_19 g5 1 c1 (by decide) (by decide) rfl (by decide) ?_
      refine Z_aload_n 0 dX11_told_61 rfl rfl ?_
      refine Z_get (T := TX11) (N := 15) (ci := 11) (t := 2) 11 dX11_told_62 la_1 (z_leN la_1 (by decide)) rfl (by decide) inX11 (by decide) (flX11_79 rfl) rfl ?_
      obtain ⟨g10, h⟩ := h
      obtain ⟨g11, h⟩ := h
      refine Z_get (T := TX7) (N := 3) (ci := 7) (t := 2) 0 dX11_told_65 g10 (z_leN g10 (by decide)) rfl (by decide) inX7 (by decide) (flX11_125 rfl) rfl ?_
      refine Z_top (y := ((σ4 1 11) + 1)) (Fix.get g11 g10 0 1 (by decide +kernel)) ?_
      refine Z_get (T := TX6) (N := 3) (ci := 6) (t := 2) 1 dX11_told_68 (zo_7_0 g10) (z_leN (zo_7_0 g10) (by decide)) rfl (by decide) inX6 (by decide) (flX11_280 rfl) rfl ?_
      refine Z_top (y := (((σ4 1 11) + 1) + 2)) (Fix.get g11 (zo_7_0 g10) 1 2 (by decide +kernel)) ?_
      refine Z_iload_n 1 dX11_told_71 rfl rfl ?_
      obtain ⟨g12, h⟩ := h
      obtain ⟨g13, h⟩ := h
      refine Z_iald dX11_told_72 (zo_6_1 (zo_7_0 g10)) (z_leN (zo_6_1 (zo_7_0 g10)) (by decide)) g12 g13 ?_
      exact Z_ireturn dX11_told_73 rfl rfl ⟨rfl, h⟩
    replace h := h.2
    by_cases c2 : x2 = 2
    · replace h := h.1 c2
      refine Z_tabIn (tgt := 74) dX11_told_19 g5 2 c2 (by decide) (by decide) rfl (by decide) ?_
      refine Z_aload_n 0 dX11_told_74 rfl rfl ?_
      refine Z_get (T := TX11) (N := 15) (ci := 11) (t := 2) 11 dX11_told_75 la_1 (z_leN la_1 (by decide)) rfl (by decide) inX11 (by decide) (flX11_79 rfl) rfl ?_
      obtain ⟨g14, h⟩ := h
      obtain ⟨g15, h⟩ := h
      refine Z_get (T := TX7) (N := 3) (ci := 7) (t := 2) 1 dX11_told_78 g14 (z_leN g14 (by decide)) rfl (by decide) inX7 (by decide) (flX11_254 rfl) rfl ?_
      refine Z_top (y := ((σ4 1 11) + 4)) (Fix.get g15 g14 1 4 (by decide +kernel)) ?_
      refine Z_iload_n 1 dX11_told_81 rfl rfl ?_
      obtain ⟨g16, h⟩ := h
      obtain ⟨g17, h⟩ := h
      refine Z_iald dX11_told_82 (zo_7_1 g14) (z_leN (zo_7_1 g14) (by decide)) g16 g17 ?_
      exact Z_ireturn dX11_told_83 rfl rfl ⟨rfl, h⟩
    replace h := h.2
    by_cases c3 : x2 = 3
    · replace h := h.1 c3
      refine Z_tabIn (tgt := 84) dX11_told_19 g5 3 c3 (by decide) (by decide) rfl (by decide) ?_
      refine Z_aload_n 0 dX11_told_84 rfl rfl ?_
      refine Z_get (T := TX11) (N := 15) (ci := 11) (t := 2) 11 dX11_told_85 la_1 (z_leN la_1 (by decide)) rfl (by decide) inX11 (by decide) (flX11_79 rfl) rfl ?_
      obtain ⟨g18, h⟩ := h
      obtain ⟨g19, h⟩ := h
      refine Z_get (T := TX7) (N := 3) (ci := 7) (t := 2) 2 dX11_told_88 g18 (z_leN g18 (by decide)) rfl (by decide) inX7 (by decide) (flX11_283 rfl) rfl ?_
      refine Z_top (y := ((σ4 1 11) + 5)) (Fix.get g19 g18 2 5 (by decide +kernel)) ?_
      refine Z_iload_n 1 dX11_told_91 rfl rfl ?_
      obtain ⟨g20, h⟩ := h
      obtain ⟨g21, h⟩ := h
      refine Z_iald dX11_told_92 (zo_7_2 g18) (z_leN (zo_7_2 g18) (by decide)) g20 g21 ?_
      exact Z_ireturn dX11_told_93 rfl rfl ⟨rfl, h⟩
    replace h := h.2
    have cO := z_sw3 c0 c1 c2 c3
    replace h := h cO
    refine Z_tabOut (tgt := 94) dX11_told_19 g5 cO (by decide) ?_
    refine Z_sipush dX11_told_94 (by decide) ?_
    exact Z_ireturn dX11_told_97 rfl rfl ⟨rfl, h⟩
  · replace h := h.2 c
    refine Z_sipush dX11_told_14 (by decide) ?_
    exact Z_ireturn dX11_told_17 rfl rfl ⟨rfl, h⟩
theorem bk_X11_count {X : ZS} {σ : ZM} {T : Int → ZM → Prop} {x1 : Int} (h : (r32 x1) ∧ ((x1 = 0) → (z_l (σ 1 11) = (7, 3)) ∧ (Fix σ) ∧ T (σ ((σ 1 11) + 1) 2) σ) ∧ ((x1 = 1) → (Fix σ) ∧ T (σ 6 1) σ) ∧ ((x1 = 2) → T (σ 1 13) σ) ∧ ((x1 = 3) → T (σ 1 14) σ) ∧ ((x1 = 4) → (Fix σ) ∧ ZC X (rX8_countHeld zN) mX8_countHeld [(2, 2)] zN σ (zQi (fun r6 σ7 => T r6 σ7))) ∧ ((x1 = 5) → (Fix σ) ∧ (r32 (σ 141 6)) ∧ (((σ 141 6) = 0) → T 0 σ) ∧ ((¬ (σ 141 6) = 0) → T 1 σ)) ∧ ((x1 < 0 ∨ 5 < x1) → T (-1) σ)) : ZC X (rX11_count zN) mX11_count [(2, 1), (0, x1)] zN σ (zQi T) := by
  show Z X _ _ 0 [(2, 1), (0, x1)] [] _ σ _
  refine Z_iload_n 1 dX11_count_0 rfl rfl ?_
  obtain ⟨g1, h⟩ := h
  by_cases c0 : x1 = 0
  · replace h := h.1 c0
    refine Z_tabIn (tgt := 40) dX11_count_1 g1 0 c0 (by decide) (by decide) rfl (by decide) ?_
    refine Z_aload_n 0 dX11_count_40 rfl rfl ?_
    refine Z_get (T := TX11) (N := 15) (ci := 11) (t := 2) 11 dX11_count_41 la_1 (z_leN la_1 (by decide)) rfl (by decide) inX11 (by decide) (flX11_79 rfl) rfl ?_
    obtain ⟨g2, h⟩ := h
    obtain ⟨g3, h⟩ := h
    refine Z_get (T := TX7) (N := 3) (ci := 7) (t := 2) 0 dX11_count_44 g2 (z_leN g2 (by decide)) rfl (by decide) inX7 (by decide) (flX11_125 rfl) rfl ?_
    refine Z_top (y := ((σ 1 11) + 1)) (Fix.get g3 g2 0 1 (by decide +kernel)) ?_
    refine Z_get (T := TX6) (N := 3) (ci := 6) (t := 0) 2 dX11_count_47 (zo_7_0 g2) (z_leN (zo_7_0 g2) (by decide)) rfl (by decide) inX6 (by decide) (flX11_128 rfl) rfl ?_
    exact Z_ireturn dX11_count_50 rfl rfl ⟨rfl, h⟩
  replace h := h.2
  by_cases c1 : x1 = 1
  · replace h := h.1 c1
    refine Z_tabIn (tgt := 51) dX11_count_1 g1 1 c1 (by decide) (by decide) rfl (by decide) ?_
    refine Z_aload_n 0 dX11_count_51 rfl rfl ?_
    obtain ⟨g4, h⟩ := h
    refine Z_get (T := TX11) (N := 15) (ci := 11) (t := 2) 1 dX11_count_52 la_1 (z_leN la_1 (by decide)) rfl (by decide) inX11 (by decide) (flX11_19 rfl) rfl ?_
    refine Z_top (y := 6) ((Fix.get g4 la_1 1 5 (by decide +kernel)).trans (by clear h; omega)) ?_
    refine Z_get (T := TX5) (N := 2) (ci := 5) (t := 0) 1 dX11_count_55 la_6 (z_leN la_6 (by decide)) rfl (by decide) inX5 (by decide) (flX11_222 rfl) rfl ?_
    exact Z_ireturn dX11_count_58 rfl rfl ⟨rfl, h⟩
  replace h := h.2
  by_cases c2 : x1 = 2
  · replace h := h.1 c2
    refine Z_tabIn (tgt := 59) dX11_count_1 g1 2 c2 (by decide) (by decide) rfl (by decide) ?_
    refine Z_aload_n 0 dX11_count_59 rfl rfl ?_
    refine Z_get (T := TX11) (N := 15) (ci := 11) (t := 0) 13 dX11_count_60 la_1 (z_leN la_1 (by decide)) rfl (by decide) inX11 (by decide) (flX11_86 rfl) rfl ?_
    exact Z_ireturn dX11_count_63 rfl rfl ⟨rfl, h⟩
  replace h := h.2
  by_cases c3 : x1 = 3
  · replace h := h.1 c3
    refine Z_tabIn (tgt := 64) dX11_count_1 g1 3 c3 (by decide) (by decide) rfl (by decide) ?_
    refine Z_aload_n 0 dX11_count_64 rfl rfl ?_
    refine Z_get (T := TX11) (N := 15) (ci := 11) (t := 0) 14 dX11_count_65 la_1 (z_leN la_1 (by decide)) rfl (by decide) inX11 (by decide) (flX11_90 rfl) rfl ?_
    exact Z_ireturn dX11_count_68 rfl rfl ⟨rfl, h⟩
  replace h := h.2
  by_cases c4 : x1 = 4
  · replace h := h.1 c4
    refine Z_tabIn (tgt := 69) dX11_count_1 g1 4 c4 (by decide) (by decide) rfl (by decide) ?_
    refine Z_aload_n 0 dX11_count_69 rfl rfl ?_
    obtain ⟨g5, h⟩ := h
    refine Z_get (T := TX11) (N := 15) (ci := 11) (t := 2) 0 dX11_count_70 la_1 (z_leN la_1 (by decide)) rfl (by decide) inX11 (by decide) (flX11_12 rfl) rfl ?_
    refine Z_top (y := 2) ((Fix.get g5 la_1 0 1 (by decide +kernel)).trans (by clear h; omega)) ?_
    refine Z_invV (T := TX8) (N := 9) (ci := 8) (M' := mX8_countHeld) (ρ' := rX8_countHeld zN) (st := []) [] dX11_count_73 rfl rfl la_2 (z_leN la_2 (by decide)) (by decide) rfl rfl (kX8_countHeld.cl (Nat.le_of_ble_eq_true rfl) (Nat.le_refl _) (Nat.le_refl _) (Nat.le_of_ble_eq_true rfl) (Nat.le_of_ble_eq_true rfl) (Nat.le_of_ble_eq_true rfl)) (mlX11_286 rfl) iX8_countHeld sX8_countHeld h (z_ki (fun r6 σ7 h => ?_))
    exact Z_ireturn dX11_count_76 rfl rfl ⟨rfl, h⟩
  replace h := h.2
  by_cases c5 : x1 = 5
  · replace h := h.1 c5
    refine Z_tabIn (tgt := 77) dX11_count_1 g1 5 c5 (by decide) (by decide) rfl (by decide) ?_
    refine Z_aload_n 0 dX11_count_77 rfl rfl ?_
    obtain ⟨g8, h⟩ := h
    refine Z_get (T := TX11) (N := 15) (ci := 11) (t := 2) 5 dX11_count_78 la_1 (z_leN la_1 (by decide)) rfl (by decide) inX11 (by decide) (flX11_49 rfl) rfl ?_
    refine Z_top (y := 141) ((Fix.get g8 la_1 5 140 (by decide +kernel)).trans (by clear h; omega)) ?_
    refine Z_get (T := TX0) (N := 7) (ci := 0) (t := 0) 6 dX11_count_81 la_141 (z_leN la_141 (by decide)) rfl (by decide) inX0 (by decide) (flX11_121 rfl) rfl ?_
    obtain ⟨g9, h⟩ := h
    refine Z_if_eq (tgt := 91) dX11_count_84 (by decide) g9 (fun c => ?_) (fun c => ?_)
    · replace h := h.1 c
      refine Z_iconst dX11_count_91 ?_
      exact Z_ireturn dX11_count_92 rfl rfl ⟨rfl, h⟩
    · replace h := h.2 c
      refine Z_iconst dX11_count_87 ?_
      refine Z_goto (tgt := 92) dX11_count_88 (by decide) ?_
      exact Z_ireturn dX11_count_92 rfl rfl ⟨rfl, h⟩
  replace h := h.2
  have cO := z_sw5 c0 c1 c2 c3 c4 c5
  replace h := h cO
  refine Z_tabOut (tgt := 93) dX11_count_1 g1 cO (by decide) ?_
  refine Z_iconst dX11_count_93 ?_
  exact Z_ireturn dX11_count_94 rfl rfl ⟨rfl, h⟩
theorem bk_X11_isWithin {X : ZS} {σ : ZM} {T : Bool → ZM → Prop} {x0 : Int} {x1 : Int} {x2 : Int} (h : (r32 x0) ∧ (r32 x1) ∧ ((x0 < x1) → T false σ) ∧ ((¬ (x0 < x1)) → (r32 x2) ∧ ((x2 < x0) → T false σ) ∧ ((¬ (x2 < x0)) → T true σ))) : ZC X (rX11_isWithin zN) mX11_isWithin [(0, x0), (0, x1), (0, x2)] zN σ (zQz T) := by
  show Z X _ _ 0 [(0, x0), (0, x1), (0, x2)] [] _ σ _
  refine Z_iload_n 0 dX11_isWithin_0 rfl rfl ?_
  refine Z_iload_n 1 dX11_isWithin_1 rfl rfl ?_
  obtain ⟨g1, h⟩ := h
  obtain ⟨g2, h⟩ := h
  refine Z_icmp_lt (tgt := 14) dX11_isWithin_2 (by decide) g1 g2 (fun c => ?_) (fun c => ?_)
  · replace h := h.1 c
    refine Z_iconst dX11_isWithin_14 ?_
    exact Z_zreturn dX11_isWithin_15 rfl (Or.inl rfl) rfl ⟨rfl, false, rfl, h⟩
  · replace h := h.2 c
    refine Z_iload_n 0 dX11_isWithin_5 rfl rfl ?_
    refine Z_iload_n 2 dX11_isWithin_6 rfl rfl ?_
    obtain ⟨g3, h⟩ := h
    refine Z_icmp_gt (tgt := 14) dX11_isWithin_7 (by decide) g1 g3 (fun c => ?_) (fun c => ?_)
    · replace h := h.1 c
      refine Z_iconst dX11_isWithin_14 ?_
      exact Z_zreturn dX11_isWithin_15 rfl (Or.inl rfl) rfl ⟨rfl, false, rfl, h⟩
    · replace h := h.2 c
      refine Z_iconst dX11_isWithin_10 ?_
      refine Z_goto (tgt := 15) dX11_isWithin_11 (by decide) ?_
      exact Z_zreturn dX11_isWithin_15 rfl (Or.inr rfl) rfl ⟨rfl, true, rfl, h⟩
theorem bk_X11_isPlace {X : ZS} {σ : ZM} {T : Bool → ZM → Prop} {x0 : Int} {x1 : Int} (h : ZC X (rX11_isWithin zN) mX11_isWithin [(0, x0), (0, (-20)), (0, 20)] zN σ (zQz (fun r1 σ2 => ((r1 = false) → T false σ2) ∧ ((r1 = true) → ZC X (rX11_isWithin zN) mX11_isWithin [(0, x1), (0, (-20)), (0, 20)] zN σ2 (zQz (fun r3 σ4 => ((r3 = false) → T false σ4) ∧ ((r3 = true) → T true σ4))))))) : ZC X (rX11_isPlace zN) mX11_isPlace [(0, x0), (0, x1)] zN σ (zQz T) := by
  show Z X _ _ 0 [(0, x0), (0, x1)] [] _ σ _
  refine Z_iload_n 0 dX11_isPlace_0 rfl rfl ?_
  refine Z_bipush dX11_isPlace_1 (by decide) ?_
  refine Z_bipush dX11_isPlace_3 (by decide) ?_
  refine Z_invS (M' := mX11_isWithin) (ρ' := rX11_isWithin zN) (st := []) [(0, x0), (0, (-20)), (0, 20)] dX11_isPlace_5 rfl rfl (kX11_isWithin.cl (Nat.le_of_ble_eq_true rfl) (Nat.le_refl _) (Nat.le_refl _) (Nat.le_of_ble_eq_true rfl) (Nat.le_of_ble_eq_true rfl) (Nat.le_of_ble_eq_true rfl)) (mlX11_135 rfl) sX11_isWithin h (z_kz (fun r1 σ2 h => ?_))
  refine Z_zif_eq (tgt := 26) dX11_isPlace_8 (by decide) (fun c => ?_) (fun c => ?_)
  · replace h := h.1 c
    refine Z_iconst dX11_isPlace_26 ?_
    exact Z_zreturn dX11_isPlace_27 rfl (Or.inl rfl) rfl ⟨rfl, false, rfl, h⟩
  · replace h := h.2 c
    refine Z_iload_n 1 dX11_isPlace_11 rfl rfl ?_
    refine Z_bipush dX11_isPlace_12 (by decide) ?_
    refine Z_bipush dX11_isPlace_14 (by decide) ?_
    refine Z_invS (M' := mX11_isWithin) (ρ' := rX11_isWithin zN) (st := []) [(0, x1), (0, (-20)), (0, 20)] dX11_isPlace_16 rfl rfl (kX11_isWithin.cl (Nat.le_of_ble_eq_true rfl) (Nat.le_refl _) (Nat.le_refl _) (Nat.le_of_ble_eq_true rfl) (Nat.le_of_ble_eq_true rfl) (Nat.le_of_ble_eq_true rfl)) (mlX11_135 rfl) sX11_isWithin h (z_kz (fun r3 σ4 h => ?_))
    refine Z_zif_eq (tgt := 26) dX11_isPlace_19 (by decide) (fun c => ?_) (fun c => ?_)
    · replace h := h.1 c
      refine Z_iconst dX11_isPlace_26 ?_
      exact Z_zreturn dX11_isPlace_27 rfl (Or.inl rfl) rfl ⟨rfl, false, rfl, h⟩
    · replace h := h.2 c
      refine Z_iconst dX11_isPlace_22 ?_
      refine Z_goto (tgt := 27) dX11_isPlace_23 (by decide) ?_
      exact Z_zreturn dX11_isPlace_27 rfl (Or.inr rfl) rfl ⟨rfl, true, rfl, h⟩
theorem bk_X11_addSloped {X : ZS} {σ : ZM} {T : Int → ZM → Prop} {x1 : Int} {x2 : Int} (h : ZC X (rX11_isWithin zN) mX11_isWithin [(0, x1), (0, 1), (0, 100)] zN σ (zQz (fun r1 σ2 => ((r1 = false) → T (-4) σ2) ∧ ((r1 = true) → ZC X (rX11_isWithin zN) mX11_isWithin [(0, x2), (0, 1), (0, 8000)] zN σ2 (zQz (fun r3 σ4 => ((r3 = true) → (Fix σ4) ∧ ZC X (rX5_isFull zN) mX5_isFull [(2, 6)] zN σ4 (zQz (fun r6 σ7 => ((r6 = false) → (Fix σ7) ∧ ZC X (rX5_draftSlope zN) mX5_draftSlope [(2, 6), (0, x1), (0, x2)] zN σ7 (zQv (fun σ10 => (Fix σ10) ∧ ZC X (rX5_keepDraft zN) mX5_keepDraft [(2, 6)] zN σ10 (zQi (fun r12 σ13 => T r12 σ13))))) ∧ ((r6 = true) → T (-8) σ7)))) ∧ ((r3 = false) → T (-4) σ4))))))) : ZC X (rX11_addSloped zN) mX11_addSloped [(2, 1), (0, x1), (0, x2)] zN σ (zQi T) := by
  show Z X _ _ 0 [(2, 1), (0, x1), (0, x2)] [] _ σ _
  refine Z_iload_n 1 dX11_addSloped_0 rfl rfl ?_
  refine Z_iconst dX11_addSloped_1 ?_
  refine Z_bipush dX11_addSloped_2 (by decide) ?_
  refine Z_invS (M' := mX11_isWithin) (ρ' := rX11_isWithin zN) (st := []) [(0, x1), (0, 1), (0, 100)] dX11_addSloped_4 rfl rfl (kX11_isWithin.cl (Nat.le_of_ble_eq_true rfl) (Nat.le_refl _) (Nat.le_refl _) (Nat.le_of_ble_eq_true rfl) (Nat.le_of_ble_eq_true rfl) (Nat.le_of_ble_eq_true rfl)) (mlX11_135 rfl) sX11_isWithin h (z_kz (fun r1 σ2 h => ?_))
  refine Z_zif_eq (tgt := 21) dX11_addSloped_7 (by decide) (fun c => ?_) (fun c => ?_)
  · replace h := h.1 c
    refine Z_bipush dX11_addSloped_21 (by decide) ?_
    exact Z_ireturn dX11_addSloped_23 rfl rfl ⟨rfl, h⟩
  · replace h := h.2 c
    refine Z_iload_n 2 dX11_addSloped_10 rfl rfl ?_
    refine Z_iconst dX11_addSloped_11 ?_
    refine Z_sipush dX11_addSloped_12 (by decide) ?_
    refine Z_invS (M' := mX11_isWithin) (ρ' := rX11_isWithin zN) (st := []) [(0, x2), (0, 1), (0, 8000)] dX11_addSloped_15 rfl rfl (kX11_isWithin.cl (Nat.le_of_ble_eq_true rfl) (Nat.le_refl _) (Nat.le_refl _) (Nat.le_of_ble_eq_true rfl) (Nat.le_of_ble_eq_true rfl) (Nat.le_of_ble_eq_true rfl)) (mlX11_135 rfl) sX11_isWithin h (z_kz (fun r3 σ4 h => ?_))
    refine Z_zif_ne (tgt := 24) dX11_addSloped_18 (by decide) (fun c => ?_) (fun c => ?_)
    · replace h := h.1 c
      refine Z_aload_n 0 dX11_addSloped_24 rfl rfl ?_
      obtain ⟨g5, h⟩ := h
      refine Z_get (T := TX11) (N := 15) (ci := 11) (t := 2) 1 dX11_addSloped_25 la_1 (z_leN la_1 (by decide)) rfl (by decide) inX11 (by decide) (flX11_19 rfl) rfl ?_
      refine Z_top (y := 6) ((Fix.get g5 la_1 1 5 (by decide +kernel)).trans (by clear h; omega)) ?_
      refine Z_invV (T := TX5) (N := 2) (ci := 5) (M' := mX5_isFull) (ρ' := rX5_isFull zN) (st := []) [] dX11_addSloped_28 rfl rfl la_6 (z_leN la_6 (by decide)) (by decide) rfl rfl (kX5_isFull.cl (Nat.le_of_ble_eq_true rfl) (Nat.le_refl _) (Nat.le_refl _) (Nat.le_of_ble_eq_true rfl) (Nat.le_of_ble_eq_true rfl) (Nat.le_of_ble_eq_true rfl)) (mlX11_155 rfl) iX5_isFull sX5_isFull h (z_kz (fun r6 σ7 h => ?_))
      refine Z_zif_eq (tgt := 37) dX11_addSloped_31 (by decide) (fun c => ?_) (fun c => ?_)
      · replace h := h.1 c
        refine Z_aload_n 0 dX11_addSloped_37 rfl rfl ?_
        obtain ⟨g8, h⟩ := h
        refine Z_get (T := TX11) (N := 15) (ci := 11) (t := 2) 1 dX11_addSloped_38 la_1 (z_leN la_1 (by decide)) rfl (by decide) inX11 (by decide) (flX11_19 rfl) rfl ?_
        refine Z_top (y := 6) ((Fix.get g8 la_1 1 5 (by decide +kernel)).trans (by clear h; omega)) ?_
        refine Z_iload_n 1 dX11_addSloped_41 rfl rfl ?_
        refine Z_iload_n 2 dX11_addSloped_42 rfl rfl ?_
        refine Z_invV (T := TX5) (N := 2) (ci := 5) (M' := mX5_draftSlope) (ρ' := rX5_draftSlope zN) (st := []) [(0, x1), (0, x2)] dX11_addSloped_43 rfl rfl la_6 (z_leN la_6 (by decide)) (by decide) rfl rfl (kX5_draftSlope.cl (Nat.le_of_ble_eq_true rfl) (Nat.le_refl _) (Nat.le_refl _) (Nat.le_of_ble_eq_true rfl) (Nat.le_of_ble_eq_true rfl) (Nat.le_of_ble_eq_true rfl)) (mlX11_289 rfl) iX5_draftSlope sX5_draftSlope h (z_kv (fun σ10 h => ?_))
        refine Z_aload_n 0 dX11_addSloped_46 rfl rfl ?_
        obtain ⟨g11, h⟩ := h
        refine Z_get (T := TX11) (N := 15) (ci := 11) (t := 2) 1 dX11_addSloped_47 la_1 (z_leN la_1 (by decide)) rfl (by decide) inX11 (by decide) (flX11_19 rfl) rfl ?_
        refine Z_top (y := 6) ((Fix.get g11 la_1 1 5 (by decide +kernel)).trans (by clear h; omega)) ?_
        refine Z_invV (T := TX5) (N := 2) (ci := 5) (M' := mX5_keepDraft) (ρ' := rX5_keepDraft zN) (st := []) [] dX11_addSloped_50 rfl rfl la_6 (z_leN la_6 (by decide)) (by decide) rfl rfl (kX5_keepDraft.cl (Nat.le_of_ble_eq_true rfl) (Nat.le_refl _) (Nat.le_refl _) (Nat.le_of_ble_eq_true rfl) (Nat.le_of_ble_eq_true rfl) (Nat.le_of_ble_eq_true rfl)) (mlX11_161 rfl) iX5_keepDraft sX5_keepDraft h (z_ki (fun r12 σ13 h => ?_))
        exact Z_ireturn dX11_addSloped_53 rfl rfl ⟨rfl, h⟩
      · replace h := h.2 c
        refine Z_bipush dX11_addSloped_34 (by decide) ?_
        exact Z_ireturn dX11_addSloped_36 rfl rfl ⟨rfl, h⟩
    · replace h := h.2 c
      refine Z_bipush dX11_addSloped_21 (by decide) ?_
      exact Z_ireturn dX11_addSloped_23 rfl rfl ⟨rfl, h⟩
theorem bk_X11_readSights {X : ZS} {σ : ZM} {T : Bool → ZM → Prop}  (h : (z_l (σ 1 12) = (7, 3)) ∧ (Fix σ) ∧ ZC X (rX6_clear zN) mX6_clear [(2, ((σ 1 12) + 1))] zN σ (zQv (fun σ4 => (Fix σ4) ∧ ZC X (rX8_readNext zN) mX8_readNext [(2, 2), (0, 0), (0, 8)] zN σ4 (zQz (fun r6 σ7 => ((r6 = true) → (Fix σ7) ∧ Z X (rX11_readSights zN) mX11_readSights 35 [(2, 1), (0, (σ7 2 5)), (0, 0)] [] zN σ7 (zQz T)) ∧ ((r6 = false) → T false σ7)))))) : ZC X (rX11_readSights zN) mX11_readSights [(2, 1)] zN σ (zQz T) := by
  show Z X _ _ 0 [(2, 1), (9, 0), (9, 0)] [] _ σ _
  refine Z_aload_n 0 dX11_readSights_0 rfl rfl ?_
  refine Z_get (T := TX11) (N := 15) (ci := 11) (t := 2) 12 dX11_readSights_1 la_1 (z_leN la_1 (by decide)) rfl (by decide) inX11 (by decide) (flX11_83 rfl) rfl ?_
  obtain ⟨g1, h⟩ := h
  obtain ⟨g2, h⟩ := h
  refine Z_get (T := TX7) (N := 3) (ci := 7) (t := 2) 0 dX11_readSights_4 g1 (z_leN g1 (by decide)) rfl (by decide) inX7 (by decide) (flX11_125 rfl) rfl ?_
  refine Z_top (y := ((σ 1 12) + 1)) (Fix.get g2 g1 0 1 (by decide +kernel)) ?_
  refine Z_invV (T := TX6) (N := 3) (ci := 6) (M' := mX6_clear) (ρ' := rX6_clear zN) (st := []) [] dX11_readSights_7 rfl rfl (zo_7_0 g1) (z_leN (zo_7_0 g1) (by decide)) (by decide) rfl rfl (kX6_clear.cl (Nat.le_of_ble_eq_true rfl) (Nat.le_refl _) (Nat.le_refl _) (Nat.le_of_ble_eq_true rfl) (Nat.le_of_ble_eq_true rfl) (Nat.le_of_ble_eq_true rfl)) (mlX11_175 rfl) iX6_clear sX6_clear h (z_kv (fun σ4 h => ?_))
  refine Z_aload_n 0 dX11_readSights_10 rfl rfl ?_
  obtain ⟨g5, h⟩ := h
  refine Z_get (T := TX11) (N := 15) (ci := 11) (t := 2) 0 dX11_readSights_11 la_1 (z_leN la_1 (by decide)) rfl (by decide) inX11 (by decide) (flX11_12 rfl) rfl ?_
  refine Z_top (y := 2) ((Fix.get g5 la_1 0 1 (by decide +kernel)).trans (by clear h; omega)) ?_
  refine Z_iconst dX11_readSights_14 ?_
  refine Z_bipush dX11_readSights_15 (by decide) ?_
  refine Z_invV (T := TX8) (N := 9) (ci := 8) (M' := mX8_readNext) (ρ' := rX8_readNext zN) (st := []) [(0, 0), (0, 8)] dX11_readSights_17 rfl rfl la_2 (z_leN la_2 (by decide)) (by decide) rfl rfl (kX8_readNext.cl (Nat.le_of_ble_eq_true rfl) (Nat.le_refl _) (Nat.le_refl _) (Nat.le_of_ble_eq_true rfl) (Nat.le_of_ble_eq_true rfl) (Nat.le_of_ble_eq_true rfl)) (mlX11_292 rfl) iX8_readNext sX8_readNext h (z_kz (fun r6 σ7 h => ?_))
  refine Z_zif_ne (tgt := 25) dX11_readSights_20 (by decide) (fun c => ?_) (fun c => ?_)
  · replace h := h.1 c
    refine Z_aload_n 0 dX11_readSights_25 rfl rfl ?_
    obtain ⟨g8, h⟩ := h
    refine Z_get (T := TX11) (N := 15) (ci := 11) (t := 2) 0 dX11_readSights_26 la_1 (z_leN la_1 (by decide)) rfl (by decide) inX11 (by decide) (flX11_12 rfl) rfl ?_
    refine Z_top (y := 2) ((Fix.get g8 la_1 0 1 (by decide +kernel)).trans (by clear h; omega)) ?_
    refine Z_get (T := TX8) (N := 9) (ci := 8) (t := 0) 5 dX11_readSights_29 la_2 (z_leN la_2 (by decide)) rfl (by decide) inX8 (by decide) (flX11_295 rfl) rfl ?_
    refine Z_istore_n (L' := [(2, 1), (0, (σ7 2 5)), (9, 0)]) 1 dX11_readSights_32 rfl (Nat.le_of_ble_eq_true rfl) rfl ?_
    refine Z_iconst dX11_readSights_33 ?_
    refine Z_istore_n (L' := [(2, 1), (0, (σ7 2 5)), (0, 0)]) 2 dX11_readSights_34 rfl (Nat.le_of_ble_eq_true rfl) rfl ?_
    exact Z_few (z_few_k (z_few_k (z_few_k z_few_0))) h
  · replace h := h.2 c
    refine Z_iconst dX11_readSights_23 ?_
    exact Z_zreturn dX11_readSights_24 rfl (Or.inl rfl) rfl ⟨rfl, false, rfl, h⟩
theorem bk_X11_readSights_35 {X : ZS} {σ : ZM} {T : Bool → ZM → Prop} {x1 : Int} {x2 : Int} (h : (r32 x2) ∧ (r32 x1) ∧ ((x1 ≤ x2) → T true σ) ∧ ((¬ (x1 ≤ x2)) → ZC X (rX11_readSight zN) mX11_readSight [(2, 1)] zN σ (zQz (fun r3 σ4 => ((r3 = true) → Z X (rX11_readSights zN) mX11_readSights 35 [(2, 1), (0, x1), (0, (x2 + 1))] [] zN σ4 (zQz T)) ∧ ((r3 = false) → T false σ4))))) : Z X (rX11_readSights zN) mX11_readSights 35 [(2, 1), (0, x1), (0, x2)] [] zN σ (zQz T) := by
  refine Z_iload_n 2 dX11_readSights_35 rfl rfl ?_
  refine Z_iload_n 1 dX11_readSights_36 rfl rfl ?_
  obtain ⟨g1, h⟩ := h
  obtain ⟨g2, h⟩ := h
  refine Z_icmp_ge (tgt := 55) dX11_readSights_37 (by decide) g1 g2 (fun c => ?_) (fun c => ?_)
  · replace h := h.1 c
    refine Z_iconst dX11_readSights_55 ?_
    exact Z_zreturn dX11_readSights_56 rfl (Or.inr rfl) rfl ⟨rfl, true, rfl, h⟩
  · replace h := h.2 c
    refine Z_aload_n 0 dX11_readSights_40 rfl rfl ?_
    refine Z_invV (T := TX11) (N := 15) (ci := 11) (M' := mX11_readSight) (ρ' := rX11_readSight zN) (st := []) [] dX11_readSights_41 rfl rfl la_1 (z_leN la_1 (by decide)) (by decide) rfl rfl (kX11_readSight.cl (Nat.le_of_ble_eq_true rfl) (Nat.le_refl _) (Nat.le_refl _) (Nat.le_of_ble_eq_true rfl) (Nat.le_of_ble_eq_true rfl) (Nat.le_of_ble_eq_true rfl)) (mlX11_298 rfl) iX11_readSight sX11_readSight h (z_kz (fun r3 σ4 h => ?_))
    refine Z_zif_ne (tgt := 49) dX11_readSights_44 (by decide) (fun c => ?_) (fun c => ?_)
    · replace h := h.1 c
      refine Z_iinc (L' := [(2, 1), (0, x1), (0, (x2 + 1))]) dX11_readSights_49 rfl (Nat.le_of_ble_eq_true rfl) rfl ?_
      refine Z_goto (tgt := 35) dX11_readSights_52 (by decide) ?_
      exact Z_few (z_few_k (z_few_k (z_few_k z_few_0))) h
    · replace h := h.2 c
      refine Z_iconst dX11_readSights_47 ?_
      exact Z_zreturn dX11_readSights_48 rfl (Or.inl rfl) rfl ⟨rfl, false, rfl, h⟩
theorem bk_X11_readSight {X : ZS} {σ : ZM} {T : Bool → ZM → Prop}  (h : (Fix σ) ∧ ZC X (rX8_readPlace zN) mX8_readPlace [(2, 2)] zN σ (zQz (fun r2 σ3 => ((r2 = true) → (z_l (σ3 1 12) = (7, 3)) ∧ (Fix σ3) ∧ ZC X (rX6_holds zN) mX6_holds [(2, ((σ3 1 12) + 1)), (0, (σ3 2 6)), (0, (σ3 2 7))] zN σ3 (zQz (fun r6 σ7 => ((r6 = false) → (Fix σ7) ∧ ZC X (rX8_readNext zN) mX8_readNext [(2, 2), (0, (-1000)), (0, 1000)] zN σ7 (zQz (fun r9 σ10 => ((r9 = true) → (Fix σ10) ∧ ZC X (rX8_readNext zN) mX8_readNext [(2, 2), (0, 0), (0, 100)] zN σ10 (zQz (fun r12 σ13 => ((r12 = true) → (Fix σ13) ∧ (z_l (σ13 1 12) = (7, 3)) ∧ ZC X (rX7_add zN) mX7_add [(2, (σ13 1 12)), (0, (σ13 2 6)), (0, (σ13 2 7)), (0, (σ10 2 5)), (0, (σ13 2 5))] zN σ13 (zQv (fun σ17 => T true σ17))) ∧ ((r12 = false) → T false σ13)))) ∧ ((r9 = false) → T false σ10)))) ∧ ((r6 = true) → (Fix σ7) ∧ T false (z_up σ7 2 8 (-4)))))) ∧ ((r2 = false) → T false σ3)))) : ZC X (rX11_readSight zN) mX11_readSight [(2, 1)] zN σ (zQz T) := by
  show Z X _ _ 0 [(2, 1), (9, 0)] [] _ σ _
  refine Z_aload_n 0 dX11_readSight_0 rfl rfl ?_
  obtain ⟨g1, h⟩ := h
  refine Z_get (T := TX11) (N := 15) (ci := 11) (t := 2) 0 dX11_readSight_1 la_1 (z_leN la_1 (by decide)) rfl (by decide) inX11 (by decide) (flX11_12 rfl) rfl ?_
  refine Z_top (y := 2) ((Fix.get g1 la_1 0 1 (by decide +kernel)).trans (by clear h; omega)) ?_
  refine Z_invV (T := TX8) (N := 9) (ci := 8) (M' := mX8_readPlace) (ρ' := rX8_readPlace zN) (st := []) [] dX11_readSight_4 rfl rfl la_2 (z_leN la_2 (by decide)) (by decide) rfl rfl (kX8_readPlace.cl (Nat.le_of_ble_eq_true rfl) (Nat.le_refl _) (Nat.le_refl _) (Nat.le_of_ble_eq_true rfl) (Nat.le_of_ble_eq_true rfl) (Nat.le_of_ble_eq_true rfl)) (mlX11_301 rfl) iX8_readPlace sX8_readPlace h (z_kz (fun r2 σ3 h => ?_))
  refine Z_zif_ne (tgt := 12) dX11_readSight_7 (by decide) (fun c => ?_) (fun c => ?_)
  · replace h := h.1 c
    refine Z_aload_n 0 dX11_readSight_12 rfl rfl ?_
    refine Z_get (T := TX11) (N := 15) (ci := 11) (t := 2) 12 dX11_readSight_13 la_1 (z_leN la_1 (by decide)) rfl (by decide) inX11 (by decide) (flX11_83 rfl) rfl ?_
    obtain ⟨g4, h⟩ := h
    obtain ⟨g5, h⟩ := h
    refine Z_get (T := TX7) (N := 3) (ci := 7) (t := 2) 0 dX11_readSight_16 g4 (z_leN g4 (by decide)) rfl (by decide) inX7 (by decide) (flX11_125 rfl) rfl ?_
    refine Z_top (y := ((σ3 1 12) + 1)) (Fix.get g5 g4 0 1 (by decide +kernel)) ?_
    refine Z_aload_n 0 dX11_readSight_19 rfl rfl ?_
    refine Z_get (T := TX11) (N := 15) (ci := 11) (t := 2) 0 dX11_readSight_20 la_1 (z_leN la_1 (by decide)) rfl (by decide) inX11 (by decide) (flX11_12 rfl) rfl ?_
    refine Z_top (y := 2) ((Fix.get g5 la_1 0 1 (by decide +kernel)).trans (by clear h; omega)) ?_
    refine Z_get (T := TX8) (N := 9) (ci := 8) (t := 0) 6 dX11_readSight_23 la_2 (z_leN la_2 (by decide)) rfl (by decide) inX8 (by decide) (flX11_304 rfl) rfl ?_
    refine Z_aload_n 0 dX11_readSight_26 rfl rfl ?_
    refine Z_get (T := TX11) (N := 15) (ci := 11) (t := 2) 0 dX11_readSight_27 la_1 (z_leN la_1 (by decide)) rfl (by decide) inX11 (by decide) (flX11_12 rfl) rfl ?_
    refine Z_top (y := 2) ((Fix.get g5 la_1 0 1 (by decide +kernel)).trans (by clear h; omega)) ?_
    refine Z_get (T := TX8) (N := 9) (ci := 8) (t := 0) 7 dX11_readSight_30 la_2 (z_leN la_2 (by decide)) rfl (by decide) inX8 (by decide) (flX11_307 rfl) rfl ?_
    refine Z_invV (T := TX6) (N := 3) (ci := 6) (M' := mX6_holds) (ρ' := rX6_holds zN) (st := []) [(0, (σ3 2 6)), (0, (σ3 2 7))] dX11_readSight_33 rfl rfl (zo_7_0 g4) (z_leN (zo_7_0 g4) (by decide)) (by decide) rfl rfl (kX6_holds.cl (Nat.le_of_ble_eq_true rfl) (Nat.le_refl _) (Nat.le_refl _) (Nat.le_of_ble_eq_true rfl) (Nat.le_of_ble_eq_true rfl) (Nat.le_of_ble_eq_true rfl)) (mlX11_139 rfl) iX6_holds sX6_holds h (z_kz (fun r6 σ7 h => ?_))
    refine Z_zif_eq (tgt := 50) dX11_readSight_36 (by decide) (fun c => ?_) (fun c => ?_)
    · replace h := h.1 c
      refine Z_aload_n 0 dX11_readSight_50 rfl rfl ?_
      obtain ⟨g8, h⟩ := h
      refine Z_get (T := TX11) (N := 15) (ci := 11) (t := 2) 0 dX11_readSight_51 la_1 (z_leN la_1 (by decide)) rfl (by decide) inX11 (by decide) (flX11_12 rfl) rfl ?_
      refine Z_top (y := 2) ((Fix.get g8 la_1 0 1 (by decide +kernel)).trans (by clear h; omega)) ?_
      refine Z_sipush dX11_readSight_54 (by decide) ?_
      refine Z_sipush dX11_readSight_57 (by decide) ?_
      refine Z_invV (T := TX8) (N := 9) (ci := 8) (M' := mX8_readNext) (ρ' := rX8_readNext zN) (st := []) [(0, (-1000)), (0, 1000)] dX11_readSight_60 rfl rfl la_2 (z_leN la_2 (by decide)) (by decide) rfl rfl (kX8_readNext.cl (Nat.le_of_ble_eq_true rfl) (Nat.le_refl _) (Nat.le_refl _) (Nat.le_of_ble_eq_true rfl) (Nat.le_of_ble_eq_true rfl) (Nat.le_of_ble_eq_true rfl)) (mlX11_292 rfl) iX8_readNext sX8_readNext h (z_kz (fun r9 σ10 h => ?_))
      refine Z_zif_ne (tgt := 68) dX11_readSight_63 (by decide) (fun c => ?_) (fun c => ?_)
      · replace h := h.1 c
        refine Z_aload_n 0 dX11_readSight_68 rfl rfl ?_
        obtain ⟨g11, h⟩ := h
        refine Z_get (T := TX11) (N := 15) (ci := 11) (t := 2) 0 dX11_readSight_69 la_1 (z_leN la_1 (by decide)) rfl (by decide) inX11 (by decide) (flX11_12 rfl) rfl ?_
        refine Z_top (y := 2) ((Fix.get g11 la_1 0 1 (by decide +kernel)).trans (by clear h; omega)) ?_
        refine Z_get (T := TX8) (N := 9) (ci := 8) (t := 0) 5 dX11_readSight_72 la_2 (z_leN la_2 (by decide)) rfl (by decide) inX8 (by decide) (flX11_295 rfl) rfl ?_
        refine Z_istore_n (L' := [(2, 1), (0, (σ10 2 5))]) 1 dX11_readSight_75 rfl (Nat.le_of_ble_eq_true rfl) rfl ?_
        refine Z_aload_n 0 dX11_readSight_76 rfl rfl ?_
        refine Z_get (T := TX11) (N := 15) (ci := 11) (t := 2) 0 dX11_readSight_77 la_1 (z_leN la_1 (by decide)) rfl (by decide) inX11 (by decide) (flX11_12 rfl) rfl ?_
        refine Z_top (y := 2) ((Fix.get g11 la_1 0 1 (by decide +kernel)).trans (by clear h; omega)) ?_
        refine Z_iconst dX11_readSight_80 ?_
        refine Z_bipush dX11_readSight_81 (by decide) ?_
        refine Z_invV (T := TX8) (N := 9) (ci := 8) (M' := mX8_readNext) (ρ' := rX8_readNext zN) (st := []) [(0, 0), (0, 100)] dX11_readSight_83 rfl rfl la_2 (z_leN la_2 (by decide)) (by decide) rfl rfl (kX8_readNext.cl (Nat.le_of_ble_eq_true rfl) (Nat.le_refl _) (Nat.le_refl _) (Nat.le_of_ble_eq_true rfl) (Nat.le_of_ble_eq_true rfl) (Nat.le_of_ble_eq_true rfl)) (mlX11_292 rfl) iX8_readNext sX8_readNext h (z_kz (fun r12 σ13 h => ?_))
        refine Z_zif_ne (tgt := 91) dX11_readSight_86 (by decide) (fun c => ?_) (fun c => ?_)
        · replace h := h.1 c
          refine Z_aload_n 0 dX11_readSight_91 rfl rfl ?_
          refine Z_get (T := TX11) (N := 15) (ci := 11) (t := 2) 12 dX11_readSight_92 la_1 (z_leN la_1 (by decide)) rfl (by decide) inX11 (by decide) (flX11_83 rfl) rfl ?_
          refine Z_aload_n 0 dX11_readSight_95 rfl rfl ?_
          obtain ⟨g14, h⟩ := h
          refine Z_get (T := TX11) (N := 15) (ci := 11) (t := 2) 0 dX11_readSight_96 la_1 (z_leN la_1 (by decide)) rfl (by decide) inX11 (by decide) (flX11_12 rfl) rfl ?_
          refine Z_top (y := 2) ((Fix.get g14 la_1 0 1 (by decide +kernel)).trans (by clear h; omega)) ?_
          refine Z_get (T := TX8) (N := 9) (ci := 8) (t := 0) 6 dX11_readSight_99 la_2 (z_leN la_2 (by decide)) rfl (by decide) inX8 (by decide) (flX11_304 rfl) rfl ?_
          refine Z_aload_n 0 dX11_readSight_102 rfl rfl ?_
          refine Z_get (T := TX11) (N := 15) (ci := 11) (t := 2) 0 dX11_readSight_103 la_1 (z_leN la_1 (by decide)) rfl (by decide) inX11 (by decide) (flX11_12 rfl) rfl ?_
          refine Z_top (y := 2) ((Fix.get g14 la_1 0 1 (by decide +kernel)).trans (by clear h; omega)) ?_
          refine Z_get (T := TX8) (N := 9) (ci := 8) (t := 0) 7 dX11_readSight_106 la_2 (z_leN la_2 (by decide)) rfl (by decide) inX8 (by decide) (flX11_307 rfl) rfl ?_
          refine Z_iload_n 1 dX11_readSight_109 rfl rfl ?_
          refine Z_aload_n 0 dX11_readSight_110 rfl rfl ?_
          refine Z_get (T := TX11) (N := 15) (ci := 11) (t := 2) 0 dX11_readSight_111 la_1 (z_leN la_1 (by decide)) rfl (by decide) inX11 (by decide) (flX11_12 rfl) rfl ?_
          refine Z_top (y := 2) ((Fix.get g14 la_1 0 1 (by decide +kernel)).trans (by clear h; omega)) ?_
          refine Z_get (T := TX8) (N := 9) (ci := 8) (t := 0) 5 dX11_readSight_114 la_2 (z_leN la_2 (by decide)) rfl (by decide) inX8 (by decide) (flX11_295 rfl) rfl ?_
          obtain ⟨g15, h⟩ := h
          refine Z_invV (T := TX7) (N := 3) (ci := 7) (M' := mX7_add) (ρ' := rX7_add zN) (st := []) [(0, (σ13 2 6)), (0, (σ13 2 7)), (0, (σ10 2 5)), (0, (σ13 2 5))] dX11_readSight_117 rfl rfl g15 (z_leN g15 (by decide)) (by decide) rfl rfl (kX7_add.cl (Nat.le_of_ble_eq_true rfl) (Nat.le_refl _) (Nat.le_refl _) (Nat.le_of_ble_eq_true rfl) (Nat.le_of_ble_eq_true rfl) (Nat.le_of_ble_eq_true rfl)) (mlX11_141 rfl) iX7_add sX7_add h (z_kv (fun σ17 h => ?_))
          refine Z_iconst dX11_readSight_120 ?_
          exact Z_zreturn dX11_readSight_121 rfl (Or.inr rfl) rfl ⟨rfl, true, rfl, h⟩
        · replace h := h.2 c
          refine Z_iconst dX11_readSight_89 ?_
          exact Z_zreturn dX11_readSight_90 rfl (Or.inl rfl) rfl ⟨rfl, false, rfl, h⟩
      · replace h := h.2 c
        refine Z_iconst dX11_readSight_66 ?_
        exact Z_zreturn dX11_readSight_67 rfl (Or.inl rfl) rfl ⟨rfl, false, rfl, h⟩
    · replace h := h.2 c
      refine Z_aload_n 0 dX11_readSight_39 rfl rfl ?_
      obtain ⟨g18, h⟩ := h
      refine Z_get (T := TX11) (N := 15) (ci := 11) (t := 2) 0 dX11_readSight_40 la_1 (z_leN la_1 (by decide)) rfl (by decide) inX11 (by decide) (flX11_12 rfl) rfl ?_
      refine Z_top (y := 2) ((Fix.get g18 la_1 0 1 (by decide +kernel)).trans (by clear h; omega)) ?_
      refine Z_bipush dX11_readSight_43 (by decide) ?_
      refine Z_put (T := TX8) (N := 9) (ci := 8) (t := 0) tyX8 8 dX11_readSight_45 la_2 (z_leN la_2 (by decide)) rfl (by decide) inX8 (by decide) (plX11_118 rfl) rfl tyX8_ok nmX8 rfl (z_nf_i _) ?_
      refine Z_iconst dX11_readSight_48 ?_
      exact Z_zreturn dX11_readSight_49 rfl (Or.inl rfl) rfl ⟨rfl, false, rfl, h⟩
  · replace h := h.2 c
    refine Z_iconst dX11_readSight_10 ?_
    exact Z_zreturn dX11_readSight_11 rfl (Or.inl rfl) rfl ⟨rfl, false, rfl, h⟩
theorem bk_X11_readTable {X : ZS} {σ : ZM} {T : Bool → ZM → Prop}  (h : (Fix σ) ∧ ZC X (rX8_readNext zN) mX8_readNext [(2, 2), (0, 1), (0, 40)] zN σ (zQz (fun r2 σ3 => ((r2 = true) → (Fix σ3) ∧ Z X (rX11_readTable zN) mX11_readTable 25 [(2, 1), (0, (σ3 2 5)), (0, 1)] [] zN σ3 (zQz T)) ∧ ((r2 = false) → T false σ3)))) : ZC X (rX11_readTable zN) mX11_readTable [(2, 1)] zN σ (zQz T) := by
  show Z X _ _ 0 [(2, 1), (9, 0), (9, 0)] [] _ σ _
  refine Z_aload_n 0 dX11_readTable_0 rfl rfl ?_
  obtain ⟨g1, h⟩ := h
  refine Z_get (T := TX11) (N := 15) (ci := 11) (t := 2) 0 dX11_readTable_1 la_1 (z_leN la_1 (by decide)) rfl (by decide) inX11 (by decide) (flX11_12 rfl) rfl ?_
  refine Z_top (y := 2) ((Fix.get g1 la_1 0 1 (by decide +kernel)).trans (by clear h; omega)) ?_
  refine Z_iconst dX11_readTable_4 ?_
  refine Z_bipush dX11_readTable_5 (by decide) ?_
  refine Z_invV (T := TX8) (N := 9) (ci := 8) (M' := mX8_readNext) (ρ' := rX8_readNext zN) (st := []) [(0, 1), (0, 40)] dX11_readTable_7 rfl rfl la_2 (z_leN la_2 (by decide)) (by decide) rfl rfl (kX8_readNext.cl (Nat.le_of_ble_eq_true rfl) (Nat.le_refl _) (Nat.le_refl _) (Nat.le_of_ble_eq_true rfl) (Nat.le_of_ble_eq_true rfl) (Nat.le_of_ble_eq_true rfl)) (mlX11_292 rfl) iX8_readNext sX8_readNext h (z_kz (fun r2 σ3 h => ?_))
  refine Z_zif_ne (tgt := 15) dX11_readTable_10 (by decide) (fun c => ?_) (fun c => ?_)
  · replace h := h.1 c
    refine Z_aload_n 0 dX11_readTable_15 rfl rfl ?_
    obtain ⟨g4, h⟩ := h
    refine Z_get (T := TX11) (N := 15) (ci := 11) (t := 2) 0 dX11_readTable_16 la_1 (z_leN la_1 (by decide)) rfl (by decide) inX11 (by decide) (flX11_12 rfl) rfl ?_
    refine Z_top (y := 2) ((Fix.get g4 la_1 0 1 (by decide +kernel)).trans (by clear h; omega)) ?_
    refine Z_get (T := TX8) (N := 9) (ci := 8) (t := 0) 5 dX11_readTable_19 la_2 (z_leN la_2 (by decide)) rfl (by decide) inX8 (by decide) (flX11_295 rfl) rfl ?_
    refine Z_istore_n (L' := [(2, 1), (0, (σ3 2 5)), (9, 0)]) 1 dX11_readTable_22 rfl (Nat.le_of_ble_eq_true rfl) rfl ?_
    refine Z_iconst dX11_readTable_23 ?_
    refine Z_istore_n (L' := [(2, 1), (0, (σ3 2 5)), (0, 1)]) 2 dX11_readTable_24 rfl (Nat.le_of_ble_eq_true rfl) rfl ?_
    exact Z_few (z_few_k (z_few_k (z_few_k z_few_0))) h
  · replace h := h.2 c
    refine Z_iconst dX11_readTable_13 ?_
    exact Z_zreturn dX11_readTable_14 rfl (Or.inl rfl) rfl ⟨rfl, false, rfl, h⟩
theorem bk_X11_readTable_25 {X : ZS} {σ : ZM} {T : Bool → ZM → Prop} {x1 : Int} {x2 : Int} (h : (r32 x2) ∧ (r32 x1) ∧ ((x1 < x2) → Z X (rX11_readTable zN) mX11_readTable 71 [(2, 1), (9, 0), (0, (x1 + 1))] [] zN σ (zQz T)) ∧ ((¬ (x1 < x2)) → (Fix σ) ∧ ZC X (rX8_readNext zN) mX8_readNext [(2, 2), (0, 0), (0, 8000)] zN σ (zQz (fun r4 σ5 => ((r4 = true) → (Fix σ5) ∧ ZC X (rX5_draft zN) mX5_draft [(2, 6), (0, x2), (0, (σ5 2 5))] zN σ5 (zQv (fun σ8 => Z X (rX11_readTable zN) mX11_readTable 25 [(2, 1), (0, x1), (0, (x2 + 1))] [] zN σ8 (zQz T)))) ∧ ((r4 = false) → T false σ5))))) : Z X (rX11_readTable zN) mX11_readTable 25 [(2, 1), (0, x1), (0, x2)] [] zN σ (zQz T) := by
  refine Z_iload_n 2 dX11_readTable_25 rfl rfl ?_
  refine Z_iload_n 1 dX11_readTable_26 rfl rfl ?_
  obtain ⟨g1, h⟩ := h
  obtain ⟨g2, h⟩ := h
  refine Z_icmp_gt (tgt := 67) dX11_readTable_27 (by decide) g1 g2 (fun c => ?_) (fun c => ?_)
  · replace h := h.1 c
    refine Z_iload_n 1 dX11_readTable_67 rfl rfl ?_
    refine Z_iconst dX11_readTable_68 ?_
    refine Z_iadd dX11_readTable_69 ?_
    refine Z_istore_n (L' := [(2, 1), (0, x1), (0, (x1 + 1))]) 2 dX11_readTable_70 rfl (Nat.le_of_ble_eq_true rfl) rfl ?_
    exact Z_few (z_few_k (z_few_d (z_few_k z_few_0))) h
  · replace h := h.2 c
    refine Z_aload_n 0 dX11_readTable_30 rfl rfl ?_
    obtain ⟨g3, h⟩ := h
    refine Z_get (T := TX11) (N := 15) (ci := 11) (t := 2) 0 dX11_readTable_31 la_1 (z_leN la_1 (by decide)) rfl (by decide) inX11 (by decide) (flX11_12 rfl) rfl ?_
    refine Z_top (y := 2) ((Fix.get g3 la_1 0 1 (by decide +kernel)).trans (by clear h; omega)) ?_
    refine Z_iconst dX11_readTable_34 ?_
    refine Z_sipush dX11_readTable_35 (by decide) ?_
    refine Z_invV (T := TX8) (N := 9) (ci := 8) (M' := mX8_readNext) (ρ' := rX8_readNext zN) (st := []) [(0, 0), (0, 8000)] dX11_readTable_38 rfl rfl la_2 (z_leN la_2 (by decide)) (by decide) rfl rfl (kX8_readNext.cl (Nat.le_of_ble_eq_true rfl) (Nat.le_refl _) (Nat.le_refl _) (Nat.le_of_ble_eq_true rfl) (Nat.le_of_ble_eq_true rfl) (Nat.le_of_ble_eq_true rfl)) (mlX11_292 rfl) iX8_readNext sX8_readNext h (z_kz (fun r4 σ5 h => ?_))
    refine Z_zif_ne (tgt := 46) dX11_readTable_41 (by decide) (fun c => ?_) (fun c => ?_)
    · replace h := h.1 c
      refine Z_aload_n 0 dX11_readTable_46 rfl rfl ?_
      obtain ⟨g6, h⟩ := h
      refine Z_get (T := TX11) (N := 15) (ci := 11) (t := 2) 1 dX11_readTable_47 la_1 (z_leN la_1 (by decide)) rfl (by decide) inX11 (by decide) (flX11_19 rfl) rfl ?_
      refine Z_top (y := 6) ((Fix.get g6 la_1 1 5 (by decide +kernel)).trans (by clear h; omega)) ?_
      refine Z_iload_n 2 dX11_readTable_50 rfl rfl ?_
      refine Z_aload_n 0 dX11_readTable_51 rfl rfl ?_
      refine Z_get (T := TX11) (N := 15) (ci := 11) (t := 2) 0 dX11_readTable_52 la_1 (z_leN la_1 (by decide)) rfl (by decide) inX11 (by decide) (flX11_12 rfl) rfl ?_
      refine Z_top (y := 2) ((Fix.get g6 la_1 0 1 (by decide +kernel)).trans (by clear h; omega)) ?_
      refine Z_get (T := TX8) (N := 9) (ci := 8) (t := 0) 5 dX11_readTable_55 la_2 (z_leN la_2 (by decide)) rfl (by decide) inX8 (by decide) (flX11_295 rfl) rfl ?_
      refine Z_invV (T := TX5) (N := 2) (ci := 5) (M' := mX5_draft) (ρ' := rX5_draft zN) (st := []) [(0, x2), (0, (σ5 2 5))] dX11_readTable_58 rfl rfl la_6 (z_leN la_6 (by decide)) (by decide) rfl rfl (kX5_draft.cl (Nat.le_of_ble_eq_true rfl) (Nat.le_refl _) (Nat.le_refl _) (Nat.le_of_ble_eq_true rfl) (Nat.le_of_ble_eq_true rfl) (Nat.le_of_ble_eq_true rfl)) (mlX11_310 rfl) iX5_draft sX5_draft h (z_kv (fun σ8 h => ?_))
      refine Z_iinc (L' := [(2, 1), (0, x1), (0, (x2 + 1))]) dX11_readTable_61 rfl (Nat.le_of_ble_eq_true rfl) rfl ?_
      refine Z_goto (tgt := 25) dX11_readTable_64 (by decide) ?_
      exact Z_few (z_few_k (z_few_k (z_few_k z_few_0))) h
    · replace h := h.2 c
      refine Z_iconst dX11_readTable_44 ?_
      exact Z_zreturn dX11_readTable_45 rfl (Or.inl rfl) rfl ⟨rfl, false, rfl, h⟩
theorem bk_X11_readTable_71 {X : ZS} {σ : ZM} {T : Bool → ZM → Prop} {x2 : Int} (h : (r32 x2) ∧ ((80 < x2) → T true σ) ∧ ((¬ (80 < x2)) → (Fix σ) ∧ ZC X (rX5_draft zN) mX5_draft [(2, 6), (0, x2), (0, (σ 2 5))] zN σ (zQv (fun σ4 => Z X (rX11_readTable zN) mX11_readTable 71 [(2, 1), (9, 0), (0, (x2 + 1))] [] zN σ4 (zQz T))))) : Z X (rX11_readTable zN) mX11_readTable 71 [(2, 1), (9, 0), (0, x2)] [] zN σ (zQz T) := by
  refine Z_iload_n 2 dX11_readTable_71 rfl rfl ?_
  refine Z_bipush dX11_readTable_72 (by decide) ?_
  obtain ⟨g1, h⟩ := h
  refine Z_icmp_gt (tgt := 98) dX11_readTable_74 (by decide) g1 ⟨by decide, by decide⟩ (fun c => ?_) (fun c => ?_)
  · replace h := h.1 c
    refine Z_iconst dX11_readTable_98 ?_
    exact Z_zreturn dX11_readTable_99 rfl (Or.inr rfl) rfl ⟨rfl, true, rfl, h⟩
  · replace h := h.2 c
    refine Z_aload_n 0 dX11_readTable_77 rfl rfl ?_
    obtain ⟨g2, h⟩ := h
    refine Z_get (T := TX11) (N := 15) (ci := 11) (t := 2) 1 dX11_readTable_78 la_1 (z_leN la_1 (by decide)) rfl (by decide) inX11 (by decide) (flX11_19 rfl) rfl ?_
    refine Z_top (y := 6) ((Fix.get g2 la_1 1 5 (by decide +kernel)).trans (by clear h; omega)) ?_
    refine Z_iload_n 2 dX11_readTable_81 rfl rfl ?_
    refine Z_aload_n 0 dX11_readTable_82 rfl rfl ?_
    refine Z_get (T := TX11) (N := 15) (ci := 11) (t := 2) 0 dX11_readTable_83 la_1 (z_leN la_1 (by decide)) rfl (by decide) inX11 (by decide) (flX11_12 rfl) rfl ?_
    refine Z_top (y := 2) ((Fix.get g2 la_1 0 1 (by decide +kernel)).trans (by clear h; omega)) ?_
    refine Z_get (T := TX8) (N := 9) (ci := 8) (t := 0) 5 dX11_readTable_86 la_2 (z_leN la_2 (by decide)) rfl (by decide) inX8 (by decide) (flX11_295 rfl) rfl ?_
    refine Z_invV (T := TX5) (N := 2) (ci := 5) (M' := mX5_draft) (ρ' := rX5_draft zN) (st := []) [(0, x2), (0, (σ 2 5))] dX11_readTable_89 rfl rfl la_6 (z_leN la_6 (by decide)) (by decide) rfl rfl (kX5_draft.cl (Nat.le_of_ble_eq_true rfl) (Nat.le_refl _) (Nat.le_refl _) (Nat.le_of_ble_eq_true rfl) (Nat.le_of_ble_eq_true rfl) (Nat.le_of_ble_eq_true rfl)) (mlX11_310 rfl) iX5_draft sX5_draft h (z_kv (fun σ4 h => ?_))
    refine Z_iinc (L' := [(2, 1), (9, 0), (0, (x2 + 1))]) dX11_readTable_92 rfl (Nat.le_of_ble_eq_true rfl) rfl ?_
    refine Z_goto (tgt := 71) dX11_readTable_95 (by decide) ?_
    exact Z_few (z_few_k (z_few_k (z_few_k z_few_0))) h
theorem bk_X11_readAsked {X : ZS} {σ : ZM} {T : Bool → ZM → Prop}  (h : (Fix σ) ∧ ZC X (rX6_clear zN) mX6_clear [(2, 8)] zN σ (zQv (fun σ3 => (Fix σ3) ∧ ZC X (rX8_readNext zN) mX8_readNext [(2, 2), (0, 1), (0, 6)] zN σ3 (zQz (fun r5 σ6 => ((r5 = true) → (Fix σ6) ∧ Z X (rX11_readAsked zN) mX11_readAsked 32 [(2, 1), (0, (σ6 2 5)), (0, 0)] [] zN σ6 (zQz T)) ∧ ((r5 = false) → T false σ6)))))) : ZC X (rX11_readAsked zN) mX11_readAsked [(2, 1)] zN σ (zQz T) := by
  show Z X _ _ 0 [(2, 1), (9, 0), (9, 0)] [] _ σ _
  refine Z_aload_n 0 dX11_readAsked_0 rfl rfl ?_
  obtain ⟨g1, h⟩ := h
  refine Z_get (T := TX11) (N := 15) (ci := 11) (t := 2) 2 dX11_readAsked_1 la_1 (z_leN la_1 (by decide)) rfl (by decide) inX11 (by decide) (flX11_28 rfl) rfl ?_
  refine Z_top (y := 8) ((Fix.get g1 la_1 2 7 (by decide +kernel)).trans (by clear h; omega)) ?_
  refine Z_invV (T := TX6) (N := 3) (ci := 6) (M' := mX6_clear) (ρ' := rX6_clear zN) (st := []) [] dX11_readAsked_4 rfl rfl la_8 (z_leN la_8 (by decide)) (by decide) rfl rfl (kX6_clear.cl (Nat.le_of_ble_eq_true rfl) (Nat.le_refl _) (Nat.le_refl _) (Nat.le_of_ble_eq_true rfl) (Nat.le_of_ble_eq_true rfl) (Nat.le_of_ble_eq_true rfl)) (mlX11_175 rfl) iX6_clear sX6_clear h (z_kv (fun σ3 h => ?_))
  refine Z_aload_n 0 dX11_readAsked_7 rfl rfl ?_
  obtain ⟨g4, h⟩ := h
  refine Z_get (T := TX11) (N := 15) (ci := 11) (t := 2) 0 dX11_readAsked_8 la_1 (z_leN la_1 (by decide)) rfl (by decide) inX11 (by decide) (flX11_12 rfl) rfl ?_
  refine Z_top (y := 2) ((Fix.get g4 la_1 0 1 (by decide +kernel)).trans (by clear h; omega)) ?_
  refine Z_iconst dX11_readAsked_11 ?_
  refine Z_bipush dX11_readAsked_12 (by decide) ?_
  refine Z_invV (T := TX8) (N := 9) (ci := 8) (M' := mX8_readNext) (ρ' := rX8_readNext zN) (st := []) [(0, 1), (0, 6)] dX11_readAsked_14 rfl rfl la_2 (z_leN la_2 (by decide)) (by decide) rfl rfl (kX8_readNext.cl (Nat.le_of_ble_eq_true rfl) (Nat.le_refl _) (Nat.le_refl _) (Nat.le_of_ble_eq_true rfl) (Nat.le_of_ble_eq_true rfl) (Nat.le_of_ble_eq_true rfl)) (mlX11_292 rfl) iX8_readNext sX8_readNext h (z_kz (fun r5 σ6 h => ?_))
  refine Z_zif_ne (tgt := 22) dX11_readAsked_17 (by decide) (fun c => ?_) (fun c => ?_)
  · replace h := h.1 c
    refine Z_aload_n 0 dX11_readAsked_22 rfl rfl ?_
    obtain ⟨g7, h⟩ := h
    refine Z_get (T := TX11) (N := 15) (ci := 11) (t := 2) 0 dX11_readAsked_23 la_1 (z_leN la_1 (by decide)) rfl (by decide) inX11 (by decide) (flX11_12 rfl) rfl ?_
    refine Z_top (y := 2) ((Fix.get g7 la_1 0 1 (by decide +kernel)).trans (by clear h; omega)) ?_
    refine Z_get (T := TX8) (N := 9) (ci := 8) (t := 0) 5 dX11_readAsked_26 la_2 (z_leN la_2 (by decide)) rfl (by decide) inX8 (by decide) (flX11_295 rfl) rfl ?_
    refine Z_istore_n (L' := [(2, 1), (0, (σ6 2 5)), (9, 0)]) 1 dX11_readAsked_29 rfl (Nat.le_of_ble_eq_true rfl) rfl ?_
    refine Z_iconst dX11_readAsked_30 ?_
    refine Z_istore_n (L' := [(2, 1), (0, (σ6 2 5)), (0, 0)]) 2 dX11_readAsked_31 rfl (Nat.le_of_ble_eq_true rfl) rfl ?_
    exact Z_few (z_few_k (z_few_k (z_few_k z_few_0))) h
  · replace h := h.2 c
    refine Z_iconst dX11_readAsked_20 ?_
    exact Z_zreturn dX11_readAsked_21 rfl (Or.inl rfl) rfl ⟨rfl, false, rfl, h⟩
theorem bk_X11_readAsked_32 {X : ZS} {σ : ZM} {T : Bool → ZM → Prop} {x1 : Int} {x2 : Int} (h : (r32 x2) ∧ (r32 x1) ∧ ((x1 ≤ x2) → T true σ) ∧ ((¬ (x1 ≤ x2)) → (Fix σ) ∧ ZC X (rX8_readPlace zN) mX8_readPlace [(2, 2)] zN σ (zQz (fun r4 σ5 => ((r4 = true) → (Fix σ5) ∧ ZC X (rX6_add zN) mX6_add [(2, 8), (0, (σ5 2 6)), (0, (σ5 2 7))] zN σ5 (zQv (fun σ8 => Z X (rX11_readAsked zN) mX11_readAsked 32 [(2, 1), (0, x1), (0, (x2 + 1))] [] zN σ8 (zQz T)))) ∧ ((r4 = false) → T false σ5))))) : Z X (rX11_readAsked zN) mX11_readAsked 32 [(2, 1), (0, x1), (0, x2)] [] zN σ (zQz T) := by
  refine Z_iload_n 2 dX11_readAsked_32 rfl rfl ?_
  refine Z_iload_n 1 dX11_readAsked_33 rfl rfl ?_
  obtain ⟨g1, h⟩ := h
  obtain ⟨g2, h⟩ := h
  refine Z_icmp_ge (tgt := 76) dX11_readAsked_34 (by decide) g1 g2 (fun c => ?_) (fun c => ?_)
  · replace h := h.1 c
    refine Z_iconst dX11_readAsked_76 ?_
    exact Z_zreturn dX11_readAsked_77 rfl (Or.inr rfl) rfl ⟨rfl, true, rfl, h⟩
  · replace h := h.2 c
    refine Z_aload_n 0 dX11_readAsked_37 rfl rfl ?_
    obtain ⟨g3, h⟩ := h
    refine Z_get (T := TX11) (N := 15) (ci := 11) (t := 2) 0 dX11_readAsked_38 la_1 (z_leN la_1 (by decide)) rfl (by decide) inX11 (by decide) (flX11_12 rfl) rfl ?_
    refine Z_top (y := 2) ((Fix.get g3 la_1 0 1 (by decide +kernel)).trans (by clear h; omega)) ?_
    refine Z_invV (T := TX8) (N := 9) (ci := 8) (M' := mX8_readPlace) (ρ' := rX8_readPlace zN) (st := []) [] dX11_readAsked_41 rfl rfl la_2 (z_leN la_2 (by decide)) (by decide) rfl rfl (kX8_readPlace.cl (Nat.le_of_ble_eq_true rfl) (Nat.le_refl _) (Nat.le_refl _) (Nat.le_of_ble_eq_true rfl) (Nat.le_of_ble_eq_true rfl) (Nat.le_of_ble_eq_true rfl)) (mlX11_301 rfl) iX8_readPlace sX8_readPlace h (z_kz (fun r4 σ5 h => ?_))
    refine Z_zif_ne (tgt := 49) dX11_readAsked_44 (by decide) (fun c => ?_) (fun c => ?_)
    · replace h := h.1 c
      refine Z_aload_n 0 dX11_readAsked_49 rfl rfl ?_
      obtain ⟨g6, h⟩ := h
      refine Z_get (T := TX11) (N := 15) (ci := 11) (t := 2) 2 dX11_readAsked_50 la_1 (z_leN la_1 (by decide)) rfl (by decide) inX11 (by decide) (flX11_28 rfl) rfl ?_
      refine Z_top (y := 8) ((Fix.get g6 la_1 2 7 (by decide +kernel)).trans (by clear h; omega)) ?_
      refine Z_aload_n 0 dX11_readAsked_53 rfl rfl ?_
      refine Z_get (T := TX11) (N := 15) (ci := 11) (t := 2) 0 dX11_readAsked_54 la_1 (z_leN la_1 (by decide)) rfl (by decide) inX11 (by decide) (flX11_12 rfl) rfl ?_
      refine Z_top (y := 2) ((Fix.get g6 la_1 0 1 (by decide +kernel)).trans (by clear h; omega)) ?_
      refine Z_get (T := TX8) (N := 9) (ci := 8) (t := 0) 6 dX11_readAsked_57 la_2 (z_leN la_2 (by decide)) rfl (by decide) inX8 (by decide) (flX11_304 rfl) rfl ?_
      refine Z_aload_n 0 dX11_readAsked_60 rfl rfl ?_
      refine Z_get (T := TX11) (N := 15) (ci := 11) (t := 2) 0 dX11_readAsked_61 la_1 (z_leN la_1 (by decide)) rfl (by decide) inX11 (by decide) (flX11_12 rfl) rfl ?_
      refine Z_top (y := 2) ((Fix.get g6 la_1 0 1 (by decide +kernel)).trans (by clear h; omega)) ?_
      refine Z_get (T := TX8) (N := 9) (ci := 8) (t := 0) 7 dX11_readAsked_64 la_2 (z_leN la_2 (by decide)) rfl (by decide) inX8 (by decide) (flX11_307 rfl) rfl ?_
      refine Z_invV (T := TX6) (N := 3) (ci := 6) (M' := mX6_add) (ρ' := rX6_add zN) (st := []) [(0, (σ5 2 6)), (0, (σ5 2 7))] dX11_readAsked_67 rfl rfl la_8 (z_leN la_8 (by decide)) (by decide) rfl rfl (kX6_add.cl (Nat.le_of_ble_eq_true rfl) (Nat.le_refl _) (Nat.le_refl _) (Nat.le_of_ble_eq_true rfl) (Nat.le_of_ble_eq_true rfl) (Nat.le_of_ble_eq_true rfl)) (mlX11_178 rfl) iX6_add sX6_add h (z_kv (fun σ8 h => ?_))
      refine Z_iinc (L' := [(2, 1), (0, x1), (0, (x2 + 1))]) dX11_readAsked_70 rfl (Nat.le_of_ble_eq_true rfl) rfl ?_
      refine Z_goto (tgt := 32) dX11_readAsked_73 (by decide) ?_
      exact Z_few (z_few_k (z_few_k (z_few_k z_few_0))) h
    · replace h := h.2 c
      refine Z_iconst dX11_readAsked_47 ?_
      exact Z_zreturn dX11_readAsked_48 rfl (Or.inl rfl) rfl ⟨rfl, false, rfl, h⟩
theorem bk_X11_canGuess {X : ZS} {σ : ZM} {T : Bool → ZM → Prop}  (h : (r32 (σ 1 13)) ∧ (((σ 1 13) = (-1)) → T false σ) ∧ ((¬ (σ 1 13) = (-1)) → (z_l (σ 1 11) = (7, 3)) ∧ (Fix σ) ∧ (r32 (σ ((σ 1 11) + 1) 2)) ∧ (((σ ((σ 1 11) + 1) 2) ≤ 0) → T false σ) ∧ ((¬ ((σ ((σ 1 11) + 1) 2) ≤ 0)) → T true σ))) : ZC X (rX11_canGuess zN) mX11_canGuess [(2, 1)] zN σ (zQz T) := by
  show Z X _ _ 0 [(2, 1)] [] _ σ _
  refine Z_aload_n 0 dX11_canGuess_0 rfl rfl ?_
  refine Z_get (T := TX11) (N := 15) (ci := 11) (t := 0) 13 dX11_canGuess_1 la_1 (z_leN la_1 (by decide)) rfl (by decide) inX11 (by decide) (flX11_86 rfl) rfl ?_
  refine Z_iconst dX11_canGuess_4 ?_
  obtain ⟨g1, h⟩ := h
  refine Z_icmp_eq (tgt := 25) dX11_canGuess_5 (by decide) g1 ⟨by decide, by decide⟩ (fun c => ?_) (fun c => ?_)
  · replace h := h.1 c
    refine Z_iconst dX11_canGuess_25 ?_
    exact Z_zreturn dX11_canGuess_26 rfl (Or.inl rfl) rfl ⟨rfl, false, rfl, h⟩
  · replace h := h.2 c
    refine Z_aload_n 0 dX11_canGuess_8 rfl rfl ?_
    refine Z_get (T := TX11) (N := 15) (ci := 11) (t := 2) 11 dX11_canGuess_9 la_1 (z_leN la_1 (by decide)) rfl (by decide) inX11 (by decide) (flX11_79 rfl) rfl ?_
    obtain ⟨g2, h⟩ := h
    obtain ⟨g3, h⟩ := h
    refine Z_get (T := TX7) (N := 3) (ci := 7) (t := 2) 0 dX11_canGuess_12 g2 (z_leN g2 (by decide)) rfl (by decide) inX7 (by decide) (flX11_125 rfl) rfl ?_
    refine Z_top (y := ((σ 1 11) + 1)) (Fix.get g3 g2 0 1 (by decide +kernel)) ?_
    refine Z_get (T := TX6) (N := 3) (ci := 6) (t := 0) 2 dX11_canGuess_15 (zo_7_0 g2) (z_leN (zo_7_0 g2) (by decide)) rfl (by decide) inX6 (by decide) (flX11_128 rfl) rfl ?_
    obtain ⟨g4, h⟩ := h
    refine Z_if_le (tgt := 25) dX11_canGuess_18 (by decide) g4 (fun c => ?_) (fun c => ?_)
    · replace h := h.1 c
      refine Z_iconst dX11_canGuess_25 ?_
      exact Z_zreturn dX11_canGuess_26 rfl (Or.inl rfl) rfl ⟨rfl, false, rfl, h⟩
    · replace h := h.2 c
      refine Z_iconst dX11_canGuess_21 ?_
      refine Z_goto (tgt := 26) dX11_canGuess_22 (by decide) ?_
      exact Z_zreturn dX11_canGuess_26 rfl (Or.inr rfl) rfl ⟨rfl, true, rfl, h⟩
theorem bk_X11_guessForAsked {X : ZS} {σ : ZM} {T : Int → ZM → Prop}  (h : (Fix σ) ∧ (z_l (σ 1 11) = (7, 3)) ∧ ZC X (rX2_chooseNearest zN) mX2_chooseNearest [(2, 11), (2, ((σ 1 11) + 1)), (2, 8), (0, (σ 1 14))] zN σ (zQv (fun σ4 => (Fix σ4) ∧ ZC X (rX2_prepare zN) mX2_prepare [(2, 11), (2, (σ4 1 11)), (2, 8), (2, 6), (0, (σ4 1 13)), (2, 16)] zN σ4 (zQv (fun σ7 => (Fix σ7) ∧ ZC X (rX2_unknowns zN) mX2_unknowns [(2, 11)] zN σ7 (zQi (fun r9 σ10 => ZC X (rX4_solve zN) mX4_solve [(2, 16), (0, r9)] zN σ10 (zQz (fun r11 σ12 => ((r11 = true) → (Fix σ12) ∧ ZC X (rX2_unlikeWithin zN) mX2_unlikeWithin [(2, 11), (2, 8), (2, 6), (0, (σ12 1 13))] zN σ12 (zQi (fun r14 σ15 => ZC X (rX0_take zN) mX0_take [(2, 141), (2, 11), (2, 16), (2, (σ12 1 11)), (0, r14)] zN σ15 (zQv (fun σ17 => T 0 σ17))))) ∧ ((r11 = false) → T (-7) σ12)))))))))) : ZC X (rX11_guessForAsked zN) mX11_guessForAsked [(2, 1)] zN σ (zQi T) := by
  show Z X _ _ 0 [(2, 1)] [] _ σ _
  refine Z_aload_n 0 dX11_guessForAsked_0 rfl rfl ?_
  obtain ⟨g1, h⟩ := h
  refine Z_get (T := TX11) (N := 15) (ci := 11) (t := 2) 3 dX11_guessForAsked_1 la_1 (z_leN la_1 (by decide)) rfl (by decide) inX11 (by decide) (flX11_35 rfl) rfl ?_
  refine Z_top (y := 11) ((Fix.get g1 la_1 3 10 (by decide +kernel)).trans (by clear h; omega)) ?_
  refine Z_aload_n 0 dX11_guessForAsked_4 rfl rfl ?_
  refine Z_get (T := TX11) (N := 15) (ci := 11) (t := 2) 11 dX11_guessForAsked_5 la_1 (z_leN la_1 (by decide)) rfl (by decide) inX11 (by decide) (flX11_79 rfl) rfl ?_
  obtain ⟨g2, h⟩ := h
  refine Z_get (T := TX7) (N := 3) (ci := 7) (t := 2) 0 dX11_guessForAsked_8 g2 (z_leN g2 (by decide)) rfl (by decide) inX7 (by decide) (flX11_125 rfl) rfl ?_
  refine Z_top (y := ((σ 1 11) + 1)) (Fix.get g1 g2 0 1 (by decide +kernel)) ?_
  refine Z_aload_n 0 dX11_guessForAsked_11 rfl rfl ?_
  refine Z_get (T := TX11) (N := 15) (ci := 11) (t := 2) 2 dX11_guessForAsked_12 la_1 (z_leN la_1 (by decide)) rfl (by decide) inX11 (by decide) (flX11_28 rfl) rfl ?_
  refine Z_top (y := 8) ((Fix.get g1 la_1 2 7 (by decide +kernel)).trans (by clear h; omega)) ?_
  refine Z_aload_n 0 dX11_guessForAsked_15 rfl rfl ?_
  refine Z_get (T := TX11) (N := 15) (ci := 11) (t := 0) 14 dX11_guessForAsked_16 la_1 (z_leN la_1 (by decide)) rfl (by decide) inX11 (by decide) (flX11_90 rfl) rfl ?_
  refine Z_invV (T := TX2) (N := 6) (ci := 2) (M' := mX2_chooseNearest) (ρ' := rX2_chooseNearest zN) (st := []) [(2, ((σ 1 11) + 1)), (2, 8), (0, (σ 1 14))] dX11_guessForAsked_19 rfl rfl la_11 (z_leN la_11 (by decide)) (by decide) rfl rfl (kX2_chooseNearest.cl (Nat.le_of_ble_eq_true rfl) (Nat.le_refl _) (Nat.le_refl _) (Nat.le_of_ble_eq_true rfl) (Nat.le_of_ble_eq_true rfl) (Nat.le_of_ble_eq_true rfl)) (mlX11_313 rfl) iX2_chooseNearest sX2_chooseNearest h (z_kv (fun σ4 h => ?_))
  refine Z_aload_n 0 dX11_guessForAsked_22 rfl rfl ?_
  obtain ⟨g5, h⟩ := h
  refine Z_get (T := TX11) (N := 15) (ci := 11) (t := 2) 3 dX11_guessForAsked_23 la_1 (z_leN la_1 (by decide)) rfl (by decide) inX11 (by decide) (flX11_35 rfl) rfl ?_
  refine Z_top (y := 11) ((Fix.get g5 la_1 3 10 (by decide +kernel)).trans (by clear h; omega)) ?_
  refine Z_aload_n 0 dX11_guessForAsked_26 rfl rfl ?_
  refine Z_get (T := TX11) (N := 15) (ci := 11) (t := 2) 11 dX11_guessForAsked_27 la_1 (z_leN la_1 (by decide)) rfl (by decide) inX11 (by decide) (flX11_79 rfl) rfl ?_
  refine Z_aload_n 0 dX11_guessForAsked_30 rfl rfl ?_
  refine Z_get (T := TX11) (N := 15) (ci := 11) (t := 2) 2 dX11_guessForAsked_31 la_1 (z_leN la_1 (by decide)) rfl (by decide) inX11 (by decide) (flX11_28 rfl) rfl ?_
  refine Z_top (y := 8) ((Fix.get g5 la_1 2 7 (by decide +kernel)).trans (by clear h; omega)) ?_
  refine Z_aload_n 0 dX11_guessForAsked_34 rfl rfl ?_
  refine Z_get (T := TX11) (N := 15) (ci := 11) (t := 2) 1 dX11_guessForAsked_35 la_1 (z_leN la_1 (by decide)) rfl (by decide) inX11 (by decide) (flX11_19 rfl) rfl ?_
  refine Z_top (y := 6) ((Fix.get g5 la_1 1 5 (by decide +kernel)).trans (by clear h; omega)) ?_
  refine Z_aload_n 0 dX11_guessForAsked_38 rfl rfl ?_
  refine Z_get (T := TX11) (N := 15) (ci := 11) (t := 0) 13 dX11_guessForAsked_39 la_1 (z_leN la_1 (by decide)) rfl (by decide) inX11 (by decide) (flX11_86 rfl) rfl ?_
  refine Z_aload_n 0 dX11_guessForAsked_42 rfl rfl ?_
  refine Z_get (T := TX11) (N := 15) (ci := 11) (t := 2) 4 dX11_guessForAsked_43 la_1 (z_leN la_1 (by decide)) rfl (by decide) inX11 (by decide) (flX11_42 rfl) rfl ?_
  refine Z_top (y := 16) ((Fix.get g5 la_1 4 15 (by decide +kernel)).trans (by clear h; omega)) ?_
  refine Z_invV (T := TX2) (N := 6) (ci := 2) (M' := mX2_prepare) (ρ' := rX2_prepare zN) (st := []) [(2, (σ4 1 11)), (2, 8), (2, 6), (0, (σ4 1 13)), (2, 16)] dX11_guessForAsked_46 rfl rfl la_11 (z_leN la_11 (by decide)) (by decide) rfl rfl (kX2_prepare.cl (Nat.le_of_ble_eq_true rfl) (Nat.le_refl _) (Nat.le_refl _) (Nat.le_of_ble_eq_true rfl) (Nat.le_of_ble_eq_true rfl) (Nat.le_of_ble_eq_true rfl)) (mlX11_317 rfl) iX2_prepare sX2_prepare h (z_kv (fun σ7 h => ?_))
  refine Z_aload_n 0 dX11_guessForAsked_49 rfl rfl ?_
  obtain ⟨g8, h⟩ := h
  refine Z_get (T := TX11) (N := 15) (ci := 11) (t := 2) 4 dX11_guessForAsked_50 la_1 (z_leN la_1 (by decide)) rfl (by decide) inX11 (by decide) (flX11_42 rfl) rfl ?_
  refine Z_top (y := 16) ((Fix.get g8 la_1 4 15 (by decide +kernel)).trans (by clear h; omega)) ?_
  refine Z_aload_n 0 dX11_guessForAsked_53 rfl rfl ?_
  refine Z_get (T := TX11) (N := 15) (ci := 11) (t := 2) 3 dX11_guessForAsked_54 la_1 (z_leN la_1 (by decide)) rfl (by decide) inX11 (by decide) (flX11_35 rfl) rfl ?_
  refine Z_top (y := 11) ((Fix.get g8 la_1 3 10 (by decide +kernel)).trans (by clear h; omega)) ?_
  refine Z_invV (T := TX2) (N := 6) (ci := 2) (M' := mX2_unknowns) (ρ' := rX2_unknowns zN) (st := [(2, 16)]) [] dX11_guessForAsked_57 rfl rfl la_11 (z_leN la_11 (by decide)) (by decide) rfl rfl (kX2_unknowns.cl (Nat.le_of_ble_eq_true rfl) (Nat.le_refl _) (Nat.le_refl _) (Nat.le_of_ble_eq_true rfl) (Nat.le_of_ble_eq_true rfl) (Nat.le_of_ble_eq_true rfl)) (mlX11_242 rfl) iX2_unknowns sX2_unknowns h (z_ki (fun r9 σ10 h => ?_))
  refine Z_invV (T := TX4) (N := 6) (ci := 4) (M' := mX4_solve) (ρ' := rX4_solve zN) (st := []) [(0, r9)] dX11_guessForAsked_60 rfl rfl la_16 (z_leN la_16 (by decide)) (by decide) rfl rfl (kX4_solve.cl (Nat.le_of_ble_eq_true rfl) (Nat.le_refl _) (Nat.le_refl _) (Nat.le_of_ble_eq_true rfl) (Nat.le_of_ble_eq_true rfl) (Nat.le_of_ble_eq_true rfl)) (mlX11_321 rfl) iX4_solve sX4_solve h (z_kz (fun r11 σ12 h => ?_))
  refine Z_zif_ne (tgt := 69) dX11_guessForAsked_63 (by decide) (fun c => ?_) (fun c => ?_)
  · replace h := h.1 c
    refine Z_aload_n 0 dX11_guessForAsked_69 rfl rfl ?_
    obtain ⟨g13, h⟩ := h
    refine Z_get (T := TX11) (N := 15) (ci := 11) (t := 2) 5 dX11_guessForAsked_70 la_1 (z_leN la_1 (by decide)) rfl (by decide) inX11 (by decide) (flX11_49 rfl) rfl ?_
    refine Z_top (y := 141) ((Fix.get g13 la_1 5 140 (by decide +kernel)).trans (by clear h; omega)) ?_
    refine Z_aload_n 0 dX11_guessForAsked_73 rfl rfl ?_
    refine Z_get (T := TX11) (N := 15) (ci := 11) (t := 2) 3 dX11_guessForAsked_74 la_1 (z_leN la_1 (by decide)) rfl (by decide) inX11 (by decide) (flX11_35 rfl) rfl ?_
    refine Z_top (y := 11) ((Fix.get g13 la_1 3 10 (by decide +kernel)).trans (by clear h; omega)) ?_
    refine Z_aload_n 0 dX11_guessForAsked_77 rfl rfl ?_
    refine Z_get (T := TX11) (N := 15) (ci := 11) (t := 2) 4 dX11_guessForAsked_78 la_1 (z_leN la_1 (by decide)) rfl (by decide) inX11 (by decide) (flX11_42 rfl) rfl ?_
    refine Z_top (y := 16) ((Fix.get g13 la_1 4 15 (by decide +kernel)).trans (by clear h; omega)) ?_
    refine Z_aload_n 0 dX11_guessForAsked_81 rfl rfl ?_
    refine Z_get (T := TX11) (N := 15) (ci := 11) (t := 2) 11 dX11_guessForAsked_82 la_1 (z_leN la_1 (by decide)) rfl (by decide) inX11 (by decide) (flX11_79 rfl) rfl ?_
    refine Z_aload_n 0 dX11_guessForAsked_85 rfl rfl ?_
    refine Z_get (T := TX11) (N := 15) (ci := 11) (t := 2) 3 dX11_guessForAsked_86 la_1 (z_leN la_1 (by decide)) rfl (by decide) inX11 (by decide) (flX11_35 rfl) rfl ?_
    refine Z_top (y := 11) ((Fix.get g13 la_1 3 10 (by decide +kernel)).trans (by clear h; omega)) ?_
    refine Z_aload_n 0 dX11_guessForAsked_89 rfl rfl ?_
    refine Z_get (T := TX11) (N := 15) (ci := 11) (t := 2) 2 dX11_guessForAsked_90 la_1 (z_leN la_1 (by decide)) rfl (by decide) inX11 (by decide) (flX11_28 rfl) rfl ?_
    refine Z_top (y := 8) ((Fix.get g13 la_1 2 7 (by decide +kernel)).trans (by clear h; omega)) ?_
    refine Z_aload_n 0 dX11_guessForAsked_93 rfl rfl ?_
    refine Z_get (T := TX11) (N := 15) (ci := 11) (t := 2) 1 dX11_guessForAsked_94 la_1 (z_leN la_1 (by decide)) rfl (by decide) inX11 (by decide) (flX11_19 rfl) rfl ?_
    refine Z_top (y := 6) ((Fix.get g13 la_1 1 5 (by decide +kernel)).trans (by clear h; omega)) ?_
    refine Z_aload_n 0 dX11_guessForAsked_97 rfl rfl ?_
    refine Z_get (T := TX11) (N := 15) (ci := 11) (t := 0) 13 dX11_guessForAsked_98 la_1 (z_leN la_1 (by decide)) rfl (by decide) inX11 (by decide) (flX11_86 rfl) rfl ?_
    refine Z_invV (T := TX2) (N := 6) (ci := 2) (M' := mX2_unlikeWithin) (ρ' := rX2_unlikeWithin zN) (st := [(2, (σ12 1 11)), (2, 16), (2, 11), (2, 141)]) [(2, 8), (2, 6), (0, (σ12 1 13))] dX11_guessForAsked_101 rfl rfl la_11 (z_leN la_11 (by decide)) (by decide) rfl rfl (kX2_unlikeWithin.cl (Nat.le_of_ble_eq_true rfl) (Nat.le_refl _) (Nat.le_refl _) (Nat.le_of_ble_eq_true rfl) (Nat.le_of_ble_eq_true rfl) (Nat.le_of_ble_eq_true rfl)) (mlX11_324 rfl) iX2_unlikeWithin sX2_unlikeWithin h (z_ki (fun r14 σ15 h => ?_))
    refine Z_invV (T := TX0) (N := 7) (ci := 0) (M' := mX0_take) (ρ' := rX0_take zN) (st := []) [(2, 11), (2, 16), (2, (σ12 1 11)), (0, r14)] dX11_guessForAsked_104 rfl rfl la_141 (z_leN la_141 (by decide)) (by decide) rfl rfl (kX0_take.cl (Nat.le_of_ble_eq_true rfl) (Nat.le_refl _) (Nat.le_refl _) (Nat.le_of_ble_eq_true rfl) (Nat.le_of_ble_eq_true rfl) (Nat.le_of_ble_eq_true rfl)) (mlX11_328 rfl) iX0_take sX0_take h (z_kv (fun σ17 h => ?_))
    refine Z_iconst dX11_guessForAsked_107 ?_
    exact Z_ireturn dX11_guessForAsked_108 rfl rfl ⟨rfl, h⟩
  · replace h := h.2 c
    refine Z_bipush dX11_guessForAsked_66 (by decide) ?_
    exact Z_ireturn dX11_guessForAsked_68 rfl rfl ⟨rfl, h⟩
theorem bk_X11_leaveOut {X : ZS} {σ : ZM} {T : Bool → ZM → Prop} {x1 : Int} {x2 : Int} (h : (z_l (σ 1 11) = (7, 3)) ∧ (Fix σ) ∧ (r32 x1) ∧ ((x1 = (-1)) → T false σ) ∧ ((¬ x1 = (-1)) → ZC X (rX6_has zN) mX6_has [(2, ((σ 1 11) + 1)), (0, x2)] zN σ (zQz (fun r4 σ5 => ((r4 = false) → T false σ5) ∧ ((r4 = true) → (r32 (σ5 ((σ 1 11) + 1) 2)) ∧ ((2 ≤ (σ5 ((σ 1 11) + 1) 2)) → (Fix σ5) ∧ ZC X (rX6_clear zN) mX6_clear [(2, 8)] zN σ5 (zQv (fun σ9 => (Fix σ9) ∧ (0 ≤ x2) ∧ (x2 < (((z_l (((σ 1 11) + 1) + 1)).2 : Nat) : Int)) ∧ (x2 < (((z_l (((σ 1 11) + 1) + 2)).2 : Nat) : Int)) ∧ ZC X (rX6_add zN) mX6_add [(2, 8), (0, (σ9 (((σ 1 11) + 1) + 1) x2)), (0, (σ9 (((σ 1 11) + 1) + 2) x2))] zN σ9 (zQv (fun σ15 => (Fix σ15) ∧ ZC X (rX2_chooseAllBut zN) mX2_chooseAllBut [(2, 11), (0, x2), (0, (σ15 ((σ 1 11) + 1) 2))] zN σ15 (zQv (fun σ18 => (Fix σ18) ∧ ZC X (rX2_prepare zN) mX2_prepare [(2, 11), (2, (σ18 1 11)), (2, 8), (2, 6), (0, x1), (2, 16)] zN σ18 (zQv (fun σ21 => (Fix σ21) ∧ ZC X (rX2_unknowns zN) mX2_unknowns [(2, 11)] zN σ21 (zQi (fun r23 σ24 => ZC X (rX4_solve zN) mX4_solve [(2, 16), (0, r23)] zN σ24 (zQz (fun r25 σ26 => ((r25 = true) → (Fix σ26) ∧ ZC X (rX2_tellOff zN) mX2_tellOff [(2, 11), (2, 16), (2, (σ26 1 11)), (0, x2), (2, 184)] zN σ26 (zQv (fun σ29 => T true σ29))) ∧ ((r25 = false) → T false σ26)))))))))))))) ∧ ((¬ (2 ≤ (σ5 ((σ 1 11) + 1) 2))) → T false σ5)))))) : ZC X (rX11_leaveOut zN) mX11_leaveOut [(2, 1), (0, x1), (0, x2)] zN σ (zQz T) := by
  show Z X _ _ 0 [(2, 1), (0, x1), (0, x2), (9, 0)] [] _ σ _
  refine Z_aload_n 0 dX11_leaveOut_0 rfl rfl ?_
  refine Z_get (T := TX11) (N := 15) (ci := 11) (t := 2) 11 dX11_leaveOut_1 la_1 (z_leN la_1 (by decide)) rfl (by decide) inX11 (by decide) (flX11_79 rfl) rfl ?_
  obtain ⟨g1, h⟩ := h
  obtain ⟨g2, h⟩ := h
  refine Z_get (T := TX7) (N := 3) (ci := 7) (t := 2) 0 dX11_leaveOut_4 g1 (z_leN g1 (by decide)) rfl (by decide) inX7 (by decide) (flX11_125 rfl) rfl ?_
  refine Z_top (y := ((σ 1 11) + 1)) (Fix.get g2 g1 0 1 (by decide +kernel)) ?_
  refine Z_astore_n (L' := [(2, 1), (0, x1), (0, x2), (2, ((σ 1 11) + 1))]) 3 dX11_leaveOut_7 rfl (Nat.le_of_ble_eq_true rfl) rfl ?_
  refine Z_iload_n 1 dX11_leaveOut_8 rfl rfl ?_
  refine Z_iconst dX11_leaveOut_9 ?_
  obtain ⟨g3, h⟩ := h
  refine Z_icmp_eq (tgt := 29) dX11_leaveOut_10 (by decide) g3 ⟨by decide, by decide⟩ (fun c => ?_) (fun c => ?_)
  · replace h := h.1 c
    refine Z_iconst dX11_leaveOut_29 ?_
    exact Z_zreturn dX11_leaveOut_30 rfl (Or.inl rfl) rfl ⟨rfl, false, rfl, h⟩
  · replace h := h.2 c
    refine Z_aload_n 3 dX11_leaveOut_13 rfl rfl ?_
    refine Z_iload_n 2 dX11_leaveOut_14 rfl rfl ?_
    refine Z_invV (T := TX6) (N := 3) (ci := 6) (M' := mX6_has) (ρ' := rX6_has zN) (st := []) [(0, x2)] dX11_leaveOut_15 rfl rfl (zo_7_0 g1) (z_leN (zo_7_0 g1) (by decide)) (by decide) rfl rfl (kX6_has.cl (Nat.le_of_ble_eq_true rfl) (Nat.le_refl _) (Nat.le_refl _) (Nat.le_of_ble_eq_true rfl) (Nat.le_of_ble_eq_true rfl) (Nat.le_of_ble_eq_true rfl)) (mlX11_145 rfl) iX6_has sX6_has h (z_kz (fun r4 σ5 h => ?_))
    refine Z_zif_eq (tgt := 29) dX11_leaveOut_18 (by decide) (fun c => ?_) (fun c => ?_)
    · replace h := h.1 c
      refine Z_iconst dX11_leaveOut_29 ?_
      exact Z_zreturn dX11_leaveOut_30 rfl (Or.inl rfl) rfl ⟨rfl, false, rfl, h⟩
    · replace h := h.2 c
      refine Z_aload_n 3 dX11_leaveOut_21 rfl rfl ?_
      refine Z_get (T := TX6) (N := 3) (ci := 6) (t := 0) 2 dX11_leaveOut_22 (zo_7_0 g1) (z_leN (zo_7_0 g1) (by decide)) rfl (by decide) inX6 (by decide) (flX11_128 rfl) rfl ?_
      refine Z_iconst dX11_leaveOut_25 ?_
      obtain ⟨g6, h⟩ := h
      refine Z_icmp_ge (tgt := 31) dX11_leaveOut_26 (by decide) g6 ⟨by decide, by decide⟩ (fun c => ?_) (fun c => ?_)
      · replace h := h.1 c
        refine Z_aload_n 0 dX11_leaveOut_31 rfl rfl ?_
        obtain ⟨g7, h⟩ := h
        refine Z_get (T := TX11) (N := 15) (ci := 11) (t := 2) 2 dX11_leaveOut_32 la_1 (z_leN la_1 (by decide)) rfl (by decide) inX11 (by decide) (flX11_28 rfl) rfl ?_
        refine Z_top (y := 8) ((Fix.get g7 la_1 2 7 (by decide +kernel)).trans (by clear h; omega)) ?_
        refine Z_invV (T := TX6) (N := 3) (ci := 6) (M' := mX6_clear) (ρ' := rX6_clear zN) (st := []) [] dX11_leaveOut_35 rfl rfl la_8 (z_leN la_8 (by decide)) (by decide) rfl rfl (kX6_clear.cl (Nat.le_of_ble_eq_true rfl) (Nat.le_refl _) (Nat.le_refl _) (Nat.le_of_ble_eq_true rfl) (Nat.le_of_ble_eq_true rfl) (Nat.le_of_ble_eq_true rfl)) (mlX11_175 rfl) iX6_clear sX6_clear h (z_kv (fun σ9 h => ?_))
        refine Z_aload_n 0 dX11_leaveOut_38 rfl rfl ?_
        obtain ⟨g10, h⟩ := h
        refine Z_get (T := TX11) (N := 15) (ci := 11) (t := 2) 2 dX11_leaveOut_39 la_1 (z_leN la_1 (by decide)) rfl (by decide) inX11 (by decide) (flX11_28 rfl) rfl ?_
        refine Z_top (y := 8) ((Fix.get g10 la_1 2 7 (by decide +kernel)).trans (by clear h; omega)) ?_
        refine Z_aload_n 3 dX11_leaveOut_42 rfl rfl ?_
        refine Z_get (T := TX6) (N := 3) (ci := 6) (t := 2) 0 dX11_leaveOut_43 (zo_7_0 g1) (z_leN (zo_7_0 g1) (by decide)) rfl (by decide) inX6 (by decide) (flX11_277 rfl) rfl ?_
        refine Z_top (y := (((σ 1 11) + 1) + 1)) (Fix.get g10 (zo_7_0 g1) 0 1 (by decide +kernel)) ?_
        refine Z_iload_n 2 dX11_leaveOut_46 rfl rfl ?_
        obtain ⟨g11, h⟩ := h
        obtain ⟨g12, h⟩ := h
        refine Z_iald dX11_leaveOut_47 (zo_6_0 (zo_7_0 g1)) (z_leN (zo_6_0 (zo_7_0 g1)) (by decide)) g11 g12 ?_
        refine Z_aload_n 3 dX11_leaveOut_48 rfl rfl ?_
        refine Z_get (T := TX6) (N := 3) (ci := 6) (t := 2) 1 dX11_leaveOut_49 (zo_7_0 g1) (z_leN (zo_7_0 g1) (by decide)) rfl (by decide) inX6 (by decide) (flX11_280 rfl) rfl ?_
        refine Z_top (y := (((σ 1 11) + 1) + 2)) (Fix.get g10 (zo_7_0 g1) 1 2 (by decide +kernel)) ?_
        refine Z_iload_n 2 dX11_leaveOut_52 rfl rfl ?_
        obtain ⟨g13, h⟩ := h
        refine Z_iald dX11_leaveOut_53 (zo_6_1 (zo_7_0 g1)) (z_leN (zo_6_1 (zo_7_0 g1)) (by decide)) g11 g13 ?_
        refine Z_invV (T := TX6) (N := 3) (ci := 6) (M' := mX6_add) (ρ' := rX6_add zN) (st := []) [(0, (σ9 (((σ 1 11) + 1) + 1) x2)), (0, (σ9 (((σ 1 11) + 1) + 2) x2))] dX11_leaveOut_54 rfl rfl la_8 (z_leN la_8 (by decide)) (by decide) rfl rfl (kX6_add.cl (Nat.le_of_ble_eq_true rfl) (Nat.le_refl _) (Nat.le_refl _) (Nat.le_of_ble_eq_true rfl) (Nat.le_of_ble_eq_true rfl) (Nat.le_of_ble_eq_true rfl)) (mlX11_178 rfl) iX6_add sX6_add h (z_kv (fun σ15 h => ?_))
        refine Z_aload_n 0 dX11_leaveOut_57 rfl rfl ?_
        obtain ⟨g16, h⟩ := h
        refine Z_get (T := TX11) (N := 15) (ci := 11) (t := 2) 3 dX11_leaveOut_58 la_1 (z_leN la_1 (by decide)) rfl (by decide) inX11 (by decide) (flX11_35 rfl) rfl ?_
        refine Z_top (y := 11) ((Fix.get g16 la_1 3 10 (by decide +kernel)).trans (by clear h; omega)) ?_
        refine Z_iload_n 2 dX11_leaveOut_61 rfl rfl ?_
        refine Z_aload_n 3 dX11_leaveOut_62 rfl rfl ?_
        refine Z_get (T := TX6) (N := 3) (ci := 6) (t := 0) 2 dX11_leaveOut_63 (zo_7_0 g1) (z_leN (zo_7_0 g1) (by decide)) rfl (by decide) inX6 (by decide) (flX11_128 rfl) rfl ?_
        refine Z_invV (T := TX2) (N := 6) (ci := 2) (M' := mX2_chooseAllBut) (ρ' := rX2_chooseAllBut zN) (st := []) [(0, x2), (0, (σ15 ((σ 1 11) + 1) 2))] dX11_leaveOut_66 rfl rfl la_11 (z_leN la_11 (by decide)) (by decide) rfl rfl (kX2_chooseAllBut.cl (Nat.le_of_ble_eq_true rfl) (Nat.le_refl _) (Nat.le_refl _) (Nat.le_of_ble_eq_true rfl) (Nat.le_of_ble_eq_true rfl) (Nat.le_of_ble_eq_true rfl)) (mlX11_231 rfl) iX2_chooseAllBut sX2_chooseAllBut h (z_kv (fun σ18 h => ?_))
        refine Z_aload_n 0 dX11_leaveOut_69 rfl rfl ?_
        obtain ⟨g19, h⟩ := h
        refine Z_get (T := TX11) (N := 15) (ci := 11) (t := 2) 3 dX11_leaveOut_70 la_1 (z_leN la_1 (by decide)) rfl (by decide) inX11 (by decide) (flX11_35 rfl) rfl ?_
        refine Z_top (y := 11) ((Fix.get g19 la_1 3 10 (by decide +kernel)).trans (by clear h; omega)) ?_
        refine Z_aload_n 0 dX11_leaveOut_73 rfl rfl ?_
        refine Z_get (T := TX11) (N := 15) (ci := 11) (t := 2) 11 dX11_leaveOut_74 la_1 (z_leN la_1 (by decide)) rfl (by decide) inX11 (by decide) (flX11_79 rfl) rfl ?_
        refine Z_aload_n 0 dX11_leaveOut_77 rfl rfl ?_
        refine Z_get (T := TX11) (N := 15) (ci := 11) (t := 2) 2 dX11_leaveOut_78 la_1 (z_leN la_1 (by decide)) rfl (by decide) inX11 (by decide) (flX11_28 rfl) rfl ?_
        refine Z_top (y := 8) ((Fix.get g19 la_1 2 7 (by decide +kernel)).trans (by clear h; omega)) ?_
        refine Z_aload_n 0 dX11_leaveOut_81 rfl rfl ?_
        refine Z_get (T := TX11) (N := 15) (ci := 11) (t := 2) 1 dX11_leaveOut_82 la_1 (z_leN la_1 (by decide)) rfl (by decide) inX11 (by decide) (flX11_19 rfl) rfl ?_
        refine Z_top (y := 6) ((Fix.get g19 la_1 1 5 (by decide +kernel)).trans (by clear h; omega)) ?_
        refine Z_iload_n 1 dX11_leaveOut_85 rfl rfl ?_
        refine Z_aload_n 0 dX11_leaveOut_86 rfl rfl ?_
        refine Z_get (T := TX11) (N := 15) (ci := 11) (t := 2) 4 dX11_leaveOut_87 la_1 (z_leN la_1 (by decide)) rfl (by decide) inX11 (by decide) (flX11_42 rfl) rfl ?_
        refine Z_top (y := 16) ((Fix.get g19 la_1 4 15 (by decide +kernel)).trans (by clear h; omega)) ?_
        refine Z_invV (T := TX2) (N := 6) (ci := 2) (M' := mX2_prepare) (ρ' := rX2_prepare zN) (st := []) [(2, (σ18 1 11)), (2, 8), (2, 6), (0, x1), (2, 16)] dX11_leaveOut_90 rfl rfl la_11 (z_leN la_11 (by decide)) (by decide) rfl rfl (kX2_prepare.cl (Nat.le_of_ble_eq_true rfl) (Nat.le_refl _) (Nat.le_refl _) (Nat.le_of_ble_eq_true rfl) (Nat.le_of_ble_eq_true rfl) (Nat.le_of_ble_eq_true rfl)) (mlX11_317 rfl) iX2_prepare sX2_prepare h (z_kv (fun σ21 h => ?_))
        refine Z_aload_n 0 dX11_leaveOut_93 rfl rfl ?_
        obtain ⟨g22, h⟩ := h
        refine Z_get (T := TX11) (N := 15) (ci := 11) (t := 2) 4 dX11_leaveOut_94 la_1 (z_leN la_1 (by decide)) rfl (by decide) inX11 (by decide) (flX11_42 rfl) rfl ?_
        refine Z_top (y := 16) ((Fix.get g22 la_1 4 15 (by decide +kernel)).trans (by clear h; omega)) ?_
        refine Z_aload_n 0 dX11_leaveOut_97 rfl rfl ?_
        refine Z_get (T := TX11) (N := 15) (ci := 11) (t := 2) 3 dX11_leaveOut_98 la_1 (z_leN la_1 (by decide)) rfl (by decide) inX11 (by decide) (flX11_35 rfl) rfl ?_
        refine Z_top (y := 11) ((Fix.get g22 la_1 3 10 (by decide +kernel)).trans (by clear h; omega)) ?_
        refine Z_invV (T := TX2) (N := 6) (ci := 2) (M' := mX2_unknowns) (ρ' := rX2_unknowns zN) (st := [(2, 16)]) [] dX11_leaveOut_101 rfl rfl la_11 (z_leN la_11 (by decide)) (by decide) rfl rfl (kX2_unknowns.cl (Nat.le_of_ble_eq_true rfl) (Nat.le_refl _) (Nat.le_refl _) (Nat.le_of_ble_eq_true rfl) (Nat.le_of_ble_eq_true rfl) (Nat.le_of_ble_eq_true rfl)) (mlX11_242 rfl) iX2_unknowns sX2_unknowns h (z_ki (fun r23 σ24 h => ?_))
        refine Z_invV (T := TX4) (N := 6) (ci := 4) (M' := mX4_solve) (ρ' := rX4_solve zN) (st := []) [(0, r23)] dX11_leaveOut_104 rfl rfl la_16 (z_leN la_16 (by decide)) (by decide) rfl rfl (kX4_solve.cl (Nat.le_of_ble_eq_true rfl) (Nat.le_refl _) (Nat.le_refl _) (Nat.le_of_ble_eq_true rfl) (Nat.le_of_ble_eq_true rfl) (Nat.le_of_ble_eq_true rfl)) (mlX11_321 rfl) iX4_solve sX4_solve h (z_kz (fun r25 σ26 h => ?_))
        refine Z_zif_ne (tgt := 112) dX11_leaveOut_107 (by decide) (fun c => ?_) (fun c => ?_)
        · replace h := h.1 c
          refine Z_aload_n 0 dX11_leaveOut_112 rfl rfl ?_
          obtain ⟨g27, h⟩ := h
          refine Z_get (T := TX11) (N := 15) (ci := 11) (t := 2) 3 dX11_leaveOut_113 la_1 (z_leN la_1 (by decide)) rfl (by decide) inX11 (by decide) (flX11_35 rfl) rfl ?_
          refine Z_top (y := 11) ((Fix.get g27 la_1 3 10 (by decide +kernel)).trans (by clear h; omega)) ?_
          refine Z_aload_n 0 dX11_leaveOut_116 rfl rfl ?_
          refine Z_get (T := TX11) (N := 15) (ci := 11) (t := 2) 4 dX11_leaveOut_117 la_1 (z_leN la_1 (by decide)) rfl (by decide) inX11 (by decide) (flX11_42 rfl) rfl ?_
          refine Z_top (y := 16) ((Fix.get g27 la_1 4 15 (by decide +kernel)).trans (by clear h; omega)) ?_
          refine Z_aload_n 0 dX11_leaveOut_120 rfl rfl ?_
          refine Z_get (T := TX11) (N := 15) (ci := 11) (t := 2) 11 dX11_leaveOut_121 la_1 (z_leN la_1 (by decide)) rfl (by decide) inX11 (by decide) (flX11_79 rfl) rfl ?_
          refine Z_iload_n 2 dX11_leaveOut_124 rfl rfl ?_
          refine Z_aload_n 0 dX11_leaveOut_125 rfl rfl ?_
          refine Z_get (T := TX11) (N := 15) (ci := 11) (t := 2) 8 dX11_leaveOut_126 la_1 (z_leN la_1 (by decide)) rfl (by decide) inX11 (by decide) (flX11_67 rfl) rfl ?_
          refine Z_top (y := 184) ((Fix.get g27 la_1 8 183 (by decide +kernel)).trans (by clear h; omega)) ?_
          refine Z_invV (T := TX2) (N := 6) (ci := 2) (M' := mX2_tellOff) (ρ' := rX2_tellOff zN) (st := []) [(2, 16), (2, (σ26 1 11)), (0, x2), (2, 184)] dX11_leaveOut_129 rfl rfl la_11 (z_leN la_11 (by decide)) (by decide) rfl rfl (kX2_tellOff.cl (Nat.le_of_ble_eq_true rfl) (Nat.le_refl _) (Nat.le_refl _) (Nat.le_of_ble_eq_true rfl) (Nat.le_of_ble_eq_true rfl) (Nat.le_of_ble_eq_true rfl)) (mlX11_332 rfl) iX2_tellOff sX2_tellOff h (z_kv (fun σ29 h => ?_))
          refine Z_iconst dX11_leaveOut_132 ?_
          exact Z_zreturn dX11_leaveOut_133 rfl (Or.inr rfl) rfl ⟨rfl, true, rfl, h⟩
        · replace h := h.2 c
          refine Z_iconst dX11_leaveOut_110 ?_
          exact Z_zreturn dX11_leaveOut_111 rfl (Or.inl rfl) rfl ⟨rfl, false, rfl, h⟩
      · replace h := h.2 c
        refine Z_iconst dX11_leaveOut_29 ?_
        exact Z_zreturn dX11_leaveOut_30 rfl (Or.inl rfl) rfl ⟨rfl, false, rfl, h⟩
theorem bk_X11_findWorst {X : ZS} {σ : ZM} {T : Int → ZM → Prop} {x1 : Int} (h : Z X (rX11_findWorst zN) mX11_findWorst 4 [(2, 1), (0, x1), (0, (-1)), (0, 0)] [] zN σ (zQi T)) : ZC X (rX11_findWorst zN) mX11_findWorst [(2, 1), (0, x1)] zN σ (zQi T) := by
  show Z X _ _ 0 [(2, 1), (0, x1), (9, 0), (9, 0)] [] _ σ _
  refine Z_iconst dX11_findWorst_0 ?_
  refine Z_istore_n (L' := [(2, 1), (0, x1), (0, (-1)), (9, 0)]) 2 dX11_findWorst_1 rfl (Nat.le_of_ble_eq_true rfl) rfl ?_
  refine Z_iconst dX11_findWorst_2 ?_
  refine Z_istore_n (L' := [(2, 1), (0, x1), (0, (-1)), (0, 0)]) 3 dX11_findWorst_3 rfl (Nat.le_of_ble_eq_true rfl) rfl ?_
  exact Z_few (z_few_k (z_few_k (z_few_k (z_few_k z_few_0)))) h
theorem bk_X11_findWorst_4 {X : ZS} {σ : ZM} {T : Int → ZM → Prop} {x1 : Int} {x2 : Int} {x3 : Int} (h : (z_l (σ 1 11) = (7, 3)) ∧ (Fix σ) ∧ (r32 x3) ∧ (r32 (σ ((σ 1 11) + 1) 2)) ∧ (((σ ((σ 1 11) + 1) 2) ≤ x3) → T x2 σ) ∧ ((¬ ((σ ((σ 1 11) + 1) 2) ≤ x3)) → ZC X (rX11_leaveOut zN) mX11_leaveOut [(2, 1), (0, x1), (0, x3)] zN σ (zQz (fun r5 σ6 => ((r5 = true) → (r32 x2) ∧ ((x2 = (-1)) → (Fix σ6) ∧ ZC X (rX3_copyFrom zN) mX3_copyFrom [(2, 189), (2, 184)] zN σ6 (zQv (fun σ10 => Z X (rX11_findWorst zN) mX11_findWorst 4 [(2, 1), (0, x1), (0, x3), (0, (x3 + 1))] [] zN σ10 (zQi T)))) ∧ ((¬ x2 = (-1)) → (Fix σ6) ∧ ZC X (rX10_isLarger zN) mX10_isLarger [(2, 169), (2, 184), (2, 189)] zN σ6 (zQz (fun r12 σ13 => ((r12 = false) → Z X (rX11_findWorst zN) mX11_findWorst 4 [(2, 1), (0, x1), (0, x2), (0, (x3 + 1))] [] zN σ13 (zQi T)) ∧ ((r12 = true) → (Fix σ13) ∧ ZC X (rX3_copyFrom zN) mX3_copyFrom [(2, 189), (2, 184)] zN σ13 (zQv (fun σ16 => Z X (rX11_findWorst zN) mX11_findWorst 4 [(2, 1), (0, x1), (0, x3), (0, (x3 + 1))] [] zN σ16 (zQi T)))))))) ∧ ((r5 = false) → T (-1) σ6))))) : Z X (rX11_findWorst zN) mX11_findWorst 4 [(2, 1), (0, x1), (0, x2), (0, x3)] [] zN σ (zQi T) := by
  refine Z_iload_n 3 dX11_findWorst_4 rfl rfl ?_
  refine Z_aload_n 0 dX11_findWorst_5 rfl rfl ?_
  refine Z_get (T := TX11) (N := 15) (ci := 11) (t := 2) 11 dX11_findWorst_6 la_1 (z_leN la_1 (by decide)) rfl (by decide) inX11 (by decide) (flX11_79 rfl) rfl ?_
  obtain ⟨g1, h⟩ := h
  obtain ⟨g2, h⟩ := h
  refine Z_get (T := TX7) (N := 3) (ci := 7) (t := 2) 0 dX11_findWorst_9 g1 (z_leN g1 (by decide)) rfl (by decide) inX7 (by decide) (flX11_125 rfl) rfl ?_
  refine Z_top (y := ((σ 1 11) + 1)) (Fix.get g2 g1 0 1 (by decide +kernel)) ?_
  refine Z_get (T := TX6) (N := 3) (ci := 6) (t := 0) 2 dX11_findWorst_12 (zo_7_0 g1) (z_leN (zo_7_0 g1) (by decide)) rfl (by decide) inX6 (by decide) (flX11_128 rfl) rfl ?_
  obtain ⟨g3, h⟩ := h
  obtain ⟨g4, h⟩ := h
  refine Z_icmp_ge (tgt := 71) dX11_findWorst_15 (by decide) g3 g4 (fun c => ?_) (fun c => ?_)
  · replace h := h.1 c
    refine Z_iload_n 2 dX11_findWorst_71 rfl rfl ?_
    exact Z_ireturn dX11_findWorst_72 rfl rfl ⟨rfl, h⟩
  · replace h := h.2 c
    refine Z_aload_n 0 dX11_findWorst_18 rfl rfl ?_
    refine Z_iload_n 1 dX11_findWorst_19 rfl rfl ?_
    refine Z_iload_n 3 dX11_findWorst_20 rfl rfl ?_
    refine Z_invV (T := TX11) (N := 15) (ci := 11) (M' := mX11_leaveOut) (ρ' := rX11_leaveOut zN) (st := []) [(0, x1), (0, x3)] dX11_findWorst_21 rfl rfl la_1 (z_leN la_1 (by decide)) (by decide) rfl rfl (kX11_leaveOut.cl (Nat.le_of_ble_eq_true rfl) (Nat.le_refl _) (Nat.le_refl _) (Nat.le_of_ble_eq_true rfl) (Nat.le_of_ble_eq_true rfl) (Nat.le_of_ble_eq_true rfl)) (mlX11_211 rfl) iX11_leaveOut sX11_leaveOut h (z_kz (fun r5 σ6 h => ?_))
    refine Z_zif_ne (tgt := 29) dX11_findWorst_24 (by decide) (fun c => ?_) (fun c => ?_)
    · replace h := h.1 c
      refine Z_iload_n 2 dX11_findWorst_29 rfl rfl ?_
      refine Z_iconst dX11_findWorst_30 ?_
      obtain ⟨g7, h⟩ := h
      refine Z_icmp_eq (tgt := 52) dX11_findWorst_31 (by decide) g7 ⟨by decide, by decide⟩ (fun c => ?_) (fun c => ?_)
      · replace h := h.1 c
        refine Z_aload_n 0 dX11_findWorst_52 rfl rfl ?_
        obtain ⟨g8, h⟩ := h
        refine Z_get (T := TX11) (N := 15) (ci := 11) (t := 2) 9 dX11_findWorst_53 la_1 (z_leN la_1 (by decide)) rfl (by decide) inX11 (by decide) (flX11_70 rfl) rfl ?_
        refine Z_top (y := 189) ((Fix.get g8 la_1 9 188 (by decide +kernel)).trans (by clear h; omega)) ?_
        refine Z_aload_n 0 dX11_findWorst_56 rfl rfl ?_
        refine Z_get (T := TX11) (N := 15) (ci := 11) (t := 2) 8 dX11_findWorst_57 la_1 (z_leN la_1 (by decide)) rfl (by decide) inX11 (by decide) (flX11_67 rfl) rfl ?_
        refine Z_top (y := 184) ((Fix.get g8 la_1 8 183 (by decide +kernel)).trans (by clear h; omega)) ?_
        refine Z_invV (T := TX3) (N := 2) (ci := 3) (M' := mX3_copyFrom) (ρ' := rX3_copyFrom zN) (st := []) [(2, 184)] dX11_findWorst_60 rfl rfl la_189 (z_leN la_189 (by decide)) (by decide) rfl rfl (kX3_copyFrom.cl (Nat.le_of_ble_eq_true rfl) (Nat.le_refl _) (Nat.le_refl _) (Nat.le_of_ble_eq_true rfl) (Nat.le_of_ble_eq_true rfl) (Nat.le_of_ble_eq_true rfl)) (mlX11_227 rfl) iX3_copyFrom sX3_copyFrom h (z_kv (fun σ10 h => ?_))
        refine Z_iload_n 3 dX11_findWorst_63 rfl rfl ?_
        refine Z_istore_n (L' := [(2, 1), (0, x1), (0, x3), (0, x3)]) 2 dX11_findWorst_64 rfl (Nat.le_of_ble_eq_true rfl) rfl ?_
        refine Z_iinc (L' := [(2, 1), (0, x1), (0, x3), (0, (x3 + 1))]) dX11_findWorst_65 rfl (Nat.le_of_ble_eq_true rfl) rfl ?_
        refine Z_goto (tgt := 4) dX11_findWorst_68 (by decide) ?_
        exact Z_few (z_few_k (z_few_k (z_few_k (z_few_k z_few_0)))) h
      · replace h := h.2 c
        refine Z_aload_n 0 dX11_findWorst_34 rfl rfl ?_
        obtain ⟨g11, h⟩ := h
        refine Z_get (T := TX11) (N := 15) (ci := 11) (t := 2) 6 dX11_findWorst_35 la_1 (z_leN la_1 (by decide)) rfl (by decide) inX11 (by decide) (flX11_56 rfl) rfl ?_
        refine Z_top (y := 169) ((Fix.get g11 la_1 6 168 (by decide +kernel)).trans (by clear h; omega)) ?_
        refine Z_aload_n 0 dX11_findWorst_38 rfl rfl ?_
        refine Z_get (T := TX11) (N := 15) (ci := 11) (t := 2) 8 dX11_findWorst_39 la_1 (z_leN la_1 (by decide)) rfl (by decide) inX11 (by decide) (flX11_67 rfl) rfl ?_
        refine Z_top (y := 184) ((Fix.get g11 la_1 8 183 (by decide +kernel)).trans (by clear h; omega)) ?_
        refine Z_aload_n 0 dX11_findWorst_42 rfl rfl ?_
        refine Z_get (T := TX11) (N := 15) (ci := 11) (t := 2) 9 dX11_findWorst_43 la_1 (z_leN la_1 (by decide)) rfl (by decide) inX11 (by decide) (flX11_70 rfl) rfl ?_
        refine Z_top (y := 189) ((Fix.get g11 la_1 9 188 (by decide +kernel)).trans (by clear h; omega)) ?_
        refine Z_invV (T := TX10) (N := 4) (ci := 10) (M' := mX10_isLarger) (ρ' := rX10_isLarger zN) (st := []) [(2, 184), (2, 189)] dX11_findWorst_46 rfl rfl la_169 (z_leN la_169 (by decide)) (by decide) rfl rfl (kX10_isLarger.cl (Nat.le_of_ble_eq_true rfl) (Nat.le_refl _) (Nat.le_refl _) (Nat.le_of_ble_eq_true rfl) (Nat.le_of_ble_eq_true rfl) (Nat.le_of_ble_eq_true rfl)) (mlX11_223 rfl) iX10_isLarger sX10_isLarger h (z_kz (fun r12 σ13 h => ?_))
        refine Z_zif_eq (tgt := 65) dX11_findWorst_49 (by decide) (fun c => ?_) (fun c => ?_)
        · replace h := h.1 c
          refine Z_iinc (L' := [(2, 1), (0, x1), (0, x2), (0, (x3 + 1))]) dX11_findWorst_65 rfl (Nat.le_of_ble_eq_true rfl) rfl ?_
          refine Z_goto (tgt := 4) dX11_findWorst_68 (by decide) ?_
          exact Z_few (z_few_k (z_few_k (z_few_k (z_few_k z_few_0)))) h
        · replace h := h.2 c
          refine Z_aload_n 0 dX11_findWorst_52 rfl rfl ?_
          obtain ⟨g14, h⟩ := h
          refine Z_get (T := TX11) (N := 15) (ci := 11) (t := 2) 9 dX11_findWorst_53 la_1 (z_leN la_1 (by decide)) rfl (by decide) inX11 (by decide) (flX11_70 rfl) rfl ?_
          refine Z_top (y := 189) ((Fix.get g14 la_1 9 188 (by decide +kernel)).trans (by clear h; omega)) ?_
          refine Z_aload_n 0 dX11_findWorst_56 rfl rfl ?_
          refine Z_get (T := TX11) (N := 15) (ci := 11) (t := 2) 8 dX11_findWorst_57 la_1 (z_leN la_1 (by decide)) rfl (by decide) inX11 (by decide) (flX11_67 rfl) rfl ?_
          refine Z_top (y := 184) ((Fix.get g14 la_1 8 183 (by decide +kernel)).trans (by clear h; omega)) ?_
          refine Z_invV (T := TX3) (N := 2) (ci := 3) (M' := mX3_copyFrom) (ρ' := rX3_copyFrom zN) (st := []) [(2, 184)] dX11_findWorst_60 rfl rfl la_189 (z_leN la_189 (by decide)) (by decide) rfl rfl (kX3_copyFrom.cl (Nat.le_of_ble_eq_true rfl) (Nat.le_refl _) (Nat.le_refl _) (Nat.le_of_ble_eq_true rfl) (Nat.le_of_ble_eq_true rfl) (Nat.le_of_ble_eq_true rfl)) (mlX11_227 rfl) iX3_copyFrom sX3_copyFrom h (z_kv (fun σ16 h => ?_))
          refine Z_iload_n 3 dX11_findWorst_63 rfl rfl ?_
          refine Z_istore_n (L' := [(2, 1), (0, x1), (0, x3), (0, x3)]) 2 dX11_findWorst_64 rfl (Nat.le_of_ble_eq_true rfl) rfl ?_
          refine Z_iinc (L' := [(2, 1), (0, x1), (0, x3), (0, (x3 + 1))]) dX11_findWorst_65 rfl (Nat.le_of_ble_eq_true rfl) rfl ?_
          refine Z_goto (tgt := 4) dX11_findWorst_68 (by decide) ?_
          exact Z_few (z_few_k (z_few_k (z_few_k (z_few_k z_few_0)))) h
    · replace h := h.2 c
      refine Z_iconst dX11_findWorst_27 ?_
      exact Z_ireturn dX11_findWorst_28 rfl rfl ⟨rfl, h⟩
theorem bk_X11_setResult {X : ZS} {σ : ZM} {T : Bool → ZM → Prop} {p1 : Int} (hp1 : z_l p1 = (9, 3)) {p2 : Int} (hp2 : z_l p2 = (9, 3)) (h : (Fix σ) ∧ ZC X (rX9_copyFrom zN) mX9_copyFrom [(2, 180), (2, p1)] zN σ (zQv (fun σ3 => (Fix σ3) ∧ ZC X (rX9_copyFrom zN) mX9_copyFrom [(2, 182), (2, p2)] zN σ3 (zQv (fun σ6 => (Fix σ6) ∧ ZC X (rX10_reduce zN) mX10_reduce [(2, 169), (2, 179)] zN σ6 (zQv (fun σ9 => T true σ9))))))) : ZC X (rX11_setResult zN) mX11_setResult [(2, 1), (2, p1), (2, p2)] zN σ (zQz T) := by
  show Z X _ _ 0 [(2, 1), (2, p1), (2, p2)] [] _ σ _
  refine Z_aload_n 0 dX11_setResult_0 rfl rfl ?_
  obtain ⟨g1, h⟩ := h
  refine Z_get (T := TX11) (N := 15) (ci := 11) (t := 2) 7 dX11_setResult_1 la_1 (z_leN la_1 (by decide)) rfl (by decide) inX11 (by decide) (flX11_63 rfl) rfl ?_
  refine Z_top (y := 179) ((Fix.get g1 la_1 7 178 (by decide +kernel)).trans (by clear h; omega)) ?_
  refine Z_get (T := TX3) (N := 2) (ci := 3) (t := 2) 0 dX11_setResult_4 la_179 (z_leN la_179 (by decide)) rfl (by decide) inX3 (by decide) (flX11_214 rfl) rfl ?_
  refine Z_top (y := 180) ((Fix.get g1 la_179 0 1 (by decide +kernel)).trans (by clear h; omega)) ?_
  refine Z_aload_n 1 dX11_setResult_7 rfl rfl ?_
  refine Z_invV (T := TX9) (N := 3) (ci := 9) (M' := mX9_copyFrom) (ρ' := rX9_copyFrom zN) (st := []) [(2, p1)] dX11_setResult_8 rfl rfl la_180 (z_leN la_180 (by decide)) (by decide) rfl rfl (kX9_copyFrom.cl (Nat.le_of_ble_eq_true rfl) (Nat.le_refl _) (Nat.le_refl _) (Nat.le_of_ble_eq_true rfl) (Nat.le_of_ble_eq_true rfl) (Nat.le_of_ble_eq_true rfl)) (mlX11_336 rfl) iX9_copyFrom sX9_copyFrom h (z_kv (fun σ3 h => ?_))
  refine Z_aload_n 0 dX11_setResult_11 rfl rfl ?_
  obtain ⟨g4, h⟩ := h
  refine Z_get (T := TX11) (N := 15) (ci := 11) (t := 2) 7 dX11_setResult_12 la_1 (z_leN la_1 (by decide)) rfl (by decide) inX11 (by decide) (flX11_63 rfl) rfl ?_
  refine Z_top (y := 179) ((Fix.get g4 la_1 7 178 (by decide +kernel)).trans (by clear h; omega)) ?_
  refine Z_get (T := TX3) (N := 2) (ci := 3) (t := 2) 1 dX11_setResult_15 la_179 (z_leN la_179 (by decide)) rfl (by decide) inX3 (by decide) (flX11_217 rfl) rfl ?_
  refine Z_top (y := 182) ((Fix.get g4 la_179 1 3 (by decide +kernel)).trans (by clear h; omega)) ?_
  refine Z_aload_n 2 dX11_setResult_18 rfl rfl ?_
  refine Z_invV (T := TX9) (N := 3) (ci := 9) (M' := mX9_copyFrom) (ρ' := rX9_copyFrom zN) (st := []) [(2, p2)] dX11_setResult_19 rfl rfl la_182 (z_leN la_182 (by decide)) (by decide) rfl rfl (kX9_copyFrom.cl (Nat.le_of_ble_eq_true rfl) (Nat.le_refl _) (Nat.le_refl _) (Nat.le_of_ble_eq_true rfl) (Nat.le_of_ble_eq_true rfl) (Nat.le_of_ble_eq_true rfl)) (mlX11_336 rfl) iX9_copyFrom sX9_copyFrom h (z_kv (fun σ6 h => ?_))
  refine Z_aload_n 0 dX11_setResult_22 rfl rfl ?_
  obtain ⟨g7, h⟩ := h
  refine Z_get (T := TX11) (N := 15) (ci := 11) (t := 2) 6 dX11_setResult_23 la_1 (z_leN la_1 (by decide)) rfl (by decide) inX11 (by decide) (flX11_56 rfl) rfl ?_
  refine Z_top (y := 169) ((Fix.get g7 la_1 6 168 (by decide +kernel)).trans (by clear h; omega)) ?_
  refine Z_aload_n 0 dX11_setResult_26 rfl rfl ?_
  refine Z_get (T := TX11) (N := 15) (ci := 11) (t := 2) 7 dX11_setResult_27 la_1 (z_leN la_1 (by decide)) rfl (by decide) inX11 (by decide) (flX11_63 rfl) rfl ?_
  refine Z_top (y := 179) ((Fix.get g7 la_1 7 178 (by decide +kernel)).trans (by clear h; omega)) ?_
  refine Z_invV (T := TX10) (N := 4) (ci := 10) (M' := mX10_reduce) (ρ' := rX10_reduce zN) (st := []) [(2, 179)] dX11_setResult_30 rfl rfl la_169 (z_leN la_169 (by decide)) (by decide) rfl rfl (kX10_reduce.cl (Nat.le_of_ble_eq_true rfl) (Nat.le_refl _) (Nat.le_refl _) (Nat.le_of_ble_eq_true rfl) (Nat.le_of_ble_eq_true rfl) (Nat.le_of_ble_eq_true rfl)) (mlX11_339 rfl) iX10_reduce sX10_reduce h (z_kv (fun σ9 h => ?_))
  refine Z_iconst dX11_setResult_33 ?_
  exact Z_zreturn dX11_setResult_34 rfl (Or.inr rfl) rfl ⟨rfl, true, rfl, h⟩
