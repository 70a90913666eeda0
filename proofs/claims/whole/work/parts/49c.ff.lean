theorem fk_all2 : fk_al 11 (fun a => fk_hit fk_ps2 fk_rp2 (fk_t2 a)) = true := by decide +kernel
theorem fk_all3 : fk_al 11 (fun a => fk_al 11 (fun b => fk_al 11 (fun c => fk_f (fk_t3 a b c) (fun N => !fk_cy N 0 1 2 || fk_hit fk_ps3 fk_rp3 N)))) = true := by decide +kernel
theorem fk_bit3 : fk_al 11 (fun a => fk_al 11 (fun b => fk_al 11 (fun c => fk_bit a b c || fk_f (fk_t3 a b c) (fun N => !fk_cy N 0 1 2 || fk_bad 3 3 N)))) = true := by decide +kernel
noncomputable def fk_in4 (a b c : Nat) : Bool := !fk_bit a b c || fk_al 11 (fun d => fk_al 11 (fun e => !fk_bit a d e || fk_al 11 (fun f => !fk_bit b d f || (!fk_bit c e f || fk_f (fk_t4 a b c d e f) (fun N => !fk_cz N 0 1 2 3 || (!fk_cz N 0 2 1 3 || (!fk_cz N 0 1 3 2 || fk_hit fk_ps4 fk_rp4 N)))))))
theorem fk_all4_0 : fk_al 11 (fun b => fk_al 11 (fun c => fk_in4 0 b c)) = true := by decide +kernel
theorem fk_all4_1 : fk_al 11 (fun b => fk_al 11 (fun c => fk_in4 1 b c)) = true := by decide +kernel
theorem fk_all4_2 : fk_al 11 (fun b => fk_al 11 (fun c => fk_in4 2 b c)) = true := by decide +kernel
theorem fk_all4_3 : fk_al 11 (fun b => fk_al 11 (fun c => fk_in4 3 b c)) = true := by decide +kernel
theorem fk_all4_4 : fk_al 11 (fun b => fk_al 11 (fun c => fk_in4 4 b c)) = true := by decide +kernel
theorem fk_all4_5 : fk_al 11 (fun b => fk_al 11 (fun c => fk_in4 5 b c)) = true := by decide +kernel
theorem fk_all4_6 : fk_al 11 (fun b => fk_al 11 (fun c => fk_in4 6 b c)) = true := by decide +kernel
theorem fk_all4_7 : fk_al 11 (fun b => fk_al 11 (fun c => fk_in4 7 b c)) = true := by decide +kernel
theorem fk_all4_8 : fk_al 11 (fun b => fk_al 11 (fun c => fk_in4 8 b c)) = true := by decide +kernel
theorem fk_all4_9 : fk_al 11 (fun b => fk_al 11 (fun c => fk_in4 9 b c)) = true := by decide +kernel
theorem fk_all4_10 : fk_al 11 (fun b => fk_al 11 (fun c => fk_in4 10 b c)) = true := by decide +kernel
