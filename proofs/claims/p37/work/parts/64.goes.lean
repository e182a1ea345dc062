section GO
variable {A : AS} {p s q l : Nat}
end GO

