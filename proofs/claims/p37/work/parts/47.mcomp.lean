section MD
variable {p : Nat} {g : PG}
end MD

