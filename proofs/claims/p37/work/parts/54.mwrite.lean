section WN
end WN

